/-! the law's checks after a turn -/
section
variable {post : Int32 → Prop} {L : Nat} {xs : Nat → Int32} {J60 : Int32 → Int32 → Int32 → Int32 → Int32 → Int32 → Int32 → Int32 → (Nat → Int32) → (Nat → Int32) → (Nat → Int32) → (Nat → Int32) → (Nat → Int32) → (Nat → Int32) → (Nat → Int32) → (Nat → Int32) → (Nat → Int32) → (Nat → Int32) → (Nat → Int32) → (Nat → Int32) → (Nat → Int32) → (Nat → Int32) → (Nat → Int32) → (Nat → Int32) → (Nat → Int32) → (Nat → Int32) → (Nat → Int32) → (Nat → Int32) → Prop} {x4 x5 : Int32} {kc ks : Nat} {V nR ph cnt : Nat} {na ac : Int32} {reg ini st acc fol wt fl sl ch ad op rg od len ld kn mx arx out ocx sop sd sa sb : Nat → Int32}
theorem lw_498 {J440 : Int32 → Int32 → Prop} {J452 : Int32 → Int32 → Int32 → Prop} {x7 x8 : Int32} {r i p n E : Nat} {o d a b : Int32} (hV : V ≤ 16) (c0 : ¬ nI ph = 0) (s1 : oa_ST V o d a b acc p) (hn : p + oa_na o ≤ n) (ha : ∀ j, j < n → oa_vr V (acc j)) (p1 : ∀ v, v < V → ∃ a, a < V ∧ ad v = nI a)
    (hJ : J452 (nI (E + oa_lr reg acc ad (nI r) (p + oa_na o))) (oa_pv reg acc (nI r) (p + oa_na o)) (nI (i + 1))) :
    ∀ dd j fu, j + dd = 3 → dd < fu → wL_law_498 post L xs J60 J440 J452 (nI V) (nI nR) x4 x5 x7 x8 (nI r) (nI i) o d a b kc ks (nI V) (nI nR) (nI ph) (nI cnt) (nI (oa_ps sop cnt)) na ac reg ini st acc fol wt fl sl ch ad op rg od len ld kn mx arx out ocx fu (nI (E + oa_lr reg acc ad (nI r) (p + min j (oa_na o)))) (oa_pv reg acc (nI r) (p + min j (oa_na o))) (nI j) := by
  have na3 := oa_na_le o
  intro dd
  induction dd with
  | zero =>
    intro j fu hj hf
    obtain ⟨fu, rfl⟩ : ∃ f, fu = f + 1 := ⟨fu - 1, by omega⟩
    have e3 : j = 3 := by omega
    subst e3
    rw [show min 3 (oa_na o) = oa_na o by omega]
    exact br_t (nI_le (a := 3) (b := 3) (by omega) (by omega)) (nm_r (nI_1 i) hJ)
  | succ dd ih =>
    intro j fu hj hf
    obtain ⟨fu, rfl⟩ : ∃ f, fu = f + 1 := ⟨fu - 1, by omega⟩
    have nx := ih (j + 1) fu (by omega) (by omega)
    refine br_f (nI_ge (b := 3) (by omega) (by omega)) (lw_av s1 (by omega) _ ?_)
    by_cases c : j < oa_na o
    · rw [show min (j + 1) (oa_na o) = j + 1 by omega, show p + (j + 1) = p + j + 1 from rfl] at nx
      rw [oa_av1_t c, show min j (oa_na o) = j by omega]
      obtain ⟨v, hv, ev⟩ := ha (p + j) (by omega)
      have cv : (acc (p + j)).toNatClampNeg = v := by
        rw [ev]
        exact nI_clamp (by omega)
      rw [ev]
      refine br_t (nI_pos' (by omega)) (xg_vr hV hv rfl _ ?_)
      by_cases cr : reg v = nI r
      · have er : reg (acc (p + j)).toNatClampNeg = nI r := by
          rw [cv]
          exact cr
        rw [oa_pv_e er, ev] at nx
        refine br_t cr ?_
        by_cases cp : oa_pv reg acc (nI r) (p + j) = -1
        · rw [oa_lr_t er (Or.inl cp)] at nx
          refine br_f (by rw [cp]; decide) (nm_r (nI_1 _) (nm_r (nI_1 j) ?_))
          exact nx
        · obtain ⟨i', hi', ei⟩ := (oa_pv_a (reg := reg) (acc := acc) (r := nI r) (p + j)).resolve_left cp
          obtain ⟨v', hv', ev'⟩ := ha i' (by omega)
          have ep : oa_pv reg acc (nI r) (p + j) = nI v' := ei.trans ev'
          obtain ⟨a', ha', ea'⟩ := p1 v' hv'
          obtain ⟨b', hb', eb'⟩ := p1 v hv
          have ed : oa_ds (ad (oa_pv reg acc (nI r) (p + j)).toNatClampNeg).toNatClampNeg (ad (acc (p + j)).toNatClampNeg).toNatClampNeg = oa_ds a' b' := by
            rw [ep, cv, nI_clamp (show v' < 2 ^ 31 by omega), ea', eb', nI_clamp (show a' < 2 ^ 31 by omega), nI_clamp (show b' < 2 ^ 31 by omega)]
          by_cases cl : oa_ds a' b' ≤ 1
          · have nl : ¬ (oa_pv reg acc (nI r) (p + j) = -1 ∨ 1 < oa_ds (ad (oa_pv reg acc (nI r) (p + j)).toNatClampNeg).toNatClampNeg (ad (acc (p + j)).toNatClampNeg).toNatClampNeg) := by
              rw [ed]
              rintro (z | z)
              · exact cp z
              · omega
            rw [oa_lr_f er nl] at nx
            rw [ep]
            exact br_t (nI_pos' (by omega)) (xg_ad hV hv' c0 ea' _ (xg_ad hV hv c0 eb' _ (lw_ab (by omega) (by omega) _ (br_t (nI_le (b := 1) cl (by decide)) (nm_r (nI_1 j) nx)))))
          · have yl : oa_pv reg acc (nI r) (p + j) = -1 ∨ 1 < oa_ds (ad (oa_pv reg acc (nI r) (p + j)).toNatClampNeg).toNatClampNeg (ad (acc (p + j)).toNatClampNeg).toNatClampNeg := by
              rw [ed]
              exact Or.inr (by omega)
            have hds : oa_ds a' b' < 2 ^ 31 := by
              unfold oa_ds
              omega
            rw [oa_lr_t er yl] at nx
            rw [ep]
            exact br_t (nI_pos' (by omega)) (xg_ad hV hv' c0 ea' _ (xg_ad hV hv c0 eb' _ (lw_ab (by omega) (by omega) _ (br_f (nI_ge (a := 1) (by omega) hds) (nm_r (nI_1 _) (nm_r (nI_1 j) nx))))))
      · have er : ¬ reg (acc (p + j)).toNatClampNeg = nI r := by
          rw [cv]
          exact cr
        obtain ⟨f1, f2⟩ := oa_lr_ne (ad := ad) er
        rw [f1, f2] at nx
        exact br_f cr (nm_r (nI_1 j) nx)
    · rw [show min (j + 1) (oa_na o) = min j (oa_na o) by omega] at nx
      rw [oa_av1_f c]
      exact br_f (by decide) (nm_r (nI_1 j) nx)
theorem lw_452 {J440 : Int32 → Int32 → Prop} {x7 : Int32} {r E : Nat} (hV : V ≤ 16) (hc : cnt ≤ 32) (c0 : ¬ nI ph = 0) (sr : oa_SR st sop sd sa sb) (ss : oa_SS V cnt sop sd sa sb acc) (p1 : ∀ v, v < V → ∃ a, a < V ∧ ad v = nI a)
    (hJ : J440 (nI (E + oa_lr reg acc ad (nI r) (oa_ps sop cnt))) (nI (r + 1))) :
    ∀ dd i fu, i + dd = cnt → dd < fu → wL_law_452 post L xs J60 J440 (nI V) (nI nR) x4 x5 x7 (nI cnt) (nI r) kc ks (nI V) (nI nR) (nI ph) (nI cnt) (nI (oa_ps sop cnt)) na ac reg ini st acc fol wt fl sl ch ad op rg od len ld kn mx arx out ocx fu (nI (E + oa_lr reg acc ad (nI r) (oa_ps sop i))) (oa_pv reg acc (nI r) (oa_ps sop i)) (nI i) := by
  intro dd
  induction dd with
  | zero =>
    intro i fu hi hf
    obtain ⟨fu, rfl⟩ : ∃ f, fu = f + 1 := ⟨fu - 1, by omega⟩
    have e : i = cnt := by omega
    subst e
    exact br_t (nI_le (by omega) (by omega)) (nm_r (nI_1 r) hJ)
  | succ dd ih =>
    intro i fu hi hf
    obtain ⟨fu, rfl⟩ : ∃ f, fu = f + 1 := ⟨fu - 1, by omega⟩
    have nx := ih (i + 1) fu (by omega) (by omega)
    have s4 := sr i (by omega)
    have hn : oa_ps sop i + oa_na (sop i) ≤ oa_ps sop cnt := oa_ps_mono sop cnt (i + 1) (by omega)
    refine br_f (nI_ge (by omega) (by omega)) ?_
    refine xg_st (f := 0) hc (by omega) (by omega) s4.1 _ ?_
    refine xg_st (f := 1) hc (by omega) (by omega) s4.2.1 _ ?_
    refine xg_st (f := 2) hc (by omega) (by omega) s4.2.2.1 _ ?_
    refine xg_st (f := 3) hc (by omega) (by omega) s4.2.2.2 _ ?_
    have h := lw_498 (post := post) (L := L) (xs := xs) (J60 := J60) (J440 := J440) (x4 := x4) (x5 := x5) (kc := kc) (ks := ks) (nR := nR) (cnt := cnt) (na := na) (ac := ac) (ini := ini) (st := st) (fol := fol) (wt := wt) (fl := fl) (sl := sl) (ch := ch) (op := op) (rg := rg) (od := od) (len := len) (ld := ld) (kn := kn) (mx := mx) (arx := arx) (out := out) (ocx := ocx) (sop := sop) (x7 := x7) (x8 := nI cnt) hV c0 (ss i (by omega)) hn (fun j hj => oa_SS_vr cnt ss j hj) p1 nx 3 0 4 (by omega) (by omega)
    rw [Nat.zero_min, Nat.add_zero] at h
    exact ⟨4, h⟩
theorem lw_440 (hV : V ≤ 16) (hR : nR ≤ 4) (hc : cnt ≤ 32) (c0 : ¬ nI ph = 0) (hr : ∀ v, v < V → ∃ r, r < nR ∧ reg v = nI r) (sr : oa_SR st sop sd sa sb) (ss : oa_SS V cnt sop sd sa sb acc) (p1 : ∀ v, v < V → ∃ a, a < V ∧ ad v = nI a)
    (hJ : J60 (x5 + 1) (nI V) (nI nR) (nI ph) (nI cnt) (nI (oa_ps sop cnt)) na ac reg ini st acc fol wt fl sl ch ad op rg od len ld kn mx arx out ocx) :
    ∀ dd r fu, r + dd = nR → dd < fu → wL_law_440 post L xs J60 (nI V) (nI nR) x4 x5 (nI (oa_lt reg acc ad (oa_ps sop cnt))) (nI cnt) kc ks (nI V) (nI nR) (nI ph) (nI cnt) (nI (oa_ps sop cnt)) na ac reg ini st acc fol wt fl sl ch ad op rg od len ld kn mx arx out ocx fu (nI (oa_sr reg acc ad (oa_ps sop cnt) r)) (nI r) := by
  intro dd
  induction dd with
  | zero =>
    intro r fu hi hf
    obtain ⟨fu, rfl⟩ : ∃ f, fu = f + 1 := ⟨fu - 1, by omega⟩
    have e : r = nR := by omega
    have h : ∀ j, j < oa_ps sop cnt → ∃ r', r' < nR ∧ reg (acc j).toNatClampNeg = nI r' := by
      intro j hj
      obtain ⟨v, hv, ev⟩ := oa_SS_vr cnt ss j hj
      rw [ev, nI_clamp (by omega)]
      exact hr v hv
    have es := oa_sr_lt (ad := ad) (show nR < 2 ^ 31 by omega) h (oa_ps sop cnt) (Nat.le_refl _)
    exact br_t (nI_le (by omega) (by omega)) (br_t (by rw [e, es]) (nm_e hJ))
  | succ dd ih =>
    intro r fu hi hf
    obtain ⟨fu, rfl⟩ : ∃ f, fu = f + 1 := ⟨fu - 1, by omega⟩
    have nx := ih (r + 1) fu (by omega) (by omega)
    have h := lw_452 (post := post) (L := L) (xs := xs) (J60 := J60) (x4 := x4) (x5 := x5) (kc := kc) (ks := ks) (nR := nR) (na := na) (ac := ac) (ini := ini) (fol := fol) (wt := wt) (fl := fl) (sl := sl) (ch := ch) (op := op) (rg := rg) (od := od) (len := len) (ld := ld) (kn := kn) (mx := mx) (arx := arx) (out := out) (ocx := ocx) (x7 := nI (oa_lt reg acc ad (oa_ps sop cnt))) (E := oa_sr reg acc ad (oa_ps sop cnt) r) hV hc c0 sr ss p1 nx cnt 0 (cnt + 1) (by omega) (by omega)
    have z1 : oa_lr reg acc ad (nI r) (oa_ps sop 0) = 0 := rfl
    have z2 : oa_pv reg acc (nI r) (oa_ps sop 0) = -1 := rfl
    rw [z1, z2, Nat.add_zero] at h
    exact br_f (nI_ge (by omega) (by omega)) ⟨cnt + 1, h⟩
theorem lw_413 (h : oa_W V nR ph cnt reg st acc ad op rg od len ld mx out ocx sop sd sa sb) (hJ : J60 (x5 + 1) (nI V) (nI nR) (nI ph) (nI cnt) (nI (oa_ps sop cnt)) na ac reg ini st acc fol wt fl sl ch ad op rg od len ld kn mx arx out ocx) : wL_law_413 post L xs J60 (nI V) (nI nR) x4 x5 kc ks (nI V) (nI nR) (nI ph) (nI cnt) (nI (oa_ps sop cnt)) na ac reg ini st acc fol wt fl sl ch ad op rg od len ld kn mx arx out ocx := by
  obtain ⟨i1, i2, i3, i4, i5, i6, i7, i8, i9⟩ := h
  unfold wL_law_413
  by_cases c0 : nI ph = 0
  · exact xg_al0 c0 _ (br_t rfl (nm_e hJ))
  · have p0 : ph ≠ 0 := fun z => c0 (by rw [z]; rfl)
    obtain ⟨p1, pj, p2, hC, cr0, cr1, hl⟩ := i8 p0
    have hle := oa_lt_le reg acc ad (oa_ps sop cnt)
    have hps := oa_ps_le sop cnt
    refine xg_al (w := 1) (by omega) c0 hl _ (br_f (oa_ne (by omega)) (xg_sc _ ⟨nR + 1, ?_⟩))
    have g := lw_440 (post := post) (L := L) (xs := xs) (x4 := x4) (kc := kc) (ks := ks) i1.2 i2.2 i4 c0 i5 i6 i7 p1 hJ nR 0 (nR + 1) (by omega) (by omega)
    rw [show oa_sr reg acc ad (oa_ps sop cnt) 0 = 0 from rfl] at g
    exact g
theorem lw_382 (hV : V ≤ 16) (c2 : nI ph = 2) (p1 : ∀ v, v < V → ∃ a, a < V ∧ ad v = nI a) (hm : ∀ v, v < V → mx (16 * 0 + v) = mx (16 * 1 + (ad v).toNatClampNeg))
    (h : wL_law_413 post L xs J60 (nI V) (nI nR) x4 x5 kc ks (nI V) (nI nR) (nI ph) (nI cnt) (nI (oa_ps sop cnt)) na ac reg ini st acc fol wt fl sl ch ad op rg od len ld kn mx arx out ocx) :
    ∀ dd v fu, v + dd = V → dd < fu → wL_law_382 post L xs J60 (nI V) (nI nR) x4 x5 kc ks (nI V) (nI nR) (nI ph) (nI cnt) (nI (oa_ps sop cnt)) na ac reg ini st acc fol wt fl sl ch ad op rg od len ld kn mx arx out ocx fu (nI v) := by
  intro dd
  induction dd with
  | zero =>
    intro v fu hi hf
    obtain ⟨fu, rfl⟩ : ∃ f, fu = f + 1 := ⟨fu - 1, by omega⟩
    exact br_t (nI_le (by omega) (by omega)) h
  | succ dd ih =>
    intro v fu hi hf
    obtain ⟨fu, rfl⟩ : ∃ f, fu = f + 1 := ⟨fu - 1, by omega⟩
    have c1 := oa_c1 hV p1 v (by omega)
    have nx := ih (v + 1) fu (by omega) (by omega)
    refine br_f (nI_ge (by omega) (by omega)) ?_
    refine xg_va (w := 0) (c := v) hV (by omega) (by omega) c2 (if_pos rfl) (by omega) (hm v (by omega)) _ ?_
    refine xg_va (w := 1) (c := (ad v).toNatClampNeg) hV (by omega) (by omega) c2 ((if_neg (by omega)).trans c1.2) (by omega) rfl _ ?_
    exact br_t rfl (nm_r (nI_1 v) nx)
theorem lw_347 {q : Nat} (c2 : nI ph = 2) (hq : q ≤ 32) (q0 : ocx 0 = nI q) (q1 : ocx 1 = nI q) (ho : ∀ j, j < q → out (32 * 0 + j) = out (32 * 1 + j))
    (h : ∃ f, wL_law_382 post L xs J60 (nI V) (nI nR) x4 x5 kc ks (nI V) (nI nR) (nI ph) (nI cnt) (nI (oa_ps sop cnt)) na ac reg ini st acc fol wt fl sl ch ad op rg od len ld kn mx arx out ocx f 0) :
    ∀ dd j fu, j + dd = q → dd < fu → wL_law_347 post L xs J60 (nI V) (nI nR) x4 x5 (nI q) kc ks (nI V) (nI nR) (nI ph) (nI cnt) (nI (oa_ps sop cnt)) na ac reg ini st acc fol wt fl sl ch ad op rg od len ld kn mx arx out ocx fu (nI j) := by
  intro dd
  induction dd with
  | zero =>
    intro j fu hi hf
    obtain ⟨fu, rfl⟩ : ∃ f, fu = f + 1 := ⟨fu - 1, by omega⟩
    exact br_t (nI_le (by omega) (by omega)) h
  | succ dd ih =>
    intro j fu hi hf
    obtain ⟨fu, rfl⟩ : ∃ f, fu = f + 1 := ⟨fu - 1, by omega⟩
    have nx := ih (j + 1) fu (by omega) (by omega)
    refine br_f (nI_ge (by omega) (by omega)) ?_
    refine xg_ou (w := 0) (by omega) c2 q0 hq (by omega) (ho j (by omega)) _ ?_
    refine xg_ou (w := 1) (by omega) c2 q1 hq (by omega) rfl _ ?_
    exact br_t rfl (nm_r (nI_1 j) nx)
theorem lw_319 (h : oa_W V nR ph cnt reg st acc ad op rg od len ld mx out ocx sop sd sa sb) (hJ : J60 (x5 + 1) (nI V) (nI nR) (nI ph) (nI cnt) (nI (oa_ps sop cnt)) na ac reg ini st acc fol wt fl sl ch ad op rg od len ld kn mx arx out ocx) : wL_law_319 post L xs J60 (nI V) (nI nR) x4 x5 kc ks (nI V) (nI nR) (nI ph) (nI cnt) (nI (oa_ps sop cnt)) na ac reg ini st acc fol wt fl sl ch ad op rg od len ld kn mx arx out ocx := by
  have h413 := lw_413 (post := post) (L := L) (xs := xs) (x4 := x4) (kc := kc) (ks := ks) h hJ
  obtain ⟨i1, i2, i3, i4, i5, i6, i7, i8, i9⟩ := h
  unfold wL_law_319
  by_cases c2 : nI ph = 2
  · have p2 : ph = 2 := oa_inj (b := 2) (by omega) (by omega) c2
    obtain ⟨q, hq, q0, q1, ho, hm⟩ := i9 p2
    have p1 := (i8 (by omega)).1
    refine xg_oc2 (w := 1) (by omega) c2 q1 _ (br_f (oa_ne (by omega)) ?_)
    refine xg_oc2 (w := 0) (by omega) c2 q0 _ (br_t rfl ⟨q + 1, ?_⟩)
    exact lw_347 c2 hq q0 q1 ho ⟨V + 1, lw_382 i1.2 c2 p1 hm h413 V 0 (V + 1) (by omega) (by omega)⟩ q 0 (q + 1) (by omega) (by omega)
  · exact xg_oc0 c2 _ (br_t rfl h413)
theorem lw_296 (h : oa_W V nR ph cnt reg st acc ad op rg od len ld mx out ocx sop sd sa sb) (hJ : J60 (x5 + 1) (nI V) (nI nR) (nI ph) (nI cnt) (nI (oa_ps sop cnt)) na ac reg ini st acc fol wt fl sl ch ad op rg od len ld kn mx arx out ocx) : wL_law_296 post L xs J60 (nI V) (nI nR) x4 x5 kc ks (nI V) (nI nR) (nI ph) (nI cnt) (nI (oa_ps sop cnt)) na ac reg ini st acc fol wt fl sl ch ad op rg od len ld kn mx arx out ocx := by
  unfold wL_law_296
  exact lw_319 h hJ
end
