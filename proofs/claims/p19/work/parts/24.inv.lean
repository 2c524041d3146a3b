/-! what holds between two calls -/
def oa_WC (V nR cnt : Nat) (reg acc ad op rg od len ld sop sa : Nat → Int32) : Prop :=
  (∀ v, v < V → ∃ a, a < V ∧ ad v = nI a) ∧ (∀ x y, x < V → y < V → ad x = ad y → x = y) ∧ (∀ a, a < V → ∃ v, v < V ∧ ad v = nI a) ∧ (∀ w, w < 2 → ∃ L, L ≤ 192 ∧ oa_CI nR w L 32 op rg len) ∧
  oa_CR V nR 0 cnt (fun v => v) acc sop sa op rg od len ∧ oa_CR V nR 1 cnt (fun v => (ad v).toNatClampNeg) acc sop sa op rg od len ∧ ld 1 = nI (oa_lt reg acc ad (oa_ps sop cnt))
def oa_WR (V : Nat) (ad mx out oc : Nat → Int32) : Prop :=
  ∃ q, q ≤ 32 ∧ oc 0 = nI q ∧ oc 1 = nI q ∧ (∀ j, j < q → out (32 * 0 + j) = out (32 * 1 + j)) ∧ (∀ v, v < V → mx (16 * 0 + v) = mx (16 * 1 + (ad v).toNatClampNeg))
def oa_W (V nR ph cnt : Nat) (reg st acc ad op rg od len ld mx out oc sop sd sa sb : Nat → Int32) : Prop :=
  (2 ≤ V ∧ V ≤ 16) ∧ (1 ≤ nR ∧ nR ≤ 4) ∧ ph ≤ 2 ∧ cnt ≤ 32 ∧ (∀ v, v < V → ∃ r, r < nR ∧ reg v = nI r) ∧ oa_SR st sop sd sa sb ∧ oa_SS V cnt sop sd sa sb acc ∧
  (ph ≠ 0 → oa_WC V nR cnt reg acc ad op rg od len ld sop sa) ∧ (ph = 2 → oa_WR V ad mx out oc)
def oa_X (V nR : Nat) (u : St2) : Prop := ∃ (ph cnt : Nat) (na ac : Int32) (reg ini st acc fol wt fl sl ch ad op rg od len ld kn mx arx out ocx sop sd sa sb : Nat → Int32),
  u = (nI V, nI nR, nI ph, nI cnt, nI (oa_ps sop cnt), na, ac, reg, ini, st, acc, fol, wt, fl, sl, ch, ad, op, rg, od, len, ld, kn, mx, arx, out, ocx) ∧ oa_W V nR ph cnt reg st acc ad op rg od len ld mx out ocx sop sd sa sb
theorem oa_XI {V nR ph cnt : Nat} {na ac : Int32} {reg ini st acc fol wt fl sl ch ad op rg od len ld kn mx arx out ocx sop sd sa sb : Nat → Int32} (h : oa_W V nR ph cnt reg st acc ad op rg od len ld mx out ocx sop sd sa sb) :
    oa_X V nR (nI V, nI nR, nI ph, nI cnt, nI (oa_ps sop cnt), na, ac, reg, ini, st, acc, fol, wt, fl, sl, ch, ad, op, rg, od, len, ld, kn, mx, arx, out, ocx) :=
  ⟨ph, cnt, na, ac, reg, ini, st, acc, fol, wt, fl, sl, ch, ad, op, rg, od, len, ld, kn, mx, arx, out, ocx, sop, sd, sa, sb, rfl, h⟩
theorem oa_c1 {V : Nat} {ad : Nat → Int32} (hV : V ≤ 16) (p1 : ∀ v, v < V → ∃ a, a < V ∧ ad v = nI a) : ∀ v, v < V → (ad v).toNatClampNeg < V ∧ ad v = nI (ad v).toNatClampNeg := by
  intro v hv
  obtain ⟨a, ha, ea⟩ := p1 v hv
  have : (ad v).toNatClampNeg = a := by
    rw [ea]
    exact nI_clamp (by omega)
  rw [this]
  exact ⟨ha, ea⟩
theorem oa_c1i {V : Nat} {ad : Nat → Int32} (hV : V ≤ 16) (p1 : ∀ v, v < V → ∃ a, a < V ∧ ad v = nI a) (pj : ∀ x y, x < V → y < V → ad x = ad y → x = y) : ∀ x y, x < V → y < V → (ad x).toNatClampNeg = (ad y).toNatClampNeg → x = y := by
  intro x y hx hy e
  refine pj x y hx hy ?_
  rw [(oa_c1 hV p1 x hx).2, (oa_c1 hV p1 y hy).2, e]
theorem oa_sn_n {V cnt : Nat} {acc sop sd sa sb : Nat → Int32} {s : oa_S} (ss : oa_SS V cnt sop sd sa sb acc) : ∀ i, i ≤ cnt → (oa_sn acc sop sa i s).2.2.2 ≤ s.2.2.2 + i := by
  intro i
  induction i with
  | zero => intro _; exact Nat.le_refl _
  | succ i ih =>
    intro hi
    have h1 := ih (by omega)
    have h2 := oa_s1_n (s := oa_sn acc sop sa i s) (ss i (by omega))
    rw [oa_sn]
    omega
theorem xb_clear {V nR : Nat} {u : St2} (I : oa_X V nR u) (post : St2 → Prop) (hp : ∀ u', oa_X V nR u' → post u') : wpX_clear post u := by
  obtain ⟨ph, cnt, na, ac, reg, ini, st, acc, fol, wt, fl, sl, ch, ad, op, rg, od, len, ld, kn, mx, arx, out, ocx, sop, sd, sa, sb, rfl, i1, i2, i3, i4, i5, i6, i7, i8, i9⟩ := I
  unfold wpX_clear
  exact hp _ (oa_XI (ph := 0) (cnt := 0) (sop := sop) (sd := sd) (sa := sa) (sb := sb) ⟨i1, i2, by omega, by omega, i5, i6, fun i hi => absurd hi (Nat.not_lt_zero i), fun h => absurd rfl h, fun h => by omega⟩)
theorem xb_setRegister {V nR : Nat} {u : St2} (I : oa_X V nR u) (v1 v2 : Int32) (post : Int32 → St2 → Prop) (hp : ∀ r u', oa_X V nR u' → post r u') : wpX_setRegister post u v1 v2 := by
  obtain ⟨ph, cnt, na, ac, reg, ini, st, acc, fol, wt, fl, sl, ch, ad, op, rg, od, len, ld, kn, mx, arx, out, ocx, sop, sd, sa, sb, rfl, I⟩ := I
  have I' := I
  obtain ⟨i1, i2, i3, i4, i5, i6, i7, i8, i9⟩ := I'
  have J := oa_XI (na := na) (ac := ac) (ini := ini) (fol := fol) (wt := wt) (fl := fl) (sl := sl) (ch := ch) (kn := kn) (arx := arx) I
  unfold wpX_setRegister
  dsimp only
  refine xa_iv _ (fun c => br_f (by decide) ?_) (fun c => br_t rfl (hp _ _ J))
  obtain ⟨j, hj, rfl⟩ := oa_in_c i1.2 c
  have ij : vp_in (nI j) 16 := vp_in_nI (by omega) (by omega)
  have cj : (nI j).toNatClampNeg = j := nI_clamp (by omega)
  by_cases c1 : v2 < 0
  · exact br_t c1 (hp _ _ J)
  · by_cases c2 : v2 < nI nR
    · obtain ⟨r, hr, rfl⟩ := nI_of c1
      have hr2 := (nI_ltI hr (by omega)).mp c2
      refine br_f c1 (br_t c2 ⟨ij, nm_r (by rw [cj]) (hp _ _ ?_)⟩)
      exact oa_XI (ph := 0) (sop := sop) (sd := sd) (sa := sa) (sb := sb) ⟨i1, i2, by omega, i4, oa_upr hr2 i5, i6, i7, fun h => absurd rfl h, fun h => by omega⟩
    · exact br_f c1 (br_f c2 (hp _ _ J))
theorem xb_setInit {V nR : Nat} {u : St2} (I : oa_X V nR u) (v1 v2 : Int32) (post : Int32 → St2 → Prop) (hp : ∀ r u', oa_X V nR u' → post r u') : wpX_setInit post u v1 v2 := by
  obtain ⟨ph, cnt, na, ac, reg, ini, st, acc, fol, wt, fl, sl, ch, ad, op, rg, od, len, ld, kn, mx, arx, out, ocx, sop, sd, sa, sb, rfl, I⟩ := I
  have I' := I
  obtain ⟨i1, i2, i3, i4, i5, i6, i7, i8, i9⟩ := I'
  have J := oa_XI (na := na) (ac := ac) (ini := ini) (fol := fol) (wt := wt) (fl := fl) (sl := sl) (ch := ch) (kn := kn) (arx := arx) I
  unfold wpX_setInit
  dsimp only
  refine xa_iv _ (fun c => br_f (by decide) ?_) (fun c => br_t rfl (hp _ _ J))
  obtain ⟨j, hj, rfl⟩ := oa_in_c i1.2 c
  have ij : vp_in (nI j) 16 := vp_in_nI (by omega) (by omega)
  by_cases c2 : nI ph = 2
  · have p2 : ph = 2 := oa_inj (b := 2) (by omega) (by omega) c2
    exact ⟨ij, nm_e (br_t c2 (hp _ _ (oa_XI (ph := 1) (sop := sop) (sd := sd) (sa := sa) (sb := sb) ⟨i1, i2, by omega, i4, i5, i6, i7, fun _ => i8 (by omega), fun h => by omega⟩)))⟩
  · exact ⟨ij, nm_e (br_f c2 (hp _ _ (oa_XI I)))⟩
theorem xb_add {V nR : Nat} {u : St2} (I : oa_X V nR u) (v1 v2 v3 v4 : Int32) (post : Int32 → St2 → Prop) (hp : ∀ r u', oa_X V nR u' → post r u') : wpX_addStatement post u v1 v2 v3 v4 := by
  obtain ⟨ph, cnt, na, ac, reg, ini, st, acc, fol, wt, fl, sl, ch, ad, op, rg, od, len, ld, kn, mx, arx, out, ocx, sop, sd, sa, sb, rfl, I⟩ := I
  have I' := I
  obtain ⟨i1, i2, i3, i4, i5, i6, i7, i8, i9⟩ := I'
  have J := oa_XI (na := na) (ac := ac) (ini := ini) (fol := fol) (wt := wt) (fl := fl) (sl := sl) (ch := ch) (kn := kn) (arx := arx) I
  by_cases c0 : cnt < 32
  · have x0 : nI cnt < 32 := nI_lt (b := 32) c0 (by decide)
    by_cases c1 : v1 < 0
    · exact br_t x0 (br_t c1 (hp _ _ J))
    · by_cases c2 : v1 ≤ 8
      · obtain ⟨o, ho, rfl⟩ := nI_of c1
        have h8 : o ≤ 8 := (nI_leI ho (by omega : 8 < 2 ^ 31)).mp c2
        have hn := oa_ps_le sop cnt
        refine br_t x0 (br_f c1 (br_t c2 (xa_uo h8 _ (fun ok => br_f (by decide) (xa_st c0 _ (xa_as i1.2 h8 (by omega) ok _ (fun P hP hst => nm_r (nI_1 cnt) (hp _ _ ?_))))) (fun ok => br_t rfl (hp _ _ J)))))
        have ha := oa_SS_add i7 hP hst
        rw [← ha.2]
        exact oa_XI (ph := 0) ⟨i1, i2, by omega, by omega, i5, oa_SR_add i6, ha.1, fun h => absurd rfl h, fun h => by omega⟩
      · exact br_t x0 (br_f c1 (br_f c2 (hp _ _ J)))
  · have x0 : ¬ nI cnt < 32 := nI_nlt (b := 32) (by omega) (by omega)
    exact br_f x0 (hp _ _ J)
theorem xb_compile {V nR : Nat} {u : St2} (I : oa_X V nR u) (post : Int32 → St2 → Prop) (hp : ∀ r u', oa_X V nR u' → post r u') : wpX_compile post u := by
  obtain ⟨ph, cnt, na, ac, reg, ini, st, acc, fol, wt, fl, sl, ch, ad, op, rg, od, len, ld, kn, mx, arx, out, ocx, sop, sd, sa, sb, rfl, i1, i2, i3, i4, i5, i6, i7, i8, i9⟩ := I
  have hV : V ≤ 16 := i1.2
  have hn : oa_ps sop cnt ≤ 96 := by have := oa_ps_le sop cnt; omega
  obtain ⟨zz, hzz⟩ : ∃ zz : Nat → Int32, zz = fun _ => 0 := ⟨_, rfl⟩
  have hqi := oa_q0_I (fl := fl) (sl := sl) (ch := ch) (ed := zz) (dg := zz) (cp := zz) hV
  obtain ⟨Q, hQ⟩ : ∃ Q, Q = oa_jw (oa_wA (oa_fill wt (fun _ => 0) 256) reg acc (oa_ps sop cnt) (oa_ps sop cnt)) V 95 (oa_fill fl (fun _ => -1) V, oa_fill sl (fun _ => -1) V, oa_fill ch nI V, oa_fill zz (fun _ => 0) 256, oa_fill zz (fun _ => 0) 16, oa_fill zz nI 16) := ⟨_, rfl⟩
  have hqQ : oa_QI V Q := by rw [hQ]; exact oa_jw_I hV 95 _ hqi
  have hbi := oa_b0_I (f := Q.1) (s := Q.2.1) (ad := ad) (ay := zz) (pl := zz) hV
  obtain ⟨B, hB⟩ : ∃ B, oa_aw reg Q.1 Q.2.1 Q.2.2.1 V nR 0 (oa_fill ad (fun _ => -1) V, zz, oa_fill zz (fun _ => 0) 16, 0) = B := ⟨_, rfl⟩
  obtain ⟨bi, _, ball⟩ := oa_aw_I (reg := reg) hV hqQ.1 nR 0 _ hbi
  rw [hB] at bi ball
  have hall : ∀ x, x < V → B.2.2.1 x ≠ 0 := by
    intro x hx
    obtain ⟨r, hr, er⟩ := i5 x hx
    exact ball x r hx (by omega) (by omega) er
  obtain ⟨p1, p2⟩ := oa_A_all bi.1 hall
  have pj := oa_A_inj bi.1 hall
  have p1' : ∀ v, v < V → ∃ a, a < V ∧ B.1 v = nI a := fun v hv => (p1 v hv).2
  have env : oa_env V nR (oa_ps sop cnt) reg acc B.1 := ⟨hV, i2.2, hn, i5, fun j hj => oa_SS_vr cnt i7 j hj, p1'⟩
  obtain ⟨K1, hK1⟩ : ∃ K1, oa_tb reg acc B.1 sop sa (oa_ps sop cnt) 0 cnt (oa_k0 nR 0 (op, rg, od, len, ld, kn, zz, zz) (oa_kz (op, rg, od, len, ld, kn, zz, zz))) = K1 := ⟨_, rfl⟩
  obtain ⟨K2, hK2⟩ : ∃ K2, oa_tb reg acc B.1 sop sa (oa_ps sop cnt) 1 cnt (oa_k0 nR 1 K1 (oa_kz K1)) = K2 := ⟨_, rfl⟩
  obtain ⟨L1, l1, k1⟩ := oa_tb_I (w := 0) i2.1 i4 i7 env (oa_k0_I (k := (op, rg, od, len, ld, kn, zz, zz)) (oa_kz_0 i2.2 (op, rg, od, len, ld, kn, zz, zz))) cnt (Nat.le_refl cnt)
  rw [hK1] at k1
  obtain ⟨L2, l2, k2⟩ := oa_tb_I (w := 1) i2.1 i4 i7 env (oa_k0_I (k := K1) (oa_kz_0 i2.2 K1)) cnt (Nat.le_refl cnt)
  rw [hK2] at k2
  have hC : ∀ w, w < 2 → ∃ L, L ≤ 192 ∧ oa_CI nR w L 32 K2.1 K2.2.1 K2.2.2.2.1 := by
    intro w hw
    have c : w = 0 ∨ w = 1 := by omega
    rcases c with rfl | rfl
    · exact ⟨L1, by omega, k2.1.2.1 0 L1 32 (by omega) (by omega) (oa_CI_up k1.1.1 i4)⟩
    · exact ⟨L2, by omega, oa_CI_up k2.1.1 i4⟩
  have c0 := oa_CR_mk (w := 0) (cell := fun v => v) i2.1 i4 i7 env (fun v hv => ⟨hv, if_pos rfl⟩) (fun x y _ _ e => e) (oa_kz_0 i2.2 (op, rg, od, len, ld, kn, zz, zz)) hK1
  have c0' := oa_CR_fr k1.1.1.1 (by omega) (k2.1.2.2 0 (by omega)) c0
  have c1 := oa_CR_mk (w := 1) (cell := fun v => (B.1 v).toNatClampNeg) i2.1 i4 i7 env (fun v hv => ⟨(oa_c1 hV p1' v hv).1, (if_neg (by omega)).trans (oa_c1 hV p1' v hv).2⟩) (oa_c1i hV p1' pj) (oa_kz_0 i2.2 K1) hK2
  have hl : K2.2.2.2.2.1 1 = nI (oa_lt reg acc B.1 (oa_ps sop cnt)) := by
    have t := (oa_LI_tb i7 env (oa_LI_0 (k := K1) (kk' := oa_kz K1)) cnt (Nat.le_refl cnt)).2
    rw [hK2] at t
    exact t
  refine xa_compile (k := (op, rg, od, len, ld, kn, zz, zz)) hV i2.1 i2.2 i4 i7 i6 hQ (oa_G_LR hqQ.1) hB env hK1 hK2 _ (hp _ _ ?_)
  exact oa_XI (ph := 1) (sop := sop) (sd := sd) (sa := sa) (sb := sb) ⟨i1, i2, by omega, i4, i5, i6, i7, fun _ => ⟨p1', pj, p2, hC, c0', c1, hl⟩, fun h => by omega⟩
theorem xb_run {V nR : Nat} {u : St2} (I : oa_X V nR u) (post : Int32 → St2 → Prop) (hp : ∀ r u', oa_X V nR u' → post r u') : wpX_run post u := by
  obtain ⟨ph, cnt, na, ac, reg, ini, st, acc, fol, wt, fl, sl, ch, ad, op, rg, od, len, ld, kn, mx, arx, out, ocx, sop, sd, sa, sb, rfl, I⟩ := I
  have I' := I
  obtain ⟨i1, i2, i3, i4, i5, i6, i7, i8, i9⟩ := I'
  have J := oa_XI (na := na) (ac := ac) (ini := ini) (fol := fol) (wt := wt) (fl := fl) (sl := sl) (ch := ch) (kn := kn) (arx := arx) I
  have hV : V ≤ 16 := i1.2
  unfold wpX_run
  dsimp only
  by_cases c0 : nI ph = 0
  · exact br_t c0 (hp _ _ J)
  have p0 : ph ≠ 0 := fun z => c0 (by rw [z]; rfl)
  obtain ⟨p1, pj, p2, hC, cr0, cr1, hl⟩ := i8 p0
  obtain ⟨L0, l0, ci0⟩ := hC 0 (by omega)
  obtain ⟨L1, l1, ci1⟩ := hC 1 (by omega)
  have cell1 := oa_c1 hV p1
  have inj1 := oa_c1i hV p1 pj
  have mi0 := oa_m0_I (w := 0) (nR := nR) (ini := ini) (op := op) (cell := fun v => v) (m := (mx, arx, ac, out, ocx, mx, arx, ocx)) hV i2.2 (fun _ _ _ _ => rfl) (fun v hv => hv) (fun a ha => ⟨a, ha, rfl⟩)
  obtain ⟨M0, hM0⟩ : ∃ M0, oa_xs V 0 op rg od L0 (oa_m0 nR 0 V (fun v => v) ini (mx, arx, ac, out, ocx, mx, arx, ocx)) = M0 := ⟨_, rfl⟩
  have me0 := oa_xs_I (rg := rg) (od := od) mi0 L0
  rw [hM0] at me0
  have mi1 := oa_m0_I (w := 1) (nR := nR) (ini := ini) (op := op) (cell := fun v => (ad v).toNatClampNeg) (m := M0) hV i2.2 me0.2.1 (fun v hv => (cell1 v hv).1) (fun a ha => by
    obtain ⟨v, hv, ev⟩ := p2 a ha
    exact ⟨v, hv, by show (ad v).toNatClampNeg = a; rw [ev]; exact nI_clamp (by omega)⟩)
  obtain ⟨M1, hM1⟩ : ∃ M1, oa_xs V 1 op rg od L1 (oa_m0 nR 1 V (fun v => (ad v).toNatClampNeg) ini M0) = M1 := ⟨_, rfl⟩
  have me1 := oa_xs_I (rg := rg) (od := od) mi1 L1
  rw [hM1] at me1
  have eL0 : (len 0).toNatClampNeg = L0 := by rw [ci0.1]; exact nI_clamp (by omega)
  have eL1 : (len 1).toNatClampNeg = L1 := by rw [ci1.1]; exact nI_clamp (by omega)
  obtain ⟨kn0, rp0⟩ := cr0 (oa_m0 nR 0 V (fun v => v) ini (mx, arx, ac, out, ocx, mx, arx, ocx)) ini (fun v hv => oa_mi_at (cell := fun v => v) V (fun x y _ _ e => e) v hv) rfl (pk_us : upd ocx 0 0 0 = 0)
  rw [eL0, hM0] at rp0
  obtain ⟨kn1, rp1⟩ := cr1 (oa_m0 nR 1 V (fun v => (ad v).toNatClampNeg) ini M0) ini (fun v hv => oa_mi_at (cell := fun v => (ad v).toNatClampNeg) V inj1 v hv) rfl (pk_us : upd M0.2.2.2.2.1 1 0 1 = 0)
  rw [eL1, hM1] at rp1
  have hq := oa_sn_n (s := (ini, 0, (fun _ => 0), 0)) i7 cnt (Nat.le_refl cnt)
  generalize oa_sn acc sop sa cnt (ini, 0, (fun _ => 0), 0) = S at rp0 rp1 hq
  have hq' : S.2.2.2 ≤ 32 := by
    have : S.2.2.2 ≤ 0 + cnt := hq
    omega
  have fr := oa_xs_f (V := V) (op := op) (rg := rg) (od := od) (m := oa_m0 nR 1 V (fun v => (ad v).toNatClampNeg) ini M0) L1
  rw [hM1] at fr
  have wr : oa_WR V ad M1.1 M1.2.2.2.1 M1.2.2.2.2.1 := by
    refine ⟨S.2.2.2, hq', ?_, rp1.2.2.1, fun j hj => ?_, fun v hv => ?_⟩
    · rw [(me1.2.2.2.2 0 (by omega)).1]
      exact rp0.2.2.1
    · rw [rp1.2.2.2.1 j hj, fr.2 (32 * 0 + j) (by omega)]
      exact rp0.2.2.2.1 j hj
    · rw [rp1.1 v hv, fr.1 (16 * 0 + v) (by omega)]
      show oa_mi M0.1 (16 * 1) (fun v => (ad v).toNatClampNeg) ini V (16 * 0 + v) = S.1 v
      rw [oa_mi_out V (fun x _ => by show 16 * 0 + v ≠ 16 * 1 + (ad x).toNatClampNeg; omega)]
      exact rp0.1 v hv
  refine br_f c0 ?_
  refine xa_rp (w := 0) (m := (mx, arx, ac, out, ocx, mx, arx, ocx)) hV i2.2 (by omega) l0 ci0 (fun v hv => ⟨hv, if_pos rfl⟩) mi0 _ hM0 ?_
  refine xa_rp (w := 1) (m := M0) hV i2.2 (by omega) l1 ci1 (fun v hv => ⟨(cell1 v hv).1, (if_neg (by omega)).trans (cell1 v hv).2⟩) mi1 _ hM1 ?_
  exact hp _ _ (oa_XI (ph := 2) (sop := sop) (sd := sd) (sa := sa) (sb := sb) ⟨i1, i2, by omega, i4, i5, i6, i7, fun _ => ⟨p1, pj, p2, hC, cr0, cr1, hl⟩, fun _ => wr⟩)
