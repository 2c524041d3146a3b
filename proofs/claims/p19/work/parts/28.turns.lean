/-! the law's turns -/
section
variable {post : Int32 → Prop} {L : Nat} {xs : Nat → Int32} {kc ks : Nat} {V nR : Nat}
theorem lw_170 {J60 : Int32 → Int32 → Int32 → Int32 → Int32 → Int32 → Int32 → Int32 → (Nat → Int32) → (Nat → Int32) → (Nat → Int32) → (Nat → Int32) → (Nat → Int32) → (Nat → Int32) → (Nat → Int32) → (Nat → Int32) → (Nat → Int32) → (Nat → Int32) → (Nat → Int32) → (Nat → Int32) → (Nat → Int32) → (Nat → Int32) → (Nat → Int32) → (Nat → Int32) → (Nat → Int32) → (Nat → Int32) → (Nat → Int32) → (Nat → Int32) → Prop} {x4 x5 x9 x11 x12 z0 : Int32} {ph cnt : Nat} {na ac : Int32} {reg ini st acc fol wt fl sl ch ad op rg od len ld kn mx arx out ocx sop sd sa sb : Nat → Int32} (h : oa_W V nR ph cnt reg st acc ad op rg od len ld mx out ocx sop sd sa sb)
    (nx : ∀ {ph cnt : Nat} {na ac : Int32} {reg ini st acc fol wt fl sl ch ad op rg od len ld kn mx arx out ocx sop sd sa sb : Nat → Int32}, oa_W V nR ph cnt reg st acc ad op rg od len ld mx out ocx sop sd sa sb → J60 (x5 + 1) (nI V) (nI nR) (nI ph) (nI cnt) (nI (oa_ps sop cnt)) na ac reg ini st acc fol wt fl sl ch ad op rg od len ld kn mx arx out ocx) :
    wL_law_170 post L xs J60 (nI V) (nI nR) x4 x5 x9 x11 x12 z0 kc ks (nI V) (nI nR) (nI ph) (nI cnt) (nI (oa_ps sop cnt)) na ac reg ini st acc fol wt fl sl ch ad op rg od len ld kn mx arx out ocx := by
  have I := oa_XI (na := na) (ac := ac) (ini := ini) (fol := fol) (wt := wt) (fl := fl) (sl := sl) (ch := ch) (kn := kn) (arx := arx) h
  have v1 := h.1
  unfold wL_law_170
  refine lw_mod (k := V) (by omega) (by omega) rfl _ (fun d _ => ?_)
  refine lw_mod (k := V) (by omega) (by omega) rfl _ (fun b _ => ?_)
  exact xb_add I _ _ _ _ _ (fun _ u' I' => by
    obtain ⟨ph, cnt, na, ac, reg, ini, st, acc, fol, wt, fl, sl, ch, ad, op, rg, od, len, ld, kn, mx, arx, out, ocx, sop, sd, sa, sb, rfl, W'⟩ := I'
    exact lw_296 W' (nx W'))
theorem lw_60 (hL : L < 2 ^ 31) {s : Nat} (hs : s ≤ 1000) (hp : post 1) :
    ∀ dd t fu, t + dd = s + 2 → dd < fu → ∀ {ph cnt : Nat} {na ac : Int32} {reg ini st acc fol wt fl sl ch ad op rg od len ld kn mx arx out ocx sop sd sa sb : Nat → Int32}, oa_W V nR ph cnt reg st acc ad op rg od len ld mx out ocx sop sd sa sb →
      wL_law_60 post L xs (nI V) (nI nR) (nI s) kc ks fu (nI t) (nI V) (nI nR) (nI ph) (nI cnt) (nI (oa_ps sop cnt)) na ac reg ini st acc fol wt fl sl ch ad op rg od len ld kn mx arx out ocx := by
  intro dd
  induction dd with
  | zero =>
    intro t fu ht hf ph cnt na ac reg ini st acc fol wt fl sl ch ad op rg od len ld kn mx arx out ocx sop sd sa sb h
    obtain ⟨fu, rfl⟩ : ∃ f, fu = f + 1 := ⟨fu - 1, by omega⟩
    refine br_t ?_ hp
    rw [show nI s + 2 = nI (s + 2) from nI_add s 2]
    exact nI_le (by omega) (by omega)
  | succ dd ih =>
    intro t fu ht hf ph cnt na ac reg ini st acc fol wt fl sl ch ad op rg od len ld kn mx arx out ocx sop sd sa sb h
    obtain ⟨fu, rfl⟩ : ∃ f, fu = f + 1 := ⟨fu - 1, by omega⟩
    have I := oa_XI (na := na) (ac := ac) (ini := ini) (fol := fol) (wt := wt) (fl := fl) (sl := sl) (ch := ch) (kn := kn) (arx := arx) h
    have v1 := h.1
    have r1 := h.2.1
    have nx : ∀ {ph cnt : Nat} {na ac : Int32} {reg ini st acc fol wt fl sl ch ad op rg od len ld kn mx arx out ocx sop sd sa sb : Nat → Int32}, oa_W V nR ph cnt reg st acc ad op rg od len ld mx out ocx sop sd sa sb → wL_law_60 post L xs (nI V) (nI nR) (nI s) kc ks fu (nI t + 1) (nI V) (nI nR) (nI ph) (nI cnt) (nI (oa_ps sop cnt)) na ac reg ini st acc fol wt fl sl ch ad op rg od len ld kn mx arx out ocx := by
      intro ph cnt na ac reg ini st acc fol wt fl sl ch ad op rg od len ld kn mx arx out ocx sop sd sa sb h'
      rw [nI_1]
      exact ih (t + 1) fu (by omega) (by omega) h'
    have e6 : 2 + 5 * nI t = nI (2 + 5 * t) := by
      rw [show (5 : Int32) = nI 5 from rfl, show (2 : Int32) = nI 2 from rfl, pk_mul, nI_add]
    refine br_f ?_ ?_
    · rw [show nI s + 2 = nI (s + 2) from nI_add s 2]
      exact nI_ge (by omega) (by omega)
    by_cases c : s ≤ t
    · refine br_t (nI_le c (by omega)) ?_
      refine br_c (fun _ => ?_) (fun _ => ?_)
      · exact xb_compile I _ (fun _ u' I' => by
          obtain ⟨ph, cnt, na, ac, reg, ini, st, acc, fol, wt, fl, sl, ch, ad, op, rg, od, len, ld, kn, mx, arx, out, ocx, sop, sd, sa, sb, rfl, W'⟩ := I'
          exact lw_319 W' (nx W'))
      · exact xb_run I _ (fun _ u' I' => by
          obtain ⟨ph, cnt, na, ac, reg, ini, st, acc, fol, wt, fl, sl, ch, ad, op, rg, od, len, ld, kn, mx, arx, out, ocx, sop, sd, sa, sb, rfl, W'⟩ := I'
          exact lw_319 W' (nx W'))
    · refine br_f (nI_ge (by omega) (by omega)) (nm_r e6 ?_)
      refine lw_cell (k := 2 + 5 * t) hL (by omega) rfl _ (fun y0 => ?_)
      refine lw_mod (k := 10) (by omega) (by omega) rfl _ (fun j0 _ => ?_)
      refine lw_cell (k := 2 + 5 * t + 1) hL (by omega) (nI_add _ 1) _ (fun y1 => ?_)
      refine lw_cell (k := 2 + 5 * t + 2) hL (by omega) (nI_add _ 2) _ (fun y2 => ?_)
      refine lw_cell (k := 2 + 5 * t + 3) hL (by omega) (nI_add _ 3) _ (fun y3 => ?_)
      refine lw_cell (k := 2 + 5 * t + 4) hL (by omega) (nI_add _ 4) _ (fun y4 => ?_)
      refine br_c (fun _ => br_c (fun _ => ?_) (fun _ => br_c (fun _ => ?_) (fun _ => br_c (fun _ => ?_) (fun _ => br_c (fun _ => ?_) (fun _ => ?_))))) (fun _ => ?_)
      · refine lw_mod (k := V) (by omega) (by omega) rfl _ (fun a1 _ => ?_)
        refine lw_mod (k := nR) (by omega) (by omega) rfl _ (fun a2 _ => ?_)
        exact xb_setRegister I _ _ _ (fun _ u' I' => by
          obtain ⟨ph, cnt, na, ac, reg, ini, st, acc, fol, wt, fl, sl, ch, ad, op, rg, od, len, ld, kn, mx, arx, out, ocx, sop, sd, sa, sb, rfl, W'⟩ := I'
          exact lw_296 W' (nx W'))
      · refine lw_mod (k := V) (by omega) (by omega) rfl _ (fun a1 _ => ?_)
        exact xb_setInit I _ _ _ (fun _ u' I' => by
          obtain ⟨ph, cnt, na, ac, reg, ini, st, acc, fol, wt, fl, sl, ch, ad, op, rg, od, len, ld, kn, mx, arx, out, ocx, sop, sd, sa, sb, rfl, W'⟩ := I'
          exact lw_296 W' (nx W'))
      · exact xb_compile I _ (fun _ u' I' => by
          obtain ⟨ph, cnt, na, ac, reg, ini, st, acc, fol, wt, fl, sl, ch, ad, op, rg, od, len, ld, kn, mx, arx, out, ocx, sop, sd, sa, sb, rfl, W'⟩ := I'
          exact lw_296 W' (nx W'))
      · exact xb_run I _ (fun _ u' I' => by
          obtain ⟨ph, cnt, na, ac, reg, ini, st, acc, fol, wt, fl, sl, ch, ad, op, rg, od, len, ld, kn, mx, arx, out, ocx, sop, sd, sa, sb, rfl, W'⟩ := I'
          exact lw_296 W' (nx W'))
      · refine lw_mod (k := 3) (by omega) (by omega) rfl _ (fun a1 _ => br_c (fun _ => ?_) (fun _ => ?_))
        · exact xb_clear I _ (fun u' I' => by
            obtain ⟨ph, cnt, na, ac, reg, ini, st, acc, fol, wt, fl, sl, ch, ad, op, rg, od, len, ld, kn, mx, arx, out, ocx, sop, sd, sa, sb, rfl, W'⟩ := I'
            exact lw_296 W' (nx W'))
        · exact xb_run I _ (fun _ u' I' => by
            obtain ⟨ph, cnt, na, ac, reg, ini, st, acc, fol, wt, fl, sl, ch, ad, op, rg, od, len, ld, kn, mx, arx, out, ocx, sop, sd, sa, sb, rfl, W'⟩ := I'
            exact lw_296 W' (nx W'))
      · refine lw_mod (k := 9) (by omega) (by omega) rfl _ (fun a1 _ => br_c (fun _ => ?_) (fun _ => ?_))
        · exact lw_170 h nx
        · exact lw_mod (k := V) (by omega) (by omega) rfl _ (fun a2 _ => lw_170 h nx)
end
