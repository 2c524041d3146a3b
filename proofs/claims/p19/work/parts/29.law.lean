/-! the law -/
section
variable {post : Int32 → Prop} {L : Nat} {xs : Nat → Int32} {kc ks : Nat} {V nR : Nat}
theorem lw_41 (hL : L ≤ 260) (hp : post 1) {ph cnt : Nat} {na ac : Int32} {reg ini st acc fol wt fl sl ch ad op rg od len ld kn mx arx out ocx sop sd sa sb : Nat → Int32} (h : oa_W V nR ph cnt reg st acc ad op rg od len ld mx out ocx sop sd sa sb) :
    ∀ d s, s + d ≤ 60 → L ≤ 2 + 5 * s + 5 * d → wL_law_41 post L xs (nI V) (nI nR) kc ks (nI V) (nI nR) (nI ph) (nI cnt) (nI (oa_ps sop cnt)) na ac reg ini st acc fol wt fl sl ch ad op rg od len ld kn mx arx out ocx (d + 1) (nI s) (nI (2 + 5 * s)) := by
  have fin : ∀ s, s ≤ 60 → ∃ f, wL_law_60 post L xs (nI V) (nI nR) (nI s) kc ks f 0 (nI V) (nI nR) (nI ph) (nI cnt) (nI (oa_ps sop cnt)) na ac reg ini st acc fol wt fl sl ch ad op rg od len ld kn mx arx out ocx :=
    fun s hs => ⟨s + 3, lw_60 (by omega) (by omega) hp (s + 2) 0 (s + 3) (by omega) (by omega) h⟩
  intro d
  induction d with
  | zero =>
    intro s hs hl
    exact br_t (nI_le (a := L) (by omega) (by omega)) (fin s (by omega))
  | succ d ih =>
    intro s hs hl
    by_cases c : L ≤ 2 + 5 * s
    · exact br_t (nI_le (a := L) c (by omega)) (fin s (by omega))
    · refine br_f (nI_ge (b := L) (by omega) (by omega)) (nm_r (nI_1 s) (nm_r ?_ (ih (s + 1) (by omega) (by omega))))
      rw [show (5 : Int32) = nI 5 from rfl, nI_add]
      exact congrArg nI (by omega)
end
theorem xb_init {V nR : Nat} (v1 : 2 ≤ V) (v2 : V ≤ 16) (r1 : 1 ≤ nR) (r2 : nR ≤ 4) (post : St2 → Prop) (hp : ∀ u', oa_X V nR u' → post u') : wpX_init post 20 1934 (0, 0, 0, 0, 0, 0, 0) (nI V) (nI nR) := by
  refine ⟨by decide, by decide, by decide, by decide, by decide, by decide, by decide, by decide, by decide, by decide, by decide, by decide, by decide, by decide, by decide, by decide, by decide, by decide, by decide, by decide, by decide, by decide, by decide, by decide, by decide, by decide, by decide, by decide, by decide, by decide, by decide, by decide, by decide, by decide, by decide, by decide, by decide, by decide, by decide, by decide, ?_⟩
  refine xa_cl (a := 2) (b := 16) (V := V) (Or.inl ⟨nI_le v1 (by omega), nI_le v2 (by omega), rfl⟩) _ ?_
  refine xa_cl (a := 1) (b := 4) (V := nR) (Or.inl ⟨nI_le r1 (by omega), nI_le r2 (by omega), rfl⟩) _ ?_
  exact hp _ (oa_XI (ph := 0) (cnt := 0) (sop := fun _ => 0) (sd := fun _ => 0) (sa := fun _ => 0) (sb := fun _ => 0) ⟨⟨v1, v2⟩, ⟨r1, r2⟩, by omega, by omega, fun v _ => ⟨0, by omega, rfl⟩, fun i _ => ⟨rfl, rfl, rfl, rfl⟩, fun i hi => absurd hi (Nat.not_lt_zero i), fun h => absurd rfl h, fun h => by omega⟩)
theorem i_vc (xs : Nat → Int32) (L : Nat) (hL : L ≤ 260) : wpL_law (fun r => r = 1) L xs := by
  unfold wpL_law
  refine lw_cell (k := 0) (by omega) (by omega) rfl _ (fun y0 => ?_)
  refine lw_mod (k := 15) (by omega) (by omega) rfl _ (fun a ha => nm_r (nI_add 2 a) ?_)
  refine lw_cell (k := 1) (by omega) (by omega) rfl _ (fun y1 => ?_)
  refine lw_mod (k := 4) (by omega) (by omega) rfl _ (fun b hb => nm_r (nI_add 1 b) ?_)
  refine ⟨20, 1934, by omega, by omega, xb_init (by omega) (by omega) (by omega) (by omega) _ (fun u' I' => ?_)⟩
  obtain ⟨ph, cnt, na, ac, reg, ini, st, acc, fol, wt, fl, sl, ch, ad, op, rg, od, len, ld, kn, mx, arx, out, ocx, sop, sd, sa, sb, rfl, W'⟩ := I'
  exact ⟨61, lw_41 (post := fun r => r = 1) hL rfl W' 60 0 (by omega) (by omega)⟩
