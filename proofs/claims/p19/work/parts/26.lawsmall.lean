/-! the law's small methods -/
theorem lw_cell {L k : Nat} {xs : Nat → Int32} {p : Int32} (hL : L < 2 ^ 31) (hk : k < 2 ^ 31) (e : p = nI k) (post : Int32 → Prop) (hp : ∀ x, post x) : wpL_cell post L xs () p := by
  subst e
  refine br_c (fun _ => hp _) (fun c => ⟨?_, hp _⟩)
  have h : ¬ L ≤ k := fun z => c (nI_le z hk)
  exact vp_in_nI (by omega) hL
theorem lw_mod {x p : Int32} {k : Nat} (h0 : 0 < k) (hk : k < 2 ^ 30) (e : p = nI k) (post : Int32 → Prop) (hp : ∀ j, j < k → post (nI j)) : wpL_mod post () x p := by
  subst e
  obtain ⟨j, hj, h⟩ := oa_md x h0 hk
  refine ⟨nI_ne0 h0 (by omega), nm_e ?_⟩
  rcases h with ⟨h1, h2⟩ | ⟨h1, h2⟩
  · refine br_f (Int32.not_le.mpr h1) ?_
    rw [h2]
    exact hp j hj
  · refine br_t (Int32.not_lt.mp h1) ?_
    rw [h2]
    exact hp j hj
theorem lw_ab {a b : Nat} (ha : a < 2 ^ 30) (hb : b < 2 ^ 30) (post : Int32 → Prop) (hp : post (nI (oa_ds a b))) : wpL_absDiff post () (nI a) (nI b) := by
  refine nm_r (show _ = lN a - lN b by rw [nI_l (by omega), nI_l (by omega)]) ?_
  rcases oa_ab ha hb with ⟨h1, h2⟩ | ⟨h1, h2⟩
  · refine br_t (Int64.not_lt.mp h1) ?_
    rw [h2]
    exact hp
  · refine br_f (Int64.not_le.mpr h1) ?_
    rw [h2]
    exact hp
theorem lw_av {V p j : Nat} {o d a b : Int32} {P : Nat → Int32} (st : oa_ST V o d a b P p) (hj : j < 3) (post : Int32 → Prop) (hp : post (oa_av1 o P p j)) : wpL_accessVar post () o d a b (nI j) := by
  have jj : j = 0 ∨ j = 1 ∨ j = 2 := by omega
  rcases st with ⟨z, hz, rfl, _, _, _, h4, h5, h6⟩ | ⟨rfl, _, _, h3, h4⟩ | ⟨rfl, _, h2⟩ | ⟨rfl, _, h2⟩
  · have hn := oa_na5 hz
    refine br_f (nI_pos (by omega)) (br_f (nI_nlt (a := 5) hz (by decide)) ?_)
    rcases jj with rfl | rfl | rfl
    · rw [oa_av1_t (by rw [hn]; omega), Nat.add_zero, h4] at hp
      exact br_t rfl hp
    · rw [oa_av1_t (by rw [hn]; omega), h5] at hp
      exact br_f (by decide) (br_t rfl hp)
    · rw [oa_av1_t (by rw [hn]; omega), h6] at hp
      exact br_f (by decide) (br_f (by decide) hp)
  · refine br_f (by decide) (br_t (by decide) (br_t rfl ?_))
    rcases jj with rfl | rfl | rfl
    · rw [oa_av1_t (by decide), Nat.add_zero, h3] at hp
      exact br_t rfl hp
    · rw [oa_av1_t (by decide), h4] at hp
      exact br_f (by decide) (br_t rfl hp)
    · rw [oa_av1_f (by decide)] at hp
      exact br_f (by decide) (br_f (by decide) hp)
  · refine br_f (by decide) (br_t (by decide) (br_f (by decide) (br_t rfl ?_)))
    rcases jj with rfl | rfl | rfl
    · rw [oa_av1_t (by decide), Nat.add_zero, h2] at hp
      exact br_t rfl hp
    · rw [oa_av1_f (by decide)] at hp
      exact br_f (by decide) hp
    · rw [oa_av1_f (by decide)] at hp
      exact br_f (by decide) hp
  · refine br_f (by decide) (br_t (by decide) (br_f (by decide) (br_f (by decide) (br_t rfl ?_))))
    rcases jj with rfl | rfl | rfl
    · rw [oa_av1_t (by decide), Nat.add_zero, h2] at hp
      exact br_t rfl hp
    · rw [oa_av1_f (by decide)] at hp
      exact br_f (by decide) hp
    · rw [oa_av1_f (by decide)] at hp
      exact br_f (by decide) hp
