/-! the access graph's weights: counted by followers (X) and by a scan with the previous access (Y) -/
/-- the first position at or behind i whose variable has register r, of d positions; else i + d -/
def oa_nx (R a : Nat → Int32) (r : Int32) : Nat → Nat → Nat
  | 0, i => i
  | d + 1, i => if R (a i).toNatClampNeg = r then i else oa_nx R a r d (i + 1)
theorem oa_nx_le (R a : Nat → Int32) (r : Int32) : ∀ d i, i ≤ oa_nx R a r d i ∧ oa_nx R a r d i ≤ i + d := by
  intro d
  induction d with
  | zero => intro i; exact ⟨Nat.le_refl _, Nat.le_refl _⟩
  | succ d ih =>
    intro i
    rw [oa_nx]
    split
    · omega
    · have := ih (i + 1); omega
theorem oa_nx_r (R a : Nat → Int32) (r : Int32) : ∀ d i, oa_nx R a r d i < i + d → R (a (oa_nx R a r d i)).toNatClampNeg = r := by
  intro d
  induction d with
  | zero => intro i h; exact absurd h (by rw [oa_nx]; omega)
  | succ d ih =>
    intro i h
    rw [oa_nx] at h ⊢
    by_cases hr : R (a i).toNatClampNeg = r
    · rw [if_pos hr]; exact hr
    · rw [if_neg hr] at h ⊢
      exact ih (i + 1) (by omega)
/-- the follower of position j among n -/
def oa_fo (R a : Nat → Int32) (n j : Nat) : Nat := oa_nx R a (R (a j).toNatClampNeg) (n - (j + 1)) (j + 1)
/-- the follower as X keeps it -/
def oa_fv (R a : Nat → Int32) (n j : Nat) : Int32 := if oa_fo R a n j < n then nI (oa_fo R a n j) else -1
theorem oa_fo_le {R a : Nat → Int32} {n j : Nat} (hj : j < n) : j < oa_fo R a n j ∧ oa_fo R a n j ≤ n := by
  have := oa_nx_le R a (R (a j).toNatClampNeg) (n - (j + 1)) (j + 1)
  unfold oa_fo
  omega
theorem oa_fo_r {R a : Nat → Int32} {n j : Nat} (hj : j < n) (h : oa_fo R a n j < n) : R (a (oa_fo R a n j)).toNatClampNeg = R (a j).toNatClampNeg :=
  oa_nx_r R a _ (n - (j + 1)) (j + 1) (by unfold oa_fo at h; omega)
abbrev oa_pm (u v p x : Int32) : Prop := (p = u ∧ x = v) ∨ (p = v ∧ x = u)
/-- the previous access to register r, before position i -/
def oa_pv (R a : Nat → Int32) (r : Int32) : Nat → Int32
  | 0 => -1
  | i + 1 => if R (a i).toNatClampNeg = r then a i else oa_pv R a r i
/-- the scan's count -/
def oa_ct (R a : Nat → Int32) (r u v : Int32) : Nat → Int32
  | 0 => 0
  | i + 1 => if R (a i).toNatClampNeg = r then (if oa_pm u v (oa_pv R a r i) (a i) then oa_ct R a r u v i + 1 else oa_ct R a r u v i) else oa_ct R a r u v i
/-- the count by followers -/
def oa_wt (R a : Nat → Int32) (n : Nat) (u v : Int32) : Nat → Int32
  | 0 => 0
  | j + 1 => if oa_fo R a n j < n ∧ a j ≠ a (oa_fo R a n j) ∧ oa_pm u v (a j) (a (oa_fo R a n j)) then oa_wt R a n u v j + 1 else oa_wt R a n u v j
theorem oa_wt_ct_i {R a : Nat → Int32} {n : Nat} {r u v : Int32} (hu : R u.toNatClampNeg = r) (hv : R v.toNatClampNeg = r) (huv : u ≠ v) (hu1 : u ≠ -1) (hv1 : v ≠ -1) :
    ∀ i, i ≤ n → oa_wt R a n u v i = oa_ct R a r u v i + (if oa_nx R a r (n - i) i < n ∧ oa_pm u v (oa_pv R a r i) (a (oa_nx R a r (n - i) i)) then 1 else 0) := by
  intro i
  induction i with
  | zero =>
    intro _
    rw [if_neg]
    · exact (Int32.add_zero _).symm
    · rintro ⟨_, h⟩
      rcases h with h | h
      · exact hu1 h.1.symm
      · exact hv1 h.1.symm
  | succ i ih =>
    intro hi
    have ih := ih (by omega)
    have e : n - i = (n - (i + 1)) + 1 := by omega
    rw [e] at ih
    by_cases hr : R (a i).toNatClampNeg = r
    · rw [oa_nx, if_pos hr] at ih
      have e1 : oa_ct R a r u v (i + 1) = oa_wt R a n u v i := by
        rw [oa_ct, if_pos hr, ih]
        by_cases hp : oa_pm u v (oa_pv R a r i) (a i)
        · rw [if_pos hp, if_pos ⟨by omega, hp⟩]
        · rw [if_neg hp, if_neg (fun h => hp h.2), Int32.add_zero]
      have e2 : oa_pv R a r (i + 1) = a i := by rw [oa_pv, if_pos hr]
      have e3 : oa_fo R a n i = oa_nx R a r (n - (i + 1)) (i + 1) := by unfold oa_fo; rw [hr]
      rw [e1, e2, ← e3, oa_wt]
      by_cases hq : oa_fo R a n i < n ∧ oa_pm u v (a i) (a (oa_fo R a n i))
      · rw [if_pos hq, if_pos]
        refine ⟨hq.1, ?_, hq.2⟩
        intro he
        rcases hq.2 with h | h
        · exact huv (by rw [← h.1, ← h.2, he])
        · exact huv (by rw [← h.1, ← h.2, he])
      · rw [if_neg hq, if_neg (fun h => hq ⟨h.1, h.2.2⟩), Int32.add_zero]
    · rw [oa_nx, if_neg hr] at ih
      have e1 : oa_ct R a r u v (i + 1) = oa_ct R a r u v i := by rw [oa_ct, if_neg hr]
      have e2 : oa_pv R a r (i + 1) = oa_pv R a r i := by rw [oa_pv, if_neg hr]
      rw [e1, e2, oa_wt, if_neg, ih]
      rintro ⟨_, _, h⟩
      rcases h with h | h
      · exact hr (by rw [h.1, hu])
      · exact hr (by rw [h.1, hv])
theorem oa_wt_ct {R a : Nat → Int32} {n : Nat} {r u v : Int32} (hu : R u.toNatClampNeg = r) (hv : R v.toNatClampNeg = r) (huv : u ≠ v) (hu1 : u ≠ -1) (hv1 : v ≠ -1) :
    oa_wt R a n u v n = oa_ct R a r u v n := by
  rw [oa_wt_ct_i hu hv huv hu1 hv1 n (Nat.le_refl n), Nat.sub_self, if_neg, Int32.add_zero]
  rintro ⟨h, _⟩
  rw [oa_nx] at h
  exact Nat.lt_irrefl _ h
theorem oa_wt_0 {R a : Nat → Int32} {n : Nat} {u v : Int32} (h : R u.toNatClampNeg ≠ R v.toNatClampNeg) : ∀ i, i ≤ n → oa_wt R a n u v i = 0 := by
  intro i
  induction i with
  | zero => intro _; rfl
  | succ i ih =>
    intro hi
    rw [oa_wt, if_neg, ih (by omega)]
    rintro ⟨hf, _, hp⟩
    have e := oa_fo_r (R := R) (a := a) (n := n) (j := i) (by omega) hf
    rcases hp with hp | hp
    · rw [hp.1, hp.2] at e; exact h e.symm
    · rw [hp.1, hp.2] at e; exact h e
