/-! statements and their accesses -/
def oa_na (o : Int32) : Nat := if o ≤ 5 then 3 else if o = 6 then 2 else 1
def oa_ps (sop : Nat → Int32) : Nat → Nat
  | 0 => 0
  | i + 1 => oa_ps sop i + oa_na (sop i)
theorem oa_na_le (o : Int32) : oa_na o ≤ 3 := by
  unfold oa_na
  split
  · omega
  · split <;> omega
theorem oa_ps_le (sop : Nat → Int32) : ∀ n, oa_ps sop n ≤ 3 * n := by
  intro n
  induction n with
  | zero => exact Nat.le_refl _
  | succ n ih => have := oa_na_le (sop n); rw [oa_ps]; omega
theorem oa_ps_mono (sop : Nat → Int32) : ∀ j i, i ≤ j → oa_ps sop i ≤ oa_ps sop j := by
  intro j
  induction j with
  | zero => intro i hi; rw [show i = 0 by omega]; exact Nat.le_refl _
  | succ j ih =>
    intro i hi
    by_cases e : i = j + 1
    · rw [e]; exact Nat.le_refl _
    · have := ih i (by omega)
      rw [oa_ps]
      omega
theorem oa_ps_cg {sop sop' : Nat → Int32} : ∀ n, (∀ i, i < n → sop' i = sop i) → oa_ps sop' n = oa_ps sop n := by
  intro n
  induction n with
  | zero => intro _; rfl
  | succ n ih => intro h; rw [oa_ps, oa_ps, ih (fun i hi => h i (by omega)), h n (by omega)]
def oa_vr (V : Nat) (x : Int32) : Prop := ∃ k, k < V ∧ x = nI k
/-- a good statement whose accesses stand in P from p on -/
def oa_ST (V : Nat) (o d a b : Int32) (P : Nat → Int32) (p : Nat) : Prop :=
  (∃ k, k ≤ 5 ∧ o = nI k ∧ oa_vr V d ∧ oa_vr V a ∧ oa_vr V b ∧ P p = a ∧ P (p + 1) = b ∧ P (p + 2) = d) ∨
  (o = 6 ∧ oa_vr V d ∧ oa_vr V a ∧ P p = a ∧ P (p + 1) = d) ∨ (o = 7 ∧ oa_vr V d ∧ P p = d) ∨ (o = 8 ∧ oa_vr V a ∧ P p = a)
theorem oa_na5 {k : Nat} (h : k ≤ 5) : oa_na (nI k) = 3 := if_pos (nI_le (b := 5) h (by decide))
theorem oa_na6 : oa_na 6 = 2 := by decide
theorem oa_na7 : oa_na 7 = 1 := by decide
theorem oa_na8 : oa_na 8 = 1 := by decide
theorem oa_ST_cg {V : Nat} {o d a b : Int32} {P P' : Nat → Int32} {p : Nat} (h : oa_ST V o d a b P p) (e : ∀ j, p ≤ j → j < p + oa_na o → P' j = P j) : oa_ST V o d a b P' p := by
  rcases h with ⟨k, hk, rfl, h1, h2, h3, h4, h5, h6⟩ | ⟨rfl, h1, h2, h3, h4⟩ | ⟨rfl, h1, h2⟩ | ⟨rfl, h1, h2⟩
  · rw [oa_na5 hk] at e
    exact Or.inl ⟨k, hk, rfl, h1, h2, h3, by rw [e p (by omega) (by omega)]; exact h4, by rw [e (p + 1) (by omega) (by omega)]; exact h5, by rw [e (p + 2) (by omega) (by omega)]; exact h6⟩
  · rw [oa_na6] at e
    exact Or.inr (Or.inl ⟨rfl, h1, h2, by rw [e p (by omega) (by omega)]; exact h3, by rw [e (p + 1) (by omega) (by omega)]; exact h4⟩)
  · rw [oa_na7] at e
    exact Or.inr (Or.inr (Or.inl ⟨rfl, h1, by rw [e p (by omega) (by omega)]; exact h2⟩))
  · rw [oa_na8] at e
    exact Or.inr (Or.inr (Or.inr ⟨rfl, h1, by rw [e p (by omega) (by omega)]; exact h2⟩))
theorem oa_ST_vr {V : Nat} {o d a b : Int32} {P : Nat → Int32} {p : Nat} (h : oa_ST V o d a b P p) : ∀ j, p ≤ j → j < p + oa_na o → oa_vr V (P j) := by
  intro j hj hj2
  rcases h with ⟨k, hk, rfl, h1, h2, h3, h4, h5, h6⟩ | ⟨rfl, h1, h2, h3, h4⟩ | ⟨rfl, h1, h2⟩ | ⟨rfl, h1, h2⟩
  · rw [oa_na5 hk] at hj2
    by_cases e0 : j = p
    · rw [e0, h4]; exact h2
    · by_cases e1 : j = p + 1
      · rw [e1, h5]; exact h3
      · rw [show j = p + 2 by omega, h6]; exact h1
  · rw [oa_na6] at hj2
    by_cases e0 : j = p
    · rw [e0, h3]; exact h2
    · rw [show j = p + 1 by omega, h4]; exact h1
  · rw [oa_na7] at hj2
    rw [show j = p by omega, h2]; exact h1
  · rw [oa_na8] at hj2
    rw [show j = p by omega, h2]; exact h1
/-- the block's first n statements, with their accesses in P -/
def oa_SS (V n : Nat) (sop sd sa sb P : Nat → Int32) : Prop := ∀ i, i < n → oa_ST V (sop i) (sd i) (sa i) (sb i) P (oa_ps sop i)
theorem oa_SS_vr {V : Nat} {sop sd sa sb P : Nat → Int32} : ∀ n, oa_SS V n sop sd sa sb P → ∀ j, j < oa_ps sop n → oa_vr V (P j) := by
  intro n
  induction n with
  | zero => intro _ j hj; exact absurd hj (by rw [oa_ps]; omega)
  | succ n ih =>
    intro h j hj
    by_cases e : j < oa_ps sop n
    · exact ih (fun i hi => h i (by omega)) j e
    · rw [oa_ps] at hj
      exact oa_ST_vr (h n (by omega)) j (by omega) hj
/-- one more -/
theorem oa_SS_add {V n : Nat} {sop sd sa sb P P' : Nat → Int32} {o d a b : Int32} (h : oa_SS V n sop sd sa sb P) (eP : ∀ j, j < oa_ps sop n → P' j = P j) (hn : oa_ST V o d a b P' (oa_ps sop n)) :
    oa_SS V (n + 1) (upd sop n o) (upd sd n d) (upd sa n a) (upd sb n b) P' ∧ oa_ps (upd sop n o) (n + 1) = oa_ps sop n + oa_na o := by
  have e1 : ∀ i, i ≤ n → oa_ps (upd sop n o) i = oa_ps sop i := fun i hi => oa_ps_cg i (fun j hj => pk_un (by omega))
  refine ⟨?_, ?_⟩
  · intro i hi
    rw [e1 i (by omega)]
    by_cases e : i = n
    · rw [e, pk_us, pk_us, pk_us, pk_us]; exact hn
    · rw [pk_un e, pk_un e, pk_un e, pk_un e]
      refine oa_ST_cg (h i (by omega)) (fun j _ hj => eP j ?_)
      have : oa_ps sop (i + 1) ≤ oa_ps sop n := oa_ps_mono sop n (i + 1) (by omega)
      rw [oa_ps] at this
      omega
  · rw [oa_ps, e1 n (Nat.le_refl n), pk_us]
