/-! the table of weights as X fills it -/
def oa_wA (w0 R a : Nat → Int32) (n : Nat) : Nat → Nat → Int32
  | 0 => w0
  | j + 1 => if oa_fo R a n j < n then (if a j = a (oa_fo R a n j) then oa_wA w0 R a n j else
      upd (upd (oa_wA w0 R a n j) ((a j).toNatClampNeg * 16 + (a (oa_fo R a n j)).toNatClampNeg) (oa_wA w0 R a n j ((a j).toNatClampNeg * 16 + (a (oa_fo R a n j)).toNatClampNeg) + 1))
        ((a (oa_fo R a n j)).toNatClampNeg * 16 + (a j).toNatClampNeg) (upd (oa_wA w0 R a n j) ((a j).toNatClampNeg * 16 + (a (oa_fo R a n j)).toNatClampNeg) (oa_wA w0 R a n j ((a j).toNatClampNeg * 16 + (a (oa_fo R a n j)).toNatClampNeg) + 1) ((a (oa_fo R a n j)).toNatClampNeg * 16 + (a j).toNatClampNeg) + 1)) else oa_wA w0 R a n j
theorem oa_wA_wt {w0 R a : Nat → Int32} {n : Nat} (h0 : ∀ p, p < 256 → w0 p = 0) (ha : ∀ j, j < n → ∃ k, k < 16 ∧ a j = nI k) :
    ∀ i, i ≤ n → ∀ x y, x < 16 → y < 16 → oa_wA w0 R a n i (x * 16 + y) = oa_wt R a n (nI x) (nI y) i := by
  intro i
  induction i with
  | zero => intro _ x y hx hy; exact h0 _ (by omega)
  | succ i ih =>
    intro hi x y hx hy
    have ih := ih (by omega)
    rw [oa_wA, oa_wt]
    by_cases hf : oa_fo R a n i < n
    · rw [if_pos hf]
      by_cases he : a i = a (oa_fo R a n i)
      · rw [if_pos he, if_neg (fun z => z.2.1 he)]; exact ih x y hx hy
      · rw [if_neg he]
        obtain ⟨u, hu, eu⟩ := ha i (by omega)
        obtain ⟨v, hv, ev⟩ := ha (oa_fo R a n i) hf
        generalize oa_wA w0 R a n i = m at ih ⊢
        rw [eu, ev] at he
        rw [eu, ev, nI_clamp (by omega), nI_clamp (by omega)]
        have uv : u ≠ v := fun z => he (by rw [z])
        have pm : oa_pm (nI x) (nI y) (nI u) (nI v) ↔ (u = x ∧ v = y) ∨ (u = y ∧ v = x) := by
          unfold oa_pm
          rw [nI_eq (by omega) (by omega), nI_eq (by omega) (by omega), nI_eq (by omega) (by omega), nI_eq (by omega) (by omega)]
        by_cases h1 : u = x ∧ v = y
        · rw [if_pos ⟨hf, he, pm.mpr (Or.inl h1)⟩, pk_un (by rw [← h1.1, ← h1.2]; intro z; exact uv ((oa_cell hv hu).mp z).1), ← h1.1, ← h1.2, pk_us, ih u v hu hv]
        · by_cases h2 : u = y ∧ v = x
          · rw [if_pos ⟨hf, he, pm.mpr (Or.inr h2)⟩, ← h2.1, ← h2.2, pk_us, pk_un (by intro z; exact uv ((oa_cell hu hv).mp z).1.symm), ih v u hv hu]
          · rw [if_neg (fun z => (pm.mp z.2.2).elim h1 h2), pk_un (by intro z; have := (oa_cell hy hu).mp z; exact h2 ⟨this.2.symm, this.1.symm⟩), pk_un (by intro z; have := (oa_cell hy hv).mp z; exact h1 ⟨this.1.symm, this.2.symm⟩)]
            exact ih x y hx hy
    · rw [if_neg hf, if_neg (fun z => hf z.1)]; exact ih x y hx hy
/-- the table as Y fills it -/
def oa_wY (R a : Nat → Int32) (V n : Nat) (p : Nat) : Int32 :=
  if p / 16 < p % 16 ∧ p % 16 < V ∧ R (p / 16) = R (p % 16) then oa_ct R a (R (p / 16)) (nI (p / 16)) (nI (p % 16)) n else 0
theorem oa_wA_wY {w0 R a : Nat → Int32} {n V u v : Nat} (hV : V ≤ 16) (h0 : ∀ p, p < 256 → w0 p = 0) (ha : ∀ j, j < n → ∃ k, k < 16 ∧ a j = nI k) (huv : u < v) (hv : v < V) :
    oa_wA w0 R a n n (u * 16 + v) = oa_wY R a V n (u * 16 + v) := by
  rw [oa_wA_wt h0 ha n (Nat.le_refl n) u v (by omega) (by omega)]
  unfold oa_wY
  rw [show (u * 16 + v) / 16 = u by omega, show (u * 16 + v) % 16 = v by omega]
  by_cases hr : R u = R v
  · rw [if_pos ⟨huv, hv, hr⟩]
    exact oa_wt_ct (by rw [nI_clamp (by omega)]) (by rw [nI_clamp (by omega), hr]) (fun z => by have := oa_inj (by omega) (by omega) z; omega) (oa_ne (by omega)) (oa_ne (by omega))
  · rw [if_neg (fun z => hr z.2.2)]
    exact oa_wt_0 (by rw [nI_clamp (by omega), nI_clamp (by omega)]; exact hr) n (Nat.le_refl n)
theorem oa_wY_0 {R a : Nat → Int32} {n V u v : Nat} (hv : v < 16) (h : ¬ (u < v ∧ v < V)) : oa_wY R a V n (u * 16 + v) = 0 := by
  unfold oa_wY
  rw [show (u * 16 + v) / 16 = u by omega, show (u * 16 + v) % 16 = v by omega, if_neg]
  exact fun z => h ⟨z.1, z.2.1⟩
/-- scans of equal accesses are equal -/
theorem oa_ct_cg {R a a' : Nat → Int32} {r u v : Int32} : ∀ n, (∀ j, j < n → a' j = a j) → oa_pv R a' r n = oa_pv R a r n ∧ oa_ct R a' r u v n = oa_ct R a r u v n := by
  intro n
  induction n with
  | zero => intro _; exact ⟨rfl, rfl⟩
  | succ n ih =>
    intro h
    obtain ⟨e1, e2⟩ := ih (fun j hj => h j (by omega))
    rw [oa_pv, oa_pv, oa_ct, oa_ct, h n (by omega), e1, e2]
    exact ⟨rfl, rfl⟩
