/-! for the law: remainders, distances, a register's scan -/
theorem oa_z0 : (0 : Int32).toInt = 0 := by decide
theorem oa_md (x : Int32) {k : Nat} (h0 : 0 < k) (hk : k < 2 ^ 30) :
    ∃ j, j < k ∧ ((x - x / nI k * nI k < 0 ∧ x - x / nI k * nI k + nI k = nI j) ∨ (¬ x - x / nI k * nI k < 0 ∧ x - x / nI k * nI k = nI j)) := by
  have tk : (nI k).toInt = (k : Int) := nI_toInt (by omega)
  have b1 := Int.lt_tmod_of_pos x.toInt (show (0 : Int) < k by omega)
  have b2 := Int.tmod_lt_of_pos x.toInt (show (0 : Int) < k by omega)
  have e : (x - x / nI k * nI k).toInt = x.toInt.tmod k := by
    rw [Int32.toInt_sub, Int32.toInt_mul, Int32.toInt_div, Int.bmod_mul_bmod, Int.sub_bmod_bmod, Int.mul_comm (x.toInt.tdiv (nI k).toInt), ← Int.tmod_def, tk]
    exact Int.bmod_eq_of_le_mul_two (by omega) (by omega)
  rw [← e] at b1 b2
  generalize x - x / nI k * nI k = y at b1 b2 ⊢
  by_cases c : y < 0
  · have c' : y.toInt < 0 := by
      rw [Int32.lt_iff_toInt_lt, oa_z0] at c
      exact c
    refine ⟨(y.toInt + k).toNat, by omega, Or.inl ⟨c, ?_⟩⟩
    apply Int32.toInt_inj.mp
    rw [Int32.toInt_add, tk, nI_toInt (by omega), Int.bmod_eq_of_le_mul_two (by omega) (by omega)]
    omega
  · have c' : ¬ y.toInt < 0 := fun h => c (by rw [Int32.lt_iff_toInt_lt, oa_z0]; exact h)
    refine ⟨y.toInt.toNat, by omega, Or.inr ⟨c, ?_⟩⟩
    apply Int32.toInt_inj.mp
    rw [nI_toInt (by omega)]
    omega
theorem oa_ab {a b : Nat} (ha : a < 2 ^ 30) (hb : b < 2 ^ 30) :
    (¬ lN a - lN b < 0 ∧ (lN a - lN b).toInt32 = nI (oa_ds a b)) ∨ (lN a - lN b < 0 ∧ (-(lN a - lN b)).toInt32 = nI (oa_ds a b)) := by
  by_cases h : b ≤ a
  · have ed : oa_ds a b = a - b := by
      unfold oa_ds
      omega
    refine Or.inl ⟨fun z => ?_, ?_⟩
    · rw [lN_sub h, show (0 : Int64) = lN 0 from rfl, pk_lLT (by omega) (by omega)] at z
      omega
    · rw [lN_sub h, lN_i, ed]
  · have ed : oa_ds a b = b - a := by
      unfold oa_ds
      omega
    refine Or.inr ⟨?_, ?_⟩
    · rw [Int64.lt_iff_toInt_lt, Int64.toInt_sub, pk_lT (show a < 2 ^ 63 by omega), pk_lT (show b < 2 ^ 63 by omega), Int.bmod_eq_of_le_mul_two (by omega) (by omega), show (0 : Int64).toInt = 0 from by decide]
      omega
    · rw [Int64.neg_sub, lN_sub (by omega), lN_i, ed]
section
variable {reg acc ad : Nat → Int32} {r : Int32} {P : Nat}
theorem oa_lr_ne (h : ¬ reg (acc P).toNatClampNeg = r) : oa_lr reg acc ad r (P + 1) = oa_lr reg acc ad r P ∧ oa_pv reg acc r (P + 1) = oa_pv reg acc r P := by
  have n1 : ¬ (reg (acc P).toNatClampNeg = r ∧ oa_lj reg acc ad P) := fun z => h z.1
  rw [oa_lr, if_neg n1, oa_pv, if_neg h]
  exact ⟨rfl, rfl⟩
theorem oa_pv_e (h : reg (acc P).toNatClampNeg = r) : oa_pv reg acc r (P + 1) = acc P := by
  rw [oa_pv, if_pos h]
theorem oa_lr_t (h : reg (acc P).toNatClampNeg = r) (l : oa_pv reg acc r P = -1 ∨ 1 < oa_ds (ad (oa_pv reg acc r P).toNatClampNeg).toNatClampNeg (ad (acc P).toNatClampNeg).toNatClampNeg) : oa_lr reg acc ad r (P + 1) = oa_lr reg acc ad r P + 1 := by
  subst h
  have p1 : reg (acc P).toNatClampNeg = reg (acc P).toNatClampNeg ∧ oa_lj reg acc ad P := ⟨rfl, l⟩
  rw [oa_lr, if_pos p1]
theorem oa_lr_f (h : reg (acc P).toNatClampNeg = r) (l : ¬ (oa_pv reg acc r P = -1 ∨ 1 < oa_ds (ad (oa_pv reg acc r P).toNatClampNeg).toNatClampNeg (ad (acc P).toNatClampNeg).toNatClampNeg)) : oa_lr reg acc ad r (P + 1) = oa_lr reg acc ad r P := by
  subst h
  have n1 : ¬ (reg (acc P).toNatClampNeg = reg (acc P).toNatClampNeg ∧ oa_lj reg acc ad P) := fun z => l z.2
  rw [oa_lr, if_neg n1, Nat.add_zero]
end
/-- what is before a position is nothing, or an access -/
theorem oa_pv_a {reg acc : Nat → Int32} {r : Int32} : ∀ n, oa_pv reg acc r n = -1 ∨ ∃ i, i < n ∧ oa_pv reg acc r n = acc i := by
  intro n
  induction n with
  | zero => exact Or.inl rfl
  | succ n ih =>
    rw [oa_pv]
    by_cases h : reg (acc n).toNatClampNeg = r
    · rw [if_pos h]; exact Or.inr ⟨n, Nat.lt_succ_self n, rfl⟩
    · rw [if_neg h]
      rcases ih with ih | ⟨i, hi, e⟩
      · exact Or.inl ih
      · exact Or.inr ⟨i, by omega, e⟩
/-- access j of a statement, as the law asks for it -/
def oa_av1 (o : Int32) (P : Nat → Int32) (p j : Nat) : Int32 := if j < oa_na o then P (p + j) else -1
theorem oa_av1_t {o : Int32} {P : Nat → Int32} {p j : Nat} (h : j < oa_na o) : oa_av1 o P p j = P (p + j) := if_pos h
theorem oa_av1_f {o : Int32} {P : Nat → Int32} {p j : Nat} (h : ¬ j < oa_na o) : oa_av1 o P p j = -1 := if_neg h
