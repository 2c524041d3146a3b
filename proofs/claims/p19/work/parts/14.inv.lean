/-! what holds between two calls -/
def oa_SR (st sop sd sa sb : Nat → Int32) : Prop := ∀ i, i < 32 → st (i * 4) = sop i ∧ st (i * 4 + 1) = sd i ∧ st (i * 4 + 2) = sa i ∧ st (i * 4 + 3) = sb i
theorem oa_SR_add {st sop sd sa sb : Nat → Int32} {c : Nat} {o d a b : Int32} (h : oa_SR st sop sd sa sb) :
    oa_SR (upd (upd (upd (upd st (c * 4) o) (c * 4 + 1) d) (c * 4 + 2) a) (c * 4 + 3) b) (upd sop c o) (upd sd c d) (upd sa c a) (upd sb c b) := by
  intro i hi
  by_cases e : i = c
  · subst e
    refine ⟨?_, ?_, ?_, ?_⟩
    · rw [pk_un (by omega), pk_un (by omega), pk_un (by omega), pk_us, pk_us]
    · rw [pk_un (by omega), pk_un (by omega), pk_us, pk_us]
    · rw [pk_un (by omega), pk_us, pk_us]
    · rw [pk_us, pk_us]
  · rw [pk_un e, pk_un e, pk_un e, pk_un e]
    refine ⟨?_, ?_, ?_, ?_⟩
    all_goals rw [pk_un (by omega), pk_un (by omega), pk_un (by omega), pk_un (by omega)]
    · exact (h i hi).1
    · exact (h i hi).2.1
    · exact (h i hi).2.2.1
    · exact (h i hi).2.2.2
/-- compiled: addresses and code -/
def oa_IC (V nR : Nat) (ad ady op rg len : Nat → Int32) : Prop :=
  (∀ v, v < V → ady v = ad v ∧ ∃ a, a < V ∧ ad v = nI a) ∧ (∀ a, a < V → ∃ v, v < V ∧ ad v = nI a) ∧ (∀ w, w < 2 → ∃ L, L ≤ 192 ∧ oa_CI nR w L 32 op rg len)
def oa_I (V nR ph cnt : Nat) (reg st acc ad ady op rg len mx my ocx ocy sop sd sa sb : Nat → Int32) : Prop :=
  (2 ≤ V ∧ V ≤ 16) ∧ (1 ≤ nR ∧ nR ≤ 4) ∧ ph ≤ 2 ∧ cnt ≤ 32 ∧ (∀ v, v < V → ∃ r, r < nR ∧ reg v = nI r) ∧ oa_SR st sop sd sa sb ∧ oa_SS V cnt sop sd sa sb acc ∧
  (∀ w c, w < 2 → c < V → my (16 * w + c) = mx (16 * w + c)) ∧ (ph ≠ 0 → oa_IC V nR ad ady op rg len) ∧ (ph = 2 → ∀ w, w < 2 → ocy w = ocx w ∧ ∃ q, q ≤ 32 ∧ ocx w = nI q)
