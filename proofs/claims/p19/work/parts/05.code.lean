/-! the code of a program: what both sides hold, and the machine's memory at its start -/
/-- the number of OUT among the first n instructions from b on -/
def oa_oc (op : Nat → Int32) (b : Nat) : Nat → Nat
  | 0 => 0
  | n + 1 => oa_oc op b n + if op (b + n) = 10 then 1 else 0
theorem oa_oc_cg {op op' : Nat → Int32} {b : Nat} : ∀ n, (∀ i, i < n → op' (b + i) = op (b + i)) → oa_oc op' b n = oa_oc op b n := by
  intro n
  induction n with
  | zero => intro _; rfl
  | succ n ih =>
    intro h
    rw [oa_oc, oa_oc, ih (fun i hi => h i (by omega)), h n (by omega)]
theorem oa_oc_mono (op : Nat → Int32) (b : Nat) : ∀ j i, i ≤ j → oa_oc op b i ≤ oa_oc op b j := by
  intro j
  induction j with
  | zero => intro i hi; rw [show i = 0 by omega]; exact Nat.le_refl _
  | succ j ih =>
    intro i hi
    by_cases e : i = j + 1
    · rw [e]; exact Nat.le_refl _
    · have := ih i (by omega)
      rw [oa_oc]
      omega
theorem oa_oc_lt {op : Nat → Int32} {b i j : Nat} (h : op (b + i) = 10) (hij : i < j) : oa_oc op b i + 1 ≤ oa_oc op b j := by
  have := oa_oc_mono op b j (i + 1) (by omega)
  rw [oa_oc, if_pos h] at this
  exact this
/-- program w has L instructions, at most q of them OUT -/
def oa_CI (nR w L q : Nat) (op rg len : Nat → Int32) : Prop :=
  len w = nI L ∧ (∀ i, i < L → (∃ o, o ≤ 10 ∧ op (192 * w + i) = nI o) ∧ ∃ r, r < nR ∧ rg (192 * w + i) = nI r) ∧ oa_oc op (192 * w) L ≤ q
theorem oa_CI_up {nR w L q q' : Nat} {op rg len : Nat → Int32} (h : oa_CI nR w L q op rg len) (hq : q ≤ q') : oa_CI nR w L q' op rg len :=
  ⟨h.1, h.2.1, Nat.le_trans h.2.2 hq⟩
/-- an instruction more -/
theorem oa_CI_emit {nR w L q o r : Nat} {op rg len : Nat → Int32} (h : oa_CI nR w L q op rg len) (ho : o ≤ 10) (hr : r < nR) :
    oa_CI nR w (L + 1) (q + if o = 10 then 1 else 0) (upd op (192 * w + L) (nI o)) (upd rg (192 * w + L) (nI r)) (upd len w (nI (L + 1))) := by
  obtain ⟨h1, h2, h3⟩ := h
  refine ⟨pk_us, ?_, ?_⟩
  · intro i hi
    by_cases e : i = L
    · rw [e, pk_us, pk_us]; exact ⟨⟨o, ho, rfl⟩, r, hr, rfl⟩
    · rw [pk_un (by omega), pk_un (by omega)]; exact h2 i (by omega)
  · have hcg : oa_oc (upd op (192 * w + L) (nI o)) (192 * w) L = oa_oc op (192 * w) L := oa_oc_cg L (fun i hi => pk_un (by omega))
    rw [oa_oc, hcg, pk_us]
    have e10 : (nI o = 10) ↔ o = 10 := nI_eq (b := 10) (by omega) (by decide)
    by_cases e : o = 10
    · rw [if_pos (e10.mpr e), if_pos e]; omega
    · rw [if_neg (fun z => e (e10.mp z)), if_neg e]; omega
/-- the other program stays -/
theorem oa_CI_other {nR w w' L L' q' : Nat} {o r l : Int32} {op rg len : Nat → Int32} (h : oa_CI nR w' L' q' op rg len) (hL : L < 192) (hL' : L' ≤ 192) (hw : w' ≠ w) :
    oa_CI nR w' L' q' (upd op (192 * w + L) o) (upd rg (192 * w + L) r) (upd len w l) := by
  obtain ⟨h1, h2, h3⟩ := h
  refine ⟨by rw [pk_un hw]; exact h1, ?_, ?_⟩
  · intro i hi
    rw [pk_un (by omega), pk_un (by omega)]; exact h2 i hi
  · have hcg : oa_oc (upd op (192 * w + L) o) (192 * w') L' = oa_oc op (192 * w') L' := oa_oc_cg L' (fun i hi => pk_un (by omega))
    rw [hcg]; exact h3
/-- initial values into their cells -/
def oa_mi (m : Nat → Int32) (b : Nat) (cell : Nat → Nat) (ini : Nat → Int32) : Nat → Nat → Int32
  | 0 => m
  | v + 1 => upd (oa_mi m b cell ini v) (b + cell v) (ini v)
theorem oa_mi_hit {m m' : Nat → Int32} {b : Nat} {cell : Nat → Nat} {ini : Nat → Int32} {c : Nat} : ∀ n, (∃ v, v < n ∧ b + cell v = c) → oa_mi m b cell ini n c = oa_mi m' b cell ini n c := by
  intro n
  induction n with
  | zero => rintro ⟨v, hv, _⟩; omega
  | succ n ih =>
    rintro ⟨v, hv, e⟩
    rw [oa_mi, oa_mi]
    by_cases e2 : c = b + cell n
    · rw [e2, pk_us, pk_us]
    · rw [pk_un e2, pk_un e2]
      have : v ≠ n := fun z => e2 (by rw [← e, z])
      exact ih ⟨v, by omega, e⟩
theorem oa_mi_out {m : Nat → Int32} {b : Nat} {cell : Nat → Nat} {ini : Nat → Int32} {c : Nat} : ∀ n, (∀ v, v < n → c ≠ b + cell v) → oa_mi m b cell ini n c = m c := by
  intro n
  induction n with
  | zero => intro _; rfl
  | succ n ih =>
    intro h
    rw [oa_mi, pk_un (h n (by omega))]
    exact ih (fun v hv => h v (by omega))
/-- cells filled one by one -/
def oa_fill (f g : Nat → Int32) (n : Nat) : Nat → Int32 := fun j => if j < n then g j else f j
theorem oa_fill_0 (f g : Nat → Int32) : oa_fill f g 0 = f := by
  funext j
  exact if_neg (by omega)
theorem oa_fill_s {f g : Nat → Int32} {n : Nat} {x : Int32} (h : x = g n) : upd (oa_fill f g n) n x = oa_fill f g (n + 1) := by
  funext j
  unfold upd oa_fill
  by_cases e : j = n
  · rw [if_pos e, if_pos (by omega), e, h]
  · rw [if_neg e]
    by_cases e2 : j < n
    · rw [if_pos e2, if_pos (by omega)]
    · rw [if_neg e2, if_neg (by omega)]
theorem oa_fill_lt {f g : Nat → Int32} {n j : Nat} (h : j < n) : oa_fill f g n j = g j := if_pos h
theorem oa_fill_ge {f g : Nat → Int32} {n j : Nat} (h : n ≤ j) : oa_fill f g n j = f j := if_neg (by omega)
theorem oa_uu {f : Nat → Int32} {k : Nat} {x y : Int32} : upd (upd f k x) k y = upd f k y := by
  funext j
  unfold upd
  split <;> rfl
/-- a chain's name is changed -/
def oa_rn (c : Nat → Int32) (a b : Int32) (n : Nat) : Nat → Int32 := fun j => if j < n ∧ c j = a then b else c j
theorem oa_rn_0 (c : Nat → Int32) (a b : Int32) : oa_rn c a b 0 = c := by
  funext j
  exact if_neg (by omega)
theorem oa_rn_self {c : Nat → Int32} {a b : Int32} {n : Nat} : oa_rn c a b n n = c n := if_neg (by omega)
theorem oa_rn_t {c : Nat → Int32} {a b : Int32} {n : Nat} (h : c n = a) : upd (oa_rn c a b n) n b = oa_rn c a b (n + 1) := by
  funext j
  unfold upd oa_rn
  by_cases e : j = n
  · rw [if_pos e, if_pos ⟨by omega, by rw [e]; exact h⟩]
  · rw [if_neg e]
    by_cases e2 : j < n ∧ c j = a
    · rw [if_pos e2, if_pos ⟨by omega, e2.2⟩]
    · rw [if_neg e2, if_neg (fun z => e2 ⟨by omega, z.2⟩)]
theorem oa_rn_f {c : Nat → Int32} {a b : Int32} {n : Nat} (h : ¬ c n = a) : oa_rn c a b n = oa_rn c a b (n + 1) := by
  funext j
  unfold oa_rn
  by_cases e2 : j < n ∧ c j = a
  · rw [if_pos e2, if_pos ⟨by omega, e2.2⟩]
  · rw [if_neg e2, if_neg]
    rintro ⟨z1, z2⟩
    by_cases e : j = n
    · rw [e] at z2; exact h z2
    · exact e2 ⟨by omega, z2⟩
