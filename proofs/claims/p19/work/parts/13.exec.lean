/-! the machine: X's methods as functions. A state: memory, address registers, accumulator, outputs, their number (X); memory, address registers, number (Y) -/
abbrev oa_M : Type := (Nat → Int32) × (Nat → Int32) × Int32 × (Nat → Int32) × (Nat → Int32) × (Nat → Int32) × (Nat → Int32) × (Nat → Int32)
def oa_cb (o l r : Int32) : Int32 := if o = 2 then l + r else if o = 3 then l - r else if o = 4 then l * r else if o = 5 then l &&& r else if o = 6 then l ||| r else if o = 7 then l ^^^ r else r
abbrev oa_in (V : Nat) (a : Int32) : Prop := 0 ≤ a ∧ a < nI V
theorem oa_in_c {V : Nat} {a : Int32} (hV : V ≤ 16) (h : oa_in V a) : ∃ c, c < V ∧ a = nI c := by
  obtain ⟨c, hc, rfl⟩ := nI_of (x := a) (Int32.not_lt.mpr h.1)
  exact ⟨c, (nI_ltI hc (by omega)).mp h.2, rfl⟩
def oa_x1 (V w : Nat) (o r x : Int32) (m : oa_M) : oa_M :=
  if o = 0 then (m.1, upd m.2.1 r.toNatClampNeg x, m.2.2.1, m.2.2.2.1, m.2.2.2.2.1, m.2.2.2.2.2.1, upd m.2.2.2.2.2.2.1 r.toNatClampNeg x, m.2.2.2.2.2.2.2)
  else if o = 9 then (m.1, m.2.1, x, m.2.2.2)
  else if o = 10 then (m.1, m.2.1, m.2.2.1, upd m.2.2.2.1 (32 * w + (m.2.2.2.2.1 w).toNatClampNeg) m.2.2.1, upd m.2.2.2.2.1 w (m.2.2.2.2.1 w + 1), m.2.2.2.2.2.1, m.2.2.2.2.2.2.1, upd m.2.2.2.2.2.2.2 w (m.2.2.2.2.2.2.2 w + 1))
  else if o = 8 then
    (if oa_in V (m.2.1 r.toNatClampNeg) then upd m.1 (16 * w + (m.2.1 r.toNatClampNeg).toNatClampNeg) m.2.2.1 else m.1, upd m.2.1 r.toNatClampNeg (m.2.1 r.toNatClampNeg + x), m.2.2.1, m.2.2.2.1, m.2.2.2.2.1,
     if oa_in V (m.2.1 r.toNatClampNeg) then upd m.2.2.2.2.2.1 (16 * w + (m.2.1 r.toNatClampNeg).toNatClampNeg) m.2.2.1 else m.2.2.2.2.2.1, upd m.2.2.2.2.2.2.1 r.toNatClampNeg (m.2.1 r.toNatClampNeg + x), m.2.2.2.2.2.2.2)
  else
    (m.1, upd m.2.1 r.toNatClampNeg (m.2.1 r.toNatClampNeg + x), oa_cb o m.2.2.1 (if oa_in V (m.2.1 r.toNatClampNeg) then m.1 (16 * w + (m.2.1 r.toNatClampNeg).toNatClampNeg) else 0), m.2.2.2.1, m.2.2.2.2.1,
     m.2.2.2.2.2.1, upd m.2.2.2.2.2.2.1 r.toNatClampNeg (m.2.1 r.toNatClampNeg + x), m.2.2.2.2.2.2.2)
def oa_xs (V w : Nat) (op rg od : Nat → Int32) : Nat → oa_M → oa_M
  | 0, m => m
  | i + 1, m => oa_x1 V w (op (192 * w + i)) (rg (192 * w + i)) (od (192 * w + i)) (oa_xs V w op rg od i m)
/-- before instruction i -/
def oa_MI (V nR w i : Nat) (op : Nat → Int32) (m0 m : oa_M) : Prop :=
  (∀ r, r < nR → m.2.2.2.2.2.2.1 r = m.2.1 r) ∧ (∀ w' c, w' < 2 → c < V → m.2.2.2.2.2.1 (16 * w' + c) = m.1 (16 * w' + c)) ∧
  m.2.2.2.2.1 w = nI (oa_oc op (192 * w) i) ∧ m.2.2.2.2.2.2.2 w = nI (oa_oc op (192 * w) i) ∧
  (∀ w', w' ≠ w → m.2.2.2.2.1 w' = m0.2.2.2.2.1 w' ∧ m.2.2.2.2.2.2.2 w' = m0.2.2.2.2.2.2.2 w')
theorem oa_up_eq {f g : Nat → Int32} {n k : Nat} {x : Int32} (h : ∀ r, r < n → g r = f r) : ∀ r, r < n → upd g k x r = upd f k x r := by
  intro r hr
  unfold upd
  split
  · rfl
  · exact h r hr
theorem oa_up_mem {f g : Nat → Int32} {V k : Nat} {x : Int32} (h : ∀ w' c, w' < 2 → c < V → g (16 * w' + c) = f (16 * w' + c)) : ∀ w' c, w' < 2 → c < V → upd g k x (16 * w' + c) = upd f k x (16 * w' + c) := by
  intro w' c h1 h2
  unfold upd
  split
  · rfl
  · exact h w' c h1 h2
theorem oa_x1_I {V nR w i : Nat} {op : Nat → Int32} {r x : Int32} {m0 m : oa_M} (h : oa_MI V nR w i op m0 m) : oa_MI V nR w (i + 1) op m0 (oa_x1 V w (op (192 * w + i)) r x m) := by
  obtain ⟨h1, h2, h3, h4, h5⟩ := h
  have eo : oa_oc op (192 * w) (i + 1) = oa_oc op (192 * w) i + if op (192 * w + i) = 10 then 1 else 0 := rfl
  unfold oa_MI
  rw [eo]
  unfold oa_x1
  by_cases c0 : op (192 * w + i) = 0
  · rw [if_pos c0, if_neg (by rw [c0]; decide), Nat.add_zero]
    exact ⟨oa_up_eq h1, h2, h3, h4, h5⟩
  · rw [if_neg c0]
    by_cases c9 : op (192 * w + i) = 9
    · rw [if_pos c9, if_neg (by rw [c9]; decide), Nat.add_zero]
      exact ⟨h1, h2, h3, h4, h5⟩
    · rw [if_neg c9]
      by_cases c10 : op (192 * w + i) = 10
      · rw [if_pos c10, if_pos c10]
        refine ⟨h1, h2, ?_, ?_, ?_⟩
        · show upd m.2.2.2.2.1 w (m.2.2.2.2.1 w + 1) w = _
          rw [pk_us, h3, nI_1]
        · show upd m.2.2.2.2.2.2.2 w (m.2.2.2.2.2.2.2 w + 1) w = _
          rw [pk_us, h4, nI_1]
        · intro w' hw
          show upd m.2.2.2.2.1 w (m.2.2.2.2.1 w + 1) w' = _ ∧ upd m.2.2.2.2.2.2.2 w (m.2.2.2.2.2.2.2 w + 1) w' = _
          rw [pk_un hw, pk_un hw]
          exact h5 w' hw
      · rw [if_neg c10, if_neg c10, Nat.add_zero]
        by_cases c8 : op (192 * w + i) = 8
        · rw [if_pos c8]
          refine ⟨oa_up_eq h1, ?_, h3, h4, h5⟩
          by_cases ci : oa_in V (m.2.1 r.toNatClampNeg)
          · rw [if_pos ci, if_pos ci]; exact oa_up_mem h2
          · rw [if_neg ci, if_neg ci]; exact h2
        · rw [if_neg c8]
          exact ⟨oa_up_eq h1, h2, h3, h4, h5⟩
theorem oa_xs_I {V nR w : Nat} {op rg od : Nat → Int32} {m0 m : oa_M} (h : oa_MI V nR w 0 op m0 m) : ∀ i, oa_MI V nR w i op m0 (oa_xs V w op rg od i m) := by
  intro i
  induction i with
  | zero => exact h
  | succ i ih => exact oa_x1_I ih
/-- the memory at the start -/
theorem oa_mem0 {V w : Nat} {mx my ini : Nat → Int32} {cell : Nat → Nat} (hV : V ≤ 16) (h : ∀ w' c, w' < 2 → c < V → my (16 * w' + c) = mx (16 * w' + c)) (hc : ∀ v, v < V → cell v < V) (hs : ∀ a, a < V → ∃ v, v < V ∧ cell v = a) :
    ∀ w' c, w' < 2 → c < V → oa_mi (oa_mi my (16 * w) (fun c => c) (fun _ => 0) 16) (16 * w) cell ini V (16 * w' + c) = oa_mi mx (16 * w) cell ini V (16 * w' + c) := by
  intro w' c h1 h2
  by_cases e : w' = w
  · subst e
    obtain ⟨v, hv, ev⟩ := hs c h2
    exact oa_mi_hit V ⟨v, hv, by rw [ev]⟩
  · have n1 : ∀ v, v < V → 16 * w' + c ≠ 16 * w + cell v := by
      intro v hv
      have := hc v hv
      omega
    have n2 : ∀ v, v < 16 → 16 * w' + c ≠ 16 * w + (fun c => c) v := by
      intro v hv
      show 16 * w' + c ≠ 16 * w + v
      omega
    rw [oa_mi_out V n1, oa_mi_out 16 n2, oa_mi_out V n1]
    exact h w' c h1 h2
