/-! all joins: X's three loops as a function; Y's one loop follows it. A state: links f s, chains c, edges, degrees, components -/
abbrev oa_Q : Type := (Nat → Int32) × (Nat → Int32) × (Nat → Int32) × (Nat → Int32) × (Nat → Int32) × (Nat → Int32)
def oa_jj (V u v : Nat) (q : oa_Q) : oa_Q :=
  (oa_lf (oa_lf q.1 u v) v u, oa_ls (oa_lf q.1 u v) (oa_ls q.1 q.2.1 u v) v u, oa_rn q.2.2.1 (q.2.2.1 v) (q.2.2.1 u) V,
   upd (upd q.2.2.2.1 (u * 16 + v) 1) (v * 16 + u) 1, upd (upd q.2.2.2.2.1 u (q.2.2.2.2.1 u + 1)) v (q.2.2.2.2.1 v + 1), oa_rn q.2.2.2.2.2 (q.2.2.2.2.2 v) (q.2.2.2.2.2 u) 16)
abbrev oa_cj (q : oa_Q) (u v : Nat) : Prop := q.2.1 u = -1 ∧ q.2.1 v = -1 ∧ q.2.2.1 u ≠ q.2.2.1 v
def oa_j1 (W : Nat → Int32) (w : Int32) (V u v : Nat) (q : oa_Q) : oa_Q :=
  if W (u * 16 + v) = w ∧ oa_cj q u v then oa_jj V u v q else q
def oa_jv (W : Nat → Int32) (w : Int32) (V u : Nat) : Nat → Nat → oa_Q → oa_Q
  | 0, _, q => q
  | d + 1, v, q => oa_jv W w V u d (v + 1) (oa_j1 W w V u v q)
def oa_ju (W : Nat → Int32) (w : Int32) (V : Nat) : Nat → Nat → oa_Q → oa_Q
  | 0, _, q => q
  | d + 1, u, q => oa_ju W w V d (u + 1) (oa_jv W w V u (V - (u + 1)) (u + 1) q)
def oa_jw (W : Nat → Int32) (V : Nat) : Nat → oa_Q → oa_Q
  | 0, q => q
  | w + 1, q => oa_jw W V w (oa_ju W (nI (w + 1)) V V 0 q)
def oa_QI (V : Nat) (q : oa_Q) : Prop := oa_G V q.1 q.2.1 q.2.2.1 ∧ oa_JR V q.1 q.2.1 q.2.2.1 q.2.2.2.1 q.2.2.2.2.1 q.2.2.2.2.2
theorem oa_QI_jj {V u v : Nat} {q : oa_Q} (hV : V ≤ 16) (hu : u < V) (hv : v < V) (c : oa_cj q u v) (h : oa_QI V q) : oa_QI V (oa_jj V u v q) := by
  obtain ⟨g, r⟩ := h
  obtain ⟨su, sv, cc⟩ := c
  have huv : u ≠ v := fun z => cc (by rw [z])
  have j := oa_J_mk (V := V) (f := q.1) (s := q.2.1) (c := q.2.2.1) huv
  refine ⟨oa_J_G hV hu hv su sv cc j g, oa_JR_step hV hu hv g su sv cc j r ?_⟩
  intro x hx
  show oa_rn q.2.2.2.2.2 (q.2.2.2.2.2 v) (q.2.2.2.2.2 u) 16 x = _
  unfold oa_rn
  by_cases e : q.2.2.2.2.2 x = q.2.2.2.2.2 v
  · rw [if_pos ⟨by omega, e⟩, if_pos e]
  · rw [if_neg (fun z => e z.2), if_neg e]
/-- what Y asks before it joins -/
def oa_cY (q : oa_Q) (u v : Nat) : Prop := q.2.2.2.2.1 u < 2 ∧ q.2.2.2.2.1 v < 2 ∧ q.2.2.2.2.2 u ≠ q.2.2.2.2.2 v
theorem oa_cY_cj {V u v : Nat} {q : oa_Q} (hu : u < V) (hv : v < V) (h : oa_QI V q) : oa_cY q u v ↔ oa_cj q u v := by
  unfold oa_cY oa_cj
  rw [oa_JR_deg h.1 h.2 hu, oa_JR_deg h.1 h.2 hv, h.2.2.2 u hu, h.2.2.2 v hv]
theorem oa_j1_I {W : Nat → Int32} {w : Int32} {V u v : Nat} {q : oa_Q} (hV : V ≤ 16) (hu : u < V) (hv : v < V) (h : oa_QI V q) : oa_QI V (oa_j1 W w V u v q) := by
  unfold oa_j1
  split
  · rename_i c; exact oa_QI_jj hV hu hv c.2 h
  · exact h
theorem oa_jv_I {W : Nat → Int32} {w : Int32} {V u : Nat} (hV : V ≤ 16) (hu : u < V) : ∀ d v q, v + d ≤ V → oa_QI V q → oa_QI V (oa_jv W w V u d v q) := by
  intro d
  induction d with
  | zero => intro v q _ h; exact h
  | succ d ih => intro v q hv h; exact ih (v + 1) _ (by omega) (oa_j1_I hV hu (by omega) h)
theorem oa_ju_I {W : Nat → Int32} {w : Int32} {V : Nat} (hV : V ≤ 16) : ∀ d u q, u + d ≤ V → oa_QI V q → oa_QI V (oa_ju W w V d u q) := by
  intro d
  induction d with
  | zero => intro u q _ h; exact h
  | succ d ih => intro u q hu h; exact ih (u + 1) _ (by omega) (oa_jv_I hV (by omega) _ _ _ (by omega) h)
theorem oa_jw_I {W : Nat → Int32} {V : Nat} (hV : V ≤ 16) : ∀ w q, oa_QI V q → oa_QI V (oa_jw W V w q) := by
  intro w
  induction w with
  | zero => intro q h; exact h
  | succ w ih => intro q h; exact ih _ (oa_ju_I hV V 0 q (by omega) h)
section
variable {W wt : Nat → Int32} {V : Nat} {YW : Nat → Nat → oa_Q → Prop}
/-- Y's step at t, as a rule -/
def oa_YS (wt : Nat → Int32) (V : Nat) (YW : Nat → Nat → oa_Q → Prop) : Prop := ∀ k u v n q, k < 95 → u < 16 → v < 16 →
  (¬ (wt (u * 16 + v) = nI (95 - k) ∧ oa_cY q u v) → YW n (k * 256 + u * 16 + v + 1) q → YW (n + 1) (k * 256 + u * 16 + v) q) ∧
  ((wt (u * 16 + v) = nI (95 - k) ∧ oa_cY q u v) → YW n (k * 256 + u * 16 + v + 1) (oa_jj V u v q) → YW (n + 1) (k * 256 + u * 16 + v) q)
theorem oa_Y_skip (hY : oa_YS wt V YW) (h0 : ∀ u v, u < 16 → v < 16 → ¬ (u < v ∧ v < V) → wt (u * 16 + v) = 0) {k u : Nat} (hk : k < 95) (hu : u < 16) {q : oa_Q} :
    ∀ d v n, v + d ≤ 16 → (∀ y, v ≤ y → y < v + d → ¬ (u < y ∧ y < V)) → YW n (k * 256 + u * 16 + v + d) q → YW (n + d) (k * 256 + u * 16 + v) q := by
  intro d
  induction d with
  | zero => intro v n _ _ h; exact h
  | succ d ih =>
    intro v n hv hs h
    refine (hY k u v (n + d) q hk hu (by omega)).1 ?_ ?_
    · rintro ⟨z, _⟩
      rw [h0 u v hu (by omega) (hs v (by omega) (by omega))] at z
      exact nI_ne0 (n := 95 - k) (by omega) (by omega) z.symm
    · refine ih (v + 1) n (by omega) (fun y h1 h2 => hs y (by omega) (by omega)) ?_
      rw [show k * 256 + u * 16 + (v + 1) + d = k * 256 + u * 16 + v + (d + 1) by omega]
      exact h
theorem oa_Y_jv (hV : V ≤ 16) (hY : oa_YS wt V YW) (hW : ∀ u v, u < v → v < V → W (u * 16 + v) = wt (u * 16 + v)) {k u : Nat} (hk : k < 95) (hu : u < V) :
    ∀ d v n q, u < v → v + d = V → oa_QI V q → YW n (k * 256 + u * 16 + V) (oa_jv W (nI (95 - k)) V u d v q) → YW (n + d) (k * 256 + u * 16 + v) q := by
  intro d
  induction d with
  | zero => intro v n q _ hv _ h; rw [← show v = V by omega] at h; exact h
  | succ d ih =>
    intro v n q huv hv hq h
    have h2 := ih (v + 1) n (oa_j1 W (nI (95 - k)) V u v q) (by omega) (by omega) (oa_j1_I hV hu (by omega) hq) h
    have ec := oa_cY_cj hu (show v < V by omega) hq
    have ew := hW u v huv (by omega)
    by_cases c : W (u * 16 + v) = nI (95 - k) ∧ oa_cj q u v
    · rw [show oa_j1 W (nI (95 - k)) V u v q = oa_jj V u v q from if_pos c] at h2
      exact (hY k u v (n + d) q hk (by omega) (by omega)).2 ⟨by rw [← ew]; exact c.1, ec.mpr c.2⟩ h2
    · rw [show oa_j1 W (nI (95 - k)) V u v q = q from if_neg c] at h2
      exact (hY k u v (n + d) q hk (by omega) (by omega)).1 (fun z => c ⟨by rw [ew]; exact z.1, ec.mp z.2⟩) h2
theorem oa_Y_ju (hV : V ≤ 16) (hY : oa_YS wt V YW) (hW : ∀ u v, u < v → v < V → W (u * 16 + v) = wt (u * 16 + v)) (h0 : ∀ u v, u < 16 → v < 16 → ¬ (u < v ∧ v < V) → wt (u * 16 + v) = 0) {k : Nat} (hk : k < 95) :
    ∀ d u n q, u + d = V → oa_QI V q → YW n (k * 256 + V * 16) (oa_ju W (nI (95 - k)) V d u q) → YW (n + d * 16) (k * 256 + u * 16) q := by
  intro d
  induction d with
  | zero => intro u n q hu _ h; rw [← show u = V by omega] at h; rw [Nat.zero_mul]; exact h
  | succ d ih =>
    intro u n q hu hq h
    have hq2 := oa_jv_I (W := W) (w := nI (95 - k)) hV (show u < V by omega) (V - (u + 1)) (u + 1) q (by omega) hq
    have h2 := ih (u + 1) n _ (by omega) hq2 h
    have h3 := oa_Y_skip hY h0 hk (show u < 16 by omega) (q := oa_jv W (nI (95 - k)) V u (V - (u + 1)) (u + 1) q) (16 - V) V (n + d * 16) (by omega) (fun y h1 h2 => by omega) (by rw [show k * 256 + u * 16 + V + (16 - V) = k * 256 + (u + 1) * 16 by omega]; exact h2)
    have h4 := oa_Y_jv hV hY hW hk (show u < V by omega) (V - (u + 1)) (u + 1) _ q (by omega) (by omega) hq h3
    have h5 := oa_Y_skip hY h0 hk (show u < 16 by omega) (q := q) (u + 1) 0 _ (by omega) (fun y h1 h2 => by omega) (by rw [show k * 256 + u * 16 + 0 + (u + 1) = k * 256 + u * 16 + (u + 1) by omega]; exact h4)
    rw [show n + d * 16 + (16 - V) + (V - (u + 1)) + (u + 1) = n + (d + 1) * 16 by omega] at h5
    exact h5
theorem oa_Y_rows (hY : oa_YS wt V YW) (h0 : ∀ u v, u < 16 → v < 16 → ¬ (u < v ∧ v < V) → wt (u * 16 + v) = 0) {k : Nat} (hk : k < 95) {q : oa_Q} :
    ∀ d u n, u + d = 16 → V ≤ u → YW n (k * 256 + 256) q → YW (n + d * 16) (k * 256 + u * 16) q := by
  intro d
  induction d with
  | zero => intro u n hu _ h; rw [show u = 16 by omega, Nat.zero_mul]; exact h
  | succ d ih =>
    intro u n hu hv h
    have h2 := ih (u + 1) n (by omega) (by omega) h
    have h5 := oa_Y_skip hY h0 hk (show u < 16 by omega) (q := q) 16 0 _ (by omega) (fun y h1 h2 => by omega) (by rw [show k * 256 + u * 16 + 0 + 16 = k * 256 + (u + 1) * 16 by omega]; exact h2)
    rw [show n + d * 16 + 16 = n + (d + 1) * 16 by omega] at h5
    exact h5
theorem oa_Y_jw (hV : V ≤ 16) (hY : oa_YS wt V YW) (hW : ∀ u v, u < v → v < V → W (u * 16 + v) = wt (u * 16 + v)) (h0 : ∀ u v, u < 16 → v < 16 → ¬ (u < v ∧ v < V) → wt (u * 16 + v) = 0) :
    ∀ w n q, w ≤ 95 → oa_QI V q → YW n 24320 (oa_jw W V w q) → YW (n + w * 256) ((95 - w) * 256) q := by
  intro w
  induction w with
  | zero => intro n q _ _ h; rw [Nat.zero_mul]; exact h
  | succ w ih =>
    intro n q hw hq h
    have ek : 95 - (95 - (w + 1)) = w + 1 := by omega
    have hk : 95 - (w + 1) < 95 := by omega
    have hq2 := oa_ju_I (W := W) (w := nI (w + 1)) hV V 0 q (by omega) hq
    have h2 := ih n _ (by omega) hq2 h
    have h3 := oa_Y_rows hY h0 hk (q := oa_ju W (nI (w + 1)) V V 0 q) (16 - V) V _ (by omega) (by omega) (by rw [show (95 - (w + 1)) * 256 + 256 = (95 - w) * 256 by omega]; exact h2)
    have h4 := oa_Y_ju hV hY hW h0 hk V 0 _ q (by omega) hq (by rw [ek]; exact h3)
    rw [show n + w * 256 + (16 - V) * 16 + V * 16 = n + (w + 1) * 256 by omega, show (95 - (w + 1)) * 256 + 0 * 16 = (95 - (w + 1)) * 256 by omega] at h4
    exact h4
end
