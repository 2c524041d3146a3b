/-! a path's beginning and end -/
theorem oa_least (P : Nat → Prop) (h : ∃ k, P k) : ∃ k, P k ∧ ∀ j, j < k → ¬ P j := by
  obtain ⟨k, hk⟩ := h
  induction k using Nat.strongRecOn with
  | _ k ih =>
    by_cases z : ∃ j, j < k ∧ P j
    · obtain ⟨j, hj, pj⟩ := z
      exact ih j hj pj
    · exact ⟨k, hk, fun j hj pj => z ⟨j, hj, pj⟩⟩
def oa_Cl (V : Nat) (f s pl : Nat → Int32) : Prop := ∀ x y, x < V → y < V → pl x ≠ 0 → oa_lk f s x y → pl y ≠ 0
/-- the smaller end of k's chain -/
theorem oa_end {V k : Nat} {f s c : Nat → Int32} (g : oa_G V f s c) (hk : k < V) : ∃ e, e < V ∧ (c e = c k ∧ s e = -1) ∧ ∀ x, x < e → ¬ (c x = c k ∧ s x = -1) := by
  obtain ⟨y, hy, h1, h2⟩ := g.2.2.2.2.2.1 k hk
  obtain ⟨e, he, hl⟩ := oa_least (fun x => c x = c k ∧ s x = -1) ⟨y, h1, h2⟩
  refine ⟨e, ?_, he, hl⟩
  by_cases z : e < V
  · exact z
  · exact absurd ⟨h1, h2⟩ (hl y (by omega))
theorem oa_T_start {V k e : Nat} {f s c pl : Nat → Int32} (g : oa_G V f s c) (hk : k < V) (he : e < V) (hc : c e = c k) (hs : s e = -1) (h0 : pl k = 0) (cl : oa_Cl V f s pl) : oa_T V f s pl (-1) (nI e) := by
  refine Or.inr ⟨e, he, rfl, ?_, Or.inl ⟨rfl, hs⟩, fun x y hx hy hp hl => Or.inl (cl x y hx hy hp hl)⟩
  by_cases z : pl e = 0
  · exact z
  · exact absurd h0 (g.2.2.2.2.2.2.2 (fun x => pl x ≠ 0) cl e k he hk hc z)
theorem oa_T_end {V k e : Nat} {f s c pl : Nat → Int32} {pr : Int32} (hV : V ≤ 16) (g : oa_G V f s c) (hk : k < V) (he : e < V) (hc : c e = c k) (t : oa_T V f s pl pr (-1)) (h : pl e ≠ 0) : oa_Cl V f s pl ∧ pl k ≠ 0 := by
  rcases t with ⟨_, cl⟩ | ⟨q, hq, h2, _⟩
  · exact ⟨cl, g.2.2.2.2.2.2.2 (fun x => pl x ≠ 0) cl e k he hk hc h⟩
  · exact absurd h2.symm (oa_ne (by omega))
/-- when all are placed, the addresses are 0 to V - 1 -/
theorem oa_A_all {V N : Nat} {ad ay pl : Nat → Int32} (h : oa_A V N ad ay pl) (ha : ∀ x, x < V → pl x ≠ 0) :
    (∀ x, x < V → ay x = ad x ∧ ∃ a, a < V ∧ ad x = nI a) ∧ (∀ a, a < V → ∃ x, x < V ∧ ad x = nI a) := by
  obtain ⟨h1, _, h3, h4, _⟩ := h
  rw [oa_cn_all V ha] at h1
  subst h1
  refine ⟨fun x hx => h3 x hx (ha x hx), fun a hN => ?_⟩
  obtain ⟨x, hx, _, e⟩ := h4 a hN
  exact ⟨x, hx, e⟩
theorem oa_A_inj {V N : Nat} {ad ay pl : Nat → Int32} (h : oa_A V N ad ay pl) (ha : ∀ x, x < V → pl x ≠ 0) : ∀ x y, x < V → y < V → ad x = ad y → x = y :=
  fun x y hx hy e => h.2.2.2.2 x y hx hy (ha x hx) (ha y hy) e
