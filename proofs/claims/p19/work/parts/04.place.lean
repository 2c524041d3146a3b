/-! a path is walked from an end: pl the placed variables, pr the one before, cu the one that is next -/
def oa_T (V : Nat) (f s pl : Nat → Int32) (pr cu : Int32) : Prop :=
  (cu = -1 ∧ ∀ x y, x < V → y < V → pl x ≠ 0 → oa_lk f s x y → pl y ≠ 0) ∨
  ∃ k, k < V ∧ cu = nI k ∧ pl k = 0 ∧ ((pr = -1 ∧ s k = -1) ∨ ∃ q, q < V ∧ pr = nI q ∧ pl q ≠ 0 ∧ oa_lk f s k q) ∧
    (∀ x y, x < V → y < V → pl x ≠ 0 → oa_lk f s x y → pl y ≠ 0 ∨ (pr = nI x ∧ y = k))
/-- the one behind k, as X finds it -/
def oa_nt (f s : Nat → Int32) (pr : Int32) (k : Nat) : Int32 := if f k = pr then s k else f k
theorem oa_T_step {V : Nat} {f s c pl pl' : Nat → Int32} {pr : Int32} {k : Nat} (hV : V ≤ 16) (g : oa_G V f s c) (hk : k < V) (t : oa_T V f s pl pr (nI k)) (p1 : pl' k ≠ 0) (p2 : ∀ x, x ≠ k → pl' x = pl x) :
    oa_T V f s pl' (nI k) (oa_nt f s pr k) ∧ (oa_nt f s pr k = -1 ∨ ∃ y, y < V ∧ oa_nt f s pr k = nI y) ∧
    (∀ y, y < V → ((oa_lk f s k y ∧ pl' y = 0) ↔ oa_nt f s pr k = nI y)) := by
  obtain ⟨g1, g2, g3, g4, _, _, _, _⟩ := g
  rcases t with ⟨h, _⟩ | ⟨k', hk', ek, pk0, hpr, hcl⟩
  · exact absurd h (oa_ne (by omega))
  have : k = k' := oa_inj (by omega) (by omega) ek
  subst this
  have nin : oa_nt f s pr k = -1 ∨ ∃ y, y < V ∧ y ≠ k ∧ oa_nt f s pr k = nI y := by
    unfold oa_nt
    split
    · exact g2 k hk
    · exact g1 k hk
  have lkk : ∀ y, y < V → oa_nt f s pr k = nI y → oa_lk f s k y := by
    intro y _ h
    unfold oa_nt at h
    split at h
    · exact Or.inr h
    · exact Or.inl h
  -- the next one is not the one before
  have nnp : ∀ y, y < V → oa_nt f s pr k = nI y → pr ≠ nI y := by
    intro y hy h e
    unfold oa_nt at h
    split at h
    · rename_i h1
      have := g3 k hk (by rw [h]; exact oa_ne (by omega))
      exact this.2 (by rw [h1, e, h])
    · rename_i h1
      exact h1 (by rw [h, e])
  -- the next one is not placed
  have nnl : ∀ y, y < V → oa_nt f s pr k = nI y → pl y = 0 := by
    intro y hy h
    by_cases z : pl y = 0
    · exact z
    · have l := g4 k y hk hy (lkk y hy h)
      rcases hcl y k hy hk z l with h2 | h2
      · exact absurd pk0 h2
      · exact absurd h2.1 (nnp y hy h)
  -- any link of k is the one before or the next
  have two : ∀ y, y < V → oa_lk f s k y → pr = nI y ∨ oa_nt f s pr k = nI y := by
    intro y hy h
    unfold oa_nt
    by_cases e : f k = pr
    · rw [if_pos e]
      rcases h with h | h
      · exact Or.inl (by rw [← e, h])
      · exact Or.inr h
    · rw [if_neg e]
      rcases h with h | h
      · exact Or.inr h
      · rcases hpr with ⟨_, h2⟩ | ⟨q, hq, hpq, _, hl⟩
        · rw [h2] at h; exact absurd h.symm (oa_ne (by omega))
        · rcases hl with hl | hl
          · exact absurd (by rw [hl, hpq]) e
          · exact Or.inl (by rw [hpq, ← hl, h])
  have prp : ∀ y, y < V → pr = nI y → pl y ≠ 0 := by
    intro y hy h
    rcases hpr with ⟨h2, _⟩ | ⟨q, hq, hpq, hp, _⟩
    · rw [h2] at h; exact absurd h.symm (oa_ne (by omega))
    · have : q = y := oa_inj (by omega) (by omega) (by rw [← hpq, h])
      exact this ▸ hp
  have pl'0 : ∀ y, pl' y = 0 → pl y = 0 := by
    intro y h
    by_cases e : y = k
    · subst e; exact pk0
    · rw [← p2 y e]; exact h
  have pl'n : ∀ y, pl y ≠ 0 → pl' y ≠ 0 := fun y h h2 => h (pl'0 y h2)
  have nni : ∀ y, y < V → ((oa_lk f s k y ∧ pl' y = 0) ↔ oa_nt f s pr k = nI y) := by
    intro y hy
    constructor
    · rintro ⟨h, h0⟩
      rcases two y hy h with h1 | h1
      · exact absurd (pl'0 y h0) (prp y hy h1)
      · exact h1
    · intro h
      refine ⟨lkk y hy h, ?_⟩
      have yk : y ≠ k := by
        rcases nin with h2 | ⟨z, hz, zk, h2⟩
        · rw [h2] at h; exact absurd h.symm (oa_ne (by omega))
        · have : z = y := oa_inj (by omega) (by omega) (by rw [← h2, h])
          exact this ▸ zk
      rw [p2 y yk]; exact nnl y hy h
  refine ⟨?_, ?_, nni⟩
  · rcases nin with h | ⟨y, hy, yk, h⟩
    · refine Or.inl ⟨h, ?_⟩
      intro x y hx hy px l
      by_cases e : x = k
      · subst e
        intro h0
        have := (nni y hy).mp ⟨l, h0⟩
        rw [h] at this
        exact oa_ne (by omega) this.symm
      · rw [p2 x e] at px
        rcases hcl x y hx hy px l with h2 | h2
        · exact pl'n y h2
        · rw [h2.2]; exact p1
    · refine Or.inr ⟨y, hy, h, ((nni y hy).mpr h).2, Or.inr ⟨k, hk, rfl, p1, g4 k y hk hy (lkk y hy h)⟩, ?_⟩
      intro x z hx hz px l
      by_cases e : x = k
      · subst e
        by_cases h0 : pl' z = 0
        · have := (nni z hz).mp ⟨l, h0⟩
          have : z = y := oa_inj (by omega) (by omega) (by rw [← this, h])
          exact Or.inr ⟨rfl, this⟩
        · exact Or.inl h0
      · rw [p2 x e] at px
        rcases hcl x z hx hz px l with h2 | h2
        · exact Or.inl (pl'n z h2)
        · exact Or.inl (by rw [h2.2]; exact p1)
  · rcases nin with h | ⟨y, hy, _, h⟩
    · exact Or.inl h
    · exact Or.inr ⟨y, hy, h⟩
/-- how many of the first n are placed -/
def oa_cn (pl : Nat → Int32) : Nat → Nat
  | 0 => 0
  | n + 1 => oa_cn pl n + if pl n = 0 then 0 else 1
theorem oa_cn_le (pl : Nat → Int32) : ∀ n, oa_cn pl n ≤ n := by
  intro n
  induction n with
  | zero => exact Nat.le_refl _
  | succ n ih => rw [oa_cn]; split <;> omega
theorem oa_cn_lt {pl : Nat → Int32} {k : Nat} (h : pl k = 0) : ∀ n, k < n → oa_cn pl n < n := by
  intro n
  induction n with
  | zero => intro h; omega
  | succ n ih =>
    intro hk
    rw [oa_cn]
    by_cases e : k = n
    · subst e; rw [if_pos h]; have := oa_cn_le pl k; omega
    · have := ih (by omega); split <;> omega
theorem oa_cn_all {pl : Nat → Int32} : ∀ n, (∀ x, x < n → pl x ≠ 0) → oa_cn pl n = n := by
  intro n
  induction n with
  | zero => intro _; rfl
  | succ n ih =>
    intro h
    rw [oa_cn, ih (fun x hx => h x (by omega)), if_neg (h n (by omega))]
theorem oa_cn_0 {pl : Nat → Int32} : ∀ n, (∀ x, x < n → pl x = 0) → oa_cn pl n = 0 := by
  intro n
  induction n with
  | zero => intro _; rfl
  | succ n ih =>
    intro h
    rw [oa_cn, ih (fun x hx => h x (by omega)), if_pos (h n (by omega))]
theorem oa_cn_up {pl pl' : Nat → Int32} {k : Nat} (h : pl k = 0) (p1 : pl' k ≠ 0) (p2 : ∀ x, x ≠ k → pl' x = pl x) : ∀ n, oa_cn pl' n = oa_cn pl n + if k < n then 1 else 0 := by
  intro n
  induction n with
  | zero => rfl
  | succ n ih =>
    rw [oa_cn, oa_cn, ih]
    by_cases e : k = n
    · subst e
      rw [if_neg p1, if_pos h, if_neg (Nat.lt_irrefl k), if_pos (Nat.lt_succ_self k)]
    · rw [p2 n (fun z => e z.symm)]
      by_cases e2 : k < n
      · rw [if_pos e2, if_pos (show k < n + 1 by omega)]; omega
      · rw [if_neg e2, if_neg (show ¬ k < n + 1 by omega)]; omega
/-- addresses given so far: ad of X, ay of Y -/
def oa_A (V N : Nat) (ad ay pl : Nat → Int32) : Prop :=
  N = oa_cn pl V ∧ (∀ x, x < V → pl x = 0 → ad x = -1) ∧
  (∀ x, x < V → pl x ≠ 0 → ay x = ad x ∧ ∃ a, a < N ∧ ad x = nI a) ∧
  (∀ a, a < N → ∃ x, x < V ∧ pl x ≠ 0 ∧ ad x = nI a) ∧
  (∀ x y, x < V → y < V → pl x ≠ 0 → pl y ≠ 0 → ad x = ad y → x = y)
theorem oa_A_step {V N k : Nat} {ad ay pl : Nat → Int32} {t : Int32} (hV : V ≤ 16) (h : oa_A V N ad ay pl) (hk : k < V) (h0 : pl k = 0) (ht : t ≠ 0) :
    oa_A V (N + 1) (upd ad k (nI N)) (upd ay k (nI N)) (upd pl k t) ∧ N < V := by
  obtain ⟨h1, h2, h3, h4, h5⟩ := h
  have hN := oa_cn_lt h0 V hk
  have nd : ∀ x, x < V → pl x ≠ 0 → ad x ≠ nI N := by
    intro x hx hp z
    obtain ⟨_, a, ha, e2⟩ := h3 x hx hp
    have := oa_inj (by omega) (by omega) (e2.symm.trans z)
    omega
  have q1 : upd pl k t k ≠ 0 := by rw [pk_us]; exact ht
  have q2 : ∀ x, x ≠ k → upd pl k t x = pl x := fun x hx => pk_un hx
  refine ⟨⟨?_, ?_, ?_, ?_, ?_⟩, ?_⟩
  · rw [oa_cn_up h0 q1 q2, if_pos hk, ← h1]
  · intro x hx hp
    by_cases e : x = k
    · subst e; exact absurd hp q1
    · rw [pk_un e] at hp ⊢; exact h2 x hx hp
  · intro x hx hp
    by_cases e : x = k
    · subst e; rw [pk_us, pk_us]; exact ⟨rfl, N, Nat.lt_succ_self N, rfl⟩
    · rw [pk_un e] at hp; rw [pk_un e, pk_un e]
      obtain ⟨e1, a, ha, e2⟩ := h3 x hx hp
      exact ⟨e1, a, by omega, e2⟩
  · intro a ha
    by_cases e : a = N
    · exact ⟨k, hk, q1, by rw [pk_us, e]⟩
    · obtain ⟨x, hx, hp, e2⟩ := h4 a (by omega)
      have xk : x ≠ k := fun z => hp (by rw [z]; exact h0)
      exact ⟨x, hx, by rw [pk_un xk]; exact hp, by rw [pk_un xk]; exact e2⟩
  · intro x y hx hy px py e
    by_cases ex : x = k
    · by_cases ey : y = k
      · rw [ex, ey]
      · rw [ex, pk_us, pk_un ey] at e
        rw [pk_un ey] at py
        exact absurd e.symm (nd y hy py)
    · rw [pk_un ex] at px e
      by_cases ey : y = k
      · rw [ey, pk_us] at e
        exact absurd e (nd x hx px)
      · rw [pk_un ey] at py e
        exact h5 x y hx hy px py e
  · rw [h1]; exact hN
