/-! chains of links: f the first link of a variable, s its second, c the chain's name -/
def oa_lk (f s : Nat → Int32) (x y : Nat) : Prop := f x = nI y ∨ s x = nI y
def oa_G (V : Nat) (f s c : Nat → Int32) : Prop :=
  (∀ x, x < V → f x = -1 ∨ ∃ y, y < V ∧ y ≠ x ∧ f x = nI y) ∧
  (∀ x, x < V → s x = -1 ∨ ∃ y, y < V ∧ y ≠ x ∧ s x = nI y) ∧
  (∀ x, x < V → s x ≠ -1 → f x ≠ -1 ∧ f x ≠ s x) ∧
  (∀ x y, x < V → y < V → oa_lk f s x y → oa_lk f s y x) ∧
  (∀ x y, x < V → y < V → oa_lk f s x y → c x = c y) ∧
  (∀ x, x < V → ∃ y, y < V ∧ c y = c x ∧ s y = -1) ∧
  (∀ x, x < V → s x = -1 → f x ≠ -1 → ∃ y, y < V ∧ y ≠ x ∧ c y = c x ∧ s y = -1) ∧
  (∀ P : Nat → Prop, (∀ x y, x < V → y < V → P x → oa_lk f s x y → P y) → ∀ x y, x < V → y < V → c x = c y → P x → P y)
theorem oa_G0 {V : Nat} (hV : V ≤ 16) {f s c : Nat → Int32} (hf : ∀ x, x < V → f x = -1) (hs : ∀ x, x < V → s x = -1) (hc : ∀ x, x < V → c x = nI x) : oa_G V f s c := by
  have nl : ∀ x y, x < V → y < V → ¬ oa_lk f s x y := by
    intro x y hx hy h
    rcases h with h | h
    · rw [hf x hx] at h; exact oa_ne (by omega) h.symm
    · rw [hs x hx] at h; exact oa_ne (by omega) h.symm
  refine ⟨fun x hx => Or.inl (hf x hx), fun x hx => Or.inl (hs x hx), fun x hx h => absurd (hs x hx) h, fun x y hx hy h => absurd h (nl x y hx hy), fun x y hx hy h => absurd h (nl x y hx hy), fun x hx => ⟨x, hx, rfl, hs x hx⟩, fun x hx _ h => absurd (hf x hx) h, ?_⟩
  intro P _ x y hx hy h hp
  rw [hc x hx, hc y hy] at h
  have : x = y := oa_inj (by omega) (by omega) h
  exact this ▸ hp
/-- u and v are joined: f' s' c' behind f s c -/
def oa_J (V u v : Nat) (f s c f' s' c' : Nat → Int32) : Prop :=
  (∀ x, x < V → x ≠ u → x ≠ v → f' x = f x ∧ s' x = s x) ∧
  (f u = -1 → f' u = nI v ∧ s' u = s u) ∧ (f u ≠ -1 → f' u = f u ∧ s' u = nI v) ∧
  (f v = -1 → f' v = nI u ∧ s' v = s v) ∧ (f v ≠ -1 → f' v = f v ∧ s' v = nI u) ∧
  (∀ x, x < V → c' x = if c x = c v then c u else c x)
theorem oa_J_lk {V u v : Nat} {f s c f' s' c' : Nat → Int32} (hV : V ≤ 16) (hu : u < V) (hv : v < V) (huv : u ≠ v) (su : s u = -1) (sv : s v = -1) (j : oa_J V u v f s c f' s' c') :
    ∀ x y, x < V → y < V → (oa_lk f' s' x y ↔ oa_lk f s x y ∨ (x = u ∧ y = v) ∨ (x = v ∧ y = u)) := by
  obtain ⟨j1, ju1, ju2, jv1, jv2, _⟩ := j
  intro x y hx hy
  have ny : (-1 : Int32) ≠ nI y := fun h => oa_ne (by omega) h.symm
  have eqv : nI v = nI y ↔ y = v := by rw [nI_eq (by omega) (by omega)]; exact eq_comm
  have equ : nI u = nI y ↔ y = u := by rw [nI_eq (by omega) (by omega)]; exact eq_comm
  unfold oa_lk
  by_cases h1 : x = u
  · subst h1
    by_cases h2 : f x = -1
    · have := ju1 h2
      rw [this.1, this.2, su, h2, eqv]
      constructor
      · rintro (h | h)
        · exact Or.inr (Or.inl ⟨rfl, h⟩)
        · exact absurd h ny
      · rintro ((h | h) | ⟨_, h⟩ | ⟨h, _⟩)
        · exact absurd h ny
        · exact absurd h ny
        · exact Or.inl h
        · exact absurd h huv
    · have := ju2 h2
      rw [this.1, this.2, su, eqv]
      constructor
      · rintro (h | h)
        · exact Or.inl (Or.inl h)
        · exact Or.inr (Or.inl ⟨rfl, h⟩)
      · rintro ((h | h) | ⟨_, h⟩ | ⟨h, _⟩)
        · exact Or.inl h
        · exact absurd h ny
        · exact Or.inr h
        · exact absurd h huv
  · by_cases h1v : x = v
    · subst h1v
      by_cases h2 : f x = -1
      · have := jv1 h2
        rw [this.1, this.2, sv, h2, equ]
        constructor
        · rintro (h | h)
          · exact Or.inr (Or.inr ⟨rfl, h⟩)
          · exact absurd h ny
        · rintro ((h | h) | ⟨h, _⟩ | ⟨_, h⟩)
          · exact absurd h ny
          · exact absurd h ny
          · exact absurd h h1
          · exact Or.inl h
      · have := jv2 h2
        rw [this.1, this.2, sv, equ]
        constructor
        · rintro (h | h)
          · exact Or.inl (Or.inl h)
          · exact Or.inr (Or.inr ⟨rfl, h⟩)
        · rintro ((h | h) | ⟨h, _⟩ | ⟨_, h⟩)
          · exact Or.inl h
          · exact absurd h ny
          · exact absurd h h1
          · exact Or.inr h
    · have := j1 x hx h1 h1v
      rw [this.1, this.2]
      constructor
      · exact Or.inl
      · rintro (h | ⟨h, _⟩ | ⟨h, _⟩)
        · exact h
        · exact absurd h h1
        · exact absurd h h1v
theorem oa_J_G {V u v : Nat} {f s c f' s' c' : Nat → Int32} (hV : V ≤ 16) (hu : u < V) (hv : v < V) (su : s u = -1) (sv : s v = -1) (cc : c u ≠ c v) (j : oa_J V u v f s c f' s' c') (g : oa_G V f s c) : oa_G V f' s' c' := by
  have huv : u ≠ v := fun h => cc (by rw [h])
  have lk := oa_J_lk hV hu hv huv su sv j
  obtain ⟨j1, ju1, ju2, jv1, jv2, jc⟩ := j
  obtain ⟨g1, g2, g3, g4, g5, g6, g7, g8⟩ := g
  have nv : nI v ≠ -1 := oa_ne (by omega)
  have nu : nI u ≠ -1 := oa_ne (by omega)
  have cu : c' u = c u := by rw [jc u hu, if_neg cc]
  have cv : c' v = c u := by rw [jc v hv, if_pos rfl]
  have cin : ∀ x, x < V → (c x = c u ∨ c x = c v) → c' x = c u := by
    intro x hx h
    rw [jc x hx]
    rcases h with h | h
    · rw [h, if_neg cc]
    · rw [if_pos h]
  have cout : ∀ x, x < V → c x ≠ c v → c' x = c x := by
    intro x hx h
    rw [jc x hx, if_neg h]
  have eu : ∃ y, y < V ∧ c y = c u ∧ s' y = -1 := by
    by_cases h : f u = -1
    · exact ⟨u, hu, rfl, by rw [(ju1 h).2, su]⟩
    · obtain ⟨y, hy, yu, yc, ys⟩ := g7 u hu su h
      have yv : y ≠ v := fun e => cc (by rw [← yc, e])
      exact ⟨y, hy, yc, by rw [(j1 y hy yu yv).2, ys]⟩
  have ev : ∃ y, y < V ∧ c y = c v ∧ s' y = -1 := by
    by_cases h : f v = -1
    · exact ⟨v, hv, rfl, by rw [(jv1 h).2, sv]⟩
    · obtain ⟨y, hy, yv, yc, ys⟩ := g7 v hv sv h
      have yu : y ≠ u := fun e => cc (by rw [← yc, e])
      exact ⟨y, hy, yc, by rw [(j1 y hy yu yv).2, ys]⟩
  obtain ⟨a, ha, ac, as⟩ := eu
  obtain ⟨b, hb, bc, bs⟩ := ev
  have ab : a ≠ b := fun e => cc (by rw [← ac, ← bc, e])
  have a' : c' a = c u := cin a ha (Or.inl ac)
  have b' : c' b = c u := cin b hb (Or.inr bc)
  refine ⟨?_, ?_, ?_, ?_, ?_, ?_, ?_, ?_⟩
  · intro x hx
    by_cases h1 : x = u
    · subst h1
      by_cases h : f x = -1
      · exact Or.inr ⟨v, hv, fun e => huv e.symm, (ju1 h).1⟩
      · rw [(ju2 h).1]; exact g1 x hx
    · by_cases h2 : x = v
      · subst h2
        by_cases h : f x = -1
        · exact Or.inr ⟨u, hu, huv, (jv1 h).1⟩
        · rw [(jv2 h).1]; exact g1 x hx
      · rw [(j1 x hx h1 h2).1]; exact g1 x hx
  · intro x hx
    by_cases h1 : x = u
    · subst h1
      by_cases h : f x = -1
      · rw [(ju1 h).2]; exact g2 x hx
      · exact Or.inr ⟨v, hv, fun e => huv e.symm, (ju2 h).2⟩
    · by_cases h2 : x = v
      · subst h2
        by_cases h : f x = -1
        · rw [(jv1 h).2]; exact g2 x hx
        · exact Or.inr ⟨u, hu, huv, (jv2 h).2⟩
      · rw [(j1 x hx h1 h2).2]; exact g2 x hx
  · intro x hx hn
    by_cases h1 : x = u
    · subst h1
      by_cases h : f x = -1
      · rw [(ju1 h).2] at hn; exact absurd su hn
      · rw [(ju2 h).1, (ju2 h).2]
        exact ⟨h, fun e => cc (g5 x v hx hv (Or.inl e))⟩
    · by_cases h2 : x = v
      · subst h2
        by_cases h : f x = -1
        · rw [(jv1 h).2] at hn; exact absurd sv hn
        · rw [(jv2 h).1, (jv2 h).2]
          exact ⟨h, fun e => cc (g5 x u hx hu (Or.inl e)).symm⟩
      · rw [(j1 x hx h1 h2).2] at hn
        rw [(j1 x hx h1 h2).1, (j1 x hx h1 h2).2]
        exact g3 x hx hn
  · intro x y hx hy h
    rw [lk x y hx hy] at h
    rw [lk y x hy hx]
    rcases h with h | ⟨h, h'⟩ | ⟨h, h'⟩
    · exact Or.inl (g4 x y hx hy h)
    · exact Or.inr (Or.inr ⟨h', h⟩)
    · exact Or.inr (Or.inl ⟨h', h⟩)
  · intro x y hx hy h
    rw [lk x y hx hy] at h
    rcases h with h | ⟨h, h'⟩ | ⟨h, h'⟩
    · rw [jc x hx, jc y hy, g5 x y hx hy h]
    · rw [h, h', cu, cv]
    · rw [h, h', cu, cv]
  · intro x hx
    by_cases h1 : c x = c u ∨ c x = c v
    · exact ⟨a, ha, by rw [a', cin x hx h1], as⟩
    · have h2 : c x ≠ c u := fun e => h1 (Or.inl e)
      have h3 : c x ≠ c v := fun e => h1 (Or.inr e)
      obtain ⟨y, hy, yc, ys⟩ := g6 x hx
      have yu : y ≠ u := fun e => h2 (by rw [← yc, e])
      have yv : y ≠ v := fun e => h3 (by rw [← yc, e])
      exact ⟨y, hy, by rw [cout x hx h3, cout y hy (by rw [yc]; exact h3), yc], by rw [(j1 y hy yu yv).2, ys]⟩
  · intro x hx sx fx
    by_cases h1 : c x = c u ∨ c x = c v
    · by_cases xa : x = a
      · exact ⟨b, hb, fun e => ab (by rw [← xa, e]), by rw [b', cin x hx h1], bs⟩
      · exact ⟨a, ha, fun e => xa e.symm, by rw [a', cin x hx h1], as⟩
    · have h2 : c x ≠ c u := fun e => h1 (Or.inl e)
      have h3 : c x ≠ c v := fun e => h1 (Or.inr e)
      have xu : x ≠ u := fun e => h2 (by rw [e])
      have xv : x ≠ v := fun e => h3 (by rw [e])
      rw [(j1 x hx xu xv).2] at sx
      rw [(j1 x hx xu xv).1] at fx
      obtain ⟨y, hy, yx, yc, ys⟩ := g7 x hx sx fx
      have yu : y ≠ u := fun e => h2 (by rw [← yc, e])
      have yv : y ≠ v := fun e => h3 (by rw [← yc, e])
      exact ⟨y, hy, yx, by rw [cout x hx h3, cout y hy (by rw [yc]; exact h3), yc], by rw [(j1 y hy yu yv).2, ys]⟩
  · intro P hP
    have old : ∀ x y, x < V → y < V → c x = c y → P x → P y :=
      g8 P (fun x y hx hy px h => hP x y hx hy px ((lk x y hx hy).mpr (Or.inl h)))
    have uv : P u → P v := fun p => hP u v hu hv p ((lk u v hu hv).mpr (Or.inr (Or.inl ⟨rfl, rfl⟩)))
    have vu : P v → P u := fun p => hP v u hv hu p ((lk v u hv hu).mpr (Or.inr (Or.inr ⟨rfl, rfl⟩)))
    intro x y hx hy h px
    by_cases hxv : c x = c v
    · by_cases hyv : c y = c v
      · exact old x y hx hy (by rw [hxv, hyv]) px
      · rw [cin x hx (Or.inr hxv), cout y hy hyv] at h
        exact old u y hu hy h (vu (old x v hx hv hxv px))
    · by_cases hyv : c y = c v
      · rw [cin y hy (Or.inr hyv), cout x hx hxv] at h
        exact old v y hv hy hyv.symm (uv (old x u hx hu h px))
      · rw [cout x hx hxv, cout y hy hyv] at h
        exact old x y hx hy h px
