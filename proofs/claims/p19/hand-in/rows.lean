section
/-! small facts -/
theorem oa_ne {k : Nat} (h : k < 2 ^ 31) : nI k ≠ -1 := by
  intro e
  have e2 := congrArg Int32.toInt e
  rw [nI_toInt h, show (-1 : Int32).toInt = -1 from by decide] at e2
  omega
theorem oa_inj {a b : Nat} (ha : a < 2 ^ 31) (hb : b < 2 ^ 31) (h : nI a = nI b) : a = b := (nI_eq ha hb).mp h
theorem oa_m1lt : (-1 : Int32) < 0 := by decide
theorem oa_m1cl : (-1 : Int32).toNatClampNeg = 0 := by decide
/-- a cell of a square of side 16 -/
theorem oa_cell {u v a b : Nat} (hv : v < 16) (hb : b < 16) : u * 16 + v = a * 16 + b ↔ u = a ∧ v = b := by
  constructor
  · intro h; constructor <;> omega
  · rintro ⟨rfl, rfl⟩; rfl
end
section
/-! the access graph's weights: counted by followers (X) and by a scan with the previous access (Y) -/
/-- the first position at or behind i whose variable has register r, of d positions; else i + d -/
def oa_nx (R a : Nat → Int32) (r : Int32) : Nat → Nat → Nat
  | 0, i => i
  | d + 1, i => if R (a i).toNatClampNeg = r then i else oa_nx R a r d (i + 1)
theorem oa_nx_le (R a : Nat → Int32) (r : Int32) : ∀ d i, i ≤ oa_nx R a r d i ∧ oa_nx R a r d i ≤ i + d := by
  intro d
  induction d with
  | zero => intro i; exact ⟨Nat.le_refl _, Nat.le_refl _⟩
  | succ d ih =>
    intro i
    rw [oa_nx]
    split
    · omega
    · have := ih (i + 1); omega
theorem oa_nx_r (R a : Nat → Int32) (r : Int32) : ∀ d i, oa_nx R a r d i < i + d → R (a (oa_nx R a r d i)).toNatClampNeg = r := by
  intro d
  induction d with
  | zero => intro i h; exact absurd h (by rw [oa_nx]; omega)
  | succ d ih =>
    intro i h
    rw [oa_nx] at h ⊢
    by_cases hr : R (a i).toNatClampNeg = r
    · rw [if_pos hr]; exact hr
    · rw [if_neg hr] at h ⊢
      exact ih (i + 1) (by omega)
/-- the follower of position j among n -/
def oa_fo (R a : Nat → Int32) (n j : Nat) : Nat := oa_nx R a (R (a j).toNatClampNeg) (n - (j + 1)) (j + 1)
/-- the follower as X keeps it -/
def oa_fv (R a : Nat → Int32) (n j : Nat) : Int32 := if oa_fo R a n j < n then nI (oa_fo R a n j) else -1
theorem oa_fo_le {R a : Nat → Int32} {n j : Nat} (hj : j < n) : j < oa_fo R a n j ∧ oa_fo R a n j ≤ n := by
  have := oa_nx_le R a (R (a j).toNatClampNeg) (n - (j + 1)) (j + 1)
  unfold oa_fo
  omega
theorem oa_fo_r {R a : Nat → Int32} {n j : Nat} (hj : j < n) (h : oa_fo R a n j < n) : R (a (oa_fo R a n j)).toNatClampNeg = R (a j).toNatClampNeg :=
  oa_nx_r R a _ (n - (j + 1)) (j + 1) (by unfold oa_fo at h; omega)
abbrev oa_pm (u v p x : Int32) : Prop := (p = u ∧ x = v) ∨ (p = v ∧ x = u)
/-- the previous access to register r, before position i -/
def oa_pv (R a : Nat → Int32) (r : Int32) : Nat → Int32
  | 0 => -1
  | i + 1 => if R (a i).toNatClampNeg = r then a i else oa_pv R a r i
/-- the scan's count -/
def oa_ct (R a : Nat → Int32) (r u v : Int32) : Nat → Int32
  | 0 => 0
  | i + 1 => if R (a i).toNatClampNeg = r then (if oa_pm u v (oa_pv R a r i) (a i) then oa_ct R a r u v i + 1 else oa_ct R a r u v i) else oa_ct R a r u v i
/-- the count by followers -/
def oa_wt (R a : Nat → Int32) (n : Nat) (u v : Int32) : Nat → Int32
  | 0 => 0
  | j + 1 => if oa_fo R a n j < n ∧ a j ≠ a (oa_fo R a n j) ∧ oa_pm u v (a j) (a (oa_fo R a n j)) then oa_wt R a n u v j + 1 else oa_wt R a n u v j
theorem oa_wt_ct_i {R a : Nat → Int32} {n : Nat} {r u v : Int32} (hu : R u.toNatClampNeg = r) (hv : R v.toNatClampNeg = r) (huv : u ≠ v) (hu1 : u ≠ -1) (hv1 : v ≠ -1) :
    ∀ i, i ≤ n → oa_wt R a n u v i = oa_ct R a r u v i + (if oa_nx R a r (n - i) i < n ∧ oa_pm u v (oa_pv R a r i) (a (oa_nx R a r (n - i) i)) then 1 else 0) := by
  intro i
  induction i with
  | zero =>
    intro _
    rw [if_neg]
    · exact (Int32.add_zero _).symm
    · rintro ⟨_, h⟩
      rcases h with h | h
      · exact hu1 h.1.symm
      · exact hv1 h.1.symm
  | succ i ih =>
    intro hi
    have ih := ih (by omega)
    have e : n - i = (n - (i + 1)) + 1 := by omega
    rw [e] at ih
    by_cases hr : R (a i).toNatClampNeg = r
    · rw [oa_nx, if_pos hr] at ih
      have e1 : oa_ct R a r u v (i + 1) = oa_wt R a n u v i := by
        rw [oa_ct, if_pos hr, ih]
        by_cases hp : oa_pm u v (oa_pv R a r i) (a i)
        · rw [if_pos hp, if_pos ⟨by omega, hp⟩]
        · rw [if_neg hp, if_neg (fun h => hp h.2), Int32.add_zero]
      have e2 : oa_pv R a r (i + 1) = a i := by rw [oa_pv, if_pos hr]
      have e3 : oa_fo R a n i = oa_nx R a r (n - (i + 1)) (i + 1) := by unfold oa_fo; rw [hr]
      rw [e1, e2, ← e3, oa_wt]
      by_cases hq : oa_fo R a n i < n ∧ oa_pm u v (a i) (a (oa_fo R a n i))
      · rw [if_pos hq, if_pos]
        refine ⟨hq.1, ?_, hq.2⟩
        intro he
        rcases hq.2 with h | h
        · exact huv (by rw [← h.1, ← h.2, he])
        · exact huv (by rw [← h.1, ← h.2, he])
      · rw [if_neg hq, if_neg (fun h => hq ⟨h.1, h.2.2⟩), Int32.add_zero]
    · rw [oa_nx, if_neg hr] at ih
      have e1 : oa_ct R a r u v (i + 1) = oa_ct R a r u v i := by rw [oa_ct, if_neg hr]
      have e2 : oa_pv R a r (i + 1) = oa_pv R a r i := by rw [oa_pv, if_neg hr]
      rw [e1, e2, oa_wt, if_neg, ih]
      rintro ⟨_, _, h⟩
      rcases h with h | h
      · exact hr (by rw [h.1, hu])
      · exact hr (by rw [h.1, hv])
theorem oa_wt_ct {R a : Nat → Int32} {n : Nat} {r u v : Int32} (hu : R u.toNatClampNeg = r) (hv : R v.toNatClampNeg = r) (huv : u ≠ v) (hu1 : u ≠ -1) (hv1 : v ≠ -1) :
    oa_wt R a n u v n = oa_ct R a r u v n := by
  rw [oa_wt_ct_i hu hv huv hu1 hv1 n (Nat.le_refl n), Nat.sub_self, if_neg, Int32.add_zero]
  rintro ⟨h, _⟩
  rw [oa_nx] at h
  exact Nat.lt_irrefl _ h
theorem oa_wt_0 {R a : Nat → Int32} {n : Nat} {u v : Int32} (h : R u.toNatClampNeg ≠ R v.toNatClampNeg) : ∀ i, i ≤ n → oa_wt R a n u v i = 0 := by
  intro i
  induction i with
  | zero => intro _; rfl
  | succ i ih =>
    intro hi
    rw [oa_wt, if_neg, ih (by omega)]
    rintro ⟨hf, _, hp⟩
    have e := oa_fo_r (R := R) (a := a) (n := n) (j := i) (by omega) hf
    rcases hp with hp | hp
    · rw [hp.1, hp.2] at e; exact h e.symm
    · rw [hp.1, hp.2] at e; exact h e
end
section
/-! chains of links: f the first link of a variable, s its second, c the chain's name -/
def oa_lk (f s : Nat → Int32) (x y : Nat) : Prop := f x = nI y ∨ s x = nI y
def oa_G (V : Nat) (f s c : Nat → Int32) : Prop :=
  (∀ x, x < V → f x = -1 ∨ ∃ y, y < V ∧ y ≠ x ∧ f x = nI y) ∧
  (∀ x, x < V → s x = -1 ∨ ∃ y, y < V ∧ y ≠ x ∧ s x = nI y) ∧
  (∀ x, x < V → s x ≠ -1 → f x ≠ -1 ∧ f x ≠ s x) ∧
  (∀ x y, x < V → y < V → oa_lk f s x y → oa_lk f s y x) ∧
  (∀ x y, x < V → y < V → oa_lk f s x y → c x = c y) ∧
  (∀ x, x < V → ∃ y, y < V ∧ c y = c x ∧ s y = -1) ∧
  (∀ x, x < V → s x = -1 → f x ≠ -1 → ∃ y, y < V ∧ y ≠ x ∧ c y = c x ∧ s y = -1) ∧
  (∀ P : Nat → Prop, (∀ x y, x < V → y < V → P x → oa_lk f s x y → P y) → ∀ x y, x < V → y < V → c x = c y → P x → P y)
theorem oa_G0 {V : Nat} (hV : V ≤ 16) {f s c : Nat → Int32} (hf : ∀ x, x < V → f x = -1) (hs : ∀ x, x < V → s x = -1) (hc : ∀ x, x < V → c x = nI x) : oa_G V f s c := by
  have nl : ∀ x y, x < V → y < V → ¬ oa_lk f s x y := by
    intro x y hx hy h
    rcases h with h | h
    · rw [hf x hx] at h; exact oa_ne (by omega) h.symm
    · rw [hs x hx] at h; exact oa_ne (by omega) h.symm
  refine ⟨fun x hx => Or.inl (hf x hx), fun x hx => Or.inl (hs x hx), fun x hx h => absurd (hs x hx) h, fun x y hx hy h => absurd h (nl x y hx hy), fun x y hx hy h => absurd h (nl x y hx hy), fun x hx => ⟨x, hx, rfl, hs x hx⟩, fun x hx _ h => absurd (hf x hx) h, ?_⟩
  intro P _ x y hx hy h hp
  rw [hc x hx, hc y hy] at h
  have : x = y := oa_inj (by omega) (by omega) h
  exact this ▸ hp
/-- u and v are joined: f' s' c' behind f s c -/
def oa_J (V u v : Nat) (f s c f' s' c' : Nat → Int32) : Prop :=
  (∀ x, x < V → x ≠ u → x ≠ v → f' x = f x ∧ s' x = s x) ∧
  (f u = -1 → f' u = nI v ∧ s' u = s u) ∧ (f u ≠ -1 → f' u = f u ∧ s' u = nI v) ∧
  (f v = -1 → f' v = nI u ∧ s' v = s v) ∧ (f v ≠ -1 → f' v = f v ∧ s' v = nI u) ∧
  (∀ x, x < V → c' x = if c x = c v then c u else c x)
theorem oa_J_lk {V u v : Nat} {f s c f' s' c' : Nat → Int32} (hV : V ≤ 16) (hu : u < V) (hv : v < V) (huv : u ≠ v) (su : s u = -1) (sv : s v = -1) (j : oa_J V u v f s c f' s' c') :
    ∀ x y, x < V → y < V → (oa_lk f' s' x y ↔ oa_lk f s x y ∨ (x = u ∧ y = v) ∨ (x = v ∧ y = u)) := by
  obtain ⟨j1, ju1, ju2, jv1, jv2, _⟩ := j
  intro x y hx hy
  have ny : (-1 : Int32) ≠ nI y := fun h => oa_ne (by omega) h.symm
  have eqv : nI v = nI y ↔ y = v := by rw [nI_eq (by omega) (by omega)]; exact eq_comm
  have equ : nI u = nI y ↔ y = u := by rw [nI_eq (by omega) (by omega)]; exact eq_comm
  unfold oa_lk
  by_cases h1 : x = u
  · subst h1
    by_cases h2 : f x = -1
    · have := ju1 h2
      rw [this.1, this.2, su, h2, eqv]
      constructor
      · rintro (h | h)
        · exact Or.inr (Or.inl ⟨rfl, h⟩)
        · exact absurd h ny
      · rintro ((h | h) | ⟨_, h⟩ | ⟨h, _⟩)
        · exact absurd h ny
        · exact absurd h ny
        · exact Or.inl h
        · exact absurd h huv
    · have := ju2 h2
      rw [this.1, this.2, su, eqv]
      constructor
      · rintro (h | h)
        · exact Or.inl (Or.inl h)
        · exact Or.inr (Or.inl ⟨rfl, h⟩)
      · rintro ((h | h) | ⟨_, h⟩ | ⟨h, _⟩)
        · exact Or.inl h
        · exact absurd h ny
        · exact Or.inr h
        · exact absurd h huv
  · by_cases h1v : x = v
    · subst h1v
      by_cases h2 : f x = -1
      · have := jv1 h2
        rw [this.1, this.2, sv, h2, equ]
        constructor
        · rintro (h | h)
          · exact Or.inr (Or.inr ⟨rfl, h⟩)
          · exact absurd h ny
        · rintro ((h | h) | ⟨h, _⟩ | ⟨_, h⟩)
          · exact absurd h ny
          · exact absurd h ny
          · exact absurd h h1
          · exact Or.inl h
      · have := jv2 h2
        rw [this.1, this.2, sv, equ]
        constructor
        · rintro (h | h)
          · exact Or.inl (Or.inl h)
          · exact Or.inr (Or.inr ⟨rfl, h⟩)
        · rintro ((h | h) | ⟨h, _⟩ | ⟨_, h⟩)
          · exact Or.inl h
          · exact absurd h ny
          · exact absurd h h1
          · exact Or.inr h
    · have := j1 x hx h1 h1v
      rw [this.1, this.2]
      constructor
      · exact Or.inl
      · rintro (h | ⟨h, _⟩ | ⟨h, _⟩)
        · exact h
        · exact absurd h h1
        · exact absurd h h1v
theorem oa_J_G {V u v : Nat} {f s c f' s' c' : Nat → Int32} (hV : V ≤ 16) (hu : u < V) (hv : v < V) (su : s u = -1) (sv : s v = -1) (cc : c u ≠ c v) (j : oa_J V u v f s c f' s' c') (g : oa_G V f s c) : oa_G V f' s' c' := by
  have huv : u ≠ v := fun h => cc (by rw [h])
  have lk := oa_J_lk hV hu hv huv su sv j
  obtain ⟨j1, ju1, ju2, jv1, jv2, jc⟩ := j
  obtain ⟨g1, g2, g3, g4, g5, g6, g7, g8⟩ := g
  have nv : nI v ≠ -1 := oa_ne (by omega)
  have nu : nI u ≠ -1 := oa_ne (by omega)
  have cu : c' u = c u := by rw [jc u hu, if_neg cc]
  have cv : c' v = c u := by rw [jc v hv, if_pos rfl]
  have cin : ∀ x, x < V → (c x = c u ∨ c x = c v) → c' x = c u := by
    intro x hx h
    rw [jc x hx]
    rcases h with h | h
    · rw [h, if_neg cc]
    · rw [if_pos h]
  have cout : ∀ x, x < V → c x ≠ c v → c' x = c x := by
    intro x hx h
    rw [jc x hx, if_neg h]
  have eu : ∃ y, y < V ∧ c y = c u ∧ s' y = -1 := by
    by_cases h : f u = -1
    · exact ⟨u, hu, rfl, by rw [(ju1 h).2, su]⟩
    · obtain ⟨y, hy, yu, yc, ys⟩ := g7 u hu su h
      have yv : y ≠ v := fun e => cc (by rw [← yc, e])
      exact ⟨y, hy, yc, by rw [(j1 y hy yu yv).2, ys]⟩
  have ev : ∃ y, y < V ∧ c y = c v ∧ s' y = -1 := by
    by_cases h : f v = -1
    · exact ⟨v, hv, rfl, by rw [(jv1 h).2, sv]⟩
    · obtain ⟨y, hy, yv, yc, ys⟩ := g7 v hv sv h
      have yu : y ≠ u := fun e => cc (by rw [← yc, e])
      exact ⟨y, hy, yc, by rw [(j1 y hy yu yv).2, ys]⟩
  obtain ⟨a, ha, ac, as⟩ := eu
  obtain ⟨b, hb, bc, bs⟩ := ev
  have ab : a ≠ b := fun e => cc (by rw [← ac, ← bc, e])
  have a' : c' a = c u := cin a ha (Or.inl ac)
  have b' : c' b = c u := cin b hb (Or.inr bc)
  refine ⟨?_, ?_, ?_, ?_, ?_, ?_, ?_, ?_⟩
  · intro x hx
    by_cases h1 : x = u
    · subst h1
      by_cases h : f x = -1
      · exact Or.inr ⟨v, hv, fun e => huv e.symm, (ju1 h).1⟩
      · rw [(ju2 h).1]; exact g1 x hx
    · by_cases h2 : x = v
      · subst h2
        by_cases h : f x = -1
        · exact Or.inr ⟨u, hu, huv, (jv1 h).1⟩
        · rw [(jv2 h).1]; exact g1 x hx
      · rw [(j1 x hx h1 h2).1]; exact g1 x hx
  · intro x hx
    by_cases h1 : x = u
    · subst h1
      by_cases h : f x = -1
      · rw [(ju1 h).2]; exact g2 x hx
      · exact Or.inr ⟨v, hv, fun e => huv e.symm, (ju2 h).2⟩
    · by_cases h2 : x = v
      · subst h2
        by_cases h : f x = -1
        · rw [(jv1 h).2]; exact g2 x hx
        · exact Or.inr ⟨u, hu, huv, (jv2 h).2⟩
      · rw [(j1 x hx h1 h2).2]; exact g2 x hx
  · intro x hx hn
    by_cases h1 : x = u
    · subst h1
      by_cases h : f x = -1
      · rw [(ju1 h).2] at hn; exact absurd su hn
      · rw [(ju2 h).1, (ju2 h).2]
        exact ⟨h, fun e => cc (g5 x v hx hv (Or.inl e))⟩
    · by_cases h2 : x = v
      · subst h2
        by_cases h : f x = -1
        · rw [(jv1 h).2] at hn; exact absurd sv hn
        · rw [(jv2 h).1, (jv2 h).2]
          exact ⟨h, fun e => cc (g5 x u hx hu (Or.inl e)).symm⟩
      · rw [(j1 x hx h1 h2).2] at hn
        rw [(j1 x hx h1 h2).1, (j1 x hx h1 h2).2]
        exact g3 x hx hn
  · intro x y hx hy h
    rw [lk x y hx hy] at h
    rw [lk y x hy hx]
    rcases h with h | ⟨h, h'⟩ | ⟨h, h'⟩
    · exact Or.inl (g4 x y hx hy h)
    · exact Or.inr (Or.inr ⟨h', h⟩)
    · exact Or.inr (Or.inl ⟨h', h⟩)
  · intro x y hx hy h
    rw [lk x y hx hy] at h
    rcases h with h | ⟨h, h'⟩ | ⟨h, h'⟩
    · rw [jc x hx, jc y hy, g5 x y hx hy h]
    · rw [h, h', cu, cv]
    · rw [h, h', cu, cv]
  · intro x hx
    by_cases h1 : c x = c u ∨ c x = c v
    · exact ⟨a, ha, by rw [a', cin x hx h1], as⟩
    · have h2 : c x ≠ c u := fun e => h1 (Or.inl e)
      have h3 : c x ≠ c v := fun e => h1 (Or.inr e)
      obtain ⟨y, hy, yc, ys⟩ := g6 x hx
      have yu : y ≠ u := fun e => h2 (by rw [← yc, e])
      have yv : y ≠ v := fun e => h3 (by rw [← yc, e])
      exact ⟨y, hy, by rw [cout x hx h3, cout y hy (by rw [yc]; exact h3), yc], by rw [(j1 y hy yu yv).2, ys]⟩
  · intro x hx sx fx
    by_cases h1 : c x = c u ∨ c x = c v
    · by_cases xa : x = a
      · exact ⟨b, hb, fun e => ab (by rw [← xa, e]), by rw [b', cin x hx h1], bs⟩
      · exact ⟨a, ha, fun e => xa e.symm, by rw [a', cin x hx h1], as⟩
    · have h2 : c x ≠ c u := fun e => h1 (Or.inl e)
      have h3 : c x ≠ c v := fun e => h1 (Or.inr e)
      have xu : x ≠ u := fun e => h2 (by rw [e])
      have xv : x ≠ v := fun e => h3 (by rw [e])
      rw [(j1 x hx xu xv).2] at sx
      rw [(j1 x hx xu xv).1] at fx
      obtain ⟨y, hy, yx, yc, ys⟩ := g7 x hx sx fx
      have yu : y ≠ u := fun e => h2 (by rw [← yc, e])
      have yv : y ≠ v := fun e => h3 (by rw [← yc, e])
      exact ⟨y, hy, yx, by rw [cout x hx h3, cout y hy (by rw [yc]; exact h3), yc], by rw [(j1 y hy yu yv).2, ys]⟩
  · intro P hP
    have old : ∀ x y, x < V → y < V → c x = c y → P x → P y :=
      g8 P (fun x y hx hy px h => hP x y hx hy px ((lk x y hx hy).mpr (Or.inl h)))
    have uv : P u → P v := fun p => hP u v hu hv p ((lk u v hu hv).mpr (Or.inr (Or.inl ⟨rfl, rfl⟩)))
    have vu : P v → P u := fun p => hP v u hv hu p ((lk v u hv hu).mpr (Or.inr (Or.inr ⟨rfl, rfl⟩)))
    intro x y hx hy h px
    by_cases hxv : c x = c v
    · by_cases hyv : c y = c v
      · exact old x y hx hy (by rw [hxv, hyv]) px
      · rw [cin x hx (Or.inr hxv), cout y hy hyv] at h
        exact old u y hu hy h (vu (old x v hx hv hxv px))
    · by_cases hyv : c y = c v
      · rw [cin y hy (Or.inr hyv), cout x hx hxv] at h
        exact old v y hv hy hyv.symm (uv (old x u hx hu h px))
      · rw [cout x hx hxv, cout y hy hyv] at h
        exact old x y hx hy h px
end
section
/-! a path is walked from an end: pl the placed variables, pr the one before, cu the one that is next -/
def oa_T (V : Nat) (f s pl : Nat → Int32) (pr cu : Int32) : Prop :=
  (cu = -1 ∧ ∀ x y, x < V → y < V → pl x ≠ 0 → oa_lk f s x y → pl y ≠ 0) ∨
  ∃ k, k < V ∧ cu = nI k ∧ pl k = 0 ∧ ((pr = -1 ∧ s k = -1) ∨ ∃ q, q < V ∧ pr = nI q ∧ pl q ≠ 0 ∧ oa_lk f s k q) ∧
    (∀ x y, x < V → y < V → pl x ≠ 0 → oa_lk f s x y → pl y ≠ 0 ∨ (pr = nI x ∧ y = k))
/-- the one behind k, as X finds it -/
def oa_nt (f s : Nat → Int32) (pr : Int32) (k : Nat) : Int32 := if f k = pr then s k else f k
theorem oa_T_step {V : Nat} {f s c pl pl' : Nat → Int32} {pr : Int32} {k : Nat} (hV : V ≤ 16) (g : oa_G V f s c) (hk : k < V) (t : oa_T V f s pl pr (nI k)) (p1 : pl' k ≠ 0) (p2 : ∀ x, x ≠ k → pl' x = pl x) :
    oa_T V f s pl' (nI k) (oa_nt f s pr k) ∧ (oa_nt f s pr k = -1 ∨ ∃ y, y < V ∧ oa_nt f s pr k = nI y) ∧
    (∀ y, y < V → ((oa_lk f s k y ∧ pl' y = 0) ↔ oa_nt f s pr k = nI y)) := by
  obtain ⟨g1, g2, g3, g4, _, _, _, _⟩ := g
  rcases t with ⟨h, _⟩ | ⟨k', hk', ek, pk0, hpr, hcl⟩
  · exact absurd h (oa_ne (by omega))
  have : k = k' := oa_inj (by omega) (by omega) ek
  subst this
  have nin : oa_nt f s pr k = -1 ∨ ∃ y, y < V ∧ y ≠ k ∧ oa_nt f s pr k = nI y := by
    unfold oa_nt
    split
    · exact g2 k hk
    · exact g1 k hk
  have lkk : ∀ y, y < V → oa_nt f s pr k = nI y → oa_lk f s k y := by
    intro y _ h
    unfold oa_nt at h
    split at h
    · exact Or.inr h
    · exact Or.inl h
  -- the next one is not the one before
  have nnp : ∀ y, y < V → oa_nt f s pr k = nI y → pr ≠ nI y := by
    intro y hy h e
    unfold oa_nt at h
    split at h
    · rename_i h1
      have := g3 k hk (by rw [h]; exact oa_ne (by omega))
      exact this.2 (by rw [h1, e, h])
    · rename_i h1
      exact h1 (by rw [h, e])
  -- the next one is not placed
  have nnl : ∀ y, y < V → oa_nt f s pr k = nI y → pl y = 0 := by
    intro y hy h
    by_cases z : pl y = 0
    · exact z
    · have l := g4 k y hk hy (lkk y hy h)
      rcases hcl y k hy hk z l with h2 | h2
      · exact absurd pk0 h2
      · exact absurd h2.1 (nnp y hy h)
  -- any link of k is the one before or the next
  have two : ∀ y, y < V → oa_lk f s k y → pr = nI y ∨ oa_nt f s pr k = nI y := by
    intro y hy h
    unfold oa_nt
    by_cases e : f k = pr
    · rw [if_pos e]
      rcases h with h | h
      · exact Or.inl (by rw [← e, h])
      · exact Or.inr h
    · rw [if_neg e]
      rcases h with h | h
      · exact Or.inr h
      · rcases hpr with ⟨_, h2⟩ | ⟨q, hq, hpq, _, hl⟩
        · rw [h2] at h; exact absurd h.symm (oa_ne (by omega))
        · rcases hl with hl | hl
          · exact absurd (by rw [hl, hpq]) e
          · exact Or.inl (by rw [hpq, ← hl, h])
  have prp : ∀ y, y < V → pr = nI y → pl y ≠ 0 := by
    intro y hy h
    rcases hpr with ⟨h2, _⟩ | ⟨q, hq, hpq, hp, _⟩
    · rw [h2] at h; exact absurd h.symm (oa_ne (by omega))
    · have : q = y := oa_inj (by omega) (by omega) (by rw [← hpq, h])
      exact this ▸ hp
  have pl'0 : ∀ y, pl' y = 0 → pl y = 0 := by
    intro y h
    by_cases e : y = k
    · subst e; exact pk0
    · rw [← p2 y e]; exact h
  have pl'n : ∀ y, pl y ≠ 0 → pl' y ≠ 0 := fun y h h2 => h (pl'0 y h2)
  have nni : ∀ y, y < V → ((oa_lk f s k y ∧ pl' y = 0) ↔ oa_nt f s pr k = nI y) := by
    intro y hy
    constructor
    · rintro ⟨h, h0⟩
      rcases two y hy h with h1 | h1
      · exact absurd (pl'0 y h0) (prp y hy h1)
      · exact h1
    · intro h
      refine ⟨lkk y hy h, ?_⟩
      have yk : y ≠ k := by
        rcases nin with h2 | ⟨z, hz, zk, h2⟩
        · rw [h2] at h; exact absurd h.symm (oa_ne (by omega))
        · have : z = y := oa_inj (by omega) (by omega) (by rw [← h2, h])
          exact this ▸ zk
      rw [p2 y yk]; exact nnl y hy h
  refine ⟨?_, ?_, nni⟩
  · rcases nin with h | ⟨y, hy, yk, h⟩
    · refine Or.inl ⟨h, ?_⟩
      intro x y hx hy px l
      by_cases e : x = k
      · subst e
        intro h0
        have := (nni y hy).mp ⟨l, h0⟩
        rw [h] at this
        exact oa_ne (by omega) this.symm
      · rw [p2 x e] at px
        rcases hcl x y hx hy px l with h2 | h2
        · exact pl'n y h2
        · rw [h2.2]; exact p1
    · refine Or.inr ⟨y, hy, h, ((nni y hy).mpr h).2, Or.inr ⟨k, hk, rfl, p1, g4 k y hk hy (lkk y hy h)⟩, ?_⟩
      intro x z hx hz px l
      by_cases e : x = k
      · subst e
        by_cases h0 : pl' z = 0
        · have := (nni z hz).mp ⟨l, h0⟩
          have : z = y := oa_inj (by omega) (by omega) (by rw [← this, h])
          exact Or.inr ⟨rfl, this⟩
        · exact Or.inl h0
      · rw [p2 x e] at px
        rcases hcl x z hx hz px l with h2 | h2
        · exact Or.inl (pl'n z h2)
        · exact Or.inl (by rw [h2.2]; exact p1)
  · rcases nin with h | ⟨y, hy, _, h⟩
    · exact Or.inl h
    · exact Or.inr ⟨y, hy, h⟩
/-- how many of the first n are placed -/
def oa_cn (pl : Nat → Int32) : Nat → Nat
  | 0 => 0
  | n + 1 => oa_cn pl n + if pl n = 0 then 0 else 1
theorem oa_cn_le (pl : Nat → Int32) : ∀ n, oa_cn pl n ≤ n := by
  intro n
  induction n with
  | zero => exact Nat.le_refl _
  | succ n ih => rw [oa_cn]; split <;> omega
theorem oa_cn_lt {pl : Nat → Int32} {k : Nat} (h : pl k = 0) : ∀ n, k < n → oa_cn pl n < n := by
  intro n
  induction n with
  | zero => intro h; omega
  | succ n ih =>
    intro hk
    rw [oa_cn]
    by_cases e : k = n
    · subst e; rw [if_pos h]; have := oa_cn_le pl k; omega
    · have := ih (by omega); split <;> omega
theorem oa_cn_all {pl : Nat → Int32} : ∀ n, (∀ x, x < n → pl x ≠ 0) → oa_cn pl n = n := by
  intro n
  induction n with
  | zero => intro _; rfl
  | succ n ih =>
    intro h
    rw [oa_cn, ih (fun x hx => h x (by omega)), if_neg (h n (by omega))]
theorem oa_cn_0 {pl : Nat → Int32} : ∀ n, (∀ x, x < n → pl x = 0) → oa_cn pl n = 0 := by
  intro n
  induction n with
  | zero => intro _; rfl
  | succ n ih =>
    intro h
    rw [oa_cn, ih (fun x hx => h x (by omega)), if_pos (h n (by omega))]
theorem oa_cn_up {pl pl' : Nat → Int32} {k : Nat} (h : pl k = 0) (p1 : pl' k ≠ 0) (p2 : ∀ x, x ≠ k → pl' x = pl x) : ∀ n, oa_cn pl' n = oa_cn pl n + if k < n then 1 else 0 := by
  intro n
  induction n with
  | zero => rfl
  | succ n ih =>
    rw [oa_cn, oa_cn, ih]
    by_cases e : k = n
    · subst e
      rw [if_neg p1, if_pos h, if_neg (Nat.lt_irrefl k), if_pos (Nat.lt_succ_self k)]
    · rw [p2 n (fun z => e z.symm)]
      by_cases e2 : k < n
      · rw [if_pos e2, if_pos (show k < n + 1 by omega)]; omega
      · rw [if_neg e2, if_neg (show ¬ k < n + 1 by omega)]; omega
/-- addresses given so far: ad of X, ay of Y -/
def oa_A (V N : Nat) (ad ay pl : Nat → Int32) : Prop :=
  N = oa_cn pl V ∧ (∀ x, x < V → pl x = 0 → ad x = -1) ∧
  (∀ x, x < V → pl x ≠ 0 → ay x = ad x ∧ ∃ a, a < N ∧ ad x = nI a) ∧
  (∀ a, a < N → ∃ x, x < V ∧ pl x ≠ 0 ∧ ad x = nI a) ∧
  (∀ x y, x < V → y < V → pl x ≠ 0 → pl y ≠ 0 → ad x = ad y → x = y)
theorem oa_A_step {V N k : Nat} {ad ay pl : Nat → Int32} {t : Int32} (hV : V ≤ 16) (h : oa_A V N ad ay pl) (hk : k < V) (h0 : pl k = 0) (ht : t ≠ 0) :
    oa_A V (N + 1) (upd ad k (nI N)) (upd ay k (nI N)) (upd pl k t) ∧ N < V := by
  obtain ⟨h1, h2, h3, h4, h5⟩ := h
  have hN := oa_cn_lt h0 V hk
  have nd : ∀ x, x < V → pl x ≠ 0 → ad x ≠ nI N := by
    intro x hx hp z
    obtain ⟨_, a, ha, e2⟩ := h3 x hx hp
    have := oa_inj (by omega) (by omega) (e2.symm.trans z)
    omega
  have q1 : upd pl k t k ≠ 0 := by rw [pk_us]; exact ht
  have q2 : ∀ x, x ≠ k → upd pl k t x = pl x := fun x hx => pk_un hx
  refine ⟨⟨?_, ?_, ?_, ?_, ?_⟩, ?_⟩
  · rw [oa_cn_up h0 q1 q2, if_pos hk, ← h1]
  · intro x hx hp
    by_cases e : x = k
    · subst e; exact absurd hp q1
    · rw [pk_un e] at hp ⊢; exact h2 x hx hp
  · intro x hx hp
    by_cases e : x = k
    · subst e; rw [pk_us, pk_us]; exact ⟨rfl, N, Nat.lt_succ_self N, rfl⟩
    · rw [pk_un e] at hp; rw [pk_un e, pk_un e]
      obtain ⟨e1, a, ha, e2⟩ := h3 x hx hp
      exact ⟨e1, a, by omega, e2⟩
  · intro a ha
    by_cases e : a = N
    · exact ⟨k, hk, q1, by rw [pk_us, e]⟩
    · obtain ⟨x, hx, hp, e2⟩ := h4 a (by omega)
      have xk : x ≠ k := fun z => hp (by rw [z]; exact h0)
      exact ⟨x, hx, by rw [pk_un xk]; exact hp, by rw [pk_un xk]; exact e2⟩
  · intro x y hx hy px py e
    by_cases ex : x = k
    · by_cases ey : y = k
      · rw [ex, ey]
      · rw [ex, pk_us, pk_un ey] at e
        rw [pk_un ey] at py
        exact absurd e.symm (nd y hy py)
    · rw [pk_un ex] at px e
      by_cases ey : y = k
      · rw [ey, pk_us] at e
        exact absurd e (nd x hx px)
      · rw [pk_un ey] at py e
        exact h5 x y hx hy px py e
  · rw [h1]; exact hN
end
section
/-! the code of a program: what both sides hold, and the machine's memory at its start -/
/-- the number of OUT among the first n instructions from b on -/
def oa_oc (op : Nat → Int32) (b : Nat) : Nat → Nat
  | 0 => 0
  | n + 1 => oa_oc op b n + if op (b + n) = 10 then 1 else 0
theorem oa_oc_cg {op op' : Nat → Int32} {b : Nat} : ∀ n, (∀ i, i < n → op' (b + i) = op (b + i)) → oa_oc op' b n = oa_oc op b n := by
  intro n
  induction n with
  | zero => intro _; rfl
  | succ n ih =>
    intro h
    rw [oa_oc, oa_oc, ih (fun i hi => h i (by omega)), h n (by omega)]
theorem oa_oc_mono (op : Nat → Int32) (b : Nat) : ∀ j i, i ≤ j → oa_oc op b i ≤ oa_oc op b j := by
  intro j
  induction j with
  | zero => intro i hi; rw [show i = 0 by omega]; exact Nat.le_refl _
  | succ j ih =>
    intro i hi
    by_cases e : i = j + 1
    · rw [e]; exact Nat.le_refl _
    · have := ih i (by omega)
      rw [oa_oc]
      omega
theorem oa_oc_lt {op : Nat → Int32} {b i j : Nat} (h : op (b + i) = 10) (hij : i < j) : oa_oc op b i + 1 ≤ oa_oc op b j := by
  have := oa_oc_mono op b j (i + 1) (by omega)
  rw [oa_oc, if_pos h] at this
  exact this
/-- program w has L instructions, at most q of them OUT -/
def oa_CI (nR w L q : Nat) (op rg len : Nat → Int32) : Prop :=
  len w = nI L ∧ (∀ i, i < L → (∃ o, o ≤ 10 ∧ op (192 * w + i) = nI o) ∧ ∃ r, r < nR ∧ rg (192 * w + i) = nI r) ∧ oa_oc op (192 * w) L ≤ q
theorem oa_CI_up {nR w L q q' : Nat} {op rg len : Nat → Int32} (h : oa_CI nR w L q op rg len) (hq : q ≤ q') : oa_CI nR w L q' op rg len :=
  ⟨h.1, h.2.1, Nat.le_trans h.2.2 hq⟩
/-- an instruction more -/
theorem oa_CI_emit {nR w L q o r : Nat} {op rg len : Nat → Int32} (h : oa_CI nR w L q op rg len) (ho : o ≤ 10) (hr : r < nR) :
    oa_CI nR w (L + 1) (q + if o = 10 then 1 else 0) (upd op (192 * w + L) (nI o)) (upd rg (192 * w + L) (nI r)) (upd len w (nI (L + 1))) := by
  obtain ⟨h1, h2, h3⟩ := h
  refine ⟨pk_us, ?_, ?_⟩
  · intro i hi
    by_cases e : i = L
    · rw [e, pk_us, pk_us]; exact ⟨⟨o, ho, rfl⟩, r, hr, rfl⟩
    · rw [pk_un (by omega), pk_un (by omega)]; exact h2 i (by omega)
  · have hcg : oa_oc (upd op (192 * w + L) (nI o)) (192 * w) L = oa_oc op (192 * w) L := oa_oc_cg L (fun i hi => pk_un (by omega))
    rw [oa_oc, hcg, pk_us]
    have e10 : (nI o = 10) ↔ o = 10 := nI_eq (b := 10) (by omega) (by decide)
    by_cases e : o = 10
    · rw [if_pos (e10.mpr e), if_pos e]; omega
    · rw [if_neg (fun z => e (e10.mp z)), if_neg e]; omega
/-- the other program stays -/
theorem oa_CI_other {nR w w' L L' q' : Nat} {o r l : Int32} {op rg len : Nat → Int32} (h : oa_CI nR w' L' q' op rg len) (hL : L < 192) (hL' : L' ≤ 192) (hw : w' ≠ w) :
    oa_CI nR w' L' q' (upd op (192 * w + L) o) (upd rg (192 * w + L) r) (upd len w l) := by
  obtain ⟨h1, h2, h3⟩ := h
  refine ⟨by rw [pk_un hw]; exact h1, ?_, ?_⟩
  · intro i hi
    rw [pk_un (by omega), pk_un (by omega)]; exact h2 i hi
  · have hcg : oa_oc (upd op (192 * w + L) o) (192 * w') L' = oa_oc op (192 * w') L' := oa_oc_cg L' (fun i hi => pk_un (by omega))
    rw [hcg]; exact h3
/-- initial values into their cells -/
def oa_mi (m : Nat → Int32) (b : Nat) (cell : Nat → Nat) (ini : Nat → Int32) : Nat → Nat → Int32
  | 0 => m
  | v + 1 => upd (oa_mi m b cell ini v) (b + cell v) (ini v)
theorem oa_mi_hit {m m' : Nat → Int32} {b : Nat} {cell : Nat → Nat} {ini : Nat → Int32} {c : Nat} : ∀ n, (∃ v, v < n ∧ b + cell v = c) → oa_mi m b cell ini n c = oa_mi m' b cell ini n c := by
  intro n
  induction n with
  | zero => rintro ⟨v, hv, _⟩; omega
  | succ n ih =>
    rintro ⟨v, hv, e⟩
    rw [oa_mi, oa_mi]
    by_cases e2 : c = b + cell n
    · rw [e2, pk_us, pk_us]
    · rw [pk_un e2, pk_un e2]
      have : v ≠ n := fun z => e2 (by rw [← e, z])
      exact ih ⟨v, by omega, e⟩
theorem oa_mi_out {m : Nat → Int32} {b : Nat} {cell : Nat → Nat} {ini : Nat → Int32} {c : Nat} : ∀ n, (∀ v, v < n → c ≠ b + cell v) → oa_mi m b cell ini n c = m c := by
  intro n
  induction n with
  | zero => intro _; rfl
  | succ n ih =>
    intro h
    rw [oa_mi, pk_un (h n (by omega))]
    exact ih (fun v hv => h v (by omega))
/-- cells filled one by one -/
def oa_fill (f g : Nat → Int32) (n : Nat) : Nat → Int32 := fun j => if j < n then g j else f j
theorem oa_fill_0 (f g : Nat → Int32) : oa_fill f g 0 = f := by
  funext j
  exact if_neg (by omega)
theorem oa_fill_s {f g : Nat → Int32} {n : Nat} {x : Int32} (h : x = g n) : upd (oa_fill f g n) n x = oa_fill f g (n + 1) := by
  funext j
  unfold upd oa_fill
  by_cases e : j = n
  · rw [if_pos e, if_pos (by omega), e, h]
  · rw [if_neg e]
    by_cases e2 : j < n
    · rw [if_pos e2, if_pos (by omega)]
    · rw [if_neg e2, if_neg (by omega)]
theorem oa_fill_lt {f g : Nat → Int32} {n j : Nat} (h : j < n) : oa_fill f g n j = g j := if_pos h
theorem oa_fill_ge {f g : Nat → Int32} {n j : Nat} (h : n ≤ j) : oa_fill f g n j = f j := if_neg (by omega)
theorem oa_uu {f : Nat → Int32} {k : Nat} {x y : Int32} : upd (upd f k x) k y = upd f k y := by
  funext j
  unfold upd
  split <;> rfl
/-- a chain's name is changed -/
def oa_rn (c : Nat → Int32) (a b : Int32) (n : Nat) : Nat → Int32 := fun j => if j < n ∧ c j = a then b else c j
theorem oa_rn_0 (c : Nat → Int32) (a b : Int32) : oa_rn c a b 0 = c := by
  funext j
  exact if_neg (by omega)
theorem oa_rn_self {c : Nat → Int32} {a b : Int32} {n : Nat} : oa_rn c a b n n = c n := if_neg (by omega)
theorem oa_rn_t {c : Nat → Int32} {a b : Int32} {n : Nat} (h : c n = a) : upd (oa_rn c a b n) n b = oa_rn c a b (n + 1) := by
  funext j
  unfold upd oa_rn
  by_cases e : j = n
  · rw [if_pos e, if_pos ⟨by omega, by rw [e]; exact h⟩]
  · rw [if_neg e]
    by_cases e2 : j < n ∧ c j = a
    · rw [if_pos e2, if_pos ⟨by omega, e2.2⟩]
    · rw [if_neg e2, if_neg (fun z => e2 ⟨by omega, z.2⟩)]
theorem oa_rn_f {c : Nat → Int32} {a b : Int32} {n : Nat} (h : ¬ c n = a) : oa_rn c a b n = oa_rn c a b (n + 1) := by
  funext j
  unfold oa_rn
  by_cases e2 : j < n ∧ c j = a
  · rw [if_pos e2, if_pos ⟨by omega, e2.2⟩]
  · rw [if_neg e2, if_neg]
    rintro ⟨z1, z2⟩
    by_cases e : j = n
    · rw [e] at z2; exact h z2
    · exact e2 ⟨by omega, z2⟩
end
section
/-! the table of weights as X fills it -/
def oa_wA (w0 R a : Nat → Int32) (n : Nat) : Nat → Nat → Int32
  | 0 => w0
  | j + 1 => if oa_fo R a n j < n then (if a j = a (oa_fo R a n j) then oa_wA w0 R a n j else
      upd (upd (oa_wA w0 R a n j) ((a j).toNatClampNeg * 16 + (a (oa_fo R a n j)).toNatClampNeg) (oa_wA w0 R a n j ((a j).toNatClampNeg * 16 + (a (oa_fo R a n j)).toNatClampNeg) + 1))
        ((a (oa_fo R a n j)).toNatClampNeg * 16 + (a j).toNatClampNeg) (upd (oa_wA w0 R a n j) ((a j).toNatClampNeg * 16 + (a (oa_fo R a n j)).toNatClampNeg) (oa_wA w0 R a n j ((a j).toNatClampNeg * 16 + (a (oa_fo R a n j)).toNatClampNeg) + 1) ((a (oa_fo R a n j)).toNatClampNeg * 16 + (a j).toNatClampNeg) + 1)) else oa_wA w0 R a n j
theorem oa_wA_wt {w0 R a : Nat → Int32} {n : Nat} (h0 : ∀ p, p < 256 → w0 p = 0) (ha : ∀ j, j < n → ∃ k, k < 16 ∧ a j = nI k) :
    ∀ i, i ≤ n → ∀ x y, x < 16 → y < 16 → oa_wA w0 R a n i (x * 16 + y) = oa_wt R a n (nI x) (nI y) i := by
  intro i
  induction i with
  | zero => intro _ x y hx hy; exact h0 _ (by omega)
  | succ i ih =>
    intro hi x y hx hy
    have ih := ih (by omega)
    rw [oa_wA, oa_wt]
    by_cases hf : oa_fo R a n i < n
    · rw [if_pos hf]
      by_cases he : a i = a (oa_fo R a n i)
      · rw [if_pos he, if_neg (fun z => z.2.1 he)]; exact ih x y hx hy
      · rw [if_neg he]
        obtain ⟨u, hu, eu⟩ := ha i (by omega)
        obtain ⟨v, hv, ev⟩ := ha (oa_fo R a n i) hf
        generalize oa_wA w0 R a n i = m at ih ⊢
        rw [eu, ev] at he
        rw [eu, ev, nI_clamp (by omega), nI_clamp (by omega)]
        have uv : u ≠ v := fun z => he (by rw [z])
        have pm : oa_pm (nI x) (nI y) (nI u) (nI v) ↔ (u = x ∧ v = y) ∨ (u = y ∧ v = x) := by
          unfold oa_pm
          rw [nI_eq (by omega) (by omega), nI_eq (by omega) (by omega), nI_eq (by omega) (by omega), nI_eq (by omega) (by omega)]
        by_cases h1 : u = x ∧ v = y
        · rw [if_pos ⟨hf, he, pm.mpr (Or.inl h1)⟩, pk_un (by rw [← h1.1, ← h1.2]; intro z; exact uv ((oa_cell hv hu).mp z).1), ← h1.1, ← h1.2, pk_us, ih u v hu hv]
        · by_cases h2 : u = y ∧ v = x
          · rw [if_pos ⟨hf, he, pm.mpr (Or.inr h2)⟩, ← h2.1, ← h2.2, pk_us, pk_un (by intro z; exact uv ((oa_cell hu hv).mp z).1.symm), ih v u hv hu]
          · rw [if_neg (fun z => (pm.mp z.2.2).elim h1 h2), pk_un (by intro z; have := (oa_cell hy hu).mp z; exact h2 ⟨this.2.symm, this.1.symm⟩), pk_un (by intro z; have := (oa_cell hy hv).mp z; exact h1 ⟨this.1.symm, this.2.symm⟩)]
            exact ih x y hx hy
    · rw [if_neg hf, if_neg (fun z => hf z.1)]; exact ih x y hx hy
/-- the table as Y fills it -/
def oa_wY (R a : Nat → Int32) (V n : Nat) (p : Nat) : Int32 :=
  if p / 16 < p % 16 ∧ p % 16 < V ∧ R (p / 16) = R (p % 16) then oa_ct R a (R (p / 16)) (nI (p / 16)) (nI (p % 16)) n else 0
theorem oa_wA_wY {w0 R a : Nat → Int32} {n V u v : Nat} (hV : V ≤ 16) (h0 : ∀ p, p < 256 → w0 p = 0) (ha : ∀ j, j < n → ∃ k, k < 16 ∧ a j = nI k) (huv : u < v) (hv : v < V) :
    oa_wA w0 R a n n (u * 16 + v) = oa_wY R a V n (u * 16 + v) := by
  rw [oa_wA_wt h0 ha n (Nat.le_refl n) u v (by omega) (by omega)]
  unfold oa_wY
  rw [show (u * 16 + v) / 16 = u by omega, show (u * 16 + v) % 16 = v by omega]
  by_cases hr : R u = R v
  · rw [if_pos ⟨huv, hv, hr⟩]
    exact oa_wt_ct (by rw [nI_clamp (by omega)]) (by rw [nI_clamp (by omega), hr]) (fun z => by have := oa_inj (by omega) (by omega) z; omega) (oa_ne (by omega)) (oa_ne (by omega))
  · rw [if_neg (fun z => hr z.2.2)]
    exact oa_wt_0 (by rw [nI_clamp (by omega), nI_clamp (by omega)]; exact hr) n (Nat.le_refl n)
theorem oa_wY_0 {R a : Nat → Int32} {n V u v : Nat} (hv : v < 16) (h : ¬ (u < v ∧ v < V)) : oa_wY R a V n (u * 16 + v) = 0 := by
  unfold oa_wY
  rw [show (u * 16 + v) / 16 = u by omega, show (u * 16 + v) % 16 = v by omega, if_neg]
  exact fun z => h ⟨z.1, z.2.1⟩
/-- scans of equal accesses are equal -/
theorem oa_ct_cg {R a a' : Nat → Int32} {r u v : Int32} : ∀ n, (∀ j, j < n → a' j = a j) → oa_pv R a' r n = oa_pv R a r n ∧ oa_ct R a' r u v n = oa_ct R a r u v n := by
  intro n
  induction n with
  | zero => intro _; exact ⟨rfl, rfl⟩
  | succ n ih =>
    intro h
    obtain ⟨e1, e2⟩ := ih (fun j hj => h j (by omega))
    rw [oa_pv, oa_pv, oa_ct, oa_ct, h n (by omega), e1, e2]
    exact ⟨rfl, rfl⟩
end
section
/-! statements and their accesses -/
def oa_na (o : Int32) : Nat := if o ≤ 5 then 3 else if o = 6 then 2 else 1
def oa_ps (sop : Nat → Int32) : Nat → Nat
  | 0 => 0
  | i + 1 => oa_ps sop i + oa_na (sop i)
theorem oa_na_le (o : Int32) : oa_na o ≤ 3 := by
  unfold oa_na
  split
  · omega
  · split <;> omega
theorem oa_ps_le (sop : Nat → Int32) : ∀ n, oa_ps sop n ≤ 3 * n := by
  intro n
  induction n with
  | zero => exact Nat.le_refl _
  | succ n ih => have := oa_na_le (sop n); rw [oa_ps]; omega
theorem oa_ps_mono (sop : Nat → Int32) : ∀ j i, i ≤ j → oa_ps sop i ≤ oa_ps sop j := by
  intro j
  induction j with
  | zero => intro i hi; rw [show i = 0 by omega]; exact Nat.le_refl _
  | succ j ih =>
    intro i hi
    by_cases e : i = j + 1
    · rw [e]; exact Nat.le_refl _
    · have := ih i (by omega)
      rw [oa_ps]
      omega
theorem oa_ps_cg {sop sop' : Nat → Int32} : ∀ n, (∀ i, i < n → sop' i = sop i) → oa_ps sop' n = oa_ps sop n := by
  intro n
  induction n with
  | zero => intro _; rfl
  | succ n ih => intro h; rw [oa_ps, oa_ps, ih (fun i hi => h i (by omega)), h n (by omega)]
def oa_vr (V : Nat) (x : Int32) : Prop := ∃ k, k < V ∧ x = nI k
/-- a good statement whose accesses stand in P from p on -/
def oa_ST (V : Nat) (o d a b : Int32) (P : Nat → Int32) (p : Nat) : Prop :=
  (∃ k, k ≤ 5 ∧ o = nI k ∧ oa_vr V d ∧ oa_vr V a ∧ oa_vr V b ∧ P p = a ∧ P (p + 1) = b ∧ P (p + 2) = d) ∨
  (o = 6 ∧ oa_vr V d ∧ oa_vr V a ∧ P p = a ∧ P (p + 1) = d) ∨ (o = 7 ∧ oa_vr V d ∧ P p = d) ∨ (o = 8 ∧ oa_vr V a ∧ P p = a)
theorem oa_na5 {k : Nat} (h : k ≤ 5) : oa_na (nI k) = 3 := if_pos (nI_le (b := 5) h (by decide))
theorem oa_na6 : oa_na 6 = 2 := by decide
theorem oa_na7 : oa_na 7 = 1 := by decide
theorem oa_na8 : oa_na 8 = 1 := by decide
theorem oa_ST_cg {V : Nat} {o d a b : Int32} {P P' : Nat → Int32} {p : Nat} (h : oa_ST V o d a b P p) (e : ∀ j, p ≤ j → j < p + oa_na o → P' j = P j) : oa_ST V o d a b P' p := by
  rcases h with ⟨k, hk, rfl, h1, h2, h3, h4, h5, h6⟩ | ⟨rfl, h1, h2, h3, h4⟩ | ⟨rfl, h1, h2⟩ | ⟨rfl, h1, h2⟩
  · rw [oa_na5 hk] at e
    exact Or.inl ⟨k, hk, rfl, h1, h2, h3, by rw [e p (by omega) (by omega)]; exact h4, by rw [e (p + 1) (by omega) (by omega)]; exact h5, by rw [e (p + 2) (by omega) (by omega)]; exact h6⟩
  · rw [oa_na6] at e
    exact Or.inr (Or.inl ⟨rfl, h1, h2, by rw [e p (by omega) (by omega)]; exact h3, by rw [e (p + 1) (by omega) (by omega)]; exact h4⟩)
  · rw [oa_na7] at e
    exact Or.inr (Or.inr (Or.inl ⟨rfl, h1, by rw [e p (by omega) (by omega)]; exact h2⟩))
  · rw [oa_na8] at e
    exact Or.inr (Or.inr (Or.inr ⟨rfl, h1, by rw [e p (by omega) (by omega)]; exact h2⟩))
theorem oa_ST_vr {V : Nat} {o d a b : Int32} {P : Nat → Int32} {p : Nat} (h : oa_ST V o d a b P p) : ∀ j, p ≤ j → j < p + oa_na o → oa_vr V (P j) := by
  intro j hj hj2
  rcases h with ⟨k, hk, rfl, h1, h2, h3, h4, h5, h6⟩ | ⟨rfl, h1, h2, h3, h4⟩ | ⟨rfl, h1, h2⟩ | ⟨rfl, h1, h2⟩
  · rw [oa_na5 hk] at hj2
    by_cases e0 : j = p
    · rw [e0, h4]; exact h2
    · by_cases e1 : j = p + 1
      · rw [e1, h5]; exact h3
      · rw [show j = p + 2 by omega, h6]; exact h1
  · rw [oa_na6] at hj2
    by_cases e0 : j = p
    · rw [e0, h3]; exact h2
    · rw [show j = p + 1 by omega, h4]; exact h1
  · rw [oa_na7] at hj2
    rw [show j = p by omega, h2]; exact h1
  · rw [oa_na8] at hj2
    rw [show j = p by omega, h2]; exact h1
/-- the block's first n statements, with their accesses in P -/
def oa_SS (V n : Nat) (sop sd sa sb P : Nat → Int32) : Prop := ∀ i, i < n → oa_ST V (sop i) (sd i) (sa i) (sb i) P (oa_ps sop i)
theorem oa_SS_vr {V : Nat} {sop sd sa sb P : Nat → Int32} : ∀ n, oa_SS V n sop sd sa sb P → ∀ j, j < oa_ps sop n → oa_vr V (P j) := by
  intro n
  induction n with
  | zero => intro _ j hj; exact absurd hj (by rw [oa_ps]; omega)
  | succ n ih =>
    intro h j hj
    by_cases e : j < oa_ps sop n
    · exact ih (fun i hi => h i (by omega)) j e
    · rw [oa_ps] at hj
      exact oa_ST_vr (h n (by omega)) j (by omega) hj
/-- one more -/
theorem oa_SS_add {V n : Nat} {sop sd sa sb P P' : Nat → Int32} {o d a b : Int32} (h : oa_SS V n sop sd sa sb P) (eP : ∀ j, j < oa_ps sop n → P' j = P j) (hn : oa_ST V o d a b P' (oa_ps sop n)) :
    oa_SS V (n + 1) (upd sop n o) (upd sd n d) (upd sa n a) (upd sb n b) P' ∧ oa_ps (upd sop n o) (n + 1) = oa_ps sop n + oa_na o := by
  have e1 : ∀ i, i ≤ n → oa_ps (upd sop n o) i = oa_ps sop i := fun i hi => oa_ps_cg i (fun j hj => pk_un (by omega))
  refine ⟨?_, ?_⟩
  · intro i hi
    rw [e1 i (by omega)]
    by_cases e : i = n
    · rw [e, pk_us, pk_us, pk_us, pk_us]; exact hn
    · rw [pk_un e, pk_un e, pk_un e, pk_un e]
      refine oa_ST_cg (h i (by omega)) (fun j _ hj => eP j ?_)
      have : oa_ps sop (i + 1) ≤ oa_ps sop n := oa_ps_mono sop n (i + 1) (by omega)
      rw [oa_ps] at this
      omega
  · rw [oa_ps, e1 n (Nat.le_refl n), pk_us]
end
section
/-! joining two variables, on both sides -/
def oa_lf (f : Nat → Int32) (x y : Nat) : Nat → Int32 := if f x = -1 then upd f x (nI y) else f
def oa_ls (f s : Nat → Int32) (x y : Nat) : Nat → Int32 := if f x = -1 then s else upd s x (nI y)
theorem oa_lf_n {f : Nat → Int32} {x y z : Nat} (h : z ≠ x) : oa_lf f x y z = f z := by
  unfold oa_lf
  split
  · exact pk_un h
  · rfl
theorem oa_ls_n {f s : Nat → Int32} {x y z : Nat} (h : z ≠ x) : oa_ls f s x y z = s z := by
  unfold oa_ls
  split
  · rfl
  · exact pk_un h
theorem oa_l_t {f s : Nat → Int32} {x y : Nat} (h : f x = -1) : oa_lf f x y x = nI y ∧ oa_ls f s x y x = s x := by
  unfold oa_lf oa_ls
  rw [if_pos h, if_pos h]
  exact ⟨pk_us, rfl⟩
theorem oa_l_f {f s : Nat → Int32} {x y : Nat} (h : f x ≠ -1) : oa_lf f x y x = f x ∧ oa_ls f s x y x = nI y := by
  unfold oa_lf oa_ls
  rw [if_neg h, if_neg h]
  exact ⟨rfl, pk_us⟩
theorem oa_J_mk {V u v : Nat} {f s c : Nat → Int32} (huv : u ≠ v) :
    oa_J V u v f s c (oa_lf (oa_lf f u v) v u) (oa_ls (oa_lf f u v) (oa_ls f s u v) v u) (oa_rn c (c v) (c u) V) := by
  have fv : oa_lf f u v v = f v := oa_lf_n (fun z => huv z.symm)
  have sv : oa_ls f s u v v = s v := oa_ls_n (fun z => huv z.symm)
  refine ⟨?_, ?_, ?_, ?_, ?_, ?_⟩
  · intro x _ h1 h2
    rw [oa_lf_n h2, oa_lf_n h1, oa_ls_n h2, oa_ls_n h1]
    exact ⟨rfl, rfl⟩
  · intro h
    rw [oa_lf_n huv, oa_ls_n huv]
    exact oa_l_t h
  · intro h
    rw [oa_lf_n huv, oa_ls_n huv]
    exact oa_l_f h
  · intro h
    have := oa_l_t (f := oa_lf f u v) (s := oa_ls f s u v) (x := v) (y := u) (by rw [fv]; exact h)
    rw [sv] at this
    exact this
  · intro h
    have := oa_l_f (f := oa_lf f u v) (s := oa_ls f s u v) (x := v) (y := u) (by rw [fv]; exact h)
    rw [fv] at this
    exact this
  · intro x hx
    unfold oa_rn
    by_cases e : c x = c v
    · rw [if_pos ⟨hx, e⟩, if_pos e]
    · rw [if_neg (fun z => e z.2), if_neg e]
/-- X's links against Y's edges, degrees, components -/
def oa_JR (V : Nat) (f s c ed dg cp : Nat → Int32) : Prop :=
  (∀ x, x < V → (f x = -1 ∧ dg x = 0) ∨ (f x ≠ -1 ∧ s x = -1 ∧ dg x = 1) ∨ (s x ≠ -1 ∧ dg x = 2)) ∧
  (∀ x y, x < V → y < V → (ed (x * 16 + y) ≠ 0 ↔ oa_lk f s x y)) ∧ (∀ x, x < V → cp x = c x)
theorem oa_JR_deg {V : Nat} {f s c ed dg cp : Nat → Int32} (g : oa_G V f s c) (r : oa_JR V f s c ed dg cp) {x : Nat} (hx : x < V) : dg x < 2 ↔ s x = -1 := by
  have g3 := g.2.2.1
  rcases r.1 x hx with ⟨h1, h2⟩ | ⟨h1, h2, h3⟩ | ⟨h1, h2⟩
  · rw [h2]
    constructor
    · intro _
      by_cases z : s x = -1
      · exact z
      · exact absurd h1 (g3 x hx z).1
    · intro _; decide
  · rw [h3]
    exact ⟨fun _ => h2, fun _ => by decide⟩
  · rw [h2]
    exact ⟨fun z => absurd z (by decide), fun z => absurd z h1⟩
theorem oa_JR_step {V u v : Nat} {f s c f' s' c' ed dg cp cp' : Nat → Int32} (hV : V ≤ 16) (hu : u < V) (hv : v < V) (g : oa_G V f s c) (su : s u = -1) (sv : s v = -1) (cc : c u ≠ c v) (j : oa_J V u v f s c f' s' c')
    (r : oa_JR V f s c ed dg cp) (hcp : ∀ x, x < V → cp' x = if cp x = cp v then cp u else cp x) :
    oa_JR V f' s' c' (upd (upd ed (u * 16 + v) 1) (v * 16 + u) 1) (upd (upd dg u (dg u + 1)) v (dg v + 1)) cp' := by
  have huv : u ≠ v := fun h => cc (by rw [h])
  have lk := oa_J_lk hV hu hv huv su sv j
  obtain ⟨j1, ju1, ju2, jv1, jv2, jc⟩ := j
  obtain ⟨r1, r2, r3⟩ := r
  have nv : nI v ≠ -1 := oa_ne (by omega)
  have nu : nI u ≠ -1 := oa_ne (by omega)
  refine ⟨?_, ?_, ?_⟩
  · intro x hx
    by_cases h1 : x = u
    · subst h1
      rw [pk_un huv, pk_us]
      rcases r1 x hx with ⟨h1, h2⟩ | ⟨h1, h2, h3⟩ | ⟨h1, h2⟩
      · exact Or.inr (Or.inl ⟨by rw [(ju1 h1).1]; exact nv, by rw [(ju1 h1).2]; exact su, by rw [h2]; decide⟩)
      · exact Or.inr (Or.inr ⟨by rw [(ju2 h1).2]; exact nv, by rw [h3]; decide⟩)
      · exact absurd su h1
    · by_cases h2 : x = v
      · subst h2
        rw [pk_us]
        rcases r1 x hx with ⟨h1, h2⟩ | ⟨h1, h2, h3⟩ | ⟨h1, h2⟩
        · exact Or.inr (Or.inl ⟨by rw [(jv1 h1).1]; exact nu, by rw [(jv1 h1).2]; exact sv, by rw [h2]; decide⟩)
        · exact Or.inr (Or.inr ⟨by rw [(jv2 h1).2]; exact nu, by rw [h3]; decide⟩)
        · exact absurd sv h1
      · rw [pk_un h2, pk_un h1, (j1 x hx h1 h2).1, (j1 x hx h1 h2).2]
        exact r1 x hx
  · intro x y hx hy
    rw [lk x y hx hy]
    by_cases h2 : x = v ∧ y = u
    · rw [h2.1, h2.2, pk_us]
      exact ⟨fun _ => Or.inr (Or.inr ⟨rfl, rfl⟩), fun _ => by decide⟩
    · rw [pk_un (fun z => h2 ((oa_cell (by omega) (by omega)).mp z))]
      by_cases h1 : x = u ∧ y = v
      · rw [h1.1, h1.2, pk_us]
        exact ⟨fun _ => Or.inr (Or.inl ⟨rfl, rfl⟩), fun _ => by decide⟩
      · rw [pk_un (fun z => h1 ((oa_cell (by omega) (by omega)).mp z)), r2 x y hx hy]
        constructor
        · exact Or.inl
        · rintro (h | h | h)
          · exact h
          · exact absurd h h1
          · exact absurd h h2
  · intro x hx
    rw [hcp x hx, jc x hx, r3 x hx, r3 u hu, r3 v hv]
end
section
/-! a path's beginning and end -/
theorem oa_least (P : Nat → Prop) (h : ∃ k, P k) : ∃ k, P k ∧ ∀ j, j < k → ¬ P j := by
  obtain ⟨k, hk⟩ := h
  induction k using Nat.strongRecOn with
  | _ k ih =>
    by_cases z : ∃ j, j < k ∧ P j
    · obtain ⟨j, hj, pj⟩ := z
      exact ih j hj pj
    · exact ⟨k, hk, fun j hj pj => z ⟨j, hj, pj⟩⟩
def oa_Cl (V : Nat) (f s pl : Nat → Int32) : Prop := ∀ x y, x < V → y < V → pl x ≠ 0 → oa_lk f s x y → pl y ≠ 0
/-- the smaller end of k's chain -/
theorem oa_end {V k : Nat} {f s c : Nat → Int32} (g : oa_G V f s c) (hk : k < V) : ∃ e, e < V ∧ (c e = c k ∧ s e = -1) ∧ ∀ x, x < e → ¬ (c x = c k ∧ s x = -1) := by
  obtain ⟨y, hy, h1, h2⟩ := g.2.2.2.2.2.1 k hk
  obtain ⟨e, he, hl⟩ := oa_least (fun x => c x = c k ∧ s x = -1) ⟨y, h1, h2⟩
  refine ⟨e, ?_, he, hl⟩
  by_cases z : e < V
  · exact z
  · exact absurd ⟨h1, h2⟩ (hl y (by omega))
theorem oa_T_start {V k e : Nat} {f s c pl : Nat → Int32} (g : oa_G V f s c) (hk : k < V) (he : e < V) (hc : c e = c k) (hs : s e = -1) (h0 : pl k = 0) (cl : oa_Cl V f s pl) : oa_T V f s pl (-1) (nI e) := by
  refine Or.inr ⟨e, he, rfl, ?_, Or.inl ⟨rfl, hs⟩, fun x y hx hy hp hl => Or.inl (cl x y hx hy hp hl)⟩
  by_cases z : pl e = 0
  · exact z
  · exact absurd h0 (g.2.2.2.2.2.2.2 (fun x => pl x ≠ 0) cl e k he hk hc z)
theorem oa_T_end {V k e : Nat} {f s c pl : Nat → Int32} {pr : Int32} (hV : V ≤ 16) (g : oa_G V f s c) (hk : k < V) (he : e < V) (hc : c e = c k) (t : oa_T V f s pl pr (-1)) (h : pl e ≠ 0) : oa_Cl V f s pl ∧ pl k ≠ 0 := by
  rcases t with ⟨_, cl⟩ | ⟨q, hq, h2, _⟩
  · exact ⟨cl, g.2.2.2.2.2.2.2 (fun x => pl x ≠ 0) cl e k he hk hc h⟩
  · exact absurd h2.symm (oa_ne (by omega))
/-- when all are placed, the addresses are 0 to V - 1 -/
theorem oa_A_all {V N : Nat} {ad ay pl : Nat → Int32} (h : oa_A V N ad ay pl) (ha : ∀ x, x < V → pl x ≠ 0) :
    (∀ x, x < V → ay x = ad x ∧ ∃ a, a < V ∧ ad x = nI a) ∧ (∀ a, a < V → ∃ x, x < V ∧ ad x = nI a) := by
  obtain ⟨h1, _, h3, h4, _⟩ := h
  rw [oa_cn_all V ha] at h1
  subst h1
  refine ⟨fun x hx => h3 x hx (ha x hx), fun a hN => ?_⟩
  obtain ⟨x, hx, _, e⟩ := h4 a hN
  exact ⟨x, hx, e⟩
theorem oa_A_inj {V N : Nat} {ad ay pl : Nat → Int32} (h : oa_A V N ad ay pl) (ha : ∀ x, x < V → pl x ≠ 0) : ∀ x y, x < V → y < V → ad x = ad y → x = y :=
  fun x y hx hy e => h.2.2.2.2 x y hx hy (ha x hx) (ha y hy) e
end
section
/-! all joins: X's three loops as a function; Y's one loop follows it. A state: links f s, chains c, edges, degrees, components -/
abbrev oa_Q : Type := (Nat → Int32) × (Nat → Int32) × (Nat → Int32) × (Nat → Int32) × (Nat → Int32) × (Nat → Int32)
def oa_jj (V u v : Nat) (q : oa_Q) : oa_Q :=
  (oa_lf (oa_lf q.1 u v) v u, oa_ls (oa_lf q.1 u v) (oa_ls q.1 q.2.1 u v) v u, oa_rn q.2.2.1 (q.2.2.1 v) (q.2.2.1 u) V,
   upd (upd q.2.2.2.1 (u * 16 + v) 1) (v * 16 + u) 1, upd (upd q.2.2.2.2.1 u (q.2.2.2.2.1 u + 1)) v (q.2.2.2.2.1 v + 1), oa_rn q.2.2.2.2.2 (q.2.2.2.2.2 v) (q.2.2.2.2.2 u) 16)
abbrev oa_cj (q : oa_Q) (u v : Nat) : Prop := q.2.1 u = -1 ∧ q.2.1 v = -1 ∧ q.2.2.1 u ≠ q.2.2.1 v
def oa_j1 (W : Nat → Int32) (w : Int32) (V u v : Nat) (q : oa_Q) : oa_Q :=
  if W (u * 16 + v) = w ∧ oa_cj q u v then oa_jj V u v q else q
def oa_jv (W : Nat → Int32) (w : Int32) (V u : Nat) : Nat → Nat → oa_Q → oa_Q
  | 0, _, q => q
  | d + 1, v, q => oa_jv W w V u d (v + 1) (oa_j1 W w V u v q)
def oa_ju (W : Nat → Int32) (w : Int32) (V : Nat) : Nat → Nat → oa_Q → oa_Q
  | 0, _, q => q
  | d + 1, u, q => oa_ju W w V d (u + 1) (oa_jv W w V u (V - (u + 1)) (u + 1) q)
def oa_jw (W : Nat → Int32) (V : Nat) : Nat → oa_Q → oa_Q
  | 0, q => q
  | w + 1, q => oa_jw W V w (oa_ju W (nI (w + 1)) V V 0 q)
def oa_QI (V : Nat) (q : oa_Q) : Prop := oa_G V q.1 q.2.1 q.2.2.1 ∧ oa_JR V q.1 q.2.1 q.2.2.1 q.2.2.2.1 q.2.2.2.2.1 q.2.2.2.2.2
theorem oa_QI_jj {V u v : Nat} {q : oa_Q} (hV : V ≤ 16) (hu : u < V) (hv : v < V) (c : oa_cj q u v) (h : oa_QI V q) : oa_QI V (oa_jj V u v q) := by
  obtain ⟨g, r⟩ := h
  obtain ⟨su, sv, cc⟩ := c
  have huv : u ≠ v := fun z => cc (by rw [z])
  have j := oa_J_mk (V := V) (f := q.1) (s := q.2.1) (c := q.2.2.1) huv
  refine ⟨oa_J_G hV hu hv su sv cc j g, oa_JR_step hV hu hv g su sv cc j r ?_⟩
  intro x hx
  show oa_rn q.2.2.2.2.2 (q.2.2.2.2.2 v) (q.2.2.2.2.2 u) 16 x = _
  unfold oa_rn
  by_cases e : q.2.2.2.2.2 x = q.2.2.2.2.2 v
  · rw [if_pos ⟨by omega, e⟩, if_pos e]
  · rw [if_neg (fun z => e z.2), if_neg e]
/-- what Y asks before it joins -/
def oa_cY (q : oa_Q) (u v : Nat) : Prop := q.2.2.2.2.1 u < 2 ∧ q.2.2.2.2.1 v < 2 ∧ q.2.2.2.2.2 u ≠ q.2.2.2.2.2 v
theorem oa_cY_cj {V u v : Nat} {q : oa_Q} (hu : u < V) (hv : v < V) (h : oa_QI V q) : oa_cY q u v ↔ oa_cj q u v := by
  unfold oa_cY oa_cj
  rw [oa_JR_deg h.1 h.2 hu, oa_JR_deg h.1 h.2 hv, h.2.2.2 u hu, h.2.2.2 v hv]
theorem oa_j1_I {W : Nat → Int32} {w : Int32} {V u v : Nat} {q : oa_Q} (hV : V ≤ 16) (hu : u < V) (hv : v < V) (h : oa_QI V q) : oa_QI V (oa_j1 W w V u v q) := by
  unfold oa_j1
  split
  · rename_i c; exact oa_QI_jj hV hu hv c.2 h
  · exact h
theorem oa_jv_I {W : Nat → Int32} {w : Int32} {V u : Nat} (hV : V ≤ 16) (hu : u < V) : ∀ d v q, v + d ≤ V → oa_QI V q → oa_QI V (oa_jv W w V u d v q) := by
  intro d
  induction d with
  | zero => intro v q _ h; exact h
  | succ d ih => intro v q hv h; exact ih (v + 1) _ (by omega) (oa_j1_I hV hu (by omega) h)
theorem oa_ju_I {W : Nat → Int32} {w : Int32} {V : Nat} (hV : V ≤ 16) : ∀ d u q, u + d ≤ V → oa_QI V q → oa_QI V (oa_ju W w V d u q) := by
  intro d
  induction d with
  | zero => intro u q _ h; exact h
  | succ d ih => intro u q hu h; exact ih (u + 1) _ (by omega) (oa_jv_I hV (by omega) _ _ _ (by omega) h)
theorem oa_jw_I {W : Nat → Int32} {V : Nat} (hV : V ≤ 16) : ∀ w q, oa_QI V q → oa_QI V (oa_jw W V w q) := by
  intro w
  induction w with
  | zero => intro q h; exact h
  | succ w ih => intro q h; exact ih _ (oa_ju_I hV V 0 q (by omega) h)
section
variable {W wt : Nat → Int32} {V : Nat} {YW : Nat → Nat → oa_Q → Prop}
/-- Y's step at t, as a rule -/
def oa_YS (wt : Nat → Int32) (V : Nat) (YW : Nat → Nat → oa_Q → Prop) : Prop := ∀ k u v n q, k < 95 → u < 16 → v < 16 →
  (¬ (wt (u * 16 + v) = nI (95 - k) ∧ oa_cY q u v) → YW n (k * 256 + u * 16 + v + 1) q → YW (n + 1) (k * 256 + u * 16 + v) q) ∧
  ((wt (u * 16 + v) = nI (95 - k) ∧ oa_cY q u v) → YW n (k * 256 + u * 16 + v + 1) (oa_jj V u v q) → YW (n + 1) (k * 256 + u * 16 + v) q)
theorem oa_Y_skip (hY : oa_YS wt V YW) (h0 : ∀ u v, u < 16 → v < 16 → ¬ (u < v ∧ v < V) → wt (u * 16 + v) = 0) {k u : Nat} (hk : k < 95) (hu : u < 16) {q : oa_Q} :
    ∀ d v n, v + d ≤ 16 → (∀ y, v ≤ y → y < v + d → ¬ (u < y ∧ y < V)) → YW n (k * 256 + u * 16 + v + d) q → YW (n + d) (k * 256 + u * 16 + v) q := by
  intro d
  induction d with
  | zero => intro v n _ _ h; exact h
  | succ d ih =>
    intro v n hv hs h
    refine (hY k u v (n + d) q hk hu (by omega)).1 ?_ ?_
    · rintro ⟨z, _⟩
      rw [h0 u v hu (by omega) (hs v (by omega) (by omega))] at z
      exact nI_ne0 (n := 95 - k) (by omega) (by omega) z.symm
    · refine ih (v + 1) n (by omega) (fun y h1 h2 => hs y (by omega) (by omega)) ?_
      rw [show k * 256 + u * 16 + (v + 1) + d = k * 256 + u * 16 + v + (d + 1) by omega]
      exact h
theorem oa_Y_jv (hV : V ≤ 16) (hY : oa_YS wt V YW) (hW : ∀ u v, u < v → v < V → W (u * 16 + v) = wt (u * 16 + v)) {k u : Nat} (hk : k < 95) (hu : u < V) :
    ∀ d v n q, u < v → v + d = V → oa_QI V q → YW n (k * 256 + u * 16 + V) (oa_jv W (nI (95 - k)) V u d v q) → YW (n + d) (k * 256 + u * 16 + v) q := by
  intro d
  induction d with
  | zero => intro v n q _ hv _ h; rw [← show v = V by omega] at h; exact h
  | succ d ih =>
    intro v n q huv hv hq h
    have h2 := ih (v + 1) n (oa_j1 W (nI (95 - k)) V u v q) (by omega) (by omega) (oa_j1_I hV hu (by omega) hq) h
    have ec := oa_cY_cj hu (show v < V by omega) hq
    have ew := hW u v huv (by omega)
    by_cases c : W (u * 16 + v) = nI (95 - k) ∧ oa_cj q u v
    · rw [show oa_j1 W (nI (95 - k)) V u v q = oa_jj V u v q from if_pos c] at h2
      exact (hY k u v (n + d) q hk (by omega) (by omega)).2 ⟨by rw [← ew]; exact c.1, ec.mpr c.2⟩ h2
    · rw [show oa_j1 W (nI (95 - k)) V u v q = q from if_neg c] at h2
      exact (hY k u v (n + d) q hk (by omega) (by omega)).1 (fun z => c ⟨by rw [ew]; exact z.1, ec.mp z.2⟩) h2
theorem oa_Y_ju (hV : V ≤ 16) (hY : oa_YS wt V YW) (hW : ∀ u v, u < v → v < V → W (u * 16 + v) = wt (u * 16 + v)) (h0 : ∀ u v, u < 16 → v < 16 → ¬ (u < v ∧ v < V) → wt (u * 16 + v) = 0) {k : Nat} (hk : k < 95) :
    ∀ d u n q, u + d = V → oa_QI V q → YW n (k * 256 + V * 16) (oa_ju W (nI (95 - k)) V d u q) → YW (n + d * 16) (k * 256 + u * 16) q := by
  intro d
  induction d with
  | zero => intro u n q hu _ h; rw [← show u = V by omega] at h; rw [Nat.zero_mul]; exact h
  | succ d ih =>
    intro u n q hu hq h
    have hq2 := oa_jv_I (W := W) (w := nI (95 - k)) hV (show u < V by omega) (V - (u + 1)) (u + 1) q (by omega) hq
    have h2 := ih (u + 1) n _ (by omega) hq2 h
    have h3 := oa_Y_skip hY h0 hk (show u < 16 by omega) (q := oa_jv W (nI (95 - k)) V u (V - (u + 1)) (u + 1) q) (16 - V) V (n + d * 16) (by omega) (fun y h1 h2 => by omega) (by rw [show k * 256 + u * 16 + V + (16 - V) = k * 256 + (u + 1) * 16 by omega]; exact h2)
    have h4 := oa_Y_jv hV hY hW hk (show u < V by omega) (V - (u + 1)) (u + 1) _ q (by omega) (by omega) hq h3
    have h5 := oa_Y_skip hY h0 hk (show u < 16 by omega) (q := q) (u + 1) 0 _ (by omega) (fun y h1 h2 => by omega) (by rw [show k * 256 + u * 16 + 0 + (u + 1) = k * 256 + u * 16 + (u + 1) by omega]; exact h4)
    rw [show n + d * 16 + (16 - V) + (V - (u + 1)) + (u + 1) = n + (d + 1) * 16 by omega] at h5
    exact h5
theorem oa_Y_rows (hY : oa_YS wt V YW) (h0 : ∀ u v, u < 16 → v < 16 → ¬ (u < v ∧ v < V) → wt (u * 16 + v) = 0) {k : Nat} (hk : k < 95) {q : oa_Q} :
    ∀ d u n, u + d = 16 → V ≤ u → YW n (k * 256 + 256) q → YW (n + d * 16) (k * 256 + u * 16) q := by
  intro d
  induction d with
  | zero => intro u n hu _ h; rw [show u = 16 by omega, Nat.zero_mul]; exact h
  | succ d ih =>
    intro u n hu hv h
    have h2 := ih (u + 1) n (by omega) (by omega) h
    have h5 := oa_Y_skip hY h0 hk (show u < 16 by omega) (q := q) 16 0 _ (by omega) (fun y h1 h2 => by omega) (by rw [show k * 256 + u * 16 + 0 + 16 = k * 256 + (u + 1) * 16 by omega]; exact h2)
    rw [show n + d * 16 + 16 = n + (d + 1) * 16 by omega] at h5
    exact h5
theorem oa_Y_jw (hV : V ≤ 16) (hY : oa_YS wt V YW) (hW : ∀ u v, u < v → v < V → W (u * 16 + v) = wt (u * 16 + v)) (h0 : ∀ u v, u < 16 → v < 16 → ¬ (u < v ∧ v < V) → wt (u * 16 + v) = 0) :
    ∀ w n q, w ≤ 95 → oa_QI V q → YW n 24320 (oa_jw W V w q) → YW (n + w * 256) ((95 - w) * 256) q := by
  intro w
  induction w with
  | zero => intro n q _ _ h; rw [Nat.zero_mul]; exact h
  | succ w ih =>
    intro n q hw hq h
    have ek : 95 - (95 - (w + 1)) = w + 1 := by omega
    have hk : 95 - (w + 1) < 95 := by omega
    have hq2 := oa_ju_I (W := W) (w := nI (w + 1)) hV V 0 q (by omega) hq
    have h2 := ih n _ (by omega) hq2 h
    have h3 := oa_Y_rows hY h0 hk (q := oa_ju W (nI (w + 1)) V V 0 q) (16 - V) V _ (by omega) (by omega) (by rw [show (95 - (w + 1)) * 256 + 256 = (95 - w) * 256 by omega]; exact h2)
    have h4 := oa_Y_ju hV hY hW h0 hk V 0 _ q (by omega) hq (by rw [ek]; exact h3)
    rw [show n + w * 256 + (16 - V) * 16 + V * 16 = n + (w + 1) * 256 by omega, show (95 - (w + 1)) * 256 + 0 * 16 = (95 - (w + 1)) * 256 by omega] at h4
    exact h4
end
end
section
/-! all paths are placed: X's loops as a function. A state: addresses of X, of Y, the placed ones, the next address -/
abbrev oa_B : Type := (Nat → Int32) × (Nat → Int32) × (Nat → Int32) × Nat
def oa_b1 (b : oa_B) (k : Nat) : oa_B := (upd b.1 k (nI b.2.2.2), upd b.2.1 k (nI b.2.2.2), upd b.2.2.1 k 1, b.2.2.2 + 1)
def oa_tr (f s : Nat → Int32) : Nat → Int32 → Int32 → oa_B → oa_B
  | 0, _, _, b => b
  | d + 1, pr, cu, b => if cu = -1 then b else oa_tr f s d cu (oa_nt f s pr cu.toNatClampNeg) (oa_b1 b cu.toNatClampNeg)
theorem oa_tr_I {V : Nat} {f s c : Nat → Int32} (hV : V ≤ 16) (g : oa_G V f s c) : ∀ d pr cu (b : oa_B), oa_T V f s b.2.2.1 pr cu → oa_A V b.2.2.2 b.1 b.2.1 b.2.2.1 → V ≤ d + oa_cn b.2.2.1 V →
    (∃ pr', oa_T V f s (oa_tr f s d pr cu b).2.2.1 pr' (-1)) ∧ oa_A V (oa_tr f s d pr cu b).2.2.2 (oa_tr f s d pr cu b).1 (oa_tr f s d pr cu b).2.1 (oa_tr f s d pr cu b).2.2.1 ∧
    (∀ x, b.2.2.1 x ≠ 0 → (oa_tr f s d pr cu b).2.2.1 x ≠ 0) ∧ (∀ k, k < V → cu = nI k → (oa_tr f s d pr cu b).2.2.1 k ≠ 0) := by
  intro d
  induction d with
  | zero =>
    intro pr cu b t a hd
    have e : cu = -1 := by
      rcases t with ⟨h, _⟩ | ⟨k, hk, _, h0, _⟩
      · exact h
      · have := oa_cn_lt h0 V hk; omega
    subst e
    exact ⟨⟨pr, t⟩, a, fun x h => h, fun k hk h => absurd h.symm (oa_ne (by omega))⟩
  | succ d ih =>
    intro pr cu b t a hd
    rw [oa_tr]
    by_cases e : cu = -1
    · rw [if_pos e]
      subst e
      exact ⟨⟨pr, t⟩, a, fun x h => h, fun k hk h => absurd h.symm (oa_ne (by omega))⟩
    · rw [if_neg e]
      rcases t with ⟨h, _⟩ | ⟨k, hk, rfl, h0, h1, h2⟩
      · exact absurd h e
      · rw [nI_clamp (by omega)]
        have t : oa_T V f s b.2.2.1 pr (nI k) := Or.inr ⟨k, hk, rfl, h0, h1, h2⟩
        have q1 : upd b.2.2.1 k 1 k ≠ 0 := by rw [pk_us]; decide
        have q2 : ∀ x, x ≠ k → upd b.2.2.1 k 1 x = b.2.2.1 x := fun x hx => pk_un hx
        have st := oa_T_step hV g hk t q1 q2
        have sa := oa_A_step hV a hk h0 (t := 1) (by decide)
        have sc := oa_cn_up h0 q1 q2 V
        rw [if_pos hk] at sc
        obtain ⟨i1, i2, i3, i4⟩ := ih (nI k) (oa_nt f s pr k) (oa_b1 b k) st.1 sa.1 (by show V ≤ d + oa_cn (upd b.2.2.1 k 1) V; omega)
        have mono : ∀ x, b.2.2.1 x ≠ 0 → (oa_b1 b k).2.2.1 x ≠ 0 := by
          intro x hx
          show upd b.2.2.1 k 1 x ≠ 0
          by_cases z : x = k
          · rw [z]; exact q1
          · rw [q2 x z]; exact hx
        refine ⟨i1, i2, fun x hx => i3 x (mono x hx), fun k' hk' e' => ?_⟩
        have : k = k' := oa_inj (by omega) (by omega) e'
        subst this
        exact i3 k q1
/-- the smaller end, as both sides look for it -/
def oa_sm (s c : Nat → Int32) (x : Int32) : Nat → Nat → Int32
  | 0, _ => -1
  | d + 1, v => if c v = x ∧ s v = -1 then nI v else oa_sm s c x d (v + 1)
theorem oa_sm_e {V e : Nat} {s c : Nat → Int32} {x : Int32} (he : e < V) (h1 : c e = x ∧ s e = -1) (h2 : ∀ y, y < e → ¬ (c y = x ∧ s y = -1)) : ∀ d v, v + d = V → v ≤ e → oa_sm s c x d v = nI e := by
  intro d
  induction d with
  | zero => intro v hv hve; omega
  | succ d ih =>
    intro v hv hve
    rw [oa_sm]
    by_cases z : v = e
    · rw [z, if_pos h1]
    · rw [if_neg (h2 v (by omega))]; exact ih (v + 1) (by omega) (by omega)
def oa_a1 (reg f s c : Nat → Int32) (V : Nat) (r : Int32) (v : Nat) (b : oa_B) : oa_B :=
  if reg v = r ∧ b.1 v = -1 then oa_tr f s V (-1) (oa_sm s c (c v) V 0) b else b
def oa_av (reg f s c : Nat → Int32) (V : Nat) (r : Int32) : Nat → Nat → oa_B → oa_B
  | 0, _, b => b
  | d + 1, v, b => oa_av reg f s c V r d (v + 1) (oa_a1 reg f s c V r v b)
def oa_aw (reg f s c : Nat → Int32) (V : Nat) : Nat → Nat → oa_B → oa_B
  | 0, _, b => b
  | d + 1, r, b => oa_aw reg f s c V d (r + 1) (oa_av reg f s c V (nI r) V 0 b)
def oa_BI (V : Nat) (f s : Nat → Int32) (b : oa_B) : Prop := oa_A V b.2.2.2 b.1 b.2.1 b.2.2.1 ∧ oa_Cl V f s b.2.2.1
theorem oa_BI_un {V : Nat} {f s : Nat → Int32} {b : oa_B} (hV : V ≤ 16) (h : oa_BI V f s b) {v : Nat} (hv : v < V) : b.1 v = -1 ↔ b.2.2.1 v = 0 := by
  obtain ⟨⟨h1, h2, h3, h4⟩, _⟩ := h
  constructor
  · intro e
    by_cases z : b.2.2.1 v = 0
    · exact z
    · obtain ⟨_, a, ha, ea⟩ := h3 v hv z
      rw [e] at ea
      have := oa_cn_le b.2.2.1 V
      exact absurd ea.symm (oa_ne (by omega))
  · exact h2 v hv
theorem oa_a1_I {V v : Nat} {reg f s c : Nat → Int32} {r : Int32} {b : oa_B} (hV : V ≤ 16) (g : oa_G V f s c) (hv : v < V) (h : oa_BI V f s b) :
    oa_BI V f s (oa_a1 reg f s c V r v b) ∧ (∀ x, b.2.2.1 x ≠ 0 → (oa_a1 reg f s c V r v b).2.2.1 x ≠ 0) ∧ (reg v = r → (oa_a1 reg f s c V r v b).2.2.1 v ≠ 0) := by
  have un := oa_BI_un hV h hv
  unfold oa_a1
  by_cases z : reg v = r ∧ b.1 v = -1
  · rw [if_pos z]
    obtain ⟨e, he, ⟨hc, hs⟩, hl⟩ := oa_end g hv
    rw [oa_sm_e he ⟨hc, hs⟩ hl V 0 (by omega) (by omega)]
    have t := oa_T_start g hv he hc hs (un.mp z.2) h.2
    obtain ⟨⟨pr, i1⟩, i2, i3, i4⟩ := oa_tr_I hV g V (-1) (nI e) b t h.1 (by omega)
    have en := oa_T_end hV g hv he hc i1 (i4 e he rfl)
    exact ⟨⟨i2, en.1⟩, i3, fun _ => en.2⟩
  · rw [if_neg z]
    exact ⟨h, fun x hx => hx, fun hr => fun h0 => z ⟨hr, un.mpr h0⟩⟩
theorem oa_av_I {V : Nat} {reg f s c : Nat → Int32} {r : Int32} (hV : V ≤ 16) (g : oa_G V f s c) : ∀ d v b, v + d ≤ V → oa_BI V f s b →
    oa_BI V f s (oa_av reg f s c V r d v b) ∧ (∀ x, b.2.2.1 x ≠ 0 → (oa_av reg f s c V r d v b).2.2.1 x ≠ 0) ∧ (∀ x, v ≤ x → x < v + d → reg x = r → (oa_av reg f s c V r d v b).2.2.1 x ≠ 0) := by
  intro d
  induction d with
  | zero => intro v b _ h; exact ⟨h, fun x hx => hx, fun x h1 h2 => by omega⟩
  | succ d ih =>
    intro v b hv h
    obtain ⟨a1, a2, a3⟩ := oa_a1_I (reg := reg) (r := r) hV g (show v < V by omega) h
    obtain ⟨i1, i2, i3⟩ := ih (v + 1) _ (by omega) a1
    refine ⟨i1, fun x hx => i2 x (a2 x hx), fun x h1 h2 hr => ?_⟩
    by_cases z : x = v
    · rw [z] at hr ⊢; exact i2 v (a3 hr)
    · exact i3 x (by omega) (by omega) hr
theorem oa_aw_I {V : Nat} {reg f s c : Nat → Int32} (hV : V ≤ 16) (g : oa_G V f s c) : ∀ d r b, oa_BI V f s b →
    oa_BI V f s (oa_aw reg f s c V d r b) ∧ (∀ x, b.2.2.1 x ≠ 0 → (oa_aw reg f s c V d r b).2.2.1 x ≠ 0) ∧ (∀ x r', x < V → r ≤ r' → r' < r + d → reg x = nI r' → (oa_aw reg f s c V d r b).2.2.1 x ≠ 0) := by
  intro d
  induction d with
  | zero => intro r b h; exact ⟨h, fun x hx => hx, fun x r' _ h1 h2 => by omega⟩
  | succ d ih =>
    intro r b h
    obtain ⟨a1, a2, a3⟩ := oa_av_I (reg := reg) (r := nI r) hV g V 0 b (by omega) h
    obtain ⟨i1, i2, i3⟩ := ih (r + 1) _ a1
    refine ⟨i1, fun x hx => i2 x (a2 x hx), fun x r' hx h1 h2 hr => ?_⟩
    by_cases z : r' = r
    · rw [z] at hr; exact i2 x (a3 x (by omega) (by omega) hr)
    · exact i3 x r' hx (by omega) (by omega) hr
/-- Y's loop over t = r * V + v -/
theorem oa_Y_av {V : Nat} {reg f s c : Nat → Int32} {YW : Nat → Nat → oa_B → Prop} (hV : V ≤ 16) (g : oa_G V f s c) {r : Nat}
    (hY : ∀ v n b, v < V → oa_BI V f s b → YW n (r * V + v + 1) (oa_a1 reg f s c V (nI r) v b) → YW (n + 1) (r * V + v) b) :
    ∀ d v n b, v + d = V → oa_BI V f s b → YW n (r * V + V) (oa_av reg f s c V (nI r) d v b) → YW (n + d) (r * V + v) b := by
  intro d
  induction d with
  | zero =>
    intro v n b hv _ h
    have e : r * V + V = r * V + v := by omega
    rw [e] at h
    exact h
  | succ d ih =>
    intro v n b hv hb h
    exact hY v (n + d) b (by omega) hb (ih (v + 1) n _ (by omega) (oa_a1_I hV g (by omega) hb).1 h)
theorem oa_Y_aw {V nR : Nat} {reg f s c : Nat → Int32} {YW : Nat → Nat → oa_B → Prop} (hV : V ≤ 16) (g : oa_G V f s c)
    (hY : ∀ r v n b, r < nR → v < V → oa_BI V f s b → YW n (r * V + v + 1) (oa_a1 reg f s c V (nI r) v b) → YW (n + 1) (r * V + v) b) :
    ∀ d r n b, r + d = nR → oa_BI V f s b → YW n (nR * V) (oa_aw reg f s c V d r b) → YW (n + d * V) (r * V) b := by
  intro d
  induction d with
  | zero => intro r n b hr _ h; rw [← show r = nR by omega] at h; rw [Nat.zero_mul]; exact h
  | succ d ih =>
    intro r n b hr hb h
    have h2 := ih (r + 1) n _ (by omega) (oa_av_I (reg := reg) (r := nI r) hV g V 0 b (by omega) hb).1 h
    rw [Nat.succ_mul] at h2
    have h3 := oa_Y_av hV g (fun v n b hv hb h => hY r v n b (by omega) hv hb h) V 0 (n + d * V) b (by omega) hb h2
    rw [Nat.succ_mul, ← Nat.add_assoc]
    exact h3
end
section
/-! the code is made: X's methods as functions. A state: opcodes, registers, operands, lengths, loads, X's known addresses, Y's known values, Y's marks -/
abbrev oa_K : Type := (Nat → Int32) × (Nat → Int32) × (Nat → Int32) × (Nat → Int32) × (Nat → Int32) × (Nat → Int32) × (Nat → Int32) × (Nat → Int32)
def oa_em (w : Nat) (o r x : Int32) (k : oa_K) : oa_K :=
  (upd k.1 (192 * w + (k.2.2.2.1 w).toNatClampNeg) o, upd k.2.1 (192 * w + (k.2.2.2.1 w).toNatClampNeg) r, upd k.2.2.1 (192 * w + (k.2.2.2.1 w).toNatClampNeg) x,
   upd k.2.2.2.1 w (k.2.2.2.1 w + 1), if o = 0 then upd k.2.2.2.2.1 w (k.2.2.2.2.1 w + 1) else k.2.2.2.2.1, k.2.2.2.2.2)
def oa_mk (w R : Nat) (k : oa_K) : oa_K :=
  (k.1, k.2.1, k.2.2.1, k.2.2.2.1, k.2.2.2.2.1, k.2.2.2.2.2.1, k.2.2.2.2.2.2.1, if w = 0 then k.2.2.2.2.2.2.2 else upd k.2.2.2.2.2.2.2 R 1)
def oa_st (w R : Nat) (x : Int32) (k : oa_K) : oa_K :=
  (k.1, k.2.1, k.2.2.1, k.2.2.2.1, k.2.2.2.2.1, upd k.2.2.2.2.2.1 R x, if w = 0 then k.2.2.2.2.2.2.1 else upd k.2.2.2.2.2.2.1 R x, k.2.2.2.2.2.2.2)
/-- the step behind access j -/
def oa_sp (reg acc ad : Nat → Int32) (n j : Nat) : Int32 :=
  if oa_fo reg acc n j < n then (if -1 ≤ ad (acc (oa_fo reg acc n j)).toNatClampNeg - ad (acc j).toNatClampNeg ∧ ad (acc (oa_fo reg acc n j)).toNatClampNeg - ad (acc j).toNatClampNeg ≤ 1
    then ad (acc (oa_fo reg acc n j)).toNatClampNeg - ad (acc j).toNatClampNeg else 0) else 0
def oa_pa (acc ad : Nat → Int32) (w j : Nat) : Int32 := if w = 0 then acc j else ad (acc j).toNatClampNeg
def oa_ms (reg acc ad : Nat → Int32) (n w j : Nat) : Int32 := if w = 0 then 0 else oa_sp reg acc ad n j
/-- the load of an address, where it is wanted -/
def oa_ld (reg acc ad : Nat → Int32) (w j : Nat) (k : oa_K) : oa_K :=
  if w = 0 ∨ k.2.2.2.2.2.1 (reg (acc j).toNatClampNeg).toNatClampNeg ≠ oa_pa acc ad w j
  then oa_mk w (reg (acc j).toNatClampNeg).toNatClampNeg (oa_em w 0 (reg (acc j).toNatClampNeg) (oa_pa acc ad w j) k) else k
def oa_ac (reg acc ad : Nat → Int32) (n w : Nat) (code : Int32) (j : Nat) (k : oa_K) : oa_K :=
  oa_st w (reg (acc j).toNatClampNeg).toNatClampNeg (oa_pa acc ad w j + oa_ms reg acc ad n w j)
    (oa_em w code (reg (acc j).toNatClampNeg) (oa_ms reg acc ad n w j) (oa_ld reg acc ad w j k))
/-- a statement -/
def oa_tt (reg acc ad : Nat → Int32) (n w : Nat) (o a : Int32) (p : Nat) (k : oa_K) : oa_K :=
  if o ≤ 5 then oa_ac reg acc ad n w 8 (p + 2) (oa_ac reg acc ad n w (2 + o) (p + 1) (oa_ac reg acc ad n w 1 p k))
  else if o = 6 then oa_ac reg acc ad n w 8 (p + 1) (oa_ac reg acc ad n w 1 p k)
  else if o = 7 then oa_ac reg acc ad n w 8 p (oa_em w 9 0 a k)
  else oa_em w 10 0 0 (oa_ac reg acc ad n w 1 p k)
def oa_tb (reg acc ad sop sa : Nat → Int32) (n w : Nat) : Nat → oa_K → oa_K
  | 0, k => k
  | i + 1, k => oa_tt reg acc ad n w (sop i) (sa i) (oa_ps sop i) (oa_tb reg acc ad sop sa n w i k)
/-- the two kinds of knowledge agree -/
def oa_KR (nR w : Nat) (k : oa_K) : Prop := w = 0 ∨ ∀ r, r < nR → (k.2.2.2.2.2.2.2 r = 0 → k.2.2.2.2.2.1 r = -1) ∧ (k.2.2.2.2.2.2.2 r ≠ 0 → k.2.2.2.2.2.1 r = k.2.2.2.2.2.2.1 r)
/-- the code of program w' is as in k0 -/
def oa_FK (w' : Nat) (k0 k : oa_K) : Prop := k.2.2.2.1 w' = k0.2.2.2.1 w' ∧ ∀ i, i < 192 → k.1 (192 * w' + i) = k0.1 (192 * w' + i) ∧ k.2.1 (192 * w' + i) = k0.2.1 (192 * w' + i) ∧ k.2.2.1 (192 * w' + i) = k0.2.2.1 (192 * w' + i)
theorem oa_FK_up {w w' L : Nat} {o r x l : Int32} {t : (Nat → Int32) × (Nat → Int32) × (Nat → Int32) × (Nat → Int32)} {k0 k : oa_K} (h : oa_FK w' k0 k) (hL : L < 192) (hw : w' ≠ w) :
    oa_FK w' k0 (upd k.1 (192 * w + L) o, upd k.2.1 (192 * w + L) r, upd k.2.2.1 (192 * w + L) x, upd k.2.2.2.1 w l, t) := by
  refine ⟨?_, fun i hi => ?_⟩
  · show upd k.2.2.2.1 w l w' = _
    rw [pk_un hw]
    exact h.1
  · show upd k.1 (192 * w + L) o (192 * w' + i) = _ ∧ upd k.2.1 (192 * w + L) r (192 * w' + i) = _ ∧ upd k.2.2.1 (192 * w + L) x (192 * w' + i) = _
    rw [pk_un (by omega), pk_un (by omega), pk_un (by omega)]
    exact h.2 i hi
/-- length L, at most q OUT; the other program is as in k0 -/
def oa_KC (nR w L q : Nat) (k0 k : oa_K) : Prop :=
  oa_CI nR w L q k.1 k.2.1 k.2.2.2.1 ∧ (∀ w' L' q', w' ≠ w → L' ≤ 192 → oa_CI nR w' L' q' k0.1 k0.2.1 k0.2.2.2.1 → oa_CI nR w' L' q' k.1 k.2.1 k.2.2.2.1) ∧ (∀ w', w' ≠ w → oa_FK w' k0 k)
theorem oa_em_C {nR w L q o r : Nat} {x : Int32} {k0 k : oa_K} (h : oa_KC nR w L q k0 k) (hL : L < 192) (ho : o ≤ 10) (hr : r < nR) : oa_KC nR w (L + 1) (q + if o = 10 then 1 else 0) k0 (oa_em w (nI o) (nI r) x k) := by
  obtain ⟨h1, h3, h4⟩ := h
  have eL : (k.2.2.2.1 w).toNatClampNeg = L := by rw [h1.1]; exact nI_clamp (by omega)
  have eN : k.2.2.2.1 w + 1 = nI (L + 1) := by rw [h1.1]; exact nI_1 L
  unfold oa_em
  rw [eL, eN]
  exact ⟨oa_CI_emit h1 ho hr, fun w' L' q' hw hl hc => oa_CI_other (h3 w' L' q' hw hl hc) hL hl hw, fun w' hw => oa_FK_up (h4 w' hw) hL hw⟩
theorem oa_em_C' {nR w L q o r : Nat} {x : Int32} {k0 k : oa_K} (h : oa_KC nR w L q k0 k) (hL : L < 192) (ho : o < 10) (hr : r < nR) : oa_KC nR w (L + 1) q k0 (oa_em w (nI o) (nI r) x k) := by
  have := oa_em_C (x := x) h hL (show o ≤ 10 by omega) hr
  rw [if_neg (by omega), Nat.add_zero] at this
  exact this
theorem oa_ld_C {nR w L q j r : Nat} {reg acc ad : Nat → Int32} {k0 k : oa_K} (er : reg (acc j).toNatClampNeg = nI r) (hr : r < nR) (h : oa_KC nR w L q k0 k) (hL : L < 192) :
    ∃ L', L' ≤ L + 1 ∧ oa_KC nR w L' q k0 (oa_ld reg acc ad w j k) := by
  unfold oa_ld
  split
  · refine ⟨L + 1, Nat.le_refl _, ?_⟩
    rw [er]
    exact oa_em_C' (o := 0) (x := oa_pa acc ad w j) h hL (by omega) hr
  · exact ⟨L, by omega, h⟩
theorem oa_ac_C {nR w L q j n o r : Nat} {reg acc ad : Nat → Int32} {k0 k : oa_K} (er : reg (acc j).toNatClampNeg = nI r) (hr : r < nR) (h : oa_KC nR w L q k0 k) (hL : L + 2 ≤ 192) (ho : o < 10) :
    ∃ L', L' ≤ L + 2 ∧ oa_KC nR w L' q k0 (oa_ac reg acc ad n w (nI o) j k) := by
  obtain ⟨L1, hL1, h1⟩ := oa_ld_C (ad := ad) er hr h (by omega)
  refine ⟨L1 + 1, by omega, ?_⟩
  unfold oa_ac
  rw [er]
  exact oa_em_C' (x := oa_ms reg acc ad n w j) h1 (by omega) ho hr
theorem oa_ld_kn (reg acc ad : Nat → Int32) (w j : Nat) (k : oa_K) : (oa_ld reg acc ad w j k).2.2.2.2.2.1 = k.2.2.2.2.2.1 ∧ (oa_ld reg acc ad w j k).2.2.2.2.2.2.1 = k.2.2.2.2.2.2.1 := by
  unfold oa_ld
  split
  · exact ⟨rfl, rfl⟩
  · exact ⟨rfl, rfl⟩
theorem oa_ld_kk {reg acc ad : Nat → Int32} {w j r : Nat} {k : oa_K} (hw : w ≠ 0) (er : (reg (acc j).toNatClampNeg).toNatClampNeg = r) (hp : oa_pa acc ad w j ≠ -1) (h : k.2.2.2.2.2.2.2 r = 0 → k.2.2.2.2.2.1 r = -1) :
    (oa_ld reg acc ad w j k).2.2.2.2.2.2.2 r ≠ 0 ∧ ∀ x, x ≠ r → (oa_ld reg acc ad w j k).2.2.2.2.2.2.2 x = k.2.2.2.2.2.2.2 x := by
  unfold oa_ld
  rw [er]
  by_cases c : w = 0 ∨ k.2.2.2.2.2.1 r ≠ oa_pa acc ad w j
  · rw [if_pos c]
    have e : ∀ x, (oa_mk w r (oa_em w 0 (reg (acc j).toNatClampNeg) (oa_pa acc ad w j) k)).2.2.2.2.2.2.2 x = upd k.2.2.2.2.2.2.2 r 1 x := by
      intro x
      show (if w = 0 then k.2.2.2.2.2.2.2 else upd k.2.2.2.2.2.2.2 r 1) x = _
      rw [if_neg hw]
    refine ⟨?_, fun x hx => ?_⟩
    · rw [e, pk_us]; decide
    · rw [e, pk_un hx]
  · rw [if_neg c]
    refine ⟨fun z => c (Or.inr ?_), fun x _ => rfl⟩
    rw [h z]
    exact fun y => hp y.symm
theorem oa_ac_R {nR w j n r : Nat} {o : Int32} {reg acc ad : Nat → Int32} {k : oa_K} (er : (reg (acc j).toNatClampNeg).toNatClampNeg = r) (hr : r < nR) (hp : w ≠ 0 → oa_pa acc ad w j ≠ -1) (h : oa_KR nR w k) :
    oa_KR nR w (oa_ac reg acc ad n w o j k) := by
  rcases h with h | h
  · exact Or.inl h
  · by_cases hw : w = 0
    · exact Or.inl hw
    · refine Or.inr fun x hx => ?_
      have l1 := oa_ld_kk hw er (hp hw) (h r hr).1
      have l2 := oa_ld_kn reg acc ad w j k
      have e1 : (oa_ac reg acc ad n w o j k).2.2.2.2.2.1 = upd k.2.2.2.2.2.1 r (oa_pa acc ad w j + oa_ms reg acc ad n w j) := by
        rw [← l2.1, ← er]; rfl
      have e2 : (oa_ac reg acc ad n w o j k).2.2.2.2.2.2.1 = upd k.2.2.2.2.2.2.1 r (oa_pa acc ad w j + oa_ms reg acc ad n w j) := by
        rw [← l2.2, ← er]; exact if_neg hw
      have e3 : (oa_ac reg acc ad n w o j k).2.2.2.2.2.2.2 = (oa_ld reg acc ad w j k).2.2.2.2.2.2.2 := rfl
      rw [e1, e2, e3]
      by_cases z : x = r
      · subst z
        rw [pk_us, pk_us]
        exact ⟨fun y => absurd y l1.1, fun _ => rfl⟩
      · rw [pk_un z, pk_un z, l1.2 x z]
        exact h x hx
/-- what the accesses of the block are -/
def oa_env (V nR n : Nat) (reg acc ad : Nat → Int32) : Prop :=
  V ≤ 16 ∧ nR ≤ 4 ∧ n ≤ 96 ∧ (∀ v, v < V → ∃ r, r < nR ∧ reg v = nI r) ∧ (∀ j, j < n → oa_vr V (acc j)) ∧ (∀ v, v < V → ∃ a, a < V ∧ ad v = nI a)
theorem oa_env_j {V nR n j w : Nat} {reg acc ad : Nat → Int32} (e : oa_env V nR n reg acc ad) (hj : j < n) :
    ∃ v r a, v < V ∧ r < nR ∧ a < V ∧ acc j = nI v ∧ (acc j).toNatClampNeg = v ∧ reg (acc j).toNatClampNeg = nI r ∧ (reg (acc j).toNatClampNeg).toNatClampNeg = r ∧ ad (acc j).toNatClampNeg = nI a ∧ oa_pa acc ad w j ≠ -1 := by
  obtain ⟨hV, hR, _, h1, h2, h3⟩ := e
  obtain ⟨v, hv, ev⟩ := h2 j hj
  have cv : (acc j).toNatClampNeg = v := by rw [ev]; exact nI_clamp (by omega)
  obtain ⟨r, hr, er⟩ := h1 v hv
  obtain ⟨a, ha, ea⟩ := h3 v hv
  refine ⟨v, r, a, hv, hr, ha, ev, cv, by rw [cv, er], by rw [cv, er]; exact nI_clamp (by omega), by rw [cv, ea], ?_⟩
  unfold oa_pa
  split
  · rw [ev]; exact oa_ne (by omega)
  · rw [cv, ea]; exact oa_ne (by omega)
def oa_KI (nR w L q : Nat) (k0 k : oa_K) : Prop := oa_KC nR w L q k0 k ∧ oa_KR nR w k
theorem oa_ac_I {V nR w L q j n o : Nat} {reg acc ad : Nat → Int32} {k0 k : oa_K} (e : oa_env V nR n reg acc ad) (hj : j < n) (h : oa_KI nR w L q k0 k) (hL : L + 2 ≤ 192) (ho : o < 10) :
    ∃ L', L' ≤ L + 2 ∧ oa_KI nR w L' q k0 (oa_ac reg acc ad n w (nI o) j k) := by
  obtain ⟨v, r, a, hv, hr, ha, e1, e2, e3, e4, e5, e6⟩ := oa_env_j (w := w) e hj
  obtain ⟨L', h1, h2⟩ := oa_ac_C (n := n) (ad := ad) e3 hr h.1 hL ho
  exact ⟨L', h1, h2, oa_ac_R e4 hr (fun _ => e6) h.2⟩
theorem oa_em_I {nR w L q o r : Nat} {x : Int32} {k0 k : oa_K} (h : oa_KI nR w L q k0 k) (hL : L < 192) (ho : o ≤ 10) (hr : r < nR) : oa_KI nR w (L + 1) (q + if o = 10 then 1 else 0) k0 (oa_em w (nI o) (nI r) x k) :=
  ⟨oa_em_C h.1 hL ho hr, h.2⟩
theorem oa_KI_up {nR w L q q' : Nat} {k0 k : oa_K} (h : oa_KI nR w L q k0 k) (hq : q ≤ q') : oa_KI nR w L q' k0 k := ⟨⟨oa_CI_up h.1.1 hq, h.1.2⟩, h.2⟩
theorem oa_tt_I {V nR w L q p n : Nat} {reg acc ad : Nat → Int32} {o d a b : Int32} {k0 k : oa_K} (e : oa_env V nR n reg acc ad) (hR : 0 < nR) (st : oa_ST V o d a b acc p) (hp : p + oa_na o ≤ n) (h : oa_KI nR w L q k0 k) (hL : L + 6 ≤ 192) :
    ∃ L', L' ≤ L + 6 ∧ oa_KI nR w L' (q + 1) k0 (oa_tt reg acc ad n w o a p k) := by
  rcases st with ⟨z, hz, rfl, -⟩ | ⟨rfl, -⟩ | ⟨rfl, -⟩ | ⟨rfl, -⟩
  · rw [oa_na5 hz] at hp
    unfold oa_tt
    rw [if_pos (show nI z ≤ 5 from nI_le (b := 5) hz (by decide))]
    obtain ⟨L1, l1, h1⟩ := oa_ac_I (o := 1) e (show p < n by omega) h (by omega) (by omega)
    obtain ⟨L2, l2, h2⟩ := oa_ac_I (o := 2 + z) e (show p + 1 < n by omega) h1 (by omega) (by omega)
    obtain ⟨L3, l3, h3⟩ := oa_ac_I (o := 8) e (show p + 2 < n by omega) h2 (by omega) (by omega)
    rw [← nI_add 2 z] at h3
    exact ⟨L3, by omega, oa_KI_up h3 (by omega)⟩
  · rw [oa_na6] at hp
    unfold oa_tt
    rw [if_neg (by decide), if_pos rfl]
    obtain ⟨L1, l1, h1⟩ := oa_ac_I (o := 1) e (show p < n by omega) h (by omega) (by omega)
    obtain ⟨L2, l2, h2⟩ := oa_ac_I (o := 8) e (show p + 1 < n by omega) h1 (by omega) (by omega)
    exact ⟨L2, by omega, oa_KI_up h2 (by omega)⟩
  · rw [oa_na7] at hp
    unfold oa_tt
    rw [if_neg (by decide), if_neg (by decide), if_pos rfl]
    have h1 := oa_em_I (x := a) (o := 9) (r := 0) h (by omega) (by omega) hR
    rw [if_neg (by omega), Nat.add_zero] at h1
    obtain ⟨L2, l2, h2⟩ := oa_ac_I (o := 8) e (show p < n by omega) h1 (by omega) (by omega)
    exact ⟨L2, by omega, oa_KI_up h2 (by omega)⟩
  · rw [oa_na8] at hp
    unfold oa_tt
    rw [if_neg (by decide), if_neg (by decide), if_neg (by decide)]
    obtain ⟨L1, l1, h1⟩ := oa_ac_I (o := 1) e (show p < n by omega) h (by omega) (by omega)
    have h2 := oa_em_I (x := 0) (o := 10) (r := 0) h1 (by omega) (by omega) hR
    rw [if_pos rfl] at h2
    exact ⟨L1 + 1, by omega, h2⟩
theorem oa_tb_I {V nR w cnt : Nat} {reg acc ad sop sd sa sb : Nat → Int32} {k0 k : oa_K} (hR : 0 < nR) (hc : cnt ≤ 32) (ss : oa_SS V cnt sop sd sa sb acc) (e : oa_env V nR (oa_ps sop cnt) reg acc ad) (h : oa_KI nR w 0 0 k0 k) :
    ∀ i, i ≤ cnt → ∃ L, L ≤ 6 * i ∧ oa_KI nR w L i k0 (oa_tb reg acc ad sop sa (oa_ps sop cnt) w i k) := by
  intro i
  induction i with
  | zero => intro _; exact ⟨0, by omega, h⟩
  | succ i ih =>
    intro hi
    obtain ⟨L, hL, h1⟩ := ih (by omega)
    have hp : oa_ps sop i + oa_na (sop i) ≤ oa_ps sop cnt := oa_ps_mono sop cnt (i + 1) hi
    obtain ⟨L', hL', h2⟩ := oa_tt_I e hR (ss i (by omega)) hp h1 (by omega)
    exact ⟨L', by omega, h2⟩
end
section
/-! the machine: X's methods as functions. A state: memory, address registers, accumulator, outputs, their number (X); memory, address registers, number (Y) -/
abbrev oa_M : Type := (Nat → Int32) × (Nat → Int32) × Int32 × (Nat → Int32) × (Nat → Int32) × (Nat → Int32) × (Nat → Int32) × (Nat → Int32)
def oa_cb (o l r : Int32) : Int32 := if o = 2 then l + r else if o = 3 then l - r else if o = 4 then l * r else if o = 5 then l &&& r else if o = 6 then l ||| r else if o = 7 then l ^^^ r else r
abbrev oa_in (V : Nat) (a : Int32) : Prop := 0 ≤ a ∧ a < nI V
theorem oa_in_c {V : Nat} {a : Int32} (hV : V ≤ 16) (h : oa_in V a) : ∃ c, c < V ∧ a = nI c := by
  obtain ⟨c, hc, rfl⟩ := nI_of (x := a) (Int32.not_lt.mpr h.1)
  exact ⟨c, (nI_ltI hc (by omega)).mp h.2, rfl⟩
def oa_x1 (V w : Nat) (o r x : Int32) (m : oa_M) : oa_M :=
  if o = 0 then (m.1, upd m.2.1 r.toNatClampNeg x, m.2.2.1, m.2.2.2.1, m.2.2.2.2.1, m.2.2.2.2.2.1, upd m.2.2.2.2.2.2.1 r.toNatClampNeg x, m.2.2.2.2.2.2.2)
  else if o = 9 then (m.1, m.2.1, x, m.2.2.2)
  else if o = 10 then (m.1, m.2.1, m.2.2.1, upd m.2.2.2.1 (32 * w + (m.2.2.2.2.1 w).toNatClampNeg) m.2.2.1, upd m.2.2.2.2.1 w (m.2.2.2.2.1 w + 1), m.2.2.2.2.2.1, m.2.2.2.2.2.2.1, upd m.2.2.2.2.2.2.2 w (m.2.2.2.2.2.2.2 w + 1))
  else if o = 8 then
    (if oa_in V (m.2.1 r.toNatClampNeg) then upd m.1 (16 * w + (m.2.1 r.toNatClampNeg).toNatClampNeg) m.2.2.1 else m.1, upd m.2.1 r.toNatClampNeg (m.2.1 r.toNatClampNeg + x), m.2.2.1, m.2.2.2.1, m.2.2.2.2.1,
     if oa_in V (m.2.1 r.toNatClampNeg) then upd m.2.2.2.2.2.1 (16 * w + (m.2.1 r.toNatClampNeg).toNatClampNeg) m.2.2.1 else m.2.2.2.2.2.1, upd m.2.2.2.2.2.2.1 r.toNatClampNeg (m.2.1 r.toNatClampNeg + x), m.2.2.2.2.2.2.2)
  else
    (m.1, upd m.2.1 r.toNatClampNeg (m.2.1 r.toNatClampNeg + x), oa_cb o m.2.2.1 (if oa_in V (m.2.1 r.toNatClampNeg) then m.1 (16 * w + (m.2.1 r.toNatClampNeg).toNatClampNeg) else 0), m.2.2.2.1, m.2.2.2.2.1,
     m.2.2.2.2.2.1, upd m.2.2.2.2.2.2.1 r.toNatClampNeg (m.2.1 r.toNatClampNeg + x), m.2.2.2.2.2.2.2)
def oa_xs (V w : Nat) (op rg od : Nat → Int32) : Nat → oa_M → oa_M
  | 0, m => m
  | i + 1, m => oa_x1 V w (op (192 * w + i)) (rg (192 * w + i)) (od (192 * w + i)) (oa_xs V w op rg od i m)
/-- before instruction i -/
def oa_MI (V nR w i : Nat) (op : Nat → Int32) (m0 m : oa_M) : Prop :=
  (∀ r, r < nR → m.2.2.2.2.2.2.1 r = m.2.1 r) ∧ (∀ w' c, w' < 2 → c < V → m.2.2.2.2.2.1 (16 * w' + c) = m.1 (16 * w' + c)) ∧
  m.2.2.2.2.1 w = nI (oa_oc op (192 * w) i) ∧ m.2.2.2.2.2.2.2 w = nI (oa_oc op (192 * w) i) ∧
  (∀ w', w' ≠ w → m.2.2.2.2.1 w' = m0.2.2.2.2.1 w' ∧ m.2.2.2.2.2.2.2 w' = m0.2.2.2.2.2.2.2 w')
theorem oa_up_eq {f g : Nat → Int32} {n k : Nat} {x : Int32} (h : ∀ r, r < n → g r = f r) : ∀ r, r < n → upd g k x r = upd f k x r := by
  intro r hr
  unfold upd
  split
  · rfl
  · exact h r hr
theorem oa_up_mem {f g : Nat → Int32} {V k : Nat} {x : Int32} (h : ∀ w' c, w' < 2 → c < V → g (16 * w' + c) = f (16 * w' + c)) : ∀ w' c, w' < 2 → c < V → upd g k x (16 * w' + c) = upd f k x (16 * w' + c) := by
  intro w' c h1 h2
  unfold upd
  split
  · rfl
  · exact h w' c h1 h2
theorem oa_x1_I {V nR w i : Nat} {op : Nat → Int32} {r x : Int32} {m0 m : oa_M} (h : oa_MI V nR w i op m0 m) : oa_MI V nR w (i + 1) op m0 (oa_x1 V w (op (192 * w + i)) r x m) := by
  obtain ⟨h1, h2, h3, h4, h5⟩ := h
  have eo : oa_oc op (192 * w) (i + 1) = oa_oc op (192 * w) i + if op (192 * w + i) = 10 then 1 else 0 := rfl
  unfold oa_MI
  rw [eo]
  unfold oa_x1
  by_cases c0 : op (192 * w + i) = 0
  · rw [if_pos c0, if_neg (by rw [c0]; decide), Nat.add_zero]
    exact ⟨oa_up_eq h1, h2, h3, h4, h5⟩
  · rw [if_neg c0]
    by_cases c9 : op (192 * w + i) = 9
    · rw [if_pos c9, if_neg (by rw [c9]; decide), Nat.add_zero]
      exact ⟨h1, h2, h3, h4, h5⟩
    · rw [if_neg c9]
      by_cases c10 : op (192 * w + i) = 10
      · rw [if_pos c10, if_pos c10]
        refine ⟨h1, h2, ?_, ?_, ?_⟩
        · show upd m.2.2.2.2.1 w (m.2.2.2.2.1 w + 1) w = _
          rw [pk_us, h3, nI_1]
        · show upd m.2.2.2.2.2.2.2 w (m.2.2.2.2.2.2.2 w + 1) w = _
          rw [pk_us, h4, nI_1]
        · intro w' hw
          show upd m.2.2.2.2.1 w (m.2.2.2.2.1 w + 1) w' = _ ∧ upd m.2.2.2.2.2.2.2 w (m.2.2.2.2.2.2.2 w + 1) w' = _
          rw [pk_un hw, pk_un hw]
          exact h5 w' hw
      · rw [if_neg c10, if_neg c10, Nat.add_zero]
        by_cases c8 : op (192 * w + i) = 8
        · rw [if_pos c8]
          refine ⟨oa_up_eq h1, ?_, h3, h4, h5⟩
          by_cases ci : oa_in V (m.2.1 r.toNatClampNeg)
          · rw [if_pos ci, if_pos ci]; exact oa_up_mem h2
          · rw [if_neg ci, if_neg ci]; exact h2
        · rw [if_neg c8]
          exact ⟨oa_up_eq h1, h2, h3, h4, h5⟩
theorem oa_xs_I {V nR w : Nat} {op rg od : Nat → Int32} {m0 m : oa_M} (h : oa_MI V nR w 0 op m0 m) : ∀ i, oa_MI V nR w i op m0 (oa_xs V w op rg od i m) := by
  intro i
  induction i with
  | zero => exact h
  | succ i ih => exact oa_x1_I ih
/-- the memory at the start -/
theorem oa_mem0 {V w : Nat} {mx my ini : Nat → Int32} {cell : Nat → Nat} (hV : V ≤ 16) (h : ∀ w' c, w' < 2 → c < V → my (16 * w' + c) = mx (16 * w' + c)) (hc : ∀ v, v < V → cell v < V) (hs : ∀ a, a < V → ∃ v, v < V ∧ cell v = a) :
    ∀ w' c, w' < 2 → c < V → oa_mi (oa_mi my (16 * w) (fun c => c) (fun _ => 0) 16) (16 * w) cell ini V (16 * w' + c) = oa_mi mx (16 * w) cell ini V (16 * w' + c) := by
  intro w' c h1 h2
  by_cases e : w' = w
  · subst e
    obtain ⟨v, hv, ev⟩ := hs c h2
    exact oa_mi_hit V ⟨v, hv, by rw [ev]⟩
  · have n1 : ∀ v, v < V → 16 * w' + c ≠ 16 * w + cell v := by
      intro v hv
      have := hc v hv
      omega
    have n2 : ∀ v, v < 16 → 16 * w' + c ≠ 16 * w + (fun c => c) v := by
      intro v hv
      show 16 * w' + c ≠ 16 * w + v
      omega
    rw [oa_mi_out V n1, oa_mi_out 16 n2, oa_mi_out V n1]
    exact h w' c h1 h2
end
section
/-! what holds between two calls -/
def oa_SR (st sop sd sa sb : Nat → Int32) : Prop := ∀ i, i < 32 → st (i * 4) = sop i ∧ st (i * 4 + 1) = sd i ∧ st (i * 4 + 2) = sa i ∧ st (i * 4 + 3) = sb i
theorem oa_SR_add {st sop sd sa sb : Nat → Int32} {c : Nat} {o d a b : Int32} (h : oa_SR st sop sd sa sb) :
    oa_SR (upd (upd (upd (upd st (c * 4) o) (c * 4 + 1) d) (c * 4 + 2) a) (c * 4 + 3) b) (upd sop c o) (upd sd c d) (upd sa c a) (upd sb c b) := by
  intro i hi
  by_cases e : i = c
  · subst e
    refine ⟨?_, ?_, ?_, ?_⟩
    · rw [pk_un (by omega), pk_un (by omega), pk_un (by omega), pk_us, pk_us]
    · rw [pk_un (by omega), pk_un (by omega), pk_us, pk_us]
    · rw [pk_un (by omega), pk_us, pk_us]
    · rw [pk_us, pk_us]
  · rw [pk_un e, pk_un e, pk_un e, pk_un e]
    refine ⟨?_, ?_, ?_, ?_⟩
    all_goals rw [pk_un (by omega), pk_un (by omega), pk_un (by omega), pk_un (by omega)]
    · exact (h i hi).1
    · exact (h i hi).2.1
    · exact (h i hi).2.2.1
    · exact (h i hi).2.2.2
/-- compiled: addresses and code -/
def oa_IC (V nR : Nat) (ad ady op rg len : Nat → Int32) : Prop :=
  (∀ v, v < V → ady v = ad v ∧ ∃ a, a < V ∧ ad v = nI a) ∧ (∀ a, a < V → ∃ v, v < V ∧ ad v = nI a) ∧ (∀ w, w < 2 → ∃ L, L ≤ 192 ∧ oa_CI nR w L 32 op rg len)
def oa_I (V nR ph cnt : Nat) (reg st acc ad ady op rg len mx my ocx ocy sop sd sa sb : Nat → Int32) : Prop :=
  (2 ≤ V ∧ V ≤ 16) ∧ (1 ≤ nR ∧ nR ≤ 4) ∧ ph ≤ 2 ∧ cnt ≤ 32 ∧ (∀ v, v < V → ∃ r, r < nR ∧ reg v = nI r) ∧ oa_SR st sop sd sa sb ∧ oa_SS V cnt sop sd sa sb acc ∧
  (∀ w c, w < 2 → c < V → my (16 * w + c) = mx (16 * w + c)) ∧ (ph ≠ 0 → oa_IC V nR ad ady op rg len) ∧ (ph = 2 → ∀ w, w < 2 → ocy w = ocx w ∧ ∃ q, q ≤ 32 ∧ ocx w = nI q)
end
section
/-! X: followers and weights -/
theorem oa_ix16 (u v : Nat) : nI u * 16 + nI v = nI (u * 16 + v) := by
  rw [show (16 : Int32) = nI 16 from rfl, pk_mul, nI_add]
section
variable {x_varCount x_regCount x_phase x_statementCount x_accessCount x_nextAddress x_accumulator : Int32} {x_register x_init x_statements x_accessVar x_follower x_weight x_firstLink x_secondLink x_chain x_address x_opcode x_instrRegister x_operand x_codeLength x_addrLoads x_knownAddress x_memory x_addressRegister x_output x_outputCount : Nat → Int32}
theorem xa_nos {n : Nat} (hn : n ≤ 96) (ha : ∀ i, i < n → ∃ k, k < 16 ∧ x_accessVar i = nI k) (r : Int32) (post : Int32 → Prop) :
    ∀ d i fu, i + d = n → d < fu → post (if oa_nx x_register x_accessVar r d i < n then nI (oa_nx x_register x_accessVar r d i) else -1) → wX_nextOfSameRegister_16 post r x_varCount x_regCount x_phase x_statementCount (nI n) x_nextAddress x_accumulator x_register x_init x_statements x_accessVar x_follower x_weight x_firstLink x_secondLink x_chain x_address x_opcode x_instrRegister x_operand x_codeLength x_addrLoads x_knownAddress x_memory x_addressRegister x_output x_outputCount fu (nI i) := by
  intro d
  induction d with
  | zero =>
    intro i fu hi hf hp
    obtain ⟨fu, rfl⟩ : ∃ f, fu = f + 1 := ⟨fu - 1, by omega⟩
    rw [oa_nx, if_neg (by omega)] at hp
    exact br_t (nI_le (by omega) (by omega)) hp
  | succ d ih =>
    intro i fu hi hf hp
    obtain ⟨fu, rfl⟩ : ∃ f, fu = f + 1 := ⟨fu - 1, by omega⟩
    obtain ⟨k, hk, ek⟩ := ha i (by omega)
    refine br_f (nI_ge (by omega) (by omega)) ⟨vp_in_nI (by omega) (by omega), ?_, ?_⟩
    · rw [nI_clamp (by omega), ek]; exact vp_in_nI hk (by omega)
    · rw [nI_clamp (by omega)]
      by_cases c : x_register (x_accessVar i).toNatClampNeg = r
      · rw [oa_nx, if_pos c, if_pos (by omega)] at hp
        exact br_t c hp
      · rw [oa_nx, if_neg c] at hp
        exact br_f c (nm_r (nI_1 i) (ih (i + 1) fu (by omega) (by omega) hp))
theorem xa_fo {n j : Nat} (hn : n ≤ 96) (ha : ∀ i, i < n → ∃ k, k < 16 ∧ x_accessVar i = nI k) (hj : j < n) (post : Int32 → Prop) (hp : post (oa_fv x_register x_accessVar n j)) :
    wpX_nextOfSameRegister post (x_varCount, x_regCount, x_phase, x_statementCount, nI n, x_nextAddress, x_accumulator, x_register, x_init, x_statements, x_accessVar, x_follower, x_weight, x_firstLink, x_secondLink, x_chain, x_address, x_opcode, x_instrRegister, x_operand, x_codeLength, x_addrLoads, x_knownAddress, x_memory, x_addressRegister, x_output, x_outputCount) (nI j) := by
  obtain ⟨k, hk, ek⟩ := ha j hj
  refine ⟨vp_in_nI (by omega) (by omega), ?_, fun r er y ey => ?_⟩
  · rw [nI_clamp (by omega), ek]; exact vp_in_nI hk (by omega)
  · rw [nI_clamp (by omega)] at er
    subst er
    rw [ey, nI_1]
    exact ⟨n + 1, xa_nos hn ha _ post (n - (j + 1)) (j + 1) (n + 1) (by omega) (by omega) hp⟩
theorem xa_ff_l {n : Nat} (hn : n ≤ 96) (ha : ∀ i, i < n → ∃ k, k < 16 ∧ x_accessVar i = nI k) (post : St2 → Prop) (hp : post (x_varCount, x_regCount, x_phase, x_statementCount, nI n, x_nextAddress, x_accumulator, x_register, x_init, x_statements, x_accessVar, (oa_fill x_follower (oa_fv x_register x_accessVar n) n), x_weight, x_firstLink, x_secondLink, x_chain, x_address, x_opcode, x_instrRegister, x_operand, x_codeLength, x_addrLoads, x_knownAddress, x_memory, x_addressRegister, x_output, x_outputCount)) :
    ∀ d i fu, i + d = n → d < fu → wX_findFollowers_2 post x_varCount x_regCount x_phase x_statementCount (nI n) x_nextAddress x_accumulator fu (nI i) x_register x_init x_statements x_accessVar (oa_fill x_follower (oa_fv x_register x_accessVar n) i) x_weight x_firstLink x_secondLink x_chain x_address x_opcode x_instrRegister x_operand x_codeLength x_addrLoads x_knownAddress x_memory x_addressRegister x_output x_outputCount := by
  intro d
  induction d with
  | zero =>
    intro i fu hi hf
    obtain ⟨fu, rfl⟩ : ∃ f, fu = f + 1 := ⟨fu - 1, by omega⟩
    have e : i = n := by omega
    subst e
    exact br_t (nI_le (by omega) (by omega)) hp
  | succ d ih =>
    intro i fu hi hf
    obtain ⟨fu, rfl⟩ : ∃ f, fu = f + 1 := ⟨fu - 1, by omega⟩
    refine br_f (nI_ge (by omega) (by omega)) (xa_fo hn ha (show i < n by omega) _ ⟨vp_in_nI (by omega) (by omega), nm_r ?_ (nm_r (nI_1 i) (ih (i + 1) fu (by omega) (by omega)))⟩)
    rw [nI_clamp (by omega)]
    exact oa_fill_s rfl
theorem xa_ff {n : Nat} (hn : n ≤ 96) (ha : ∀ i, i < n → ∃ k, k < 16 ∧ x_accessVar i = nI k) (post : St2 → Prop) (hp : post (x_varCount, x_regCount, x_phase, x_statementCount, nI n, x_nextAddress, x_accumulator, x_register, x_init, x_statements, x_accessVar, (oa_fill x_follower (oa_fv x_register x_accessVar n) n), x_weight, x_firstLink, x_secondLink, x_chain, x_address, x_opcode, x_instrRegister, x_operand, x_codeLength, x_addrLoads, x_knownAddress, x_memory, x_addressRegister, x_output, x_outputCount)) :
    wpX_findFollowers post (x_varCount, x_regCount, x_phase, x_statementCount, nI n, x_nextAddress, x_accumulator, x_register, x_init, x_statements, x_accessVar, x_follower, x_weight, x_firstLink, x_secondLink, x_chain, x_address, x_opcode, x_instrRegister, x_operand, x_codeLength, x_addrLoads, x_knownAddress, x_memory, x_addressRegister, x_output, x_outputCount) := by
  have h := xa_ff_l hn ha post hp n 0 (n + 1) (by omega) (by omega)
  rw [oa_fill_0] at h
  exact ⟨n + 1, h⟩
theorem xa_cp {u v : Nat} (hu : u < 16) (hv : v < 16) (post : St2 → Prop) (h1 : nI u = nI v → post (x_varCount, x_regCount, x_phase, x_statementCount, x_accessCount, x_nextAddress, x_accumulator, x_register, x_init, x_statements, x_accessVar, x_follower, x_weight, x_firstLink, x_secondLink, x_chain, x_address, x_opcode, x_instrRegister, x_operand, x_codeLength, x_addrLoads, x_knownAddress, x_memory, x_addressRegister, x_output, x_outputCount))
    (h2 : ¬ nI u = nI v → post (x_varCount, x_regCount, x_phase, x_statementCount, x_accessCount, x_nextAddress, x_accumulator, x_register, x_init, x_statements, x_accessVar, x_follower, (upd (upd x_weight (u * 16 + v) (x_weight (u * 16 + v) + 1)) (v * 16 + u) (upd x_weight (u * 16 + v) (x_weight (u * 16 + v) + 1) (v * 16 + u) + 1)), x_firstLink, x_secondLink, x_chain, x_address, x_opcode, x_instrRegister, x_operand, x_codeLength, x_addrLoads, x_knownAddress, x_memory, x_addressRegister, x_output, x_outputCount)) :
    wpX_countPair post (x_varCount, x_regCount, x_phase, x_statementCount, x_accessCount, x_nextAddress, x_accumulator, x_register, x_init, x_statements, x_accessVar, x_follower, x_weight, x_firstLink, x_secondLink, x_chain, x_address, x_opcode, x_instrRegister, x_operand, x_codeLength, x_addrLoads, x_knownAddress, x_memory, x_addressRegister, x_output, x_outputCount) (nI u) (nI v) := by
  unfold wpX_countPair
  dsimp only
  rw [oa_ix16, oa_ix16]
  have i1 : vp_in (nI (u * 16 + v)) 256 := vp_in_nI (by omega) (by omega)
  have i2 : vp_in (nI (v * 16 + u)) 256 := vp_in_nI (by omega) (by omega)
  rw [nI_clamp (show u * 16 + v < 2 ^ 31 by omega), nI_clamp (show v * 16 + u < 2 ^ 31 by omega)]
  exact br_c h1 fun hn => ⟨i1, i1, nm_e ⟨i2, i2, nm_e (h2 hn)⟩⟩
theorem xa_cw_l {n : Nat} (hn : n ≤ 96) (ha : ∀ i, i < n → ∃ k, k < 16 ∧ x_accessVar i = nI k) (hF : ∀ j, j < n → x_follower j = oa_fv x_register x_accessVar n j) (w0 : Nat → Int32) (post : St2 → Prop)
    (hp : post (x_varCount, x_regCount, x_phase, x_statementCount, nI n, x_nextAddress, x_accumulator, x_register, x_init, x_statements, x_accessVar, x_follower, oa_wA w0 x_register x_accessVar n n, x_firstLink, x_secondLink, x_chain, x_address, x_opcode, x_instrRegister, x_operand, x_codeLength, x_addrLoads, x_knownAddress, x_memory, x_addressRegister, x_output, x_outputCount)) :
    ∀ d i fu, i + d = n → d < fu → wX_countWeights_24 post fu (nI i) x_varCount x_regCount x_phase x_statementCount (nI n) x_nextAddress x_accumulator x_register x_init x_statements x_accessVar x_follower (oa_wA w0 x_register x_accessVar n i) x_firstLink x_secondLink x_chain x_address x_opcode x_instrRegister x_operand x_codeLength x_addrLoads x_knownAddress x_memory x_addressRegister x_output x_outputCount := by
  intro d
  induction d with
  | zero =>
    intro i fu hi hf
    obtain ⟨fu, rfl⟩ : ∃ f, fu = f + 1 := ⟨fu - 1, by omega⟩
    have e : i = n := by omega
    subst e
    exact br_t (nI_le (by omega) (by omega)) hp
  | succ d ih =>
    intro i fu hi hf
    obtain ⟨fu, rfl⟩ : ∃ f, fu = f + 1 := ⟨fu - 1, by omega⟩
    have nx := ih (i + 1) fu (by omega) (by omega)
    have vi : vp_in (nI i) 96 := vp_in_nI (by omega) (by omega)
    refine br_f (nI_ge (by omega) (by omega)) ⟨vi, ?_⟩
    rw [nI_clamp (show i < 2 ^ 31 by omega), hF i (by omega)]
    unfold oa_fv
    by_cases hf2 : oa_fo x_register x_accessVar n i < n
    · rw [if_pos hf2]
      obtain ⟨u, hu, eu⟩ := ha i (by omega)
      obtain ⟨v, hv, ev⟩ := ha (oa_fo x_register x_accessVar n i) hf2
      refine br_f (oa_ne (by omega)) ⟨vi, vi, vp_in_nI (show oa_fo x_register x_accessVar n i < 96 by omega) (by omega), ?_⟩
      rw [nI_clamp (show oa_fo x_register x_accessVar n i < 2 ^ 31 by omega), eu, ev]
      refine xa_cp hu hv _ (fun he => nm_r (nI_1 i) ?_) (fun he => nm_r (nI_1 i) ?_)
      · rw [oa_wA, if_pos hf2, if_pos (by rw [eu, ev]; exact he)] at nx
        exact nx
      · rw [oa_wA, if_pos hf2, if_neg (by rw [eu, ev]; exact he), eu, ev, nI_clamp (show u < 2 ^ 31 by omega), nI_clamp (show v < 2 ^ 31 by omega)] at nx
        exact nx
    · rw [if_neg hf2]
      rw [oa_wA, if_neg hf2] at nx
      exact br_t rfl (nm_r (nI_1 i) nx)
theorem xa_cw_z (post : St2 → Prop) (hp : ∃ f, wX_countWeights_24 post f 0 x_varCount x_regCount x_phase x_statementCount x_accessCount x_nextAddress x_accumulator x_register x_init x_statements x_accessVar x_follower (oa_fill x_weight (fun _ => 0) 256) x_firstLink x_secondLink x_chain x_address x_opcode x_instrRegister x_operand x_codeLength x_addrLoads x_knownAddress x_memory x_addressRegister x_output x_outputCount) :
    ∀ d i fu, i + d = 256 → d < fu → wX_countWeights_2 post x_varCount x_regCount x_phase x_statementCount x_accessCount x_nextAddress x_accumulator fu (nI i) x_register x_init x_statements x_accessVar x_follower (oa_fill x_weight (fun _ => 0) i) x_firstLink x_secondLink x_chain x_address x_opcode x_instrRegister x_operand x_codeLength x_addrLoads x_knownAddress x_memory x_addressRegister x_output x_outputCount := by
  intro d
  induction d with
  | zero =>
    intro i fu hi hf
    obtain ⟨fu, rfl⟩ : ∃ f, fu = f + 1 := ⟨fu - 1, by omega⟩
    have e : i = 256 := by omega
    subst e
    exact br_t (by decide) hp
  | succ d ih =>
    intro i fu hi hf
    obtain ⟨fu, rfl⟩ : ∃ f, fu = f + 1 := ⟨fu - 1, by omega⟩
    refine br_f (nI_ge (b := 256) (by omega) (by decide)) ⟨vp_in_nI (by omega) (by omega), nm_r ?_ (nm_r (nI_1 i) (ih (i + 1) fu (by omega) (by omega)))⟩
    rw [nI_clamp (by omega)]
    exact oa_fill_s rfl
theorem xa_cw {n : Nat} (hn : n ≤ 96) (ha : ∀ i, i < n → ∃ k, k < 16 ∧ x_accessVar i = nI k) (hF : ∀ j, j < n → x_follower j = oa_fv x_register x_accessVar n j) (post : St2 → Prop)
    (hp : post (x_varCount, x_regCount, x_phase, x_statementCount, nI n, x_nextAddress, x_accumulator, x_register, x_init, x_statements, x_accessVar, x_follower, (oa_wA (oa_fill x_weight (fun _ => 0) 256) x_register x_accessVar n n), x_firstLink, x_secondLink, x_chain, x_address, x_opcode, x_instrRegister, x_operand, x_codeLength, x_addrLoads, x_knownAddress, x_memory, x_addressRegister, x_output, x_outputCount)) : wpX_countWeights post (x_varCount, x_regCount, x_phase, x_statementCount, nI n, x_nextAddress, x_accumulator, x_register, x_init, x_statements, x_accessVar, x_follower, x_weight, x_firstLink, x_secondLink, x_chain, x_address, x_opcode, x_instrRegister, x_operand, x_codeLength, x_addrLoads, x_knownAddress, x_memory, x_addressRegister, x_output, x_outputCount) := by
  have h := xa_cw_z (x_accessCount := nI n) post ⟨n + 1, xa_cw_l hn ha hF (oa_fill x_weight (fun _ => 0) 256) post hp n 0 (n + 1) (by omega) (by omega)⟩ 256 0 257 (by omega) (by omega)
  rw [oa_fill_0] at h
  exact ⟨257, h⟩
end
end
section
/-! X: joins -/
abbrev oa_JX : Type := Int32 → Int32 → Int32 → Int32 → Int32 → Int32 → Int32 → Int32 → (Nat → Int32) → (Nat → Int32) → (Nat → Int32) → (Nat → Int32) → (Nat → Int32) → (Nat → Int32) → (Nat → Int32) → (Nat → Int32) → (Nat → Int32) → (Nat → Int32) → (Nat → Int32) → (Nat → Int32) → (Nat → Int32) → (Nat → Int32) → (Nat → Int32) → (Nat → Int32) → (Nat → Int32) → (Nat → Int32) → (Nat → Int32) → (Nat → Int32) → Prop
section
variable {x_varCount x_regCount x_phase x_statementCount x_accessCount x_nextAddress x_accumulator : Int32} {x_register x_init x_statements x_accessVar x_follower x_weight x_firstLink x_secondLink x_chain x_address x_opcode x_instrRegister x_operand x_codeLength x_addrLoads x_knownAddress x_memory x_addressRegister x_output x_outputCount : Nat → Int32}
theorem xa_cj {u v : Nat} (hu : u < 16) (hv : v < 16) (post : Int32 → Prop) (h1 : (x_secondLink u = -1 ∧ x_secondLink v = -1 ∧ x_chain u ≠ x_chain v) → post 1) (h0 : ¬ (x_secondLink u = -1 ∧ x_secondLink v = -1 ∧ x_chain u ≠ x_chain v) → post 0) :
    wpX_canJoin post (x_varCount, x_regCount, x_phase, x_statementCount, x_accessCount, x_nextAddress, x_accumulator, x_register, x_init, x_statements, x_accessVar, x_follower, x_weight, x_firstLink, x_secondLink, x_chain, x_address, x_opcode, x_instrRegister, x_operand, x_codeLength, x_addrLoads, x_knownAddress, x_memory, x_addressRegister, x_output, x_outputCount) (nI u) (nI v) := by
  have iu : vp_in (nI u) 16 := vp_in_nI hu (by omega)
  have iv : vp_in (nI v) 16 := vp_in_nI hv (by omega)
  unfold wpX_canJoin
  dsimp only
  rw [nI_clamp (show u < 2 ^ 31 by omega), nI_clamp (show v < 2 ^ 31 by omega)]
  exact ⟨iu, br_c (fun a => ⟨iv, br_c (fun b => ⟨iu, iv, br_c (fun c => h0 (fun z => z.2.2 c)) (fun c => h1 ⟨a, b, c⟩)⟩) (fun b => h0 (fun z => b z.2.1))⟩) (fun a => h0 (fun z => a z.1))⟩
theorem xa_lk {u v : Nat} (hu : u < 16) (post : St2 → Prop) (h : post (x_varCount, x_regCount, x_phase, x_statementCount, x_accessCount, x_nextAddress, x_accumulator, x_register, x_init, x_statements, x_accessVar, x_follower, x_weight, oa_lf x_firstLink u v, oa_ls x_firstLink x_secondLink u v, x_chain, x_address, x_opcode, x_instrRegister, x_operand, x_codeLength, x_addrLoads, x_knownAddress, x_memory, x_addressRegister, x_output, x_outputCount)) : wpX_link post (x_varCount, x_regCount, x_phase, x_statementCount, x_accessCount, x_nextAddress, x_accumulator, x_register, x_init, x_statements, x_accessVar, x_follower, x_weight, x_firstLink, x_secondLink, x_chain, x_address, x_opcode, x_instrRegister, x_operand, x_codeLength, x_addrLoads, x_knownAddress, x_memory, x_addressRegister, x_output, x_outputCount) (nI u) (nI v) := by
  have iu : vp_in (nI u) 16 := vp_in_nI hu (by omega)
  unfold wpX_link
  dsimp only
  rw [nI_clamp (show u < 2 ^ 31 by omega)]
  by_cases c : x_firstLink u = -1
  · unfold oa_lf oa_ls at h
    rw [if_pos c, if_pos c] at h
    exact ⟨iu, br_t c ⟨iu, nm_e h⟩⟩
  · unfold oa_lf oa_ls at h
    rw [if_neg c, if_neg c] at h
    exact ⟨iu, br_f c ⟨iu, nm_e h⟩⟩
theorem xa_jn_l {V : Nat} (hV : V ≤ 16) (a b : Int32) (post : St2 → Prop) (hp : post (nI V, x_regCount, x_phase, x_statementCount, x_accessCount, x_nextAddress, x_accumulator, x_register, x_init, x_statements, x_accessVar, x_follower, x_weight, x_firstLink, x_secondLink, oa_rn x_chain a b V, x_address, x_opcode, x_instrRegister, x_operand, x_codeLength, x_addrLoads, x_knownAddress, x_memory, x_addressRegister, x_output, x_outputCount)) :
    ∀ d i fu, i + d = V → d < fu → wX_join_30 post b a (nI V) x_regCount x_phase x_statementCount x_accessCount x_nextAddress x_accumulator fu (nI i) x_register x_init x_statements x_accessVar x_follower x_weight x_firstLink x_secondLink (oa_rn x_chain a b i) x_address x_opcode x_instrRegister x_operand x_codeLength x_addrLoads x_knownAddress x_memory x_addressRegister x_output x_outputCount := by
  intro d
  induction d with
  | zero =>
    intro i fu hi hf
    obtain ⟨fu, rfl⟩ : ∃ f, fu = f + 1 := ⟨fu - 1, by omega⟩
    have e : i = V := by omega
    subst e
    exact br_t (nI_le (by omega) (by omega)) hp
  | succ d ih =>
    intro i fu hi hf
    obtain ⟨fu, rfl⟩ : ∃ f, fu = f + 1 := ⟨fu - 1, by omega⟩
    have nx := ih (i + 1) fu (by omega) (by omega)
    have vi : vp_in (nI i) 16 := vp_in_nI (by omega) (by omega)
    refine br_f (nI_ge (by omega) (by omega)) ⟨vi, ?_⟩
    rw [nI_clamp (show i < 2 ^ 31 by omega), oa_rn_self]
    by_cases c : x_chain i = a
    · exact br_t c ⟨vi, nm_r (oa_rn_t c) (nm_r (nI_1 i) nx)⟩
    · rw [oa_rn_f c]
      exact br_f c (nm_r (nI_1 i) nx)
theorem xa_jn {V u v : Nat} (hV : V ≤ 16) (hu : u < 16) (hv : v < 16) (post : St2 → Prop)
    (hp : post (nI V, x_regCount, x_phase, x_statementCount, x_accessCount, x_nextAddress, x_accumulator, x_register, x_init, x_statements, x_accessVar, x_follower, x_weight, (oa_lf (oa_lf x_firstLink u v) v u), (oa_ls (oa_lf x_firstLink u v) (oa_ls x_firstLink x_secondLink u v) v u), (oa_rn x_chain (x_chain v) (x_chain u) V), x_address, x_opcode, x_instrRegister, x_operand, x_codeLength, x_addrLoads, x_knownAddress, x_memory, x_addressRegister, x_output, x_outputCount)) :
    wpX_join post (nI V, x_regCount, x_phase, x_statementCount, x_accessCount, x_nextAddress, x_accumulator, x_register, x_init, x_statements, x_accessVar, x_follower, x_weight, x_firstLink, x_secondLink, x_chain, x_address, x_opcode, x_instrRegister, x_operand, x_codeLength, x_addrLoads, x_knownAddress, x_memory, x_addressRegister, x_output, x_outputCount) (nI u) (nI v) := by
  have h := xa_jn_l hV (x_chain v) (x_chain u) post hp V 0 (V + 1) (by omega) (by omega)
  rw [oa_rn_0] at h
  unfold wpX_join
  dsimp only
  refine xa_lk hu _ ?_
  refine xa_lk hv _ ?_
  exact ⟨vp_in_nI hu (by omega), nm_r (by rw [nI_clamp (by omega)]) ⟨vp_in_nI hv (by omega), nm_r (by rw [nI_clamp (by omega)]) ⟨V + 1, h⟩⟩⟩
theorem xa_j58 {V u : Nat} (hV : V ≤ 16) (hu : u < V) (w : Int32) (post : St2 → Prop) (J40 J46 : oa_JX) :
    ∀ d v fu (q : oa_Q), v + d = V → d < fu → J46 (nI (u + 1)) (nI V) x_regCount x_phase x_statementCount x_accessCount x_nextAddress x_accumulator x_register x_init x_statements x_accessVar x_follower x_weight ((oa_jv x_weight w V u d v q).1) ((oa_jv x_weight w V u d v q).2.1) ((oa_jv x_weight w V u d v q).2.2.1) x_address x_opcode x_instrRegister x_operand x_codeLength x_addrLoads x_knownAddress x_memory x_addressRegister x_output x_outputCount →
      wX_joinChains_58 post J40 J46 w (nI u) fu (nI v) (nI V) x_regCount x_phase x_statementCount x_accessCount x_nextAddress x_accumulator x_register x_init x_statements x_accessVar x_follower x_weight q.1 q.2.1 q.2.2.1 x_address x_opcode x_instrRegister x_operand x_codeLength x_addrLoads x_knownAddress x_memory x_addressRegister x_output x_outputCount := by
  intro d
  induction d with
  | zero =>
    intro v fu q hv hf hp
    obtain ⟨fu, rfl⟩ : ∃ f, fu = f + 1 := ⟨fu - 1, by omega⟩
    exact br_t (nI_le (by omega) (by omega)) (nm_r (nI_1 u) hp)
  | succ d ih =>
    intro v fu q hv hf hp
    obtain ⟨fu, rfl⟩ : ∃ f, fu = f + 1 := ⟨fu - 1, by omega⟩
    have nx := ih (v + 1) fu (oa_j1 x_weight w V u v q) (by omega) (by omega) hp
    refine br_f (nI_ge (by omega) (by omega)) ?_
    rw [oa_ix16, nI_clamp (show u * 16 + v < 2 ^ 31 by omega)]
    refine ⟨vp_in_nI (by omega) (by omega), ?_⟩
    by_cases c : x_weight (u * 16 + v) = w
    · refine br_t c (xa_cj (by omega) (by omega) _ (fun cj => br_f (by decide) (xa_jn hV (by omega) (by omega) _ (nm_r (nI_1 v) ?_))) (fun cj => br_t rfl (nm_r (nI_1 v) ?_)))
      · rw [show oa_j1 x_weight w V u v q = oa_jj V u v q from if_pos ⟨c, cj⟩] at nx
        exact nx
      · rw [show oa_j1 x_weight w V u v q = q from if_neg (fun z => cj z.2)] at nx
        exact nx
    · rw [show oa_j1 x_weight w V u v q = q from if_neg (fun z => c z.1)] at nx
      exact br_f c (nm_r (nI_1 v) nx)
theorem xa_j46 {V : Nat} (hV : V ≤ 16) (w : Int32) (post : St2 → Prop) (J40 : oa_JX) :
    ∀ d u fu (q : oa_Q), u + d = V → d < fu → J40 (w + (-1)) (nI V) x_regCount x_phase x_statementCount x_accessCount x_nextAddress x_accumulator x_register x_init x_statements x_accessVar x_follower x_weight ((oa_ju x_weight w V d u q).1) ((oa_ju x_weight w V d u q).2.1) ((oa_ju x_weight w V d u q).2.2.1) x_address x_opcode x_instrRegister x_operand x_codeLength x_addrLoads x_knownAddress x_memory x_addressRegister x_output x_outputCount →
      wX_joinChains_46 post J40 w fu (nI u) (nI V) x_regCount x_phase x_statementCount x_accessCount x_nextAddress x_accumulator x_register x_init x_statements x_accessVar x_follower x_weight q.1 q.2.1 q.2.2.1 x_address x_opcode x_instrRegister x_operand x_codeLength x_addrLoads x_knownAddress x_memory x_addressRegister x_output x_outputCount := by
  intro d
  induction d with
  | zero =>
    intro u fu q hu hf hp
    obtain ⟨fu, rfl⟩ : ∃ f, fu = f + 1 := ⟨fu - 1, by omega⟩
    exact br_t (nI_le (by omega) (by omega)) (nm_e hp)
  | succ d ih =>
    intro u fu q hu hf hp
    obtain ⟨fu, rfl⟩ : ∃ f, fu = f + 1 := ⟨fu - 1, by omega⟩
    exact br_f (nI_ge (by omega) (by omega)) (nm_r (nI_1 u) ⟨V + 1, xa_j58 hV (by omega) w post J40 _ (V - (u + 1)) (u + 1) (V + 1) q (by omega) (by omega) (ih (u + 1) fu _ (by omega) (by omega) hp)⟩)
theorem xa_j40 {V : Nat} (hV : V ≤ 16) (post : St2 → Prop) :
    ∀ k fu (q : oa_Q), k < fu → k < 96 → post (nI V, x_regCount, x_phase, x_statementCount, x_accessCount, x_nextAddress, x_accumulator, x_register, x_init, x_statements, x_accessVar, x_follower, x_weight, ((oa_jw x_weight V k q).1), ((oa_jw x_weight V k q).2.1), ((oa_jw x_weight V k q).2.2.1), x_address, x_opcode, x_instrRegister, x_operand, x_codeLength, x_addrLoads, x_knownAddress, x_memory, x_addressRegister, x_output, x_outputCount) →
      wX_joinChains_40 post fu (nI k) (nI V) x_regCount x_phase x_statementCount x_accessCount x_nextAddress x_accumulator x_register x_init x_statements x_accessVar x_follower x_weight q.1 q.2.1 q.2.2.1 x_address x_opcode x_instrRegister x_operand x_codeLength x_addrLoads x_knownAddress x_memory x_addressRegister x_output x_outputCount := by
  intro k
  induction k with
  | zero =>
    intro fu q hf _ hp
    obtain ⟨fu, rfl⟩ : ∃ f, fu = f + 1 := ⟨fu - 1, by omega⟩
    exact br_t (by decide) hp
  | succ k ih =>
    intro fu q hf hk hp
    obtain ⟨fu, rfl⟩ : ∃ f, fu = f + 1 := ⟨fu - 1, by omega⟩
    refine br_f (nI_nle (by omega) (by omega)) ⟨V + 1, xa_j46 hV (nI (k + 1)) post _ V 0 (V + 1) q (by omega) (by omega) ?_⟩
    rw [pk_m1]
    exact ih fu _ (by omega) (by omega) hp
theorem xa_jc_l {V : Nat} (hV : V ≤ 16) (post : St2 → Prop) (hp : ∃ f, wX_joinChains_40 post f 95 (nI V) x_regCount x_phase x_statementCount x_accessCount x_nextAddress x_accumulator x_register x_init x_statements x_accessVar x_follower x_weight (oa_fill x_firstLink (fun _ => -1) V) (oa_fill x_secondLink (fun _ => -1) V) (oa_fill x_chain nI V) x_address x_opcode x_instrRegister x_operand x_codeLength x_addrLoads x_knownAddress x_memory x_addressRegister x_output x_outputCount) :
    ∀ d i fu, i + d = V → d < fu → wX_joinChains_2 post (nI V) x_regCount x_phase x_statementCount x_accessCount x_nextAddress x_accumulator fu (nI i) x_register x_init x_statements x_accessVar x_follower x_weight (oa_fill x_firstLink (fun _ => -1) i) (oa_fill x_secondLink (fun _ => -1) i) (oa_fill x_chain nI i) x_address x_opcode x_instrRegister x_operand x_codeLength x_addrLoads x_knownAddress x_memory x_addressRegister x_output x_outputCount := by
  intro d
  induction d with
  | zero =>
    intro i fu hi hf
    obtain ⟨fu, rfl⟩ : ∃ f, fu = f + 1 := ⟨fu - 1, by omega⟩
    have e : i = V := by omega
    subst e
    exact br_t (nI_le (by omega) (by omega)) hp
  | succ d ih =>
    intro i fu hi hf
    obtain ⟨fu, rfl⟩ : ∃ f, fu = f + 1 := ⟨fu - 1, by omega⟩
    have vi : vp_in (nI i) 16 := vp_in_nI (by omega) (by omega)
    refine br_f (nI_ge (by omega) (by omega)) ⟨vi, nm_r ?_ ⟨vi, nm_r ?_ ⟨vi, nm_r ?_ (nm_r (nI_1 i) (ih (i + 1) fu (by omega) (by omega)))⟩⟩⟩
    all_goals rw [nI_clamp (show i < 2 ^ 31 by omega)]
    all_goals exact oa_fill_s rfl
theorem xa_jc {V : Nat} (hV : V ≤ 16) (e g p : Nat → Int32) (post : St2 → Prop) (q : oa_Q) (eq : q = oa_jw x_weight V 95 (oa_fill x_firstLink (fun _ => -1) V, oa_fill x_secondLink (fun _ => -1) V, oa_fill x_chain nI V, e, g, p))
    (hp : post (nI V, x_regCount, x_phase, x_statementCount, x_accessCount, x_nextAddress, x_accumulator, x_register, x_init, x_statements, x_accessVar, x_follower, x_weight, q.1, q.2.1, q.2.2.1, x_address, x_opcode, x_instrRegister, x_operand, x_codeLength, x_addrLoads, x_knownAddress, x_memory, x_addressRegister, x_output, x_outputCount)) : wpX_joinChains post (nI V, x_regCount, x_phase, x_statementCount, x_accessCount, x_nextAddress, x_accumulator, x_register, x_init, x_statements, x_accessVar, x_follower, x_weight, x_firstLink, x_secondLink, x_chain, x_address, x_opcode, x_instrRegister, x_operand, x_codeLength, x_addrLoads, x_knownAddress, x_memory, x_addressRegister, x_output, x_outputCount) := by
  subst eq
  have h := xa_jc_l hV post ⟨96, xa_j40 hV post 95 96 (oa_fill x_firstLink (fun _ => -1) V, oa_fill x_secondLink (fun _ => -1) V, oa_fill x_chain nI V, e, g, p) (by omega) (by omega) hp⟩ V 0 (V + 1) (by omega) (by omega)
  rw [oa_fill_0, oa_fill_0, oa_fill_0] at h
  exact ⟨V + 1, h⟩
end
end
section
/-! X: addresses -/
theorem oa_sm_r (s c : Nat → Int32) (x : Int32) {V : Nat} : ∀ d v, v + d = V → oa_sm s c x d v = -1 ∨ ∃ e, e < V ∧ oa_sm s c x d v = nI e := by
  intro d
  induction d with
  | zero => intro v _; exact Or.inl rfl
  | succ d ih =>
    intro v hv
    rw [oa_sm]
    split
    · exact Or.inr ⟨v, by omega, rfl⟩
    · exact ih (v + 1) (by omega)
def oa_LR (V : Nat) (f s : Nat → Int32) : Prop := ∀ k, k < V → (f k = -1 ∨ ∃ y, y < V ∧ f k = nI y) ∧ (s k = -1 ∨ ∃ y, y < V ∧ s k = nI y)
theorem oa_G_LR {V : Nat} {f s c : Nat → Int32} (g : oa_G V f s c) : oa_LR V f s := by
  intro k hk
  refine ⟨?_, ?_⟩
  · rcases g.1 k hk with h | ⟨y, hy, _, h⟩
    · exact Or.inl h
    · exact Or.inr ⟨y, hy, h⟩
  · rcases g.2.1 k hk with h | ⟨y, hy, _, h⟩
    · exact Or.inl h
    · exact Or.inr ⟨y, hy, h⟩
section
variable {x_varCount x_regCount x_phase x_statementCount x_accessCount x_nextAddress x_accumulator : Int32} {x_register x_init x_statements x_accessVar x_follower x_weight x_firstLink x_secondLink x_chain x_address x_opcode x_instrRegister x_operand x_codeLength x_addrLoads x_knownAddress x_memory x_addressRegister x_output x_outputCount : Nat → Int32}
theorem xa_se {V k : Nat} (hV : V ≤ 16) (hk : k < V) (post : Int32 → Prop) :
    ∀ d v fu, v + d = V → d < fu → post (oa_sm x_secondLink x_chain (x_chain k) d v) → wX_smallerEnd_2 post (nI k) (nI V) x_regCount x_phase x_statementCount x_accessCount x_nextAddress x_accumulator x_register x_init x_statements x_accessVar x_follower x_weight x_firstLink x_secondLink x_chain x_address x_opcode x_instrRegister x_operand x_codeLength x_addrLoads x_knownAddress x_memory x_addressRegister x_output x_outputCount fu (nI v) := by
  have ik : vp_in (nI k) 16 := vp_in_nI (by omega) (by omega)
  intro d
  induction d with
  | zero =>
    intro v fu hv hf hp
    obtain ⟨fu, rfl⟩ : ∃ f, fu = f + 1 := ⟨fu - 1, by omega⟩
    exact br_t (nI_le (by omega) (by omega)) hp
  | succ d ih =>
    intro v fu hv hf hp
    obtain ⟨fu, rfl⟩ : ∃ f, fu = f + 1 := ⟨fu - 1, by omega⟩
    have iv : vp_in (nI v) 16 := vp_in_nI (by omega) (by omega)
    rw [oa_sm] at hp
    refine br_f (nI_ge (by omega) (by omega)) ⟨iv, ik, ?_⟩
    rw [nI_clamp (show v < 2 ^ 31 by omega), nI_clamp (show k < 2 ^ 31 by omega)]
    by_cases c : x_chain v = x_chain k
    · refine br_t c ⟨iv, ?_⟩
      by_cases s : x_secondLink v = -1
      · rw [if_pos ⟨c, s⟩] at hp
        exact br_t s hp
      · rw [if_neg (fun z => s z.2)] at hp
        exact br_f s (nm_r (nI_1 v) (ih (v + 1) fu (by omega) (by omega) hp))
    · rw [if_neg (fun z => c z.1)] at hp
      exact br_f c (nm_r (nI_1 v) (ih (v + 1) fu (by omega) (by omega) hp))
theorem xa_pp_l {V : Nat} (hV : V ≤ 16) (hl : oa_LR V x_firstLink x_secondLink) (post : St2 → Prop) :
    ∀ d i fu pr cu (b : oa_B), i + d = V → d < fu → (cu = -1 ∨ ∃ k, k < V ∧ cu = nI k) →
      post (nI V, x_regCount, x_phase, x_statementCount, x_accessCount, (nI (oa_tr x_firstLink x_secondLink d pr cu b).2.2.2), x_accumulator, x_register, x_init, x_statements, x_accessVar, x_follower, x_weight, x_firstLink, x_secondLink, x_chain, ((oa_tr x_firstLink x_secondLink d pr cu b).1), x_opcode, x_instrRegister, x_operand, x_codeLength, x_addrLoads, x_knownAddress, x_memory, x_addressRegister, x_output, x_outputCount) →
      wX_placePath_11 post (nI V) x_regCount x_phase x_statementCount x_accessCount x_accumulator fu pr cu (nI i) (nI b.2.2.2) x_register x_init x_statements x_accessVar x_follower x_weight x_firstLink x_secondLink x_chain b.1 x_opcode x_instrRegister x_operand x_codeLength x_addrLoads x_knownAddress x_memory x_addressRegister x_output x_outputCount := by
  intro d
  induction d with
  | zero =>
    intro i fu pr cu b hi hf _ hp
    obtain ⟨fu, rfl⟩ : ∃ f, fu = f + 1 := ⟨fu - 1, by omega⟩
    exact br_t (nI_le (by omega) (by omega)) hp
  | succ d ih =>
    intro i fu pr cu b hi hf hc hp
    obtain ⟨fu, rfl⟩ : ∃ f, fu = f + 1 := ⟨fu - 1, by omega⟩
    refine br_f (nI_ge (by omega) (by omega)) ?_
    rw [oa_tr] at hp
    by_cases c : cu = -1
    · rw [if_pos c] at hp
      exact br_t c hp
    · rcases hc with hc | ⟨k, hk, rfl⟩
      · exact absurd hc c
      rw [if_neg c, nI_clamp (show k < 2 ^ 31 by omega)] at hp
      have ik : vp_in (nI k) 16 := vp_in_nI (by omega) (by omega)
      refine br_f c ⟨ik, nm_r (show _ = upd b.1 k (nI b.2.2.2) by rw [nI_clamp (show k < 2 ^ 31 by omega)]) (nm_r (nI_1 b.2.2.2) ⟨ik, ?_⟩)⟩
      rw [nI_clamp (show k < 2 ^ 31 by omega)]
      by_cases e : x_firstLink k = pr
      · refine br_t e ⟨ik, nm_r (show _ = oa_nt x_firstLink x_secondLink pr k by unfold oa_nt; rw [if_pos e]) (nm_r (nI_1 i) (ih (i + 1) fu (nI k) _ (oa_b1 b k) (by omega) (by omega) ?_ hp))⟩
        unfold oa_nt; rw [if_pos e]; exact (hl k hk).2
      · refine br_f e ⟨ik, nm_r (show _ = oa_nt x_firstLink x_secondLink pr k by unfold oa_nt; rw [if_neg e]) (nm_r (nI_1 i) (ih (i + 1) fu (nI k) _ (oa_b1 b k) (by omega) (by omega) ?_ hp))⟩
        unfold oa_nt; rw [if_neg e]; exact (hl k hk).1
theorem xa_pp {V k : Nat} (hV : V ≤ 16) (hk : k < V) (hl : oa_LR V x_firstLink x_secondLink) (post : St2 → Prop) (b b' : oa_B) (eb : oa_tr x_firstLink x_secondLink V (-1) (oa_sm x_secondLink x_chain (x_chain k) V 0) b = b')
    (hp : post (nI V, x_regCount, x_phase, x_statementCount, x_accessCount, nI b'.2.2.2, x_accumulator, x_register, x_init, x_statements, x_accessVar, x_follower, x_weight, x_firstLink, x_secondLink, x_chain, b'.1, x_opcode, x_instrRegister, x_operand, x_codeLength, x_addrLoads, x_knownAddress, x_memory, x_addressRegister, x_output, x_outputCount)) : wpX_placePath post (nI V, x_regCount, x_phase, x_statementCount, x_accessCount, nI b.2.2.2, x_accumulator, x_register, x_init, x_statements, x_accessVar, x_follower, x_weight, x_firstLink, x_secondLink, x_chain, b.1, x_opcode, x_instrRegister, x_operand, x_codeLength, x_addrLoads, x_knownAddress, x_memory, x_addressRegister, x_output, x_outputCount) (nI k) := by
  subst eb
  exact ⟨V + 1, xa_se hV hk _ V 0 (V + 1) (by omega) (by omega) ⟨V + 1, xa_pp_l hV hl post V 0 (V + 1) (-1) _ b (by omega) (by omega) (oa_sm_r x_secondLink x_chain (x_chain k) V 0 (by omega)) hp⟩⟩
theorem xa_a40 {V r : Nat} (hV : V ≤ 16) (hl : oa_LR V x_firstLink x_secondLink) (post : St2 → Prop) (J30 : oa_JX) :
    ∀ d v fu (b : oa_B), v + d = V → d < fu →
      J30 (nI (r + 1)) (nI V) x_regCount x_phase x_statementCount x_accessCount (nI (oa_av x_register x_firstLink x_secondLink x_chain V (nI r) d v b).2.2.2) x_accumulator x_register x_init x_statements x_accessVar x_follower x_weight x_firstLink x_secondLink x_chain ((oa_av x_register x_firstLink x_secondLink x_chain V (nI r) d v b).1) x_opcode x_instrRegister x_operand x_codeLength x_addrLoads x_knownAddress x_memory x_addressRegister x_output x_outputCount →
      wX_assignAddresses_40 post J30 (nI r) fu (nI v) (nI V) x_regCount x_phase x_statementCount x_accessCount (nI b.2.2.2) x_accumulator x_register x_init x_statements x_accessVar x_follower x_weight x_firstLink x_secondLink x_chain b.1 x_opcode x_instrRegister x_operand x_codeLength x_addrLoads x_knownAddress x_memory x_addressRegister x_output x_outputCount := by
  intro d
  induction d with
  | zero =>
    intro v fu b hv hf hp
    obtain ⟨fu, rfl⟩ : ∃ f, fu = f + 1 := ⟨fu - 1, by omega⟩
    exact br_t (nI_le (by omega) (by omega)) (nm_r (nI_1 r) hp)
  | succ d ih =>
    intro v fu b hv hf hp
    obtain ⟨fu, rfl⟩ : ∃ f, fu = f + 1 := ⟨fu - 1, by omega⟩
    have nx := ih (v + 1) fu (oa_a1 x_register x_firstLink x_secondLink x_chain V (nI r) v b) (by omega) (by omega) hp
    have iv : vp_in (nI v) 16 := vp_in_nI (by omega) (by omega)
    refine br_f (nI_ge (by omega) (by omega)) ⟨iv, ?_⟩
    rw [nI_clamp (show v < 2 ^ 31 by omega)]
    by_cases c : x_register v = nI r
    · refine br_t c ⟨iv, ?_⟩
      by_cases a : b.1 v = -1
      · refine br_t a (xa_pp hV (by omega) hl _ b _ rfl (nm_r (nI_1 v) ?_))
        rw [show oa_a1 x_register x_firstLink x_secondLink x_chain V (nI r) v b = _ from if_pos ⟨c, a⟩] at nx
        exact nx
      · rw [show oa_a1 x_register x_firstLink x_secondLink x_chain V (nI r) v b = b from if_neg (fun z => a z.2)] at nx
        exact br_f a (nm_r (nI_1 v) nx)
    · rw [show oa_a1 x_register x_firstLink x_secondLink x_chain V (nI r) v b = b from if_neg (fun z => c z.1)] at nx
      exact br_f c (nm_r (nI_1 v) nx)
theorem xa_a30 {V nR : Nat} (hV : V ≤ 16) (hR : nR ≤ 4) (hl : oa_LR V x_firstLink x_secondLink) (post : St2 → Prop) :
    ∀ d r fu (b : oa_B), r + d = nR → d < fu →
      post (nI V, nI nR, x_phase, x_statementCount, x_accessCount, (nI (oa_aw x_register x_firstLink x_secondLink x_chain V d r b).2.2.2), x_accumulator, x_register, x_init, x_statements, x_accessVar, x_follower, x_weight, x_firstLink, x_secondLink, x_chain, ((oa_aw x_register x_firstLink x_secondLink x_chain V d r b).1), x_opcode, x_instrRegister, x_operand, x_codeLength, x_addrLoads, x_knownAddress, x_memory, x_addressRegister, x_output, x_outputCount) →
      wX_assignAddresses_30 post fu (nI r) (nI V) (nI nR) x_phase x_statementCount x_accessCount (nI b.2.2.2) x_accumulator x_register x_init x_statements x_accessVar x_follower x_weight x_firstLink x_secondLink x_chain b.1 x_opcode x_instrRegister x_operand x_codeLength x_addrLoads x_knownAddress x_memory x_addressRegister x_output x_outputCount := by
  intro d
  induction d with
  | zero =>
    intro r fu b hr hf hp
    obtain ⟨fu, rfl⟩ : ∃ f, fu = f + 1 := ⟨fu - 1, by omega⟩
    exact br_t (nI_le (by omega) (by omega)) hp
  | succ d ih =>
    intro r fu b hr hf hp
    obtain ⟨fu, rfl⟩ : ∃ f, fu = f + 1 := ⟨fu - 1, by omega⟩
    exact br_f (nI_ge (by omega) (by omega)) ⟨V + 1, xa_a40 hV hl post _ V 0 (V + 1) b (by omega) (by omega) (ih (r + 1) fu _ (by omega) (by omega) hp)⟩
theorem xa_aa_l {V : Nat} (hV : V ≤ 16) (post : St2 → Prop) (hp : ∃ f, wX_assignAddresses_30 post f 0 (nI V) x_regCount x_phase x_statementCount x_accessCount 0 x_accumulator x_register x_init x_statements x_accessVar x_follower x_weight x_firstLink x_secondLink x_chain (oa_fill x_address (fun _ => -1) V) x_opcode x_instrRegister x_operand x_codeLength x_addrLoads x_knownAddress x_memory x_addressRegister x_output x_outputCount) :
    ∀ d i fu, i + d = V → d < fu → wX_assignAddresses_2 post (nI V) x_regCount x_phase x_statementCount x_accessCount x_nextAddress x_accumulator fu (nI i) x_register x_init x_statements x_accessVar x_follower x_weight x_firstLink x_secondLink x_chain (oa_fill x_address (fun _ => -1) i) x_opcode x_instrRegister x_operand x_codeLength x_addrLoads x_knownAddress x_memory x_addressRegister x_output x_outputCount := by
  intro d
  induction d with
  | zero =>
    intro i fu hi hf
    obtain ⟨fu, rfl⟩ : ∃ f, fu = f + 1 := ⟨fu - 1, by omega⟩
    have e : i = V := by omega
    subst e
    exact br_t (nI_le (by omega) (by omega)) hp
  | succ d ih =>
    intro i fu hi hf
    obtain ⟨fu, rfl⟩ : ∃ f, fu = f + 1 := ⟨fu - 1, by omega⟩
    have vi : vp_in (nI i) 16 := vp_in_nI (by omega) (by omega)
    refine br_f (nI_ge (by omega) (by omega)) ⟨vi, nm_r ?_ (nm_r (nI_1 i) (ih (i + 1) fu (by omega) (by omega)))⟩
    rw [nI_clamp (show i < 2 ^ 31 by omega)]
    exact oa_fill_s rfl
theorem xa_aa {V nR : Nat} (hV : V ≤ 16) (hR : nR ≤ 4) (hl : oa_LR V x_firstLink x_secondLink) (ay pl : Nat → Int32) (post : St2 → Prop) (b : oa_B)
    (eb : oa_aw x_register x_firstLink x_secondLink x_chain V nR 0 (oa_fill x_address (fun _ => -1) V, ay, pl, 0) = b)
    (hp : post (nI V, nI nR, x_phase, x_statementCount, x_accessCount, nI b.2.2.2, x_accumulator, x_register, x_init, x_statements, x_accessVar, x_follower, x_weight, x_firstLink, x_secondLink, x_chain, b.1, x_opcode, x_instrRegister, x_operand, x_codeLength, x_addrLoads, x_knownAddress, x_memory, x_addressRegister, x_output, x_outputCount)) : wpX_assignAddresses post (nI V, nI nR, x_phase, x_statementCount, x_accessCount, x_nextAddress, x_accumulator, x_register, x_init, x_statements, x_accessVar, x_follower, x_weight, x_firstLink, x_secondLink, x_chain, x_address, x_opcode, x_instrRegister, x_operand, x_codeLength, x_addrLoads, x_knownAddress, x_memory, x_addressRegister, x_output, x_outputCount) := by
  subst eb
  have h := xa_aa_l (x_regCount := nI nR) (x_nextAddress := x_nextAddress) hV post ⟨nR + 1, xa_a30 hV hR hl post nR 0 (nR + 1) (oa_fill x_address (fun _ => -1) V, ay, pl, 0) (by omega) (by omega) hp⟩ V 0 (V + 1) (by omega) (by omega)
  rw [oa_fill_0] at h
  exact ⟨V + 1, h⟩
end
end
section
/-! X: code -/
theorem oa_ix192 (w L : Nat) : nI w * 192 + nI L = nI (192 * w + L) := by
  rw [show (192 : Int32) = nI 192 from rfl, pk_mul, nI_add, Nat.mul_comm]
theorem oa_w0 {w : Nat} (hw : w < 2) : nI w = 0 ↔ w = 0 := nI_eq (b := 0) (by omega) (by omega)
section
variable {x_varCount x_regCount x_phase x_statementCount x_accessCount x_nextAddress x_accumulator : Int32} {x_register x_init x_statements x_accessVar x_follower x_weight x_firstLink x_secondLink x_chain x_address x_opcode x_instrRegister x_operand x_codeLength x_addrLoads x_knownAddress x_memory x_addressRegister x_output x_outputCount : Nat → Int32}
theorem xa_em {w L : Nat} {o r x : Int32} {k : oa_K} (hw : w < 2) (hL : k.2.2.2.1 w = nI L) (hL2 : L < 192) (post : St2 → Prop) (hp : post (x_varCount, x_regCount, x_phase, x_statementCount, x_accessCount, x_nextAddress, x_accumulator, x_register, x_init, x_statements, x_accessVar, x_follower, x_weight, x_firstLink, x_secondLink, x_chain, x_address, ((oa_em w o r x k).1), ((oa_em w o r x k).2.1), ((oa_em w o r x k).2.2.1), ((oa_em w o r x k).2.2.2.1), ((oa_em w o r x k).2.2.2.2.1), ((oa_em w o r x k).2.2.2.2.2.1), x_memory, x_addressRegister, x_output, x_outputCount)) : wpX_emit post (x_varCount, x_regCount, x_phase, x_statementCount, x_accessCount, x_nextAddress, x_accumulator, x_register, x_init, x_statements, x_accessVar, x_follower, x_weight, x_firstLink, x_secondLink, x_chain, x_address, k.1, k.2.1, k.2.2.1, k.2.2.2.1, k.2.2.2.2.1, k.2.2.2.2.2.1, x_memory, x_addressRegister, x_output, x_outputCount) (nI w) o r x := by
  have iw : vp_in (nI w) 2 := vp_in_nI hw (by omega)
  have ii : vp_in (nI (192 * w + L)) 384 := vp_in_nI (by omega) (by omega)
  have eL : (k.2.2.2.1 w).toNatClampNeg = L := by rw [hL]; exact nI_clamp (by omega)
  have ci : (nI (192 * w + L)).toNatClampNeg = 192 * w + L := nI_clamp (by omega)
  have e1 : nI w * 192 + k.2.2.2.1 w = nI (192 * w + L) := by rw [hL, oa_ix192]
  dsimp only [oa_em] at hp
  rw [eL] at hp
  unfold wpX_emit
  dsimp only
  rw [nI_clamp (show w < 2 ^ 31 by omega)]
  refine ⟨iw, nm_r e1 ⟨ii, nm_r (by rw [ci]) ⟨ii, nm_r (by rw [ci]) ⟨ii, nm_r (by rw [ci]) ⟨iw, iw, nm_e ?_⟩⟩⟩⟩⟩
  by_cases c : o = 0
  · rw [if_pos c] at hp
    exact br_t c ⟨iw, iw, nm_e hp⟩
  · rw [if_neg c] at hp
    exact br_f c hp
theorem xa_ai {w v : Nat} {P : Int32} (hw : w < 2) (hv : v < 16) (hP : (if w = 0 then nI v else x_address v) = P) (post : Int32 → Prop) (hp : post P) : wpX_addressIn post (x_varCount, x_regCount, x_phase, x_statementCount, x_accessCount, x_nextAddress, x_accumulator, x_register, x_init, x_statements, x_accessVar, x_follower, x_weight, x_firstLink, x_secondLink, x_chain, x_address, x_opcode, x_instrRegister, x_operand, x_codeLength, x_addrLoads, x_knownAddress, x_memory, x_addressRegister, x_output, x_outputCount) (nI w) (nI v) := by
  rw [← hP] at hp
  unfold wpX_addressIn
  dsimp only
  rw [nI_clamp (show v < 2 ^ 31 by omega), oa_w0 hw]
  by_cases c : w = 0
  · rw [if_pos c] at hp
    exact br_t c hp
  · rw [if_neg c] at hp
    exact br_f c ⟨vp_in_nI hv (by omega), hp⟩
theorem xa_sa {V nR n j : Nat} (e : oa_env V nR n x_register x_accessVar x_address) (hj : j < n) (hF : x_follower j = oa_fv x_register x_accessVar n j) (post : Int32 → Prop) (hp : post (oa_sp x_register x_accessVar x_address n j)) :
    wpX_stepAfter post (x_varCount, x_regCount, x_phase, x_statementCount, x_accessCount, x_nextAddress, x_accumulator, x_register, x_init, x_statements, x_accessVar, x_follower, x_weight, x_firstLink, x_secondLink, x_chain, x_address, x_opcode, x_instrRegister, x_operand, x_codeLength, x_addrLoads, x_knownAddress, x_memory, x_addressRegister, x_output, x_outputCount) (nI j) := by
  obtain ⟨v, r, a, hv, hr, ha, e1, e2, e3, e4, e5, e6⟩ := oa_env_j (w := 0) e hj
  obtain ⟨hV, _, hn, _, _, _⟩ := e
  have ij : vp_in (nI j) 96 := vp_in_nI (by omega) (by omega)
  have cj : (nI j).toNatClampNeg = j := nI_clamp (by omega)
  unfold wpX_stepAfter
  dsimp only
  rw [cj, hF]
  refine ⟨ij, nm_e ?_⟩
  unfold oa_sp at hp
  unfold oa_fv
  by_cases hf : oa_fo x_register x_accessVar n j < n
  · rw [if_pos hf] at hp ⊢
    obtain ⟨v', r', a', hv', _, _, f1, f2, _, _, _, _⟩ := oa_env_j (w := 0) (V := V) (nR := nR) ⟨hV, by assumption, hn, by assumption, by assumption, by assumption⟩ hf
    have cf : (nI (oa_fo x_register x_accessVar n j)).toNatClampNeg = oa_fo x_register x_accessVar n j := nI_clamp (by omega)
    rw [cf]
    refine br_f (oa_ne (by omega)) ⟨vp_in_nI (show oa_fo x_register x_accessVar n j < 96 by omega) (by omega), by rw [f1]; exact vp_in_nI (by omega) (by omega), ij, by rw [e1]; exact vp_in_nI (by omega) (by omega), nm_e ?_⟩
    generalize x_address (x_accessVar (oa_fo x_register x_accessVar n j)).toNatClampNeg - x_address (x_accessVar j).toNatClampNeg = D at hp ⊢
    by_cases c1 : D < -1
    · rw [if_neg (fun z => Int32.not_lt.mpr z.1 c1)] at hp
      exact br_t c1 hp
    · refine br_f c1 ?_
      by_cases c2 : 1 < D
      · rw [if_neg (fun z => Int32.not_lt.mpr z.2 c2)] at hp
        exact br_t c2 hp
      · rw [if_pos ⟨Int32.not_lt.mp c1, Int32.not_lt.mp c2⟩] at hp
        exact br_f c2 hp
  · rw [if_neg hf] at hp ⊢
    exact br_t rfl hp
theorem xa_65 {w L r : Nat} {o p m : Int32} {k : oa_K} (hw : w < 2) (hr : r < 4) (hL : k.2.2.2.1 w = nI L) (hL2 : L < 192) (post : St2 → Prop) (hp : post (x_varCount, x_regCount, x_phase, x_statementCount, x_accessCount, x_nextAddress, x_accumulator, x_register, x_init, x_statements, x_accessVar, x_follower, x_weight, x_firstLink, x_secondLink, x_chain, x_address, ((oa_st w r (p + m) (oa_em w o (nI r) m k)).1), ((oa_st w r (p + m) (oa_em w o (nI r) m k)).2.1), ((oa_st w r (p + m) (oa_em w o (nI r) m k)).2.2.1), ((oa_st w r (p + m) (oa_em w o (nI r) m k)).2.2.2.1), ((oa_st w r (p + m) (oa_em w o (nI r) m k)).2.2.2.2.1), ((oa_st w r (p + m) (oa_em w o (nI r) m k)).2.2.2.2.2.1), x_memory, x_addressRegister, x_output, x_outputCount)) :
    wX_emitAccess_65 post (nI w) o (nI r) p m x_varCount x_regCount x_phase x_statementCount x_accessCount x_nextAddress x_accumulator x_register x_init x_statements x_accessVar x_follower x_weight x_firstLink x_secondLink x_chain x_address k.1 k.2.1 k.2.2.1 k.2.2.2.1 k.2.2.2.2.1 k.2.2.2.2.2.1 x_memory x_addressRegister x_output x_outputCount := by
  unfold wX_emitAccess_65
  refine xa_em hw hL hL2 _ ⟨vp_in_nI hr (by omega), nm_r (by rw [nI_clamp (show r < 2 ^ 31 by omega)]; rfl) hp⟩
theorem xa_52 {V nR n w L r j : Nat} {o p : Int32} {k : oa_K} (e : oa_env V nR n x_register x_accessVar x_address) (hj : j < n) (hF : x_follower j = oa_fv x_register x_accessVar n j) (hw : w < 2) (hr : r < 4) (hL : k.2.2.2.1 w = nI L) (hL2 : L < 192)
    (post : St2 → Prop) (hp : post (x_varCount, x_regCount, x_phase, x_statementCount, x_accessCount, x_nextAddress, x_accumulator, x_register, x_init, x_statements, x_accessVar, x_follower, x_weight, x_firstLink, x_secondLink, x_chain, x_address, ((oa_st w r (p + oa_ms x_register x_accessVar x_address n w j) (oa_em w o (nI r) (oa_ms x_register x_accessVar x_address n w j) k)).1), ((oa_st w r (p + oa_ms x_register x_accessVar x_address n w j) (oa_em w o (nI r) (oa_ms x_register x_accessVar x_address n w j) k)).2.1), ((oa_st w r (p + oa_ms x_register x_accessVar x_address n w j) (oa_em w o (nI r) (oa_ms x_register x_accessVar x_address n w j) k)).2.2.1), ((oa_st w r (p + oa_ms x_register x_accessVar x_address n w j) (oa_em w o (nI r) (oa_ms x_register x_accessVar x_address n w j) k)).2.2.2.1), ((oa_st w r (p + oa_ms x_register x_accessVar x_address n w j) (oa_em w o (nI r) (oa_ms x_register x_accessVar x_address n w j) k)).2.2.2.2.1), ((oa_st w r (p + oa_ms x_register x_accessVar x_address n w j) (oa_em w o (nI r) (oa_ms x_register x_accessVar x_address n w j) k)).2.2.2.2.2.1), x_memory, x_addressRegister, x_output, x_outputCount)) :
    wX_emitAccess_52 post (nI w) o (nI j) (nI r) p x_varCount x_regCount x_phase x_statementCount x_accessCount x_nextAddress x_accumulator x_register x_init x_statements x_accessVar x_follower x_weight x_firstLink x_secondLink x_chain x_address k.1 k.2.1 k.2.2.1 k.2.2.2.1 k.2.2.2.2.1 k.2.2.2.2.2.1 x_memory x_addressRegister x_output x_outputCount := by
  unfold wX_emitAccess_52
  rw [oa_w0 hw]
  unfold oa_ms at hp
  by_cases c : w = 0
  · rw [if_pos c] at hp
    exact br_t c (xa_65 hw hr hL hL2 post hp)
  · rw [if_neg c] at hp
    exact br_f c (xa_sa e hj hF _ (xa_65 hw hr hL hL2 post hp))
theorem xa_ea {V nR n w L j : Nat} {o x : Int32} {k : oa_K} (e : oa_env V nR n x_register x_accessVar x_address) (hj : j < n) (hx : x = nI j) (hF : x_follower j = oa_fv x_register x_accessVar n j) (hw : w < 2) (hL : k.2.2.2.1 w = nI L) (hL2 : L + 2 ≤ 192)
    (post : St2 → Prop) (hp : post (x_varCount, x_regCount, x_phase, x_statementCount, x_accessCount, x_nextAddress, x_accumulator, x_register, x_init, x_statements, x_accessVar, x_follower, x_weight, x_firstLink, x_secondLink, x_chain, x_address, ((oa_ac x_register x_accessVar x_address n w o j k).1), ((oa_ac x_register x_accessVar x_address n w o j k).2.1), ((oa_ac x_register x_accessVar x_address n w o j k).2.2.1), ((oa_ac x_register x_accessVar x_address n w o j k).2.2.2.1), ((oa_ac x_register x_accessVar x_address n w o j k).2.2.2.2.1), ((oa_ac x_register x_accessVar x_address n w o j k).2.2.2.2.2.1), x_memory, x_addressRegister, x_output, x_outputCount)) : wpX_emitAccess post (x_varCount, x_regCount, x_phase, x_statementCount, x_accessCount, x_nextAddress, x_accumulator, x_register, x_init, x_statements, x_accessVar, x_follower, x_weight, x_firstLink, x_secondLink, x_chain, x_address, k.1, k.2.1, k.2.2.1, k.2.2.2.1, k.2.2.2.2.1, k.2.2.2.2.2.1, x_memory, x_addressRegister, x_output, x_outputCount) (nI w) o x := by
  subst hx
  obtain ⟨v, r, a, hv, hr, ha, e1, e2, e3, e4, e5, e6⟩ := oa_env_j (w := 0) e hj
  have hV := e.1
  have hR := e.2.1
  have hn := e.2.2.1
  have cj : (nI j).toNatClampNeg = j := nI_clamp (by omega)
  have cv : (nI v).toNatClampNeg = v := nI_clamp (by omega)
  have cr : (nI r).toNatClampNeg = r := nI_clamp (by omega)
  have ir : vp_in (nI r) 4 := vp_in_nI (by omega) (by omega)
  have iv : vp_in (nI v) 16 := vp_in_nI (by omega) (by omega)
  have er : x_register v = nI r := by rw [← e2]; exact e3
  have ep : (if w = 0 then nI v else x_address v) = oa_pa x_accessVar x_address w j := by
    unfold oa_pa; rw [e2, e1]
  unfold oa_ac oa_ld at hp
  rw [e4, e3] at hp
  refine ⟨vp_in_nI (by omega) (by omega), nm_r (show _ = nI v by rw [cj, e1]) ⟨iv, nm_r (show _ = nI r by rw [cv, er]) (xa_ai hw (by omega) ep _ ?_)⟩⟩
  generalize oa_pa x_accessVar x_address w j = p at hp ⊢
  by_cases c : w = 0 ∨ k.2.2.2.2.2.1 r ≠ p
  · rw [if_pos c] at hp
    have hL' : (oa_em w 0 (nI r) p k).2.2.2.1 w = nI (L + 1) := by
      show upd k.2.2.2.1 w (k.2.2.2.1 w + 1) w = _
      rw [pk_us, hL, nI_1]
    have h42 : wX_emitAccess_42 post (nI w) o (nI j) (nI r) p x_varCount x_regCount x_phase x_statementCount x_accessCount x_nextAddress x_accumulator x_register x_init x_statements x_accessVar x_follower x_weight x_firstLink x_secondLink x_chain x_address k.1 k.2.1 k.2.2.1 k.2.2.2.1 k.2.2.2.2.1 k.2.2.2.2.2.1 x_memory x_addressRegister x_output x_outputCount := by
      unfold wX_emitAccess_42
      exact xa_em hw hL (by omega) _ (xa_52 (k := oa_mk w r (oa_em w 0 (nI r) p k)) e hj hF hw (by omega) hL' (by omega) post hp)
    by_cases c0 : w = 0
    · exact br_t ((oa_w0 hw).mpr c0) h42
    · refine br_f (fun z => c0 ((oa_w0 hw).mp z)) ⟨ir, br_f ?_ h42⟩
      rw [cr]
      exact c.resolve_left c0
  · rw [if_neg c] at hp
    have c0 : ¬ w = 0 := fun z => c (Or.inl z)
    have cp : k.2.2.2.2.2.1 r = p := by
      by_cases z : k.2.2.2.2.2.1 r = p
      · exact z
      · exact absurd (Or.inr z) c
    refine br_f (fun z => c0 ((oa_w0 hw).mp z)) ⟨ir, br_t ?_ (xa_52 e hj hF hw (by omega) hL (by omega) post hp)⟩
    rw [cr]
    exact cp
theorem xa_ts {V nR n w L q i p : Nat} {o d a b : Int32} {k0 k : oa_K} (e : oa_env V nR n x_register x_accessVar x_address) (hF : ∀ j, j < n → x_follower j = oa_fv x_register x_accessVar n j) (hw : w < 2) (hR : 0 < nR) (hi : i < 32)
    (ho : x_statements (i * 4) = o) (hA : x_statements (i * 4 + 2) = a) (st : oa_ST V o d a b x_accessVar p) (hn : p + oa_na o ≤ n) (h : oa_KI nR w L q k0 k) (hL : L + 6 ≤ 192) (post : Int32 → St2 → Prop)
    (hp : post (nI (p + oa_na o)) (x_varCount, x_regCount, x_phase, x_statementCount, x_accessCount, x_nextAddress, x_accumulator, x_register, x_init, x_statements, x_accessVar, x_follower, x_weight, x_firstLink, x_secondLink, x_chain, x_address, ((oa_tt x_register x_accessVar x_address n w o a p k).1), ((oa_tt x_register x_accessVar x_address n w o a p k).2.1), ((oa_tt x_register x_accessVar x_address n w o a p k).2.2.1), ((oa_tt x_register x_accessVar x_address n w o a p k).2.2.2.1), ((oa_tt x_register x_accessVar x_address n w o a p k).2.2.2.2.1), ((oa_tt x_register x_accessVar x_address n w o a p k).2.2.2.2.2.1), x_memory, x_addressRegister, x_output, x_outputCount)) : wpX_translateStatement post (x_varCount, x_regCount, x_phase, x_statementCount, x_accessCount, x_nextAddress, x_accumulator, x_register, x_init, x_statements, x_accessVar, x_follower, x_weight, x_firstLink, x_secondLink, x_chain, x_address, k.1, k.2.1, k.2.2.1, k.2.2.2.1, k.2.2.2.2.1, k.2.2.2.2.2.1, x_memory, x_addressRegister, x_output, x_outputCount) (nI w) (nI i) (nI p) := by
  have e4 : nI i * 4 = nI (i * 4) := by rw [show (4 : Int32) = nI 4 from rfl, pk_mul]
  have c4 : (nI (i * 4)).toNatClampNeg = i * 4 := nI_clamp (by omega)
  have eo : x_statements (nI (i * 4) + 0).toNatClampNeg = o := by rw [Int32.add_zero, c4]; exact ho
  refine nm_r e4 ⟨by rw [Int32.add_zero]; exact vp_in_nI (by omega) (by omega), nm_r eo ?_⟩
  unfold oa_tt at hp
  rcases st with ⟨z, hz, rfl, -⟩ | ⟨rfl, -⟩ | ⟨rfl, -⟩ | ⟨rfl, -⟩
  · rw [oa_na5 hz] at hn hp
    rw [if_pos (show nI z ≤ 5 from nI_le (b := 5) hz (by decide)), ← nI_add] at hp
    obtain ⟨L1, l1, h1⟩ := oa_ac_I (o := 1) e (show p < n by omega) h (by omega) (by omega)
    obtain ⟨L2, l2, h2⟩ := oa_ac_I (o := 2 + z) e (show p + 1 < n by omega) h1 (by omega) (by omega)
    rw [← nI_add 2 z] at h2
    exact br_t (nI_lt (b := 6) (by omega) (by decide)) (xa_ea e (show p < n by omega) rfl (hF _ (by omega)) hw h.1.1.1 (by omega) _
      (xa_ea e (show p + 1 < n by omega) (nI_1 p) (hF _ (by omega)) hw h1.1.1.1 (by omega) _
        (xa_ea e (show p + 2 < n by omega) (nI_add p 2) (hF _ (by omega)) hw h2.1.1.1 (by omega) _ hp)))
  · rw [oa_na6] at hn hp
    rw [if_neg (by decide), if_pos rfl, ← nI_add] at hp
    obtain ⟨L1, l1, h1⟩ := oa_ac_I (o := 1) e (show p < n by omega) h (by omega) (by omega)
    exact br_f (by decide) (br_f (by decide) (br_t rfl (xa_ea e (show p < n by omega) rfl (hF _ (by omega)) hw h.1.1.1 (by omega) _
      (xa_ea e (show p + 1 < n by omega) (nI_1 p) (hF _ (by omega)) hw h1.1.1.1 (by omega) _ hp))))
  · rw [oa_na7] at hn hp
    rw [if_neg (by decide), if_neg (by decide), if_pos rfl, ← nI_add] at hp
    have h1 := oa_em_I (x := a) (o := 9) (r := 0) h (by omega) (by omega) hR
    have ea : x_statements (nI (i * 4) + 2).toNatClampNeg = a := by
      rw [show nI (i * 4) + 2 = nI (i * 4 + 2) from nI_add (i * 4) 2, nI_clamp (by omega)]; exact hA
    refine br_f (by decide) (br_f (by decide) (br_f (by decide) (br_t rfl ⟨?_, ?_⟩)))
    · rw [show nI (i * 4) + 2 = nI (i * 4 + 2) from nI_add (i * 4) 2]; exact vp_in_nI (by omega) (by omega)
    · rw [ea]
      exact xa_em hw h.1.1.1 (by omega) _ (xa_ea e (show p < n by omega) rfl (hF _ (by omega)) hw h1.1.1.1 (by omega) _ hp)
  · rw [oa_na8] at hn hp
    rw [if_neg (by decide), if_neg (by decide), if_neg (by decide), ← nI_add] at hp
    obtain ⟨L1, l1, h1⟩ := oa_ac_I (o := 1) e (show p < n by omega) h (by omega) (by omega)
    exact br_f (by decide) (br_f (by decide) (br_f (by decide) (br_f (by decide) (br_t rfl (xa_ea e (show p < n by omega) rfl (hF _ (by omega)) hw h.1.1.1 (by omega) _
      (xa_em hw h1.1.1.1 (by omega) _ hp))))))
theorem xa_tb_l {V nR w cnt : Nat} {sop sd sa sb : Nat → Int32} {k0 k : oa_K} (hw : w < 2) (hR : 0 < nR) (hc : cnt ≤ 32) (ss : oa_SS V cnt sop sd sa sb x_accessVar) (sr : oa_SR x_statements sop sd sa sb) (e : oa_env V nR (oa_ps sop cnt) x_register x_accessVar x_address)
    (hF : ∀ j, j < oa_ps sop cnt → x_follower j = oa_fv x_register x_accessVar (oa_ps sop cnt) j) (h : oa_KI nR w 0 0 k0 k) (post : St2 → Prop)
    (hp : post (x_varCount, x_regCount, x_phase, nI cnt, x_accessCount, x_nextAddress, x_accumulator, x_register, x_init, x_statements, x_accessVar, x_follower, x_weight, x_firstLink, x_secondLink, x_chain, x_address, ((oa_tb x_register x_accessVar x_address sop sa (oa_ps sop cnt) w cnt k).1), ((oa_tb x_register x_accessVar x_address sop sa (oa_ps sop cnt) w cnt k).2.1), ((oa_tb x_register x_accessVar x_address sop sa (oa_ps sop cnt) w cnt k).2.2.1), ((oa_tb x_register x_accessVar x_address sop sa (oa_ps sop cnt) w cnt k).2.2.2.1), ((oa_tb x_register x_accessVar x_address sop sa (oa_ps sop cnt) w cnt k).2.2.2.2.1), ((oa_tb x_register x_accessVar x_address sop sa (oa_ps sop cnt) w cnt k).2.2.2.2.2.1), x_memory, x_addressRegister, x_output, x_outputCount)) :
    ∀ d i fu, i + d = cnt → d < fu → wX_translateBlock_41 post (nI w) fu (nI (oa_ps sop i)) (nI i) x_varCount x_regCount x_phase (nI cnt) x_accessCount x_nextAddress x_accumulator x_register x_init x_statements x_accessVar x_follower x_weight x_firstLink x_secondLink x_chain x_address ((oa_tb x_register x_accessVar x_address sop sa (oa_ps sop cnt) w i k).1) ((oa_tb x_register x_accessVar x_address sop sa (oa_ps sop cnt) w i k).2.1) ((oa_tb x_register x_accessVar x_address sop sa (oa_ps sop cnt) w i k).2.2.1) ((oa_tb x_register x_accessVar x_address sop sa (oa_ps sop cnt) w i k).2.2.2.1) ((oa_tb x_register x_accessVar x_address sop sa (oa_ps sop cnt) w i k).2.2.2.2.1) ((oa_tb x_register x_accessVar x_address sop sa (oa_ps sop cnt) w i k).2.2.2.2.2.1) x_memory x_addressRegister x_output x_outputCount := by
  intro d
  induction d with
  | zero =>
    intro i fu hi hf
    obtain ⟨fu, rfl⟩ : ∃ f, fu = f + 1 := ⟨fu - 1, by omega⟩
    have ei : i = cnt := by omega
    subst ei
    exact br_t (nI_le (by omega) (by omega)) hp
  | succ d ih =>
    intro i fu hi hf
    obtain ⟨fu, rfl⟩ : ∃ f, fu = f + 1 := ⟨fu - 1, by omega⟩
    obtain ⟨L, hL, hk⟩ := oa_tb_I hR hc ss e h i (by omega)
    have hn : oa_ps sop i + oa_na (sop i) ≤ oa_ps sop cnt := oa_ps_mono sop cnt (i + 1) (by omega)
    have s4 := sr i (by omega)
    exact br_f (nI_ge (by omega) (by omega)) (xa_ts e hF hw hR (by omega) s4.1 s4.2.2.1 (ss i (by omega)) hn hk (by omega) _ (nm_r (nI_1 i) (ih (i + 1) fu (by omega) (by omega))))
theorem xa_tk_l {nR w : Nat} (hR : nR ≤ 4) (post : St2 → Prop) (hp : ∃ f, wX_translateBlock_41 post (nI w) f 0 0 x_varCount (nI nR) x_phase x_statementCount x_accessCount x_nextAddress x_accumulator x_register x_init x_statements x_accessVar x_follower x_weight x_firstLink x_secondLink x_chain x_address x_opcode x_instrRegister x_operand x_codeLength x_addrLoads (oa_fill x_knownAddress (fun _ => -1) nR) x_memory x_addressRegister x_output x_outputCount) :
    ∀ d i fu, i + d = nR → d < fu → wX_translateBlock_16 post (nI w) x_varCount (nI nR) x_phase x_statementCount x_accessCount x_nextAddress x_accumulator fu (nI i) x_register x_init x_statements x_accessVar x_follower x_weight x_firstLink x_secondLink x_chain x_address x_opcode x_instrRegister x_operand x_codeLength x_addrLoads (oa_fill x_knownAddress (fun _ => -1) i) x_memory x_addressRegister x_output x_outputCount := by
  intro d
  induction d with
  | zero =>
    intro i fu hi hf
    obtain ⟨fu, rfl⟩ : ∃ f, fu = f + 1 := ⟨fu - 1, by omega⟩
    have e : i = nR := by omega
    subst e
    exact br_t (nI_le (by omega) (by omega)) hp
  | succ d ih =>
    intro i fu hi hf
    obtain ⟨fu, rfl⟩ : ∃ f, fu = f + 1 := ⟨fu - 1, by omega⟩
    have vi : vp_in (nI i) 4 := vp_in_nI (by omega) (by omega)
    refine br_f (nI_ge (by omega) (by omega)) ⟨vi, nm_r ?_ (nm_r (nI_1 i) (ih (i + 1) fu (by omega) (by omega)))⟩
    rw [nI_clamp (show i < 2 ^ 31 by omega)]
    exact oa_fill_s rfl
end
/-- the state of the code as a block's translation begins -/
def oa_k0 (nR w : Nat) (k kk' : oa_K) : oa_K := (k.1, k.2.1, k.2.2.1, upd k.2.2.2.1 w 0, upd k.2.2.2.2.1 w 0, oa_fill k.2.2.2.2.2.1 (fun _ => -1) nR, kk'.2.2.2.2.2.2.1, kk'.2.2.2.2.2.2.2)
theorem oa_k0_I {nR w : Nat} {k kk' : oa_K} (h : ∀ r, r < nR → kk'.2.2.2.2.2.2.2 r = 0) : oa_KI nR w 0 0 k (oa_k0 nR w k kk') := by
  refine ⟨⟨⟨pk_us, fun i hi => by omega, Nat.le_refl _⟩, ?_, fun w' hw => ⟨(pk_un hw : upd k.2.2.2.1 w 0 w' = k.2.2.2.1 w'), fun i _ => ⟨rfl, rfl, rfl⟩⟩⟩, Or.inr fun r hr => ⟨fun _ => (oa_fill_lt hr : oa_fill k.2.2.2.2.2.1 (fun _ => -1) nR r = -1), fun z => absurd (h r hr) z⟩⟩
  intro w' L' q' hw _ hc
  exact ⟨by show upd k.2.2.2.1 w 0 w' = _; rw [pk_un hw]; exact hc.1, hc.2⟩
section
variable {x_varCount x_regCount x_phase x_statementCount x_accessCount x_nextAddress x_accumulator : Int32} {x_register x_init x_statements x_accessVar x_follower x_weight x_firstLink x_secondLink x_chain x_address x_opcode x_instrRegister x_operand x_codeLength x_addrLoads x_knownAddress x_memory x_addressRegister x_output x_outputCount : Nat → Int32}
theorem xa_tb {V nR w cnt : Nat} {sop sd sa sb : Nat → Int32} {k kk' K : oa_K} (hw : w < 2) (hR : 0 < nR) (hR4 : nR ≤ 4) (hc : cnt ≤ 32) (ss : oa_SS V cnt sop sd sa sb x_accessVar) (sr : oa_SR x_statements sop sd sa sb) (e : oa_env V nR (oa_ps sop cnt) x_register x_accessVar x_address)
    (hF : ∀ j, j < oa_ps sop cnt → x_follower j = oa_fv x_register x_accessVar (oa_ps sop cnt) j) (hk : ∀ r, r < nR → kk'.2.2.2.2.2.2.2 r = 0) (post : St2 → Prop)
    (eK : oa_tb x_register x_accessVar x_address sop sa (oa_ps sop cnt) w cnt (oa_k0 nR w k kk') = K)
    (hp : post (x_varCount, nI nR, x_phase, nI cnt, x_accessCount, x_nextAddress, x_accumulator, x_register, x_init, x_statements, x_accessVar, x_follower, x_weight, x_firstLink, x_secondLink, x_chain, x_address, K.1, K.2.1, K.2.2.1, K.2.2.2.1, K.2.2.2.2.1, K.2.2.2.2.2.1, x_memory, x_addressRegister, x_output, x_outputCount)) : wpX_translateBlock post (x_varCount, nI nR, x_phase, nI cnt, x_accessCount, x_nextAddress, x_accumulator, x_register, x_init, x_statements, x_accessVar, x_follower, x_weight, x_firstLink, x_secondLink, x_chain, x_address, k.1, k.2.1, k.2.2.1, k.2.2.2.1, k.2.2.2.2.1, k.2.2.2.2.2.1, x_memory, x_addressRegister, x_output, x_outputCount) (nI w) := by
  subst eK
  have iw : vp_in (nI w) 2 := vp_in_nI hw (by omega)
  have cw : (nI w).toNatClampNeg = w := nI_clamp (by omega)
  have h := xa_tk_l (w := w) (x_opcode := k.1) (x_instrRegister := k.2.1) (x_operand := k.2.2.1) (x_codeLength := upd k.2.2.2.1 w 0) (x_addrLoads := upd k.2.2.2.2.1 w 0) (x_knownAddress := k.2.2.2.2.2.1) (x_statementCount := nI cnt) hR4 post
    ⟨cnt + 1, xa_tb_l (x_regCount := nI nR) hw hR hc ss sr e hF (oa_k0_I (k := k) hk) post hp cnt 0 (cnt + 1) (by omega) (by omega)⟩ nR 0 (nR + 1) (by omega) (by omega)
  rw [oa_fill_0] at h
  exact ⟨iw, nm_r (by rw [cw]) ⟨iw, nm_r (by rw [cw]) ⟨nR + 1, h⟩⟩⟩
end
end
section
/-! X: the machine -/
theorem oa_ix16w (w c : Nat) : nI w * 16 + nI c = nI (16 * w + c) := by
  rw [oa_ix16, Nat.mul_comm]
theorem oa_ix32 (w c : Nat) : nI w * 32 + nI c = nI (32 * w + c) := by
  rw [show (32 : Int32) = nI 32 from rfl, pk_mul, nI_add, Nat.mul_comm]
theorem oa_lit {x a b : Int32} (h : x = a) (n : a ≠ b) : ¬ x = b := fun z => n (by rw [← h, z])
theorem xa_cb {p0 l r : Int32} (post : Int32 → Prop) (hp : post (oa_cb p0 l r)) : wpX_combine post () p0 l r := by
  unfold oa_cb at hp
  unfold wpX_combine
  by_cases c1 : p0 < 2
  · have n : ∀ b : Int32, ¬ b < 2 → ¬ p0 = b := fun b hb z => hb (by rw [← z]; exact c1)
    rw [if_neg (n 2 (by decide)), if_neg (n 3 (by decide)), if_neg (n 4 (by decide)), if_neg (n 5 (by decide)), if_neg (n 6 (by decide)), if_neg (n 7 (by decide))] at hp
    exact br_t c1 hp
  · refine br_f c1 ?_
    by_cases c2 : 7 < p0
    · have n : ∀ b : Int32, ¬ 7 < b → ¬ p0 = b := fun b hb z => hb (by rw [← z]; exact c2)
      rw [if_neg (n 2 (by decide)), if_neg (n 3 (by decide)), if_neg (n 4 (by decide)), if_neg (n 5 (by decide)), if_neg (n 6 (by decide)), if_neg (n 7 (by decide))] at hp
      exact br_t c2 hp
    · refine br_f c2 (br_c (fun z => ?_) (fun z2 => br_c (fun z => ?_) (fun z3 => br_c (fun z => ?_) (fun z4 => br_c (fun z => ?_) (fun z5 => br_c (fun z => ?_) (fun z6 => br_c (fun z => ?_) (fun _ => trivial)))))))
      · rw [if_pos z] at hp; exact hp
      · rw [if_neg z2, if_pos z] at hp; exact hp
      · rw [if_neg z2, if_neg z3, if_pos z] at hp; exact hp
      · rw [if_neg z2, if_neg z3, if_neg z4, if_pos z] at hp; exact hp
      · rw [if_neg z2, if_neg z3, if_neg z4, if_neg z5, if_pos z] at hp; exact hp
      · rw [if_neg z2, if_neg z3, if_neg z4, if_neg z5, if_neg z6, if_pos z] at hp; exact hp
section
variable {x_varCount x_regCount x_phase x_statementCount x_accessCount x_nextAddress x_accumulator : Int32} {x_register x_init x_statements x_accessVar x_follower x_weight x_firstLink x_secondLink x_chain x_address x_opcode x_instrRegister x_operand x_codeLength x_addrLoads x_knownAddress x_memory x_addressRegister x_output x_outputCount : Nat → Int32}
theorem xa_iv {V : Nat} {x : Int32} (post : Int32 → Prop) (h1 : oa_in V x → post 1) (h0 : ¬ oa_in V x → post 0) : wpX_isVariable post (nI V, x_regCount, x_phase, x_statementCount, x_accessCount, x_nextAddress, x_accumulator, x_register, x_init, x_statements, x_accessVar, x_follower, x_weight, x_firstLink, x_secondLink, x_chain, x_address, x_opcode, x_instrRegister, x_operand, x_codeLength, x_addrLoads, x_knownAddress, x_memory, x_addressRegister, x_output, x_outputCount) x :=
  br_c (fun c => h0 (fun z => Int32.not_lt.mpr z.1 c)) (fun c => br_c (fun d => h0 (fun z => Int32.not_lt.mpr d z.2)) (fun d => h1 ⟨Int32.not_lt.mp c, Int32.not_le.mp d⟩))
theorem xa_95 {A : Nat} {x3 x4 : Int32} (hA : A < 384) (i3 : vp_in x3 4) (post : St2 → Prop) (hp : post (x_varCount, x_regCount, x_phase, x_statementCount, x_accessCount, x_nextAddress, x_accumulator, x_register, x_init, x_statements, x_accessVar, x_follower, x_weight, x_firstLink, x_secondLink, x_chain, x_address, x_opcode, x_instrRegister, x_operand, x_codeLength, x_addrLoads, x_knownAddress, x_memory, (upd x_addressRegister x3.toNatClampNeg (x4 + x_operand A)), x_output, x_outputCount)) : wX_executeAccess_95 post (nI A) x3 x4 x_varCount x_regCount x_phase x_statementCount x_accessCount x_nextAddress x_accumulator x_register x_init x_statements x_accessVar x_follower x_weight x_firstLink x_secondLink x_chain x_address x_opcode x_instrRegister x_operand x_codeLength x_addrLoads x_knownAddress x_memory x_addressRegister x_output x_outputCount := by
  have cA : (nI A).toNatClampNeg = A := nI_clamp (by omega)
  exact ⟨vp_in_nI hA (by omega), i3, nm_r (by rw [cA]) hp⟩
theorem xa_xa {V w A : Nat} {m : oa_M} (hV : V ≤ 16) (hw : w < 2) (hA : A < 384) (ir : vp_in (x_instrRegister A) 4) (n0 : ¬ x_opcode A = 0) (n9 : ¬ x_opcode A = 9) (n10 : ¬ x_opcode A = 10) (post : St2 → Prop)
    (hp : post (nI V, x_regCount, x_phase, x_statementCount, x_accessCount, x_nextAddress, ((oa_x1 V w (x_opcode A) (x_instrRegister A) (x_operand A) m).2.2.1), x_register, x_init, x_statements, x_accessVar, x_follower, x_weight, x_firstLink, x_secondLink, x_chain, x_address, x_opcode, x_instrRegister, x_operand, x_codeLength, x_addrLoads, x_knownAddress, ((oa_x1 V w (x_opcode A) (x_instrRegister A) (x_operand A) m).1), ((oa_x1 V w (x_opcode A) (x_instrRegister A) (x_operand A) m).2.1), ((oa_x1 V w (x_opcode A) (x_instrRegister A) (x_operand A) m).2.2.2.1), ((oa_x1 V w (x_opcode A) (x_instrRegister A) (x_operand A) m).2.2.2.2.1))) : wpX_executeAccess post (nI V, x_regCount, x_phase, x_statementCount, x_accessCount, x_nextAddress, m.2.2.1, x_register, x_init, x_statements, x_accessVar, x_follower, x_weight, x_firstLink, x_secondLink, x_chain, x_address, x_opcode, x_instrRegister, x_operand, x_codeLength, x_addrLoads, x_knownAddress, m.1, m.2.1, m.2.2.2.1, m.2.2.2.2.1) (nI w) (nI A) := by
  have iA : vp_in (nI A) 384 := vp_in_nI hA (by omega)
  have cA : (nI A).toNatClampNeg = A := nI_clamp (by omega)
  unfold oa_x1 at hp
  rw [if_neg n0, if_neg n9, if_neg n10] at hp
  unfold wpX_executeAccess
  dsimp only
  rw [cA]
  refine ⟨iA, nm_e ⟨ir, nm_e ?_⟩⟩
  refine xa_iv _ (fun ci => ?_) (fun ci => ?_)
  · obtain ⟨c, hc, ec⟩ := oa_in_c hV ci
    have ex : nI w * 16 + m.2.1 (x_instrRegister A).toNatClampNeg = nI (16 * w + c) := by rw [ec, oa_ix16w]
    have ec2 : (m.2.1 (x_instrRegister A).toNatClampNeg).toNatClampNeg = c := by rw [ec]; exact nI_clamp (by omega)
    have ix : vp_in (nI (16 * w + c)) 32 := vp_in_nI (by omega) (by omega)
    have cx : (nI (16 * w + c)).toNatClampNeg = 16 * w + c := nI_clamp (by omega)
    refine nm_r ex ⟨iA, ?_⟩
    rw [cx]
    by_cases c8 : x_opcode A = 8
    · rw [if_pos c8, if_pos ci, if_pos ci, ec2] at hp
      exact br_t c8 (br_f (by decide) ⟨ix, nm_e (xa_95 hA ir post hp)⟩)
    · rw [if_neg c8, if_pos ci, ec2] at hp
      exact br_f c8 ⟨iA, br_f (by decide) ⟨ix, by unfold wX_executeAccess_70; exact xa_cb _ (xa_95 hA ir post hp)⟩⟩
  · refine nm_e ⟨iA, ?_⟩
    by_cases c8 : x_opcode A = 8
    · rw [if_pos c8, if_neg ci, if_neg ci] at hp
      exact br_t c8 (br_t rfl (xa_95 hA ir post hp))
    · rw [if_neg c8, if_neg ci] at hp
      exact br_f c8 ⟨iA, br_t rfl (by unfold wX_executeAccess_70; exact xa_cb _ (xa_95 hA ir post hp))⟩
theorem xa_ex {V w A : Nat} {m : oa_M} (hV : V ≤ 16) (hw : w < 2) (hA : A < 384) (ir : vp_in (x_instrRegister A) 4) (ho : x_opcode A = 10 → ∃ q, q < 32 ∧ m.2.2.2.2.1 w = nI q) (post : St2 → Prop)
    (hp : post (nI V, x_regCount, x_phase, x_statementCount, x_accessCount, x_nextAddress, ((oa_x1 V w (x_opcode A) (x_instrRegister A) (x_operand A) m).2.2.1), x_register, x_init, x_statements, x_accessVar, x_follower, x_weight, x_firstLink, x_secondLink, x_chain, x_address, x_opcode, x_instrRegister, x_operand, x_codeLength, x_addrLoads, x_knownAddress, ((oa_x1 V w (x_opcode A) (x_instrRegister A) (x_operand A) m).1), ((oa_x1 V w (x_opcode A) (x_instrRegister A) (x_operand A) m).2.1), ((oa_x1 V w (x_opcode A) (x_instrRegister A) (x_operand A) m).2.2.2.1), ((oa_x1 V w (x_opcode A) (x_instrRegister A) (x_operand A) m).2.2.2.2.1))) : wpX_execute post (nI V, x_regCount, x_phase, x_statementCount, x_accessCount, x_nextAddress, m.2.2.1, x_register, x_init, x_statements, x_accessVar, x_follower, x_weight, x_firstLink, x_secondLink, x_chain, x_address, x_opcode, x_instrRegister, x_operand, x_codeLength, x_addrLoads, x_knownAddress, m.1, m.2.1, m.2.2.2.1, m.2.2.2.2.1) (nI w) (nI A) := by
  have iA : vp_in (nI A) 384 := vp_in_nI hA (by omega)
  have cA : (nI A).toNatClampNeg = A := nI_clamp (by omega)
  have iw : vp_in (nI w) 2 := vp_in_nI hw (by omega)
  have cw : (nI w).toNatClampNeg = w := nI_clamp (by omega)
  unfold wpX_execute
  dsimp only
  rw [cA, cw]
  refine ⟨iA, nm_e ?_⟩
  by_cases c0 : x_opcode A = 0
  · unfold oa_x1 at hp
    rw [if_pos c0] at hp
    exact br_t c0 ⟨iA, iA, ir, nm_e hp⟩
  · refine br_f c0 ?_
    by_cases c9 : x_opcode A = 9
    · unfold oa_x1 at hp
      rw [if_neg c0, if_pos c9] at hp
      exact br_t c9 ⟨iA, nm_e hp⟩
    · refine br_f c9 ?_
      by_cases c10 : x_opcode A = 10
      · obtain ⟨q, hq, eq⟩ := ho c10
        unfold oa_x1 at hp
        rw [if_neg c0, if_neg c9, if_pos c10] at hp
        have cq : (m.2.2.2.2.1 w).toNatClampNeg = q := by rw [eq]; exact nI_clamp (by omega)
        rw [cq] at hp
        have ei : nI w * 32 + m.2.2.2.2.1 w = nI (32 * w + q) := by rw [eq, oa_ix32]
        rw [ei, nI_clamp (show 32 * w + q < 2 ^ 31 by omega)]
        exact br_t c10 ⟨iw, vp_in_nI (by omega) (by omega), nm_e ⟨iw, iw, nm_e hp⟩⟩
      · exact br_f c10 (xa_xa hV hw hA ir c0 c9 c10 _ hp)
theorem xa_77 {V nR w L : Nat} {m0 m : oa_M} (hV : V ≤ 16) (hR : nR ≤ 4) (hw : w < 2) (hL : L ≤ 192) (ci : oa_CI nR w L 32 x_opcode x_instrRegister x_codeLength) (mi : oa_MI V nR w 0 x_opcode m0 m) (post : St2 → Prop)
    (hp : post (nI V, x_regCount, x_phase, x_statementCount, x_accessCount, x_nextAddress, ((oa_xs V w x_opcode x_instrRegister x_operand L m).2.2.1), x_register, x_init, x_statements, x_accessVar, x_follower, x_weight, x_firstLink, x_secondLink, x_chain, x_address, x_opcode, x_instrRegister, x_operand, x_codeLength, x_addrLoads, x_knownAddress, ((oa_xs V w x_opcode x_instrRegister x_operand L m).1), ((oa_xs V w x_opcode x_instrRegister x_operand L m).2.1), ((oa_xs V w x_opcode x_instrRegister x_operand L m).2.2.2.1), ((oa_xs V w x_opcode x_instrRegister x_operand L m).2.2.2.2.1))) :
    ∀ d i fu, i + d = L → d < fu → wX_runProgram_77 post (nI w) fu (nI i) (nI V) x_regCount x_phase x_statementCount x_accessCount x_nextAddress ((oa_xs V w x_opcode x_instrRegister x_operand i m).2.2.1) x_register x_init x_statements x_accessVar x_follower x_weight x_firstLink x_secondLink x_chain x_address x_opcode x_instrRegister x_operand x_codeLength x_addrLoads x_knownAddress ((oa_xs V w x_opcode x_instrRegister x_operand i m).1) ((oa_xs V w x_opcode x_instrRegister x_operand i m).2.1) ((oa_xs V w x_opcode x_instrRegister x_operand i m).2.2.2.1) ((oa_xs V w x_opcode x_instrRegister x_operand i m).2.2.2.2.1) := by
  have iw : vp_in (nI w) 2 := vp_in_nI hw (by omega)
  have cw : (nI w).toNatClampNeg = w := nI_clamp (by omega)
  have eL : x_codeLength (nI w).toNatClampNeg = nI L := by rw [cw]; exact ci.1
  intro d
  induction d with
  | zero =>
    intro i fu hi hf
    obtain ⟨fu, rfl⟩ : ∃ f, fu = f + 1 := ⟨fu - 1, by omega⟩
    have e : i = L := by omega
    subst e
    exact ⟨iw, br_t (by rw [eL]; exact nI_le (by omega) (by omega)) hp⟩
  | succ d ih =>
    intro i fu hi hf
    obtain ⟨fu, rfl⟩ : ∃ f, fu = f + 1 := ⟨fu - 1, by omega⟩
    have mi2 := oa_xs_I (rg := x_instrRegister) (od := x_operand) mi i
    obtain ⟨_, r, hr, er⟩ := ci.2.1 i (by omega)
    refine ⟨iw, br_f (by rw [eL]; exact nI_ge (by omega) (by omega)) ?_⟩
    rw [oa_ix192]
    refine xa_ex hV hw (show 192 * w + i < 384 by omega) (by rw [er]; exact vp_in_nI (by omega) (by omega)) (fun h10 => ⟨oa_oc x_opcode (192 * w) i, ?_, mi2.2.2.1⟩) _ (nm_r (nI_1 i) (ih (i + 1) fu (by omega) (by omega)))
    have := oa_oc_lt h10 (show i < L by omega)
    have := ci.2.2
    omega
end
/-- the machine's state as a program begins -/
def oa_m0 (nR w V : Nat) (cell : Nat → Nat) (ini : Nat → Int32) (m : oa_M) : oa_M :=
  (oa_mi m.1 (16 * w) cell ini V, oa_fill m.2.1 (fun _ => 0) nR, 0, m.2.2.2.1, upd m.2.2.2.2.1 w 0,
   oa_mi (oa_mi m.2.2.2.2.2.1 (16 * w) (fun c => c) (fun _ => 0) 16) (16 * w) cell ini V, oa_fill m.2.2.2.2.2.2.1 (fun _ => 0) 4, upd m.2.2.2.2.2.2.2 w 0)
theorem oa_m0_I {V nR w : Nat} {cell : Nat → Nat} {ini op : Nat → Int32} {m : oa_M} (hV : V ≤ 16) (hR : nR ≤ 4) (h : ∀ w' c, w' < 2 → c < V → m.2.2.2.2.2.1 (16 * w' + c) = m.1 (16 * w' + c)) (hc : ∀ v, v < V → cell v < V) (hs : ∀ a, a < V → ∃ v, v < V ∧ cell v = a) :
    oa_MI V nR w 0 op m (oa_m0 nR w V cell ini m) := by
  refine ⟨fun r hr => ?_, oa_mem0 hV h hc hs, pk_us, pk_us, fun w' hw => ⟨pk_un hw, pk_un hw⟩⟩
  show oa_fill m.2.2.2.2.2.2.1 (fun _ => 0) 4 r = oa_fill m.2.1 (fun _ => 0) nR r
  rw [oa_fill_lt (by omega), oa_fill_lt hr]
section
variable {x_varCount x_regCount x_phase x_statementCount x_accessCount x_nextAddress x_accumulator : Int32} {x_register x_init x_statements x_accessVar x_follower x_weight x_firstLink x_secondLink x_chain x_address x_opcode x_instrRegister x_operand x_codeLength x_addrLoads x_knownAddress x_memory x_addressRegister x_output x_outputCount : Nat → Int32}
theorem xa_42 {nR w : Nat} (hR : nR ≤ 4) (hw : w < 2) (post : St2 → Prop) (hp : ∃ f, wX_runProgram_77 post (nI w) f 0 x_varCount (nI nR) x_phase x_statementCount x_accessCount x_nextAddress 0 x_register x_init x_statements x_accessVar x_follower x_weight x_firstLink x_secondLink x_chain x_address x_opcode x_instrRegister x_operand x_codeLength x_addrLoads x_knownAddress x_memory (oa_fill x_addressRegister (fun _ => 0) nR) x_output (upd x_outputCount w 0)) :
    ∀ d i fu, i + d = nR → d < fu → wX_runProgram_42 post (nI w) x_varCount (nI nR) x_phase x_statementCount x_accessCount x_nextAddress x_accumulator fu (nI i) x_register x_init x_statements x_accessVar x_follower x_weight x_firstLink x_secondLink x_chain x_address x_opcode x_instrRegister x_operand x_codeLength x_addrLoads x_knownAddress x_memory (oa_fill x_addressRegister (fun _ => 0) i) x_output x_outputCount := by
  intro d
  induction d with
  | zero =>
    intro i fu hi hf
    obtain ⟨fu, rfl⟩ : ∃ f, fu = f + 1 := ⟨fu - 1, by omega⟩
    have e : i = nR := by omega
    subst e
    exact br_t (nI_le (by omega) (by omega)) ⟨vp_in_nI hw (by omega), nm_r (by rw [nI_clamp (show w < 2 ^ 31 by omega)]) hp⟩
  | succ d ih =>
    intro i fu hi hf
    obtain ⟨fu, rfl⟩ : ∃ f, fu = f + 1 := ⟨fu - 1, by omega⟩
    have vi : vp_in (nI i) 4 := vp_in_nI (by omega) (by omega)
    refine br_f (nI_ge (by omega) (by omega)) ⟨vi, nm_r ?_ (nm_r (nI_1 i) (ih (i + 1) fu (by omega) (by omega)))⟩
    rw [nI_clamp (show i < 2 ^ 31 by omega)]
    exact oa_fill_s rfl
theorem xa_r2 {V w : Nat} {cell : Nat → Nat} (hV : V ≤ 16) (hw : w < 2) (hc : ∀ v, v < V → cell v < V ∧ (if w = 0 then nI v else x_address v) = nI (cell v)) (post : St2 → Prop)
    (hp : ∃ f, wX_runProgram_42 post (nI w) (nI V) x_regCount x_phase x_statementCount x_accessCount x_nextAddress x_accumulator f 0 x_register x_init x_statements x_accessVar x_follower x_weight x_firstLink x_secondLink x_chain x_address x_opcode x_instrRegister x_operand x_codeLength x_addrLoads x_knownAddress (oa_mi x_memory (16 * w) cell x_init V) x_addressRegister x_output x_outputCount) :
    ∀ d i fu, i + d = V → d < fu → wX_runProgram_2 post (nI w) (nI V) x_regCount x_phase x_statementCount x_accessCount x_nextAddress x_accumulator fu (nI i) x_register x_init x_statements x_accessVar x_follower x_weight x_firstLink x_secondLink x_chain x_address x_opcode x_instrRegister x_operand x_codeLength x_addrLoads x_knownAddress (oa_mi x_memory (16 * w) cell x_init i) x_addressRegister x_output x_outputCount := by
  intro d
  induction d with
  | zero =>
    intro i fu hi hf
    obtain ⟨fu, rfl⟩ : ∃ f, fu = f + 1 := ⟨fu - 1, by omega⟩
    have e : i = V := by omega
    subst e
    exact br_t (nI_le (by omega) (by omega)) hp
  | succ d ih =>
    intro i fu hi hf
    obtain ⟨fu, rfl⟩ : ∃ f, fu = f + 1 := ⟨fu - 1, by omega⟩
    have h1 := hc i (by omega)
    refine br_f (nI_ge (by omega) (by omega)) (xa_ai hw (by omega) h1.2 _ ⟨vp_in_nI (by omega) (by omega), ?_⟩)
    rw [oa_ix16w]
    refine ⟨vp_in_nI (by omega) (by omega), nm_r ?_ (nm_r (nI_1 i) (ih (i + 1) fu (by omega) (by omega)))⟩
    rw [nI_clamp (show i < 2 ^ 31 by omega), nI_clamp (show 16 * w + cell i < 2 ^ 31 by omega)]
    rfl
theorem xa_rp {V nR w L : Nat} {cell : Nat → Nat} {m M : oa_M} (hV : V ≤ 16) (hR : nR ≤ 4) (hw : w < 2) (hL : L ≤ 192) (ci : oa_CI nR w L 32 x_opcode x_instrRegister x_codeLength)
    (hc : ∀ v, v < V → cell v < V ∧ (if w = 0 then nI v else x_address v) = nI (cell v)) (mi : oa_MI V nR w 0 x_opcode m (oa_m0 nR w V cell x_init m)) (post : St2 → Prop)
    (eM : oa_xs V w x_opcode x_instrRegister x_operand L (oa_m0 nR w V cell x_init m) = M)
    (hp : post (nI V, nI nR, x_phase, x_statementCount, x_accessCount, x_nextAddress, M.2.2.1, x_register, x_init, x_statements, x_accessVar, x_follower, x_weight, x_firstLink, x_secondLink, x_chain, x_address, x_opcode, x_instrRegister, x_operand, x_codeLength, x_addrLoads, x_knownAddress, M.1, M.2.1, M.2.2.2.1, M.2.2.2.2.1)) : wpX_runProgram post (nI V, nI nR, x_phase, x_statementCount, x_accessCount, x_nextAddress, m.2.2.1, x_register, x_init, x_statements, x_accessVar, x_follower, x_weight, x_firstLink, x_secondLink, x_chain, x_address, x_opcode, x_instrRegister, x_operand, x_codeLength, x_addrLoads, x_knownAddress, m.1, m.2.1, m.2.2.2.1, m.2.2.2.2.1) (nI w) := by
  subst eM
  have h1 := xa_42 (x_varCount := nI V) (x_accumulator := m.2.2.1) (x_memory := oa_mi m.1 (16 * w) cell x_init V) (x_addressRegister := m.2.1) (x_output := m.2.2.2.1) (x_outputCount := m.2.2.2.2.1) hR hw post
    ⟨L + 1, xa_77 (x_regCount := nI nR) hV hR hw hL ci mi post hp L 0 (L + 1) (by omega) (by omega)⟩ nR 0 (nR + 1) (by omega) (by omega)
  rw [oa_fill_0] at h1
  have h2 := xa_r2 (x_regCount := nI nR) (x_accumulator := m.2.2.1) (x_memory := m.1) (x_addressRegister := m.2.1) (x_output := m.2.2.2.1) (x_outputCount := m.2.2.2.2.1) hV hw hc post ⟨nR + 1, h1⟩ V 0 (V + 1) (by omega) (by omega)
  exact ⟨V + 1, h2⟩
end
end
section
/-! small rows of X -/
theorem oa_clamp (x : Int32) {a b : Nat} (hab : a ≤ b) (hb : b < 2 ^ 31) : ∃ V, a ≤ V ∧ V ≤ b ∧ ((nI a ≤ x ∧ x ≤ nI b ∧ x = nI V) ∨ (nI a ≤ x ∧ ¬ x ≤ nI b ∧ V = b) ∨ (¬ nI a ≤ x ∧ V = a)) := by
  by_cases h1 : nI a ≤ x
  · by_cases h2 : x ≤ nI b
    · have h0 : ¬ x < 0 := Int32.not_lt.mpr (Int32.le_trans (nI_pos' (by omega)) h1)
      obtain ⟨j, hj, rfl⟩ := nI_of h0
      rw [nI_leI (by omega) hj] at h1
      rw [nI_leI hj hb] at h2
      exact ⟨j, h1, h2, Or.inl ⟨nI_le h1 hj, nI_le h2 hb, rfl⟩⟩
    · exact ⟨b, hab, Nat.le_refl _, Or.inr (Or.inl ⟨h1, h2, rfl⟩)⟩
  · exact ⟨a, Nat.le_refl _, hab, Or.inr (Or.inr ⟨h1, rfl⟩)⟩
theorem xa_cl {x : Int32} {a b V : Nat} (h : (nI a ≤ x ∧ x ≤ nI b ∧ x = nI V) ∨ (nI a ≤ x ∧ ¬ x ≤ nI b ∧ V = b) ∨ (¬ nI a ≤ x ∧ V = a)) (post : Int32 → Prop) (hp : post (nI V)) : wpX_clamp post () x (nI a) (nI b) := by
  rcases h with ⟨h1, h2, rfl⟩ | ⟨h1, h2, rfl⟩ | ⟨h1, rfl⟩
  · exact br_t h1 (br_t h2 hp)
  · exact br_t h1 (br_f h2 hp)
  · exact br_f h1 hp
theorem oa_upr {V nR v r : Nat} {reg : Nat → Int32} (hr : r < nR) (h : ∀ v, v < V → ∃ r, r < nR ∧ reg v = nI r) : ∀ x, x < V → ∃ r', r' < nR ∧ upd reg v (nI r) x = nI r' := by
  intro x hx
  by_cases e : x = v
  · rw [e, pk_us]; exact ⟨r, hr, rfl⟩
  · rw [pk_un e]; exact h x hx
theorem oa_w1 {w : Nat} (hw : w < 2) : nI w ≤ 1 := nI_le (b := 1) (by omega) (by decide)
theorem oa_w1' {w : Nat} (hw : w < 2) : ¬ 1 < nI w := nI_nlt (a := 1) (by omega) (by decide)
theorem oa_wn {w : Nat} (hw : w < 2) : ¬ nI w < 0 := nI_pos (by omega)
section
variable {x_varCount x_regCount x_phase x_statementCount x_accessCount x_nextAddress x_accumulator : Int32} {x_register x_init x_statements x_accessVar x_follower x_weight x_firstLink x_secondLink x_chain x_address x_opcode x_instrRegister x_operand x_codeLength x_addrLoads x_knownAddress x_memory x_addressRegister x_output x_outputCount : Nat → Int32}
theorem xa_ip1 {w : Nat} (hw : w < 2) (post : Int32 → Prop) (hp : post 1) : wpX_isProgram post (x_varCount, x_regCount, x_phase, x_statementCount, x_accessCount, x_nextAddress, x_accumulator, x_register, x_init, x_statements, x_accessVar, x_follower, x_weight, x_firstLink, x_secondLink, x_chain, x_address, x_opcode, x_instrRegister, x_operand, x_codeLength, x_addrLoads, x_knownAddress, x_memory, x_addressRegister, x_output, x_outputCount) (nI w) := by
  have c : w = 0 ∨ w = 1 := by omega
  rcases c with rfl | rfl
  · exact br_t rfl hp
  · exact br_f (by decide) (br_t rfl hp)
theorem xa_ip0 {p : Int32} (h0 : ¬ p = 0) (h1 : ¬ p = 1) (post : Int32 → Prop) (hp : post 0) : wpX_isProgram post (x_varCount, x_regCount, x_phase, x_statementCount, x_accessCount, x_nextAddress, x_accumulator, x_register, x_init, x_statements, x_accessVar, x_follower, x_weight, x_firstLink, x_secondLink, x_chain, x_address, x_opcode, x_instrRegister, x_operand, x_codeLength, x_addrLoads, x_knownAddress, x_memory, x_addressRegister, x_output, x_outputCount) p := br_f h0 (br_f h1 hp)
end
def oa_ok (V o : Nat) (d a b : Int32) : Prop := (o ≤ 5 → oa_in V d ∧ oa_in V a ∧ oa_in V b) ∧ (o = 6 → oa_in V d ∧ oa_in V a) ∧ (o = 7 → oa_in V d) ∧ (o = 8 → oa_in V a)
theorem oa_8 {o : Nat} (h : o ≤ 8) : o ≤ 5 ∨ o = 6 ∨ o = 7 ∨ o = 8 := by omega
section
variable {x_varCount x_regCount x_phase x_statementCount x_accessCount x_nextAddress x_accumulator : Int32} {x_register x_init x_statements x_accessVar x_follower x_weight x_firstLink x_secondLink x_chain x_address x_opcode x_instrRegister x_operand x_codeLength x_addrLoads x_knownAddress x_memory x_addressRegister x_output x_outputCount : Nat → Int32}
theorem xa_uo {V o : Nat} {d a b : Int32} (h8 : o ≤ 8) (post : Int32 → Prop) (h1 : oa_ok V o d a b → post 1) (h0 : ¬ oa_ok V o d a b → post 0) : wpX_usesOnlyVariables post (nI V, x_regCount, x_phase, x_statementCount, x_accessCount, x_nextAddress, x_accumulator, x_register, x_init, x_statements, x_accessVar, x_follower, x_weight, x_firstLink, x_secondLink, x_chain, x_address, x_opcode, x_instrRegister, x_operand, x_codeLength, x_addrLoads, x_knownAddress, x_memory, x_addressRegister, x_output, x_outputCount) (nI o) d a b := by
  unfold wpX_usesOnlyVariables
  dsimp only
  rcases oa_8 h8 with h | rfl | rfl | rfl
  · refine br_t (nI_lt (b := 6) (by omega) (by decide)) (xa_iv _ (fun c1 => br_f (by decide) (xa_iv _ (fun c2 => br_f (by decide) (xa_iv _ (fun c3 => br_f (by decide) (h1 ?_)) (fun c3 => br_t rfl (h0 ?_)))) (fun c2 => br_t rfl (h0 ?_)))) (fun c1 => br_t rfl (h0 ?_)))
    · exact ⟨fun _ => ⟨c1, c2, c3⟩, fun z => by omega, fun z => by omega, fun z => by omega⟩
    · exact fun z => c3 (z.1 h).2.2
    · exact fun z => c2 (z.1 h).2.1
    · exact fun z => c1 (z.1 h).1
  · refine br_f (by decide) (br_f (by decide) (br_t rfl (xa_iv _ (fun c1 => br_f (by decide) (xa_iv _ (fun c2 => br_f (by decide) (h1 ?_)) (fun c2 => br_t rfl (h0 ?_)))) (fun c1 => br_t rfl (h0 ?_)))))
    · exact ⟨fun z => by omega, fun _ => ⟨c1, c2⟩, fun z => by omega, fun z => by omega⟩
    · exact fun z => c2 (z.2.1 rfl).2
    · exact fun z => c1 (z.2.1 rfl).1
  · refine br_f (by decide) (br_f (by decide) (br_f (by decide) (br_t rfl (xa_iv _ (fun c1 => ⟨rfl, h1 ?_⟩) (fun c1 => ⟨rfl, h0 ?_⟩)))))
    · exact ⟨fun z => by omega, fun z => by omega, fun _ => c1, fun z => by omega⟩
    · exact fun z => c1 (z.2.2.1 rfl)
  · refine br_f (by decide) (br_f (by decide) (br_f (by decide) (br_f (by decide) (br_t rfl (xa_iv _ (fun c1 => ⟨rfl, h1 ?_⟩) (fun c1 => ⟨rfl, h0 ?_⟩))))))
    · exact ⟨fun z => by omega, fun z => by omega, fun z => by omega, fun _ => c1⟩
    · exact fun z => c1 (z.2.2.2 rfl)
theorem xa_st {c : Nat} {o d a b : Int32} (hc : c < 32) (post : St2 → Prop) (hp : post (x_varCount, x_regCount, x_phase, x_statementCount, x_accessCount, x_nextAddress, x_accumulator, x_register, x_init, (upd (upd (upd (upd x_statements (c * 4) o) (c * 4 + 1) d) (c * 4 + 2) a) (c * 4 + 3) b), x_accessVar, x_follower, x_weight, x_firstLink, x_secondLink, x_chain, x_address, x_opcode, x_instrRegister, x_operand, x_codeLength, x_addrLoads, x_knownAddress, x_memory, x_addressRegister, x_output, x_outputCount)) : wpX_storeStatement post (x_varCount, x_regCount, x_phase, x_statementCount, x_accessCount, x_nextAddress, x_accumulator, x_register, x_init, x_statements, x_accessVar, x_follower, x_weight, x_firstLink, x_secondLink, x_chain, x_address, x_opcode, x_instrRegister, x_operand, x_codeLength, x_addrLoads, x_knownAddress, x_memory, x_addressRegister, x_output, x_outputCount) (nI c) o d a b := by
  have e0 : nI (c * 4) + 0 = nI (c * 4) := Int32.add_zero _
  have e1 : nI (c * 4) + 1 = nI (c * 4 + 1) := nI_1 _
  have e2 : nI (c * 4) + 2 = nI (c * 4 + 2) := nI_add (c * 4) 2
  have e3 : nI (c * 4) + 3 = nI (c * 4 + 3) := nI_add (c * 4) 3
  refine nm_r (show _ = nI (c * 4) by rw [show (4 : Int32) = nI 4 from rfl, pk_mul]) ?_
  rw [e0, e1, e2, e3, nI_clamp (show c * 4 < 2 ^ 31 by omega), nI_clamp (show c * 4 + 1 < 2 ^ 31 by omega), nI_clamp (show c * 4 + 2 < 2 ^ 31 by omega), nI_clamp (show c * 4 + 3 < 2 ^ 31 by omega)]
  exact ⟨vp_in_nI (by omega) (by omega), nm_e ⟨vp_in_nI (by omega) (by omega), nm_e ⟨vp_in_nI (by omega) (by omega), nm_e ⟨vp_in_nI (by omega) (by omega), nm_e hp⟩⟩⟩⟩
theorem xa_a1 {n : Nat} {x : Int32} (hn : n < 96) (post : St2 → Prop) (hp : post (x_varCount, x_regCount, x_phase, x_statementCount, (nI (n + 1)), x_nextAddress, x_accumulator, x_register, x_init, x_statements, upd x_accessVar n x, x_follower, x_weight, x_firstLink, x_secondLink, x_chain, x_address, x_opcode, x_instrRegister, x_operand, x_codeLength, x_addrLoads, x_knownAddress, x_memory, x_addressRegister, x_output, x_outputCount)) : wpX_appendAccess post (x_varCount, x_regCount, x_phase, x_statementCount, nI n, x_nextAddress, x_accumulator, x_register, x_init, x_statements, x_accessVar, x_follower, x_weight, x_firstLink, x_secondLink, x_chain, x_address, x_opcode, x_instrRegister, x_operand, x_codeLength, x_addrLoads, x_knownAddress, x_memory, x_addressRegister, x_output, x_outputCount) x :=
  ⟨vp_in_nI hn (by omega), nm_r (show _ = upd x_accessVar n x by rw [nI_clamp (by omega)]) (nm_r (nI_1 n) hp)⟩
theorem oa_vin {V : Nat} {x : Int32} (hV : V ≤ 16) (h : oa_in V x) : oa_vr V x := oa_in_c hV h
theorem xa_as {V o n : Nat} {d a b : Int32} (hV : V ≤ 16) (h8 : o ≤ 8) (hn : n + 3 ≤ 96) (ok : oa_ok V o d a b) (post : St2 → Prop)
    (hp : ∀ P, (∀ j, j < n → P j = x_accessVar j) → oa_ST V (nI o) d a b P n → post (x_varCount, x_regCount, x_phase, x_statementCount, (nI (n + oa_na (nI o))), x_nextAddress, x_accumulator, x_register, x_init, x_statements, P, x_follower, x_weight, x_firstLink, x_secondLink, x_chain, x_address, x_opcode, x_instrRegister, x_operand, x_codeLength, x_addrLoads, x_knownAddress, x_memory, x_addressRegister, x_output, x_outputCount)) : wpX_appendAccesses post (x_varCount, x_regCount, x_phase, x_statementCount, nI n, x_nextAddress, x_accumulator, x_register, x_init, x_statements, x_accessVar, x_follower, x_weight, x_firstLink, x_secondLink, x_chain, x_address, x_opcode, x_instrRegister, x_operand, x_codeLength, x_addrLoads, x_knownAddress, x_memory, x_addressRegister, x_output, x_outputCount) (nI o) d a b := by
  unfold wpX_appendAccesses
  dsimp only
  obtain ⟨k5, k6, k7, k8⟩ := ok
  rcases oa_8 h8 with h | rfl | rfl | rfl
  · obtain ⟨c1, c2, c3⟩ := k5 h
    have n7 : ¬ nI o = 7 := fun z => by have := oa_inj (b := 7) (by omega) (by omega) z; omega
    have n8 : ¬ nI o = 8 := fun z => by have := oa_inj (b := 8) (by omega) (by omega) z; omega
    rw [oa_na5 h] at hp
    refine br_f n7 (xa_a1 (by omega) _ ?_)
    refine br_f (nI_nlt (a := 5) h (by decide)) (xa_a1 (by omega) _ ?_)
    refine br_f n8 (xa_a1 (by omega) _ (hp (upd (upd (upd x_accessVar n a) (n + 1) b) (n + 2) d) ?_ ?_))
    · intro j hj
      rw [pk_un (by omega), pk_un (by omega), pk_un (by omega)]
    · refine Or.inl ⟨o, h, rfl, oa_vin hV c1, oa_vin hV c2, oa_vin hV c3, ?_, ?_, ?_⟩
      · rw [pk_un (by omega), pk_un (by omega), pk_us]
      · rw [pk_un (by omega), pk_us]
      · exact pk_us
  · obtain ⟨c1, c2⟩ := k6 rfl
    refine br_f (by decide) (xa_a1 (by omega) _ ?_)
    refine br_t (by decide) ?_
    refine br_f (by decide) (xa_a1 (by omega) _ (hp (upd (upd x_accessVar n a) (n + 1) d) ?_ ?_))
    · intro j hj
      rw [pk_un (by omega), pk_un (by omega)]
    · refine Or.inr (Or.inl ⟨rfl, oa_vin hV c1, oa_vin hV c2, ?_, ?_⟩)
      · rw [pk_un (by omega), pk_us]
      · exact pk_us
  · have c1 := k7 rfl
    refine br_t rfl ?_
    refine br_t (by decide) ?_
    refine br_f (by decide) (xa_a1 (by omega) _ (hp (upd x_accessVar n d) ?_ ?_))
    · intro j hj
      rw [pk_un (by omega)]
    · exact Or.inr (Or.inr (Or.inl ⟨rfl, oa_vin hV c1, pk_us⟩))
  · have c1 := k8 rfl
    refine br_f (by decide) (xa_a1 (by omega) _ ?_)
    refine br_t (by decide) ?_
    refine br_t rfl (hp (upd x_accessVar n a) ?_ ?_)
    · intro j hj
      rw [pk_un (by omega)]
    · exact Or.inr (Or.inr (Or.inr ⟨rfl, oa_vin hV c1, pk_us⟩))
end
def oa_kz (k : oa_K) : oa_K := (k.1, k.2.1, k.2.2.1, k.2.2.2.1, k.2.2.2.2.1, k.2.2.2.2.2.1, k.2.2.2.2.2.2.1, oa_fill k.2.2.2.2.2.2.2 (fun _ => 0) 4)
theorem oa_kz_0 {nR : Nat} (hR : nR ≤ 4) (k : oa_K) : ∀ r, r < nR → (oa_kz k).2.2.2.2.2.2.2 r = 0 := fun r hr => (oa_fill_lt (by omega) : oa_fill k.2.2.2.2.2.2.2 (fun _ => 0) 4 r = 0)
section
variable {x_varCount x_regCount x_phase x_statementCount x_accessCount x_nextAddress x_accumulator : Int32} {x_register x_init x_statements x_accessVar x_follower x_weight x_firstLink x_secondLink x_chain x_address x_opcode x_instrRegister x_operand x_codeLength x_addrLoads x_knownAddress x_memory x_addressRegister x_output x_outputCount : Nat → Int32}
theorem xa_compile {V nR cnt : Nat} {sop sd sa sb e g p ay pl : Nat → Int32} {Q : oa_Q} {B : oa_B} {k K1 K2 : oa_K} (hV : V ≤ 16) (hR : 0 < nR) (hR4 : nR ≤ 4) (hc : cnt ≤ 32) (ss : oa_SS V cnt sop sd sa sb x_accessVar) (sr : oa_SR x_statements sop sd sa sb)
    (hQ : Q = oa_jw (oa_wA (oa_fill x_weight (fun _ => 0) 256) x_register x_accessVar (oa_ps sop cnt) (oa_ps sop cnt)) V 95 (oa_fill x_firstLink (fun _ => -1) V, oa_fill x_secondLink (fun _ => -1) V, oa_fill x_chain nI V, e, g, p))
    (hl : oa_LR V Q.1 Q.2.1) (hB : oa_aw x_register Q.1 Q.2.1 Q.2.2.1 V nR 0 (oa_fill x_address (fun _ => -1) V, ay, pl, 0) = B) (env : oa_env V nR (oa_ps sop cnt) x_register x_accessVar B.1)
    (hK1 : oa_tb x_register x_accessVar B.1 sop sa (oa_ps sop cnt) 0 cnt (oa_k0 nR 0 k (oa_kz k)) = K1) (hK2 : oa_tb x_register x_accessVar B.1 sop sa (oa_ps sop cnt) 1 cnt (oa_k0 nR 1 K1 (oa_kz K1)) = K2) (post : Int32 → St2 → Prop)
    (hp : post (K2.2.2.2.2.1 1) (nI V, nI nR, 1, nI cnt, (nI (oa_ps sop cnt)), nI B.2.2.2, x_accumulator, x_register, x_init, x_statements, x_accessVar, (oa_fill x_follower (oa_fv x_register x_accessVar (oa_ps sop cnt)) (oa_ps sop cnt)), (oa_wA (oa_fill x_weight (fun _ => 0) 256) x_register x_accessVar (oa_ps sop cnt) (oa_ps sop cnt)), Q.1, Q.2.1, Q.2.2.1, B.1, K2.1, K2.2.1, K2.2.2.1, K2.2.2.2.1, K2.2.2.2.2.1, K2.2.2.2.2.2.1, x_memory, x_addressRegister, x_output, x_outputCount)) :
    wpX_compile post (nI V, nI nR, x_phase, nI cnt, (nI (oa_ps sop cnt)), x_nextAddress, x_accumulator, x_register, x_init, x_statements, x_accessVar, x_follower, x_weight, x_firstLink, x_secondLink, x_chain, x_address, k.1, k.2.1, k.2.2.1, k.2.2.2.1, k.2.2.2.2.1, k.2.2.2.2.2.1, x_memory, x_addressRegister, x_output, x_outputCount) := by
  have hn : oa_ps sop cnt ≤ 96 := by have := oa_ps_le sop cnt; omega
  have ha : ∀ i, i < oa_ps sop cnt → ∃ k, k < 16 ∧ x_accessVar i = nI k := by
    intro i hi
    obtain ⟨k, hk, ek⟩ := oa_SS_vr cnt ss i hi
    exact ⟨k, by omega, ek⟩
  have hF : ∀ j, j < oa_ps sop cnt → oa_fill x_follower (oa_fv x_register x_accessVar (oa_ps sop cnt)) (oa_ps sop cnt) j = oa_fv x_register x_accessVar (oa_ps sop cnt) j := fun j hj => oa_fill_lt hj
  unfold wpX_compile
  refine xa_ff hn ha _ ?_
  refine xa_cw hn ha hF _ ?_
  refine xa_jc hV e g p _ Q hQ ?_
  refine xa_aa hV hR4 hl ay pl _ B hB ?_
  refine xa_tb (w := 0) (k := k) (kk' := oa_kz k) (by omega) hR hR4 hc ss sr env hF (oa_kz_0 hR4 k) _ hK1 ?_
  refine xa_tb (w := 1) (k := K1) (kk' := oa_kz K1) (by omega) hR hR4 hc ss sr env hF (oa_kz_0 hR4 K1) _ hK2 ?_
  exact hp
end
theorem oa_q0_I {V : Nat} {fl sl ch ed dg cp : Nat → Int32} (hV : V ≤ 16) : oa_QI V (oa_fill fl (fun _ => -1) V, oa_fill sl (fun _ => -1) V, oa_fill ch nI V, oa_fill ed (fun _ => 0) 256, oa_fill dg (fun _ => 0) 16, oa_fill cp nI 16) := by
  refine ⟨oa_G0 hV (fun x hx => show oa_fill fl (fun _ => -1) V x = -1 from oa_fill_lt hx) (fun x hx => show oa_fill sl (fun _ => -1) V x = -1 from oa_fill_lt hx) (fun x hx => show oa_fill ch nI V x = nI x from oa_fill_lt hx), fun x hx => Or.inl ⟨show oa_fill fl (fun _ => -1) V x = -1 from oa_fill_lt hx, show oa_fill dg (fun _ => 0) 16 x = 0 from oa_fill_lt (by omega)⟩, fun x y hx hy => ⟨fun h => absurd (show oa_fill ed (fun _ => 0) 256 (x * 16 + y) = 0 from oa_fill_lt (by omega)) h, fun h => ?_⟩, fun x hx => ?_⟩
  · rcases h with h | h
    · have h' : oa_fill fl (fun _ => -1) V x = nI y := h
      rw [oa_fill_lt hx] at h'; exact absurd h'.symm (oa_ne (by omega))
    · have h' : oa_fill sl (fun _ => -1) V x = nI y := h
      rw [oa_fill_lt hx] at h'; exact absurd h'.symm (oa_ne (by omega))
  · show oa_fill cp nI 16 x = oa_fill ch nI V x
    rw [oa_fill_lt (by omega), oa_fill_lt hx]
theorem oa_b0_I {V : Nat} {f s ad ay pl : Nat → Int32} (hV : V ≤ 16) : oa_BI V f s (oa_fill ad (fun _ => -1) V, ay, oa_fill pl (fun _ => 0) 16, 0) := by
  have z : ∀ x, x < V → oa_fill pl (fun _ => 0) 16 x = 0 := fun x hx => oa_fill_lt (by omega)
  exact ⟨⟨(oa_cn_0 V z).symm, fun x hx _ => (oa_fill_lt hx : oa_fill ad (fun _ => -1) V x = -1), fun x hx h => absurd (z x hx) h, fun a ha => absurd ha (Nat.not_lt_zero a), fun x y hx _ h => absurd (z x hx) h⟩, fun x y hx _ h => absurd (z x hx) h⟩
end
section
/-! a machine that knows variables alone: their values, the accumulator, the outputs, their number; each program is that machine, seen through its cells -/
abbrev oa_S : Type := (Nat → Int32) × Int32 × (Nat → Int32) × Nat
def oa_sa (o : Int32) (v : Nat) (s : oa_S) : oa_S := if o = 8 then (upd s.1 v s.2.1, s.2) else (s.1, oa_cb o s.2.1 (s.1 v), s.2.2)
def oa_so (s : oa_S) : oa_S := (s.1, s.2.1, upd s.2.2.1 s.2.2.2 s.2.1, s.2.2.2 + 1)
def oa_sc (x : Int32) (s : oa_S) : oa_S := (s.1, x, s.2.2)
def oa_sv (acc : Nat → Int32) (o : Int32) (j : Nat) (s : oa_S) : oa_S := oa_sa o (acc j).toNatClampNeg s
def oa_s1 (acc : Nat → Int32) (o a : Int32) (p : Nat) (s : oa_S) : oa_S :=
  if o ≤ 5 then oa_sv acc 8 (p + 2) (oa_sv acc (2 + o) (p + 1) (oa_sv acc 1 p s))
  else if o = 6 then oa_sv acc 8 (p + 1) (oa_sv acc 1 p s)
  else if o = 7 then oa_sv acc 8 p (oa_sc a s)
  else oa_so (oa_sv acc 1 p s)
def oa_sn (acc sop sa : Nat → Int32) : Nat → oa_S → oa_S
  | 0, s => s
  | i + 1, s => oa_s1 acc (sop i) (sa i) (oa_ps sop i) (oa_sn acc sop sa i s)
theorem oa_sv_n (acc : Nat → Int32) (o : Int32) (j : Nat) (s : oa_S) : (oa_sv acc o j s).2.2.2 = s.2.2.2 := by
  unfold oa_sv oa_sa
  split <;> rfl
theorem oa_s1_5 {acc : Nat → Int32} {z p : Nat} {a : Int32} {s : oa_S} (h : z ≤ 5) : oa_s1 acc (nI z) a p s = oa_sv acc (nI 8) (p + 2) (oa_sv acc (nI (2 + z)) (p + 1) (oa_sv acc (nI 1) p s)) := by
  unfold oa_s1
  rw [if_pos (show nI z ≤ 5 from nI_le (b := 5) h (by decide)), ← nI_add 2 z]
  rfl
theorem oa_s1_6 {acc : Nat → Int32} {p : Nat} {a : Int32} {s : oa_S} : oa_s1 acc 6 a p s = oa_sv acc (nI 8) (p + 1) (oa_sv acc (nI 1) p s) := by
  unfold oa_s1
  rw [if_neg (by decide), if_pos rfl]
  rfl
theorem oa_s1_7 {acc : Nat → Int32} {p : Nat} {a : Int32} {s : oa_S} : oa_s1 acc 7 a p s = oa_sv acc (nI 8) p (oa_sc a s) := by
  unfold oa_s1
  rw [if_neg (by decide), if_neg (by decide), if_pos rfl]
  rfl
theorem oa_s1_8 {acc : Nat → Int32} {p : Nat} {a : Int32} {s : oa_S} : oa_s1 acc 8 a p s = oa_so (oa_sv acc (nI 1) p s) := by
  unfold oa_s1
  rw [if_neg (by decide), if_neg (by decide), if_neg (by decide)]
  rfl
theorem oa_tt_5 {reg acc ad : Nat → Int32} {n w z p : Nat} {a : Int32} {k : oa_K} (h : z ≤ 5) : oa_tt reg acc ad n w (nI z) a p k = oa_ac reg acc ad n w (nI 8) (p + 2) (oa_ac reg acc ad n w (nI (2 + z)) (p + 1) (oa_ac reg acc ad n w (nI 1) p k)) := by
  unfold oa_tt
  rw [if_pos (show nI z ≤ 5 from nI_le (b := 5) h (by decide)), ← nI_add 2 z]
  rfl
theorem oa_tt_6 {reg acc ad : Nat → Int32} {n w p : Nat} {a : Int32} {k : oa_K} : oa_tt reg acc ad n w 6 a p k = oa_ac reg acc ad n w (nI 8) (p + 1) (oa_ac reg acc ad n w (nI 1) p k) := by
  unfold oa_tt
  rw [if_neg (by decide), if_pos rfl]
  rfl
theorem oa_tt_7 {reg acc ad : Nat → Int32} {n w p : Nat} {a : Int32} {k : oa_K} : oa_tt reg acc ad n w 7 a p k = oa_ac reg acc ad n w (nI 8) p (oa_em w (nI 9) (nI 0) a k) := by
  unfold oa_tt
  rw [if_neg (by decide), if_neg (by decide), if_pos rfl]
  rfl
theorem oa_tt_8 {reg acc ad : Nat → Int32} {n w p : Nat} {a : Int32} {k : oa_K} : oa_tt reg acc ad n w 8 a p k = oa_em w (nI 10) (nI 0) 0 (oa_ac reg acc ad n w (nI 1) p k) := by
  unfold oa_tt
  rw [if_neg (by decide), if_neg (by decide), if_neg (by decide)]
  rfl
theorem oa_em_kn {w : Nat} {o r x : Int32} {k : oa_K} : (oa_em w o r x k).2.2.2.2.2.1 = k.2.2.2.2.2.1 := rfl
theorem oa_s1_n {V p : Nat} {acc : Nat → Int32} {o d a b : Int32} {s : oa_S} (st : oa_ST V o d a b acc p) : (oa_s1 acc o a p s).2.2.2 ≤ s.2.2.2 + 1 := by
  rcases st with ⟨z, hz, rfl, -⟩ | ⟨rfl, -⟩ | ⟨rfl, -⟩ | ⟨rfl, -⟩
  · rw [oa_s1_5 hz, oa_sv_n, oa_sv_n, oa_sv_n]; omega
  · rw [oa_s1_6, oa_sv_n, oa_sv_n]; omega
  · rw [oa_s1_7, oa_sv_n]
    show s.2.2.2 ≤ s.2.2.2 + 1
    omega
  · rw [oa_s1_8]
    show (oa_sv acc (nI 1) p s).2.2.2 + 1 ≤ s.2.2.2 + 1
    rw [oa_sv_n]
    omega
/-- program w at m stands where s stands; kn: what is known of the address registers -/
def oa_RP (V nR w : Nat) (cell : Nat → Nat) (kn : Nat → Int32) (m : oa_M) (s : oa_S) : Prop :=
  (∀ v, v < V → m.1 (16 * w + cell v) = s.1 v) ∧ m.2.2.1 = s.2.1 ∧ m.2.2.2.2.1 w = nI s.2.2.2 ∧ (∀ j, j < s.2.2.2 → m.2.2.2.1 (32 * w + j) = s.2.2.1 j) ∧ (∀ r, r < nR → kn r ≠ -1 → m.2.1 r = kn r)
theorem oa_RP_l {V nR w r : Nat} {cell : Nat → Nat} {kn : Nat → Int32} {p : Int32} {m : oa_M} {s : oa_S} (hr : r < 2 ^ 31) (h : oa_RP V nR w cell kn m s) : oa_RP V nR w cell (upd kn r p) (oa_x1 V w 0 (nI r) p m) s := by
  obtain ⟨h1, h2, h3, h4, h5⟩ := h
  unfold oa_x1
  rw [if_pos (show (0 : Int32) = 0 from rfl), nI_clamp hr]
  refine ⟨h1, h2, h3, h4, fun r' hr' hn => ?_⟩
  show upd m.2.1 r p r' = upd kn r p r'
  by_cases e : r' = r
  · rw [e, pk_us, pk_us]
  · rw [pk_un e] at hn
    rw [pk_un e, pk_un e]
    exact h5 r' hr' hn
theorem oa_RP_x {V nR w v r : Nat} {cell : Nat → Nat} {kn : Nat → Int32} {o x : Int32} {m : oa_M} {s : oa_S} (hV : V ≤ 16) (hv : v < V) (hc : cell v < V) (hi : ∀ y, y < V → cell y = cell v → y = v) (n0 : ¬ o = 0) (n9 : ¬ o = 9) (n10 : ¬ o = 10)
    (ha : m.2.1 r = nI (cell v)) (hr : r < 2 ^ 31) (h : oa_RP V nR w cell kn m s) : oa_RP V nR w cell (upd kn r (nI (cell v) + x)) (oa_x1 V w o (nI r) x m) (oa_sa o v s) := by
  obtain ⟨h1, h2, h3, h4, h5⟩ := h
  have ci : oa_in V (m.2.1 r) := by
    rw [ha]
    exact ⟨nI_pos' (by omega), nI_lt hc (by omega)⟩
  have cc : (m.2.1 r).toNatClampNeg = cell v := by
    rw [ha]
    exact nI_clamp (by omega)
  have hk : ∀ r', r' < nR → upd kn r (nI (cell v) + x) r' ≠ -1 → upd m.2.1 r (m.2.1 r + x) r' = upd kn r (nI (cell v) + x) r' := by
    intro r' hr' hn
    by_cases e : r' = r
    · rw [e, pk_us, pk_us, ha]
    · rw [pk_un e] at hn
      rw [pk_un e, pk_un e]
      exact h5 r' hr' hn
  unfold oa_x1
  rw [if_neg n0, if_neg n9, if_neg n10, nI_clamp hr]
  unfold oa_sa
  by_cases c8 : o = 8
  · rw [if_pos c8, if_pos c8, if_pos ci, if_pos ci, cc]
    refine ⟨fun y hy => ?_, h2, h3, h4, hk⟩
    show upd m.1 (16 * w + cell v) m.2.2.1 (16 * w + cell y) = upd s.1 v s.2.1 y
    by_cases e : y = v
    · rw [e, pk_us, pk_us, h2]
    · rw [pk_un (show 16 * w + cell y ≠ 16 * w + cell v from fun z => e (hi y hy (by omega))), pk_un e]
      exact h1 y hy
  · rw [if_neg c8, if_neg c8, if_pos ci, cc]
    refine ⟨h1, ?_, h3, h4, hk⟩
    show oa_cb o m.2.2.1 (m.1 (16 * w + cell v)) = oa_cb o s.2.1 (s.1 v)
    rw [h1 v hv, h2]
theorem oa_RP_9 {V nR w : Nat} {cell : Nat → Nat} {kn : Nat → Int32} {r a : Int32} {m : oa_M} {s : oa_S} (h : oa_RP V nR w cell kn m s) : oa_RP V nR w cell kn (oa_x1 V w (nI 9) r a m) (oa_sc a s) := by
  rw [show nI 9 = 9 from rfl]
  obtain ⟨h1, h2, h3, h4, h5⟩ := h
  unfold oa_x1
  rw [if_neg (show ¬ (9 : Int32) = 0 by decide), if_pos (show (9 : Int32) = 9 from rfl)]
  exact ⟨h1, rfl, h3, h4, h5⟩
theorem oa_RP_10 {V nR w : Nat} {cell : Nat → Nat} {kn : Nat → Int32} {r x : Int32} {m : oa_M} {s : oa_S} (hq : s.2.2.2 < 2 ^ 31) (h : oa_RP V nR w cell kn m s) : oa_RP V nR w cell kn (oa_x1 V w (nI 10) r x m) (oa_so s) := by
  rw [show nI 10 = 10 from rfl]
  obtain ⟨h1, h2, h3, h4, h5⟩ := h
  have cq : (m.2.2.2.2.1 w).toNatClampNeg = s.2.2.2 := by
    rw [h3]
    exact nI_clamp hq
  unfold oa_x1
  rw [if_neg (show ¬ (10 : Int32) = 0 by decide), if_neg (show ¬ (10 : Int32) = 9 by decide), if_pos (show (10 : Int32) = 10 from rfl), cq]
  refine ⟨h1, h2, ?_, fun j hj => ?_, h5⟩
  · show upd m.2.2.2.2.1 w (m.2.2.2.2.1 w + 1) w = nI (s.2.2.2 + 1)
    rw [pk_us, h3, nI_1]
  · show upd m.2.2.2.1 (32 * w + s.2.2.2) m.2.2.1 (32 * w + j) = upd s.2.2.1 s.2.2.2 s.2.1 j
    have hj' : j < s.2.2.2 + 1 := hj
    by_cases e : j = s.2.2.2
    · rw [e, pk_us, pk_us, h2]
    · rw [pk_un (show 32 * w + j ≠ 32 * w + s.2.2.2 by omega), pk_un e]
      exact h4 j (by omega)
/-! the machine while the code is made -/
theorem oa_xs_cg {V w : Nat} {op op' rg rg' od od' : Nat → Int32} {m : oa_M} : ∀ n, (∀ i, i < n → op' (192 * w + i) = op (192 * w + i) ∧ rg' (192 * w + i) = rg (192 * w + i) ∧ od' (192 * w + i) = od (192 * w + i)) →
    oa_xs V w op' rg' od' n m = oa_xs V w op rg od n m := by
  intro n
  induction n with
  | zero => intro _; rfl
  | succ n ih =>
    intro h
    obtain ⟨h1, h2, h3⟩ := h n (by omega)
    rw [oa_xs, oa_xs, ih (fun i hi => h i (by omega)), h1, h2, h3]
/-- program w as it stands in k, run from m -/
def oa_E (V w : Nat) (m : oa_M) (k : oa_K) : oa_M := oa_xs V w k.1 k.2.1 k.2.2.1 (k.2.2.2.1 w).toNatClampNeg m
theorem oa_E_em {V w L : Nat} {o r x : Int32} {k : oa_K} {m : oa_M} (hL : k.2.2.2.1 w = nI L) (hL2 : L < 192) : oa_E V w m (oa_em w o r x k) = oa_x1 V w o r x (oa_E V w m k) := by
  have eL : (k.2.2.2.1 w).toNatClampNeg = L := by
    rw [hL]
    exact nI_clamp (by omega)
  have eN : (upd k.2.2.2.1 w (k.2.2.2.1 w + 1) w).toNatClampNeg = L + 1 := by
    rw [pk_us, hL, nI_1]
    exact nI_clamp (by omega)
  have cg := oa_xs_cg (V := V) (w := w) (m := m) (op := k.1) (op' := upd k.1 (192 * w + L) o) (rg := k.2.1) (rg' := upd k.2.1 (192 * w + L) r) (od := k.2.2.1) (od' := upd k.2.2.1 (192 * w + L) x) L (fun i hi => ⟨pk_un (by omega), pk_un (by omega), pk_un (by omega)⟩)
  show oa_xs V w (upd k.1 (192 * w + (k.2.2.2.1 w).toNatClampNeg) o) (upd k.2.1 (192 * w + (k.2.2.2.1 w).toNatClampNeg) r) (upd k.2.2.1 (192 * w + (k.2.2.2.1 w).toNatClampNeg) x) (upd k.2.2.2.1 w (k.2.2.2.1 w + 1) w).toNatClampNeg m = oa_x1 V w o r x (oa_xs V w k.1 k.2.1 k.2.2.1 (k.2.2.2.1 w).toNatClampNeg m)
  rw [eN, eL, oa_xs, pk_us, pk_us, pk_us, cg]
theorem oa_E_mk {V w w' R : Nat} {k : oa_K} {m : oa_M} : oa_E V w m (oa_mk w' R k) = oa_E V w m k := rfl
theorem oa_E_st {V w w' R : Nat} {x : Int32} {k : oa_K} {m : oa_M} : oa_E V w m (oa_st w' R x k) = oa_E V w m k := rfl
section
variable {V nR w n : Nat} {reg acc ad : Nat → Int32} {cell : Nat → Nat} {k0 : oa_K} {m : oa_M}
theorem oa_RP_ac {L q j o : Nat} {k : oa_K} {s : oa_S} (e : oa_env V nR n reg acc ad) (hj : j < n) (h : oa_KI nR w L q k0 k) (hL : L + 2 ≤ 192) (ho : 0 < o) (ho2 : o < 9)
    (hc : ∀ v, v < V → cell v < V ∧ (if w = 0 then nI v else ad v) = nI (cell v)) (hi : ∀ x y, x < V → y < V → cell x = cell y → x = y)
    (hp : oa_RP V nR w cell k.2.2.2.2.2.1 (oa_E V w m k) s) : oa_RP V nR w cell (oa_ac reg acc ad n w (nI o) j k).2.2.2.2.2.1 (oa_E V w m (oa_ac reg acc ad n w (nI o) j k)) (oa_sv acc (nI o) j s) := by
  obtain ⟨v, r, a, hv, hr, ha, e1, e2, e3, e4, e5, e6⟩ := oa_env_j (w := w) e hj
  have hV := e.1
  have hR := e.2.1
  have cv := hc v hv
  have hr31 : r < 2 ^ 31 := by omega
  have ep : oa_pa acc ad w j = nI (cell v) := by
    unfold oa_pa
    rw [e2, e1]
    exact cv.2
  have n0 : ¬ nI o = 0 := fun z => by have := oa_inj (b := 0) (by omega) (by omega) z; omega
  have n9 : ¬ nI o = 9 := fun z => by have := oa_inj (b := 9) (by omega) (by omega) z; omega
  have n10 : ¬ nI o = 10 := fun z => by have := oa_inj (b := 10) (by omega) (by omega) z; omega
  have nc : nI (cell v) ≠ -1 := oa_ne (by omega)
  obtain ⟨L1, hL1, h1⟩ := oa_ld_C (ad := ad) e3 hr h.1 (by omega)
  have H : oa_RP V nR w cell (upd k.2.2.2.2.2.1 r (nI (cell v))) (oa_E V w m (oa_ld reg acc ad w j k)) s := by
    by_cases c : w = 0 ∨ k.2.2.2.2.2.1 (reg (acc j).toNatClampNeg).toNatClampNeg ≠ oa_pa acc ad w j
    · have el : oa_ld reg acc ad w j k = oa_mk w (reg (acc j).toNatClampNeg).toNatClampNeg (oa_em w 0 (reg (acc j).toNatClampNeg) (oa_pa acc ad w j) k) := if_pos c
      rw [el, oa_E_mk, oa_E_em h.1.1.1 (by omega), e3, ep]
      exact oa_RP_l hr31 hp
    · have el : oa_ld reg acc ad w j k = k := if_neg c
      rw [el]
      rw [e4, ep] at c
      have cp : k.2.2.2.2.2.1 r = nI (cell v) := by
        by_cases z : k.2.2.2.2.2.1 r = nI (cell v)
        · exact z
        · exact absurd (Or.inr z) c
      obtain ⟨a1, a2, a3, a4, a5⟩ := hp
      refine ⟨a1, a2, a3, a4, fun r' hr' hn => ?_⟩
      by_cases e' : r' = r
      · rw [e', pk_us, ← cp]
        exact a5 r hr (by rw [cp]; exact nc)
      · rw [pk_un e'] at hn ⊢
        exact a5 r' hr' hn
  have ax : (oa_E V w m (oa_ld reg acc ad w j k)).2.1 r = nI (cell v) := by
    have := H.2.2.2.2 r hr (by rw [pk_us]; exact nc)
    rw [pk_us] at this
    exact this
  have eE : oa_E V w m (oa_ac reg acc ad n w (nI o) j k) = oa_x1 V w (nI o) (nI r) (oa_ms reg acc ad n w j) (oa_E V w m (oa_ld reg acc ad w j k)) := by
    unfold oa_ac
    rw [oa_E_st, oa_E_em h1.1.1 (by omega), e3]
  have ek : (oa_ac reg acc ad n w (nI o) j k).2.2.2.2.2.1 = upd k.2.2.2.2.2.1 r (nI (cell v) + oa_ms reg acc ad n w j) := by
    have l2 := (oa_ld_kn reg acc ad w j k).1
    rw [← l2, ← e4, ← ep]
    rfl
  rw [ek, eE]
  have X := oa_RP_x (o := nI o) (x := oa_ms reg acc ad n w j) hV hv cv.1 (fun y hy z => hi y v hy hv z) n0 n9 n10 ax hr31 H
  rw [oa_uu] at X
  unfold oa_sv
  rw [e2]
  exact X
theorem oa_RP_tt {L q p : Nat} {o d a b : Int32} {k : oa_K} {s : oa_S} (e : oa_env V nR n reg acc ad) (hR : 0 < nR) (st : oa_ST V o d a b acc p) (hp : p + oa_na o ≤ n) (h : oa_KI nR w L q k0 k) (hL : L + 6 ≤ 192)
    (hc : ∀ v, v < V → cell v < V ∧ (if w = 0 then nI v else ad v) = nI (cell v)) (hi : ∀ x y, x < V → y < V → cell x = cell y → x = y) (hq : s.2.2.2 < 2 ^ 31)
    (hs : oa_RP V nR w cell k.2.2.2.2.2.1 (oa_E V w m k) s) : oa_RP V nR w cell (oa_tt reg acc ad n w o a p k).2.2.2.2.2.1 (oa_E V w m (oa_tt reg acc ad n w o a p k)) (oa_s1 acc o a p s) := by
  rcases st with ⟨z, hz, rfl, -⟩ | ⟨rfl, -⟩ | ⟨rfl, -⟩ | ⟨rfl, -⟩
  · rw [oa_na5 hz] at hp
    rw [oa_tt_5 hz, oa_s1_5 hz]
    obtain ⟨L1, l1, h1⟩ := oa_ac_I (o := 1) e (show p < n by omega) h (by omega) (by omega)
    obtain ⟨L2, l2, h2⟩ := oa_ac_I (o := 2 + z) e (show p + 1 < n by omega) h1 (by omega) (by omega)
    have r1 := oa_RP_ac (o := 1) e (show p < n by omega) h (by omega) (by omega) (by omega) hc hi hs
    have r2 := oa_RP_ac (o := 2 + z) e (show p + 1 < n by omega) h1 (by omega) (by omega) (by omega) hc hi r1
    have r3 := oa_RP_ac (o := 8) e (show p + 2 < n by omega) h2 (by omega) (by omega) (by omega) hc hi r2
    exact r3
  · rw [oa_na6] at hp
    rw [oa_tt_6, oa_s1_6]
    obtain ⟨L1, l1, h1⟩ := oa_ac_I (o := 1) e (show p < n by omega) h (by omega) (by omega)
    have r1 := oa_RP_ac (o := 1) e (show p < n by omega) h (by omega) (by omega) (by omega) hc hi hs
    have r2 := oa_RP_ac (o := 8) e (show p + 1 < n by omega) h1 (by omega) (by omega) (by omega) hc hi r1
    exact r2
  · rw [oa_na7] at hp
    rw [oa_tt_7, oa_s1_7]
    have h1 := oa_em_I (x := a) (o := 9) (r := 0) h (by omega) (by omega) hR
    have E1 := oa_E_em (V := V) (m := m) (o := nI 9) (r := nI 0) (x := a) h.1.1.1 (show L < 192 by omega)
    have r1 : oa_RP V nR w cell (oa_em w (nI 9) (nI 0) a k).2.2.2.2.2.1 (oa_E V w m (oa_em w (nI 9) (nI 0) a k)) (oa_sc a s) := by
      rw [E1, oa_em_kn]
      exact oa_RP_9 hs
    have r2 := oa_RP_ac (o := 8) e (show p < n by omega) h1 (by omega) (by omega) (by omega) hc hi r1
    exact r2
  · rw [oa_na8] at hp
    rw [oa_tt_8, oa_s1_8]
    obtain ⟨L1, l1, h1⟩ := oa_ac_I (o := 1) e (show p < n by omega) h (by omega) (by omega)
    have r1 := oa_RP_ac (o := 1) e (show p < n by omega) h (by omega) (by omega) (by omega) hc hi hs
    have E1 := oa_E_em (V := V) (m := m) (o := nI 10) (r := nI 0) (x := 0) h1.1.1.1 (show L1 < 192 by omega)
    rw [E1, oa_em_kn]
    exact oa_RP_10 (by rw [oa_sv_n]; exact hq) r1
theorem oa_RP_tb {cnt : Nat} {sop sd sa sb : Nat → Int32} {k : oa_K} {s : oa_S} (hR : 0 < nR) (hn : cnt ≤ 32) (ss : oa_SS V cnt sop sd sa sb acc) (e : oa_env V nR (oa_ps sop cnt) reg acc ad) (h : oa_KI nR w 0 0 k0 k)
    (hc : ∀ v, v < V → cell v < V ∧ (if w = 0 then nI v else ad v) = nI (cell v)) (hi : ∀ x y, x < V → y < V → cell x = cell y → x = y) (hq : s.2.2.2 = 0)
    (hs : oa_RP V nR w cell k.2.2.2.2.2.1 (oa_E V w m k) s) :
    ∀ i, i ≤ cnt → oa_RP V nR w cell (oa_tb reg acc ad sop sa (oa_ps sop cnt) w i k).2.2.2.2.2.1 (oa_E V w m (oa_tb reg acc ad sop sa (oa_ps sop cnt) w i k)) (oa_sn acc sop sa i s) ∧ (oa_sn acc sop sa i s).2.2.2 ≤ i := by
  intro i
  induction i with
  | zero => intro _; exact ⟨hs, Nat.le_of_eq hq⟩
  | succ i ih =>
    intro hi'
    obtain ⟨r1, r2⟩ := ih (by omega)
    obtain ⟨L, hL, h1⟩ := oa_tb_I hR hn ss e h i (by omega)
    have hp : oa_ps sop i + oa_na (sop i) ≤ oa_ps sop cnt := oa_ps_mono sop cnt (i + 1) hi'
    refine ⟨oa_RP_tt e hR (ss i (by omega)) hp h1 (by omega) hc hi (by omega) r1, ?_⟩
    have := oa_s1_n (s := oa_sn acc sop sa i s) (ss i (by omega))
    rw [oa_sn]
    omega
end
/-- program w of a compiled block: from any start with the values f it comes where the variables' machine comes -/
def oa_CR (V nR w cnt : Nat) (cell : Nat → Nat) (acc sop sa op rg od len : Nat → Int32) : Prop :=
  ∀ (m : oa_M) (f : Nat → Int32), (∀ v, v < V → m.1 (16 * w + cell v) = f v) → m.2.2.1 = 0 → m.2.2.2.2.1 w = 0 →
    ∃ kn, oa_RP V nR w cell kn (oa_xs V w op rg od (len w).toNatClampNeg m) (oa_sn acc sop sa cnt (f, 0, (fun _ => 0), 0))
theorem oa_CR_mk {V nR w cnt : Nat} {cell : Nat → Nat} {reg acc ad sop sd sa sb : Nat → Int32} {k kk' K : oa_K} (hR : 0 < nR) (hn : cnt ≤ 32) (ss : oa_SS V cnt sop sd sa sb acc) (e : oa_env V nR (oa_ps sop cnt) reg acc ad)
    (hc : ∀ v, v < V → cell v < V ∧ (if w = 0 then nI v else ad v) = nI (cell v)) (hi : ∀ x y, x < V → y < V → cell x = cell y → x = y) (hz : ∀ r, r < nR → kk'.2.2.2.2.2.2.2 r = 0)
    (hK : oa_tb reg acc ad sop sa (oa_ps sop cnt) w cnt (oa_k0 nR w k kk') = K) : oa_CR V nR w cnt cell acc sop sa K.1 K.2.1 K.2.2.1 K.2.2.2.1 := by
  intro m f h1 h2 h3
  have e0 : oa_E V w m (oa_k0 nR w k kk') = m := by
    show oa_xs V w k.1 k.2.1 k.2.2.1 (upd k.2.2.2.1 w 0 w).toNatClampNeg m = m
    rw [pk_us, show (0 : Int32).toNatClampNeg = 0 from by decide]
    rfl
  have hs : oa_RP V nR w cell (oa_k0 nR w k kk').2.2.2.2.2.1 (oa_E V w m (oa_k0 nR w k kk')) (f, 0, (fun _ => 0), 0) := by
    rw [e0]
    exact ⟨h1, h2, h3, fun j hj => absurd hj (Nat.not_lt_zero j), fun r hr hn => absurd (oa_fill_lt hr : oa_fill k.2.2.2.2.2.1 (fun _ => -1) nR r = -1) hn⟩
  have t := (oa_RP_tb (m := m) (s := (f, 0, (fun _ => 0), 0)) hR hn ss e (oa_k0_I (w := w) (k := k) hz) hc hi rfl hs cnt (Nat.le_refl cnt)).1
  rw [hK] at t
  exact ⟨_, t⟩
theorem oa_CR_fr {V nR w cnt L : Nat} {cell : Nat → Nat} {acc sop sa : Nat → Int32} {k0 k : oa_K} (hL : k0.2.2.2.1 w = nI L) (hL2 : L ≤ 192) (h : oa_FK w k0 k) (c : oa_CR V nR w cnt cell acc sop sa k0.1 k0.2.1 k0.2.2.1 k0.2.2.2.1) :
    oa_CR V nR w cnt cell acc sop sa k.1 k.2.1 k.2.2.1 k.2.2.2.1 := by
  intro m f h1 h2 h3
  obtain ⟨kn, hk⟩ := c m f h1 h2 h3
  refine ⟨kn, ?_⟩
  have eL : (nI L).toNatClampNeg = L := nI_clamp (by omega)
  rw [hL, eL] at hk
  have cg := oa_xs_cg (V := V) (w := w) (m := m) (op := k0.1) (op' := k.1) (rg := k0.2.1) (rg' := k.2.1) (od := k0.2.2.1) (od' := k.2.2.1) L (fun i hi => h.2 i (by omega))
  rw [h.1, hL, eL, cg]
  exact hk
/-! program 1 leaves what program 0 did -/
theorem oa_x1_f {V : Nat} {o r x : Int32} {m : oa_M} : (∀ c, c < 16 → (oa_x1 V 1 o r x m).1 c = m.1 c) ∧ (∀ j, j < 32 → (oa_x1 V 1 o r x m).2.2.2.1 j = m.2.2.2.1 j) := by
  unfold oa_x1
  by_cases c0 : o = 0
  · rw [if_pos c0]; exact ⟨fun _ _ => rfl, fun _ _ => rfl⟩
  · rw [if_neg c0]
    by_cases c9 : o = 9
    · rw [if_pos c9]; exact ⟨fun _ _ => rfl, fun _ _ => rfl⟩
    · rw [if_neg c9]
      by_cases c10 : o = 10
      · rw [if_pos c10]
        refine ⟨fun _ _ => rfl, fun j hj => ?_⟩
        show upd m.2.2.2.1 (32 * 1 + (m.2.2.2.2.1 1).toNatClampNeg) m.2.2.1 j = m.2.2.2.1 j
        exact pk_un (by omega)
      · rw [if_neg c10]
        by_cases c8 : o = 8
        · rw [if_pos c8]
          refine ⟨fun c hc => ?_, fun _ _ => rfl⟩
          show (if oa_in V (m.2.1 r.toNatClampNeg) then upd m.1 (16 * 1 + (m.2.1 r.toNatClampNeg).toNatClampNeg) m.2.2.1 else m.1) c = m.1 c
          by_cases ci : oa_in V (m.2.1 r.toNatClampNeg)
          · rw [if_pos ci]; exact pk_un (by omega)
          · rw [if_neg ci]
        · rw [if_neg c8]; exact ⟨fun _ _ => rfl, fun _ _ => rfl⟩
theorem oa_xs_f {V : Nat} {op rg od : Nat → Int32} {m : oa_M} : ∀ n, (∀ c, c < 16 → (oa_xs V 1 op rg od n m).1 c = m.1 c) ∧ (∀ j, j < 32 → (oa_xs V 1 op rg od n m).2.2.2.1 j = m.2.2.2.1 j) := by
  intro n
  induction n with
  | zero => exact ⟨fun _ _ => rfl, fun _ _ => rfl⟩
  | succ n ih =>
    rw [oa_xs]
    refine ⟨fun c hc => ?_, fun j hj => ?_⟩
    · rw [oa_x1_f.1 c hc]; exact ih.1 c hc
    · rw [oa_x1_f.2 j hj]; exact ih.2 j hj
/-- a variable's cell holds its initial value at the start -/
theorem oa_mi_at {mm ini : Nat → Int32} {b : Nat} {cell : Nat → Nat} : ∀ n, (∀ x y, x < n → y < n → cell x = cell y → x = y) → ∀ v, v < n → oa_mi mm b cell ini n (b + cell v) = ini v := by
  intro n
  induction n with
  | zero => intro _ v hv; exact absurd hv (Nat.not_lt_zero v)
  | succ n ih =>
    intro hi v hv
    rw [oa_mi]
    by_cases e : v = n
    · rw [e, pk_us]
    · rw [pk_un (show b + cell v ≠ b + cell n from fun z => e (hi v n (by omega) (by omega) (by omega)))]
      exact ih (fun x y hx hy => hi x y (by omega) (by omega)) v (by omega)
end
section
/-! the loads of program 1, counted by accesses and by registers -/
def oa_ds (a b : Nat) : Nat := (a - b) + (b - a)
/-- access j wants a load: it is its register's first, or far from the one before -/
abbrev oa_lj (reg acc ad : Nat → Int32) (j : Nat) : Prop :=
  oa_pv reg acc (reg (acc j).toNatClampNeg) j = -1 ∨ 1 < oa_ds (ad (oa_pv reg acc (reg (acc j).toNatClampNeg) j).toNatClampNeg).toNatClampNeg (ad (acc j).toNatClampNeg).toNatClampNeg
def oa_lt (reg acc ad : Nat → Int32) : Nat → Nat
  | 0 => 0
  | j + 1 => oa_lt reg acc ad j + if oa_lj reg acc ad j then 1 else 0
def oa_lr (reg acc ad : Nat → Int32) (r : Int32) : Nat → Nat
  | 0 => 0
  | j + 1 => oa_lr reg acc ad r j + if reg (acc j).toNatClampNeg = r ∧ oa_lj reg acc ad j then 1 else 0
def oa_sr (reg acc ad : Nat → Int32) (n : Nat) : Nat → Nat
  | 0 => 0
  | r + 1 => oa_sr reg acc ad n r + oa_lr reg acc ad (nI r) n
theorem oa_lt_le (reg acc ad : Nat → Int32) : ∀ n, oa_lt reg acc ad n ≤ n := by
  intro n
  induction n with
  | zero => exact Nat.le_refl _
  | succ n ih => rw [oa_lt]; split <;> omega
theorem oa_lr_le (reg acc ad : Nat → Int32) (r : Int32) : ∀ n, oa_lr reg acc ad r n ≤ n := by
  intro n
  induction n with
  | zero => exact Nat.le_refl _
  | succ n ih => rw [oa_lr]; split <;> omega
theorem oa_sr_le (reg acc ad : Nat → Int32) (n : Nat) : ∀ r, oa_sr reg acc ad n r ≤ r * n := by
  intro r
  induction r with
  | zero => rw [Nat.zero_mul]; exact Nat.le_refl _
  | succ r ih => have := oa_lr_le reg acc ad (nI r) n; rw [oa_sr, Nat.succ_mul]; omega
theorem oa_sr_0 (reg acc ad : Nat → Int32) : ∀ r, oa_sr reg acc ad 0 r = 0 := by
  intro r
  induction r with
  | zero => rfl
  | succ r ih => rw [oa_sr, ih]; rfl
theorem oa_sr_s {reg acc ad : Nat → Int32} {n r0 : Nat} (hr : reg (acc n).toNatClampNeg = nI r0) (h0 : r0 < 2 ^ 31) : ∀ R, R < 2 ^ 31 → oa_sr reg acc ad (n + 1) R = oa_sr reg acc ad n R + if r0 < R ∧ oa_lj reg acc ad n then 1 else 0 := by
  intro R
  induction R with
  | zero =>
    intro _
    have n1 : ¬ (r0 < 0 ∧ oa_lj reg acc ad n) := fun z => absurd z.1 (Nat.not_lt_zero r0)
    rw [if_neg n1]
    rfl
  | succ R ih =>
    intro hR
    have e : reg (acc n).toNatClampNeg = nI R ↔ r0 = R := by
      rw [hr]
      exact nI_eq h0 (by omega)
    have e1 : ((if r0 < R ∧ oa_lj reg acc ad n then 1 else 0) + (if reg (acc n).toNatClampNeg = nI R ∧ oa_lj reg acc ad n then 1 else 0) : Nat) = if r0 < R + 1 ∧ oa_lj reg acc ad n then 1 else 0 := by
      by_cases l : oa_lj reg acc ad n
      · by_cases c : r0 < R
        · have n2 : ¬ (reg (acc n).toNatClampNeg = nI R ∧ oa_lj reg acc ad n) := fun z => by
            have := e.mp z.1
            omega
          have p3 : r0 < R + 1 ∧ oa_lj reg acc ad n := ⟨by omega, l⟩
          rw [if_pos ⟨c, l⟩, if_neg n2, if_pos p3]
        · have n1 : ¬ (r0 < R ∧ oa_lj reg acc ad n) := fun z => c z.1
          by_cases c2 : r0 = R
          · have p2 : reg (acc n).toNatClampNeg = nI R ∧ oa_lj reg acc ad n := ⟨e.mpr c2, l⟩
            have p3 : r0 < R + 1 ∧ oa_lj reg acc ad n := ⟨by omega, l⟩
            rw [if_neg n1, if_pos p2, if_pos p3]
          · have n2 : ¬ (reg (acc n).toNatClampNeg = nI R ∧ oa_lj reg acc ad n) := fun z => c2 (e.mp z.1)
            have n3 : ¬ (r0 < R + 1 ∧ oa_lj reg acc ad n) := fun z => by
              have := z.1
              omega
            rw [if_neg n1, if_neg n2, if_neg n3]
      · have n1 : ¬ (r0 < R ∧ oa_lj reg acc ad n) := fun z => l z.2
        have n2 : ¬ (reg (acc n).toNatClampNeg = nI R ∧ oa_lj reg acc ad n) := fun z => l z.2
        have n3 : ¬ (r0 < R + 1 ∧ oa_lj reg acc ad n) := fun z => l z.2
        rw [if_neg n1, if_neg n2, if_neg n3]
    rw [oa_sr, oa_sr, ih (by omega), oa_lr, ← e1]
    exact Nat.add_add_add_comm _ _ _ _
theorem oa_sr_lt {reg acc ad : Nat → Int32} {n nR : Nat} (hR : nR < 2 ^ 31) (h : ∀ j, j < n → ∃ r, r < nR ∧ reg (acc j).toNatClampNeg = nI r) : ∀ i, i ≤ n → oa_sr reg acc ad i nR = oa_lt reg acc ad i := by
  intro i
  induction i with
  | zero => intro _; exact oa_sr_0 reg acc ad nR
  | succ i ih =>
    intro hi
    obtain ⟨r, hr, er⟩ := h i (by omega)
    rw [oa_sr_s er (by omega) nR hR, ih (by omega), oa_lt]
    by_cases l : oa_lj reg acc ad i
    · have p1 : r < nR ∧ oa_lj reg acc ad i := ⟨hr, l⟩
      rw [if_pos p1, if_pos l]
    · have n1 : ¬ (r < nR ∧ oa_lj reg acc ad i) := fun z => l z.2
      rw [if_neg n1, if_neg l]
/-- what program 1's generation knows of register r behind j accesses -/
def oa_kv (reg acc ad : Nat → Int32) (n : Nat) (r : Int32) : Nat → Int32
  | 0 => -1
  | j + 1 => if reg (acc j).toNatClampNeg = r then ad (acc j).toNatClampNeg + oa_sp reg acc ad n j else oa_kv reg acc ad n r j
theorem oa_kv_pv {reg acc ad : Nat → Int32} {n : Nat} {r : Int32} : ∀ j, j ≤ n → (oa_pv reg acc r j = -1 ∧ oa_kv reg acc ad n r j = -1) ∨
    ∃ i, i < j ∧ oa_pv reg acc r j = acc i ∧ oa_kv reg acc ad n r j = ad (acc i).toNatClampNeg + oa_sp reg acc ad n i ∧ oa_fo reg acc n i = oa_nx reg acc r (n - j) j := by
  intro j
  induction j with
  | zero => intro _; exact Or.inl ⟨rfl, rfl⟩
  | succ j ih =>
    intro hj
    by_cases hr : reg (acc j).toNatClampNeg = r
    · refine Or.inr ⟨j, Nat.lt_succ_self j, ?_, ?_, ?_⟩
      · rw [oa_pv, if_pos hr]
      · rw [oa_kv, if_pos hr]
      · unfold oa_fo
        rw [hr]
    · have ep : oa_pv reg acc r (j + 1) = oa_pv reg acc r j := by rw [oa_pv, if_neg hr]
      have ek : oa_kv reg acc ad n r (j + 1) = oa_kv reg acc ad n r j := by rw [oa_kv, if_neg hr]
      rw [ep, ek]
      rcases ih (by omega) with h | ⟨i, hi, h1, h2, h3⟩
      · exact Or.inl h
      · refine Or.inr ⟨i, by omega, h1, h2, ?_⟩
        have en : n - j = (n - (j + 1)) + 1 := by omega
        rw [h3, en, oa_nx, if_neg hr]
theorem oa_ld_lj {V nR n j : Nat} {reg acc ad : Nat → Int32} (e : oa_env V nR n reg acc ad) (hj : j < n) : oa_kv reg acc ad n (reg (acc j).toNatClampNeg) j ≠ ad (acc j).toNatClampNeg ↔ oa_lj reg acc ad j := by
  obtain ⟨v, r, a, hv, hr, ha, e1, e2, e3, e4, e5, e6⟩ := oa_env_j (w := 1) e hj
  have hV := e.1
  rcases oa_kv_pv (reg := reg) (acc := acc) (ad := ad) (n := n) (r := reg (acc j).toNatClampNeg) j (by omega) with ⟨p1, p2⟩ | ⟨i, hi, p1, p2, p3⟩
  · constructor
    · intro _
      exact Or.inl p1
    · intro _
      rw [p2, e5]
      exact fun z => oa_ne (by omega) z.symm
  · obtain ⟨v', r', b, hv', hr', hb, f1, f2, f3, f4, f5, f6⟩ := oa_env_j (w := 1) e (show i < n by omega)
    have en : n - j = (n - (j + 1)) + 1 := by omega
    have ef : oa_fo reg acc n i = j := by rw [p3, en, oa_nx, if_pos rfl]
    have sp : oa_sp reg acc ad n i = if -1 ≤ nI a - nI b ∧ nI a - nI b ≤ 1 then nI a - nI b else 0 := by
      unfold oa_sp
      rw [ef, if_pos hj, e5, f5]
    have t : (nI a - nI b).toInt = (a : Int) - b := pk_sub_toInt (by omega) (by omega)
    have t1 : (-1 ≤ nI a - nI b) ↔ (-1 : Int) ≤ (a : Int) - b := by
      rw [Int32.le_iff_toInt_le, t, show (-1 : Int32).toInt = -1 from by decide]
    have t2 : (nI a - nI b ≤ 1) ↔ (a : Int) - b ≤ 1 := by
      rw [Int32.le_iff_toInt_le, t, show (1 : Int32).toInt = 1 from by decide]
    have l : oa_lj reg acc ad j ↔ 1 < oa_ds b a := by
      unfold oa_lj
      rw [p1, f5, e5, nI_clamp (show b < 2 ^ 31 by omega), nI_clamp (show a < 2 ^ 31 by omega)]
      constructor
      · rintro (h | h)
        · rw [f1] at h
          exact absurd h (oa_ne (by omega))
        · exact h
      · exact Or.inr
    rw [l, p2, f5, sp, e5]
    by_cases c : -1 ≤ nI a - nI b ∧ nI a - nI b ≤ 1
    · have c1 := t1.mp c.1
      have c2 := t2.mp c.2
      rw [if_pos c, Int32.add_comm, Int32.sub_add_cancel]
      constructor
      · intro z
        exact absurd rfl z
      · intro z
        unfold oa_ds at z
        omega
    · have c' : ¬ ((-1 : Int) ≤ (a : Int) - b ∧ (a : Int) - b ≤ 1) := fun z => c ⟨t1.mpr z.1, t2.mpr z.2⟩
      have d : 1 < oa_ds b a := by
        unfold oa_ds
        omega
      rw [if_neg c, Int32.add_zero]
      constructor
      · intro _
        exact d
      · intro _ z
        have := oa_inj (by omega) (by omega) z
        unfold oa_ds at d
        omega
def oa_LI (nR n j : Nat) (reg acc ad : Nat → Int32) (k : oa_K) : Prop := (∀ r, r < nR → k.2.2.2.2.2.1 r = oa_kv reg acc ad n (nI r) j) ∧ k.2.2.2.2.1 1 = nI (oa_lt reg acc ad j)
theorem oa_LI_em {nR n j : Nat} {reg acc ad : Nat → Int32} {k : oa_K} {o r x : Int32} (n0 : ¬ o = 0) (h : oa_LI nR n j reg acc ad k) : oa_LI nR n j reg acc ad (oa_em 1 o r x k) := by
  refine ⟨h.1, ?_⟩
  show (if o = 0 then upd k.2.2.2.2.1 1 (k.2.2.2.2.1 1 + 1) else k.2.2.2.2.1) 1 = _
  rw [if_neg n0]
  exact h.2
theorem oa_LI_ac {V nR n j o : Nat} {reg acc ad : Nat → Int32} {k : oa_K} (e : oa_env V nR n reg acc ad) (hj : j < n) (ho : 0 < o) (ho2 : o < 2 ^ 31) (h : oa_LI nR n j reg acc ad k) : oa_LI nR n (j + 1) reg acc ad (oa_ac reg acc ad n 1 (nI o) j k) := by
  obtain ⟨v, r, a, hv, hr, ha, e1, e2, e3, e4, e5, e6⟩ := oa_env_j (w := 1) e hj
  have hR := e.2.1
  have n0 : ¬ nI o = 0 := nI_ne0 ho ho2
  have n1 : ¬ (1 : Nat) = 0 := by omega
  have hk := h.1 r hr
  have ij := oa_ld_lj e hj
  rw [e3, ← hk] at ij
  have ep : oa_pa acc ad 1 j = ad (acc j).toNatClampNeg := if_neg n1
  have em : oa_ms reg acc ad n 1 j = oa_sp reg acc ad n j := if_neg n1
  have ek : (oa_ac reg acc ad n 1 (nI o) j k).2.2.2.2.2.1 = upd k.2.2.2.2.2.1 r (ad (acc j).toNatClampNeg + oa_sp reg acc ad n j) := by
    have l2 := (oa_ld_kn reg acc ad 1 j k).1
    rw [← l2, ← e4, ← ep, ← em]
    rfl
  have el : (oa_ac reg acc ad n 1 (nI o) j k).2.2.2.2.1 = (oa_ld reg acc ad 1 j k).2.2.2.2.1 := if_neg n0
  refine ⟨fun r' hr' => ?_, ?_⟩
  · rw [ek]
    by_cases c : r' = r
    · rw [c, pk_us, oa_kv, if_pos e3]
    · have c2 : ¬ reg (acc j).toNatClampNeg = nI r' := fun z => c (oa_inj (by omega) (by omega) (by rw [← z, e3]))
      rw [pk_un c, oa_kv, if_neg c2]
      exact h.1 r' hr'
  · rw [el]
    by_cases l : oa_lj reg acc ad j
    · have c : (1 : Nat) = 0 ∨ k.2.2.2.2.2.1 (reg (acc j).toNatClampNeg).toNatClampNeg ≠ oa_pa acc ad 1 j := Or.inr (by rw [e4, ep]; exact ij.mpr l)
      have ed : oa_ld reg acc ad 1 j k = oa_mk 1 (reg (acc j).toNatClampNeg).toNatClampNeg (oa_em 1 0 (reg (acc j).toNatClampNeg) (oa_pa acc ad 1 j) k) := if_pos c
      rw [ed]
      show (if (0 : Int32) = 0 then upd k.2.2.2.2.1 1 (k.2.2.2.2.1 1 + 1) else k.2.2.2.2.1) 1 = _
      rw [if_pos (show (0 : Int32) = 0 from rfl), pk_us, h.2, nI_1, oa_lt, if_pos l]
    · have c : ¬ ((1 : Nat) = 0 ∨ k.2.2.2.2.2.1 (reg (acc j).toNatClampNeg).toNatClampNeg ≠ oa_pa acc ad 1 j) := by
        rintro (z | z)
        · exact n1 z
        · rw [e4, ep] at z
          exact l (ij.mp z)
      have ed : oa_ld reg acc ad 1 j k = k := if_neg c
      rw [ed, h.2, oa_lt, if_neg l, Nat.add_zero]
theorem oa_LI_tt {V nR n p : Nat} {reg acc ad : Nat → Int32} {o d a b : Int32} {k : oa_K} (e : oa_env V nR n reg acc ad) (st : oa_ST V o d a b acc p) (hp : p + oa_na o ≤ n) (h : oa_LI nR n p reg acc ad k) : oa_LI nR n (p + oa_na o) reg acc ad (oa_tt reg acc ad n 1 o a p k) := by
  rcases st with ⟨z, hz, rfl, -⟩ | ⟨rfl, -⟩ | ⟨rfl, -⟩ | ⟨rfl, -⟩
  · rw [oa_na5 hz] at hp
    rw [oa_na5 hz, oa_tt_5 hz]
    have r1 := oa_LI_ac (o := 1) e (show p < n by omega) (by omega) (by omega) h
    have r2 := oa_LI_ac (o := 2 + z) e (show p + 1 < n by omega) (by omega) (by omega) r1
    have r3 := oa_LI_ac (o := 8) e (show p + 1 + 1 < n by omega) (by omega) (by omega) r2
    exact r3
  · rw [oa_na6] at hp
    rw [oa_na6, oa_tt_6]
    have r1 := oa_LI_ac (o := 1) e (show p < n by omega) (by omega) (by omega) h
    have r2 := oa_LI_ac (o := 8) e (show p + 1 < n by omega) (by omega) (by omega) r1
    exact r2
  · rw [oa_na7] at hp
    rw [oa_na7, oa_tt_7]
    exact oa_LI_ac (o := 8) e (show p < n by omega) (by omega) (by omega) (oa_LI_em (by decide) h)
  · rw [oa_na8] at hp
    rw [oa_na8, oa_tt_8]
    exact oa_LI_em (by decide) (oa_LI_ac (o := 1) e (show p < n by omega) (by omega) (by omega) h)
theorem oa_LI_tb {V nR cnt : Nat} {reg acc ad sop sd sa sb : Nat → Int32} {k : oa_K} (ss : oa_SS V cnt sop sd sa sb acc) (e : oa_env V nR (oa_ps sop cnt) reg acc ad) (h : oa_LI nR (oa_ps sop cnt) 0 reg acc ad k) :
    ∀ i, i ≤ cnt → oa_LI nR (oa_ps sop cnt) (oa_ps sop i) reg acc ad (oa_tb reg acc ad sop sa (oa_ps sop cnt) 1 i k) := by
  intro i
  induction i with
  | zero => intro _; exact h
  | succ i ih =>
    intro hi
    exact oa_LI_tt e (ss i (by omega)) (oa_ps_mono sop cnt (i + 1) hi) (ih (by omega))
theorem oa_LI_0 {nR n : Nat} {reg acc ad : Nat → Int32} {k kk' : oa_K} : oa_LI nR n 0 reg acc ad (oa_k0 nR 1 k kk') :=
  ⟨fun r hr => (oa_fill_lt hr : oa_fill k.2.2.2.2.2.1 (fun _ => -1) nR r = -1), (pk_us : upd k.2.2.2.2.1 1 0 1 = 0)⟩
end
section
/-! X: the methods that read -/
section
variable {x_varCount x_regCount x_phase x_statementCount x_accessCount x_nextAddress x_accumulator : Int32} {x_register x_init x_statements x_accessVar x_follower x_weight x_firstLink x_secondLink x_chain x_address x_opcode x_instrRegister x_operand x_codeLength x_addrLoads x_knownAddress x_memory x_addressRegister x_output x_outputCount : Nat → Int32}
theorem xg_oc2 {w : Nat} {y : Int32} (hw : w < 2) (h : x_phase = 2) (ey : x_outputCount w = y) (post : Int32 → Prop) (hp : post y) : wpX_getOutputCount post (x_varCount, x_regCount, x_phase, x_statementCount, x_accessCount, x_nextAddress, x_accumulator, x_register, x_init, x_statements, x_accessVar, x_follower, x_weight, x_firstLink, x_secondLink, x_chain, x_address, x_opcode, x_instrRegister, x_operand, x_codeLength, x_addrLoads, x_knownAddress, x_memory, x_addressRegister, x_output, x_outputCount) (nI w) := by
  subst ey
  unfold wpX_getOutputCount
  dsimp only
  refine br_t h (xa_ip1 hw _ (br_f (by decide) ⟨vp_in_nI hw (by omega), ?_⟩))
  rw [nI_clamp (show w < 2 ^ 31 by omega)]
  exact hp
theorem xg_oc0 {p : Int32} (h : ¬ x_phase = 2) (post : Int32 → Prop) (hp : post (-1)) : wpX_getOutputCount post (x_varCount, x_regCount, x_phase, x_statementCount, x_accessCount, x_nextAddress, x_accumulator, x_register, x_init, x_statements, x_accessVar, x_follower, x_weight, x_firstLink, x_secondLink, x_chain, x_address, x_opcode, x_instrRegister, x_operand, x_codeLength, x_addrLoads, x_knownAddress, x_memory, x_addressRegister, x_output, x_outputCount) p := by
  unfold wpX_getOutputCount
  exact br_f h hp
theorem xg_ou {w q j : Nat} (hw : w < 2) (h : x_phase = 2) (eq : x_outputCount w = nI q) (hq : q ≤ 32) (hj : j < q) {y : Int32} (ey : x_output (32 * w + j) = y) (post : Int32 → Prop) (hp : post y) : wpX_getOutput post (x_varCount, x_regCount, x_phase, x_statementCount, x_accessCount, x_nextAddress, x_accumulator, x_register, x_init, x_statements, x_accessVar, x_follower, x_weight, x_firstLink, x_secondLink, x_chain, x_address, x_opcode, x_instrRegister, x_operand, x_codeLength, x_addrLoads, x_knownAddress, x_memory, x_addressRegister, x_output, x_outputCount) (nI w) (nI j) := by
  subst ey
  unfold wpX_getOutput
  dsimp only
  refine br_t h (xa_ip1 hw _ (br_f (by decide) (br_f (nI_pos (by omega)) ⟨vp_in_nI hw (by omega), ?_⟩)))
  rw [nI_clamp (show w < 2 ^ 31 by omega), eq]
  refine br_t (nI_lt hj (by omega)) ?_
  rw [oa_ix32, nI_clamp (show 32 * w + j < 2 ^ 31 by omega)]
  exact ⟨vp_in_nI (by omega) (by omega), hp⟩
theorem xg_va {V w v c : Nat} (hV : V ≤ 16) (hw : w < 2) (hv : v < V) (h : x_phase = 2) (ec : (if w = 0 then nI v else x_address v) = nI c) (hc : c < 16) {y : Int32} (ey : x_memory (16 * w + c) = y) (post : Int32 → Prop) (hp : post y) : wpX_getVar post (nI V, x_regCount, x_phase, x_statementCount, x_accessCount, x_nextAddress, x_accumulator, x_register, x_init, x_statements, x_accessVar, x_follower, x_weight, x_firstLink, x_secondLink, x_chain, x_address, x_opcode, x_instrRegister, x_operand, x_codeLength, x_addrLoads, x_knownAddress, x_memory, x_addressRegister, x_output, x_outputCount) (nI w) (nI v) := by
  subst ey
  unfold wpX_getVar
  dsimp only
  refine br_t h (xa_ip1 hw _ (br_f (by decide) (xa_iv _ (fun _ => br_f (by decide) ?_) (fun z => absurd ⟨nI_pos' (by omega), nI_lt hv (by omega)⟩ z))))
  refine xa_ai hw (by omega) ec _ ?_
  rw [oa_ix16w, nI_clamp (show 16 * w + c < 2 ^ 31 by omega)]
  exact ⟨vp_in_nI (by omega) (by omega), hp⟩
theorem xg_al {w : Nat} {y : Int32} (hw : w < 2) (h : ¬ x_phase = 0) (ey : x_addrLoads w = y) (post : Int32 → Prop) (hp : post y) : wpX_getAddrLoads post (x_varCount, x_regCount, x_phase, x_statementCount, x_accessCount, x_nextAddress, x_accumulator, x_register, x_init, x_statements, x_accessVar, x_follower, x_weight, x_firstLink, x_secondLink, x_chain, x_address, x_opcode, x_instrRegister, x_operand, x_codeLength, x_addrLoads, x_knownAddress, x_memory, x_addressRegister, x_output, x_outputCount) (nI w) := by
  subst ey
  unfold wpX_getAddrLoads
  dsimp only
  refine br_f h (xa_ip1 hw _ (br_f (by decide) ⟨vp_in_nI hw (by omega), ?_⟩))
  rw [nI_clamp (show w < 2 ^ 31 by omega)]
  exact hp
theorem xg_al0 {p : Int32} (h : x_phase = 0) (post : Int32 → Prop) (hp : post (-1)) : wpX_getAddrLoads post (x_varCount, x_regCount, x_phase, x_statementCount, x_accessCount, x_nextAddress, x_accumulator, x_register, x_init, x_statements, x_accessVar, x_follower, x_weight, x_firstLink, x_secondLink, x_chain, x_address, x_opcode, x_instrRegister, x_operand, x_codeLength, x_addrLoads, x_knownAddress, x_memory, x_addressRegister, x_output, x_outputCount) p := by
  unfold wpX_getAddrLoads
  exact br_t h hp
theorem xg_sc {f : Int32} (post : Int32 → Prop) (hp : post x_statementCount) : wpX_getStatement post (x_varCount, x_regCount, x_phase, x_statementCount, x_accessCount, x_nextAddress, x_accumulator, x_register, x_init, x_statements, x_accessVar, x_follower, x_weight, x_firstLink, x_secondLink, x_chain, x_address, x_opcode, x_instrRegister, x_operand, x_codeLength, x_addrLoads, x_knownAddress, x_memory, x_addressRegister, x_output, x_outputCount) (-1) f := by
  unfold wpX_getStatement
  exact br_t rfl hp
theorem xg_st {cnt i f : Nat} (hn : cnt ≤ 32) (hi : i < cnt) (hf : f < 4) {y : Int32} (ey : x_statements (i * 4 + f) = y) (post : Int32 → Prop) (hp : post y) : wpX_getStatement post (x_varCount, x_regCount, x_phase, nI cnt, x_accessCount, x_nextAddress, x_accumulator, x_register, x_init, x_statements, x_accessVar, x_follower, x_weight, x_firstLink, x_secondLink, x_chain, x_address, x_opcode, x_instrRegister, x_operand, x_codeLength, x_addrLoads, x_knownAddress, x_memory, x_addressRegister, x_output, x_outputCount) (nI i) (nI f) := by
  subst ey
  have ex : nI i * 4 + nI f = nI (i * 4 + f) := by rw [show (4 : Int32) = nI 4 from rfl, pk_mul, nI_add]
  unfold wpX_getStatement
  dsimp only
  rw [ex, nI_clamp (show i * 4 + f < 2 ^ 31 by omega)]
  exact br_f (oa_ne (by omega)) (br_f (nI_pos (by omega)) (br_f (nI_ge hi (by omega)) (br_f (nI_pos (by omega)) (br_t (nI_lt (b := 4) hf (by decide)) ⟨vp_in_nI (by omega) (by omega), hp⟩))))
theorem xg_vr {V v : Nat} {y : Int32} (hV : V ≤ 16) (hv : v < V) (ey : x_register v = y) (post : Int32 → Prop) (hp : post y) : wpX_getVariable post (nI V, x_regCount, x_phase, x_statementCount, x_accessCount, x_nextAddress, x_accumulator, x_register, x_init, x_statements, x_accessVar, x_follower, x_weight, x_firstLink, x_secondLink, x_chain, x_address, x_opcode, x_instrRegister, x_operand, x_codeLength, x_addrLoads, x_knownAddress, x_memory, x_addressRegister, x_output, x_outputCount) (nI v) 0 := by
  subst ey
  unfold wpX_getVariable
  dsimp only
  refine xa_iv _ (fun _ => br_f (by decide) (br_t rfl ⟨vp_in_nI (by omega) (by omega), ?_⟩)) (fun z => absurd ⟨nI_pos' (by omega), nI_lt hv (by omega)⟩ z)
  rw [nI_clamp (show v < 2 ^ 31 by omega)]
  exact hp
theorem xg_ad {V v : Nat} (hV : V ≤ 16) (hv : v < V) (h : ¬ x_phase = 0) {y : Int32} (ey : x_address v = y) (post : Int32 → Prop) (hp : post y) : wpX_getAddress post (nI V, x_regCount, x_phase, x_statementCount, x_accessCount, x_nextAddress, x_accumulator, x_register, x_init, x_statements, x_accessVar, x_follower, x_weight, x_firstLink, x_secondLink, x_chain, x_address, x_opcode, x_instrRegister, x_operand, x_codeLength, x_addrLoads, x_knownAddress, x_memory, x_addressRegister, x_output, x_outputCount) (nI v) := by
  subst ey
  unfold wpX_getAddress
  dsimp only
  refine br_f h (xa_iv _ (fun _ => br_f (by decide) ⟨vp_in_nI (by omega) (by omega), ?_⟩) (fun z => absurd ⟨nI_pos' (by omega), nI_lt hv (by omega)⟩ z))
  rw [nI_clamp (show v < 2 ^ 31 by omega)]
  exact hp
end
end
section
/-! what holds between two calls -/
def oa_WC (V nR cnt : Nat) (reg acc ad op rg od len ld sop sa : Nat → Int32) : Prop :=
  (∀ v, v < V → ∃ a, a < V ∧ ad v = nI a) ∧ (∀ x y, x < V → y < V → ad x = ad y → x = y) ∧ (∀ a, a < V → ∃ v, v < V ∧ ad v = nI a) ∧ (∀ w, w < 2 → ∃ L, L ≤ 192 ∧ oa_CI nR w L 32 op rg len) ∧
  oa_CR V nR 0 cnt (fun v => v) acc sop sa op rg od len ∧ oa_CR V nR 1 cnt (fun v => (ad v).toNatClampNeg) acc sop sa op rg od len ∧ ld 1 = nI (oa_lt reg acc ad (oa_ps sop cnt))
def oa_WR (V : Nat) (ad mx out oc : Nat → Int32) : Prop :=
  ∃ q, q ≤ 32 ∧ oc 0 = nI q ∧ oc 1 = nI q ∧ (∀ j, j < q → out (32 * 0 + j) = out (32 * 1 + j)) ∧ (∀ v, v < V → mx (16 * 0 + v) = mx (16 * 1 + (ad v).toNatClampNeg))
def oa_W (V nR ph cnt : Nat) (reg st acc ad op rg od len ld mx out oc sop sd sa sb : Nat → Int32) : Prop :=
  (2 ≤ V ∧ V ≤ 16) ∧ (1 ≤ nR ∧ nR ≤ 4) ∧ ph ≤ 2 ∧ cnt ≤ 32 ∧ (∀ v, v < V → ∃ r, r < nR ∧ reg v = nI r) ∧ oa_SR st sop sd sa sb ∧ oa_SS V cnt sop sd sa sb acc ∧
  (ph ≠ 0 → oa_WC V nR cnt reg acc ad op rg od len ld sop sa) ∧ (ph = 2 → oa_WR V ad mx out oc)
def oa_X (V nR : Nat) (u : St2) : Prop := ∃ (ph cnt : Nat) (na ac : Int32) (reg ini st acc fol wt fl sl ch ad op rg od len ld kn mx arx out ocx sop sd sa sb : Nat → Int32),
  u = (nI V, nI nR, nI ph, nI cnt, nI (oa_ps sop cnt), na, ac, reg, ini, st, acc, fol, wt, fl, sl, ch, ad, op, rg, od, len, ld, kn, mx, arx, out, ocx) ∧ oa_W V nR ph cnt reg st acc ad op rg od len ld mx out ocx sop sd sa sb
theorem oa_XI {V nR ph cnt : Nat} {na ac : Int32} {reg ini st acc fol wt fl sl ch ad op rg od len ld kn mx arx out ocx sop sd sa sb : Nat → Int32} (h : oa_W V nR ph cnt reg st acc ad op rg od len ld mx out ocx sop sd sa sb) :
    oa_X V nR (nI V, nI nR, nI ph, nI cnt, nI (oa_ps sop cnt), na, ac, reg, ini, st, acc, fol, wt, fl, sl, ch, ad, op, rg, od, len, ld, kn, mx, arx, out, ocx) :=
  ⟨ph, cnt, na, ac, reg, ini, st, acc, fol, wt, fl, sl, ch, ad, op, rg, od, len, ld, kn, mx, arx, out, ocx, sop, sd, sa, sb, rfl, h⟩
theorem oa_c1 {V : Nat} {ad : Nat → Int32} (hV : V ≤ 16) (p1 : ∀ v, v < V → ∃ a, a < V ∧ ad v = nI a) : ∀ v, v < V → (ad v).toNatClampNeg < V ∧ ad v = nI (ad v).toNatClampNeg := by
  intro v hv
  obtain ⟨a, ha, ea⟩ := p1 v hv
  have : (ad v).toNatClampNeg = a := by
    rw [ea]
    exact nI_clamp (by omega)
  rw [this]
  exact ⟨ha, ea⟩
theorem oa_c1i {V : Nat} {ad : Nat → Int32} (hV : V ≤ 16) (p1 : ∀ v, v < V → ∃ a, a < V ∧ ad v = nI a) (pj : ∀ x y, x < V → y < V → ad x = ad y → x = y) : ∀ x y, x < V → y < V → (ad x).toNatClampNeg = (ad y).toNatClampNeg → x = y := by
  intro x y hx hy e
  refine pj x y hx hy ?_
  rw [(oa_c1 hV p1 x hx).2, (oa_c1 hV p1 y hy).2, e]
theorem oa_sn_n {V cnt : Nat} {acc sop sd sa sb : Nat → Int32} {s : oa_S} (ss : oa_SS V cnt sop sd sa sb acc) : ∀ i, i ≤ cnt → (oa_sn acc sop sa i s).2.2.2 ≤ s.2.2.2 + i := by
  intro i
  induction i with
  | zero => intro _; exact Nat.le_refl _
  | succ i ih =>
    intro hi
    have h1 := ih (by omega)
    have h2 := oa_s1_n (s := oa_sn acc sop sa i s) (ss i (by omega))
    rw [oa_sn]
    omega
theorem xb_clear {V nR : Nat} {u : St2} (I : oa_X V nR u) (post : St2 → Prop) (hp : ∀ u', oa_X V nR u' → post u') : wpX_clear post u := by
  obtain ⟨ph, cnt, na, ac, reg, ini, st, acc, fol, wt, fl, sl, ch, ad, op, rg, od, len, ld, kn, mx, arx, out, ocx, sop, sd, sa, sb, rfl, i1, i2, i3, i4, i5, i6, i7, i8, i9⟩ := I
  unfold wpX_clear
  exact hp _ (oa_XI (ph := 0) (cnt := 0) (sop := sop) (sd := sd) (sa := sa) (sb := sb) ⟨i1, i2, by omega, by omega, i5, i6, fun i hi => absurd hi (Nat.not_lt_zero i), fun h => absurd rfl h, fun h => by omega⟩)
theorem xb_setRegister {V nR : Nat} {u : St2} (I : oa_X V nR u) (v1 v2 : Int32) (post : Int32 → St2 → Prop) (hp : ∀ r u', oa_X V nR u' → post r u') : wpX_setRegister post u v1 v2 := by
  obtain ⟨ph, cnt, na, ac, reg, ini, st, acc, fol, wt, fl, sl, ch, ad, op, rg, od, len, ld, kn, mx, arx, out, ocx, sop, sd, sa, sb, rfl, I⟩ := I
  have I' := I
  obtain ⟨i1, i2, i3, i4, i5, i6, i7, i8, i9⟩ := I'
  have J := oa_XI (na := na) (ac := ac) (ini := ini) (fol := fol) (wt := wt) (fl := fl) (sl := sl) (ch := ch) (kn := kn) (arx := arx) I
  unfold wpX_setRegister
  dsimp only
  refine xa_iv _ (fun c => br_f (by decide) ?_) (fun c => br_t rfl (hp _ _ J))
  obtain ⟨j, hj, rfl⟩ := oa_in_c i1.2 c
  have ij : vp_in (nI j) 16 := vp_in_nI (by omega) (by omega)
  have cj : (nI j).toNatClampNeg = j := nI_clamp (by omega)
  by_cases c1 : v2 < 0
  · exact br_t c1 (hp _ _ J)
  · by_cases c2 : v2 < nI nR
    · obtain ⟨r, hr, rfl⟩ := nI_of c1
      have hr2 := (nI_ltI hr (by omega)).mp c2
      refine br_f c1 (br_t c2 ⟨ij, nm_r (by rw [cj]) (hp _ _ ?_)⟩)
      exact oa_XI (ph := 0) (sop := sop) (sd := sd) (sa := sa) (sb := sb) ⟨i1, i2, by omega, i4, oa_upr hr2 i5, i6, i7, fun h => absurd rfl h, fun h => by omega⟩
    · exact br_f c1 (br_f c2 (hp _ _ J))
theorem xb_setInit {V nR : Nat} {u : St2} (I : oa_X V nR u) (v1 v2 : Int32) (post : Int32 → St2 → Prop) (hp : ∀ r u', oa_X V nR u' → post r u') : wpX_setInit post u v1 v2 := by
  obtain ⟨ph, cnt, na, ac, reg, ini, st, acc, fol, wt, fl, sl, ch, ad, op, rg, od, len, ld, kn, mx, arx, out, ocx, sop, sd, sa, sb, rfl, I⟩ := I
  have I' := I
  obtain ⟨i1, i2, i3, i4, i5, i6, i7, i8, i9⟩ := I'
  have J := oa_XI (na := na) (ac := ac) (ini := ini) (fol := fol) (wt := wt) (fl := fl) (sl := sl) (ch := ch) (kn := kn) (arx := arx) I
  unfold wpX_setInit
  dsimp only
  refine xa_iv _ (fun c => br_f (by decide) ?_) (fun c => br_t rfl (hp _ _ J))
  obtain ⟨j, hj, rfl⟩ := oa_in_c i1.2 c
  have ij : vp_in (nI j) 16 := vp_in_nI (by omega) (by omega)
  by_cases c2 : nI ph = 2
  · have p2 : ph = 2 := oa_inj (b := 2) (by omega) (by omega) c2
    exact ⟨ij, nm_e (br_t c2 (hp _ _ (oa_XI (ph := 1) (sop := sop) (sd := sd) (sa := sa) (sb := sb) ⟨i1, i2, by omega, i4, i5, i6, i7, fun _ => i8 (by omega), fun h => by omega⟩)))⟩
  · exact ⟨ij, nm_e (br_f c2 (hp _ _ (oa_XI I)))⟩
theorem xb_add {V nR : Nat} {u : St2} (I : oa_X V nR u) (v1 v2 v3 v4 : Int32) (post : Int32 → St2 → Prop) (hp : ∀ r u', oa_X V nR u' → post r u') : wpX_addStatement post u v1 v2 v3 v4 := by
  obtain ⟨ph, cnt, na, ac, reg, ini, st, acc, fol, wt, fl, sl, ch, ad, op, rg, od, len, ld, kn, mx, arx, out, ocx, sop, sd, sa, sb, rfl, I⟩ := I
  have I' := I
  obtain ⟨i1, i2, i3, i4, i5, i6, i7, i8, i9⟩ := I'
  have J := oa_XI (na := na) (ac := ac) (ini := ini) (fol := fol) (wt := wt) (fl := fl) (sl := sl) (ch := ch) (kn := kn) (arx := arx) I
  by_cases c0 : cnt < 32
  · have x0 : nI cnt < 32 := nI_lt (b := 32) c0 (by decide)
    by_cases c1 : v1 < 0
    · exact br_t x0 (br_t c1 (hp _ _ J))
    · by_cases c2 : v1 ≤ 8
      · obtain ⟨o, ho, rfl⟩ := nI_of c1
        have h8 : o ≤ 8 := (nI_leI ho (by omega : 8 < 2 ^ 31)).mp c2
        have hn := oa_ps_le sop cnt
        refine br_t x0 (br_f c1 (br_t c2 (xa_uo h8 _ (fun ok => br_f (by decide) (xa_st c0 _ (xa_as i1.2 h8 (by omega) ok _ (fun P hP hst => nm_r (nI_1 cnt) (hp _ _ ?_))))) (fun ok => br_t rfl (hp _ _ J)))))
        have ha := oa_SS_add i7 hP hst
        rw [← ha.2]
        exact oa_XI (ph := 0) ⟨i1, i2, by omega, by omega, i5, oa_SR_add i6, ha.1, fun h => absurd rfl h, fun h => by omega⟩
      · exact br_t x0 (br_f c1 (br_f c2 (hp _ _ J)))
  · have x0 : ¬ nI cnt < 32 := nI_nlt (b := 32) (by omega) (by omega)
    exact br_f x0 (hp _ _ J)
theorem xb_compile {V nR : Nat} {u : St2} (I : oa_X V nR u) (post : Int32 → St2 → Prop) (hp : ∀ r u', oa_X V nR u' → post r u') : wpX_compile post u := by
  obtain ⟨ph, cnt, na, ac, reg, ini, st, acc, fol, wt, fl, sl, ch, ad, op, rg, od, len, ld, kn, mx, arx, out, ocx, sop, sd, sa, sb, rfl, i1, i2, i3, i4, i5, i6, i7, i8, i9⟩ := I
  have hV : V ≤ 16 := i1.2
  have hn : oa_ps sop cnt ≤ 96 := by have := oa_ps_le sop cnt; omega
  obtain ⟨zz, hzz⟩ : ∃ zz : Nat → Int32, zz = fun _ => 0 := ⟨_, rfl⟩
  have hqi := oa_q0_I (fl := fl) (sl := sl) (ch := ch) (ed := zz) (dg := zz) (cp := zz) hV
  obtain ⟨Q, hQ⟩ : ∃ Q, Q = oa_jw (oa_wA (oa_fill wt (fun _ => 0) 256) reg acc (oa_ps sop cnt) (oa_ps sop cnt)) V 95 (oa_fill fl (fun _ => -1) V, oa_fill sl (fun _ => -1) V, oa_fill ch nI V, oa_fill zz (fun _ => 0) 256, oa_fill zz (fun _ => 0) 16, oa_fill zz nI 16) := ⟨_, rfl⟩
  have hqQ : oa_QI V Q := by rw [hQ]; exact oa_jw_I hV 95 _ hqi
  have hbi := oa_b0_I (f := Q.1) (s := Q.2.1) (ad := ad) (ay := zz) (pl := zz) hV
  obtain ⟨B, hB⟩ : ∃ B, oa_aw reg Q.1 Q.2.1 Q.2.2.1 V nR 0 (oa_fill ad (fun _ => -1) V, zz, oa_fill zz (fun _ => 0) 16, 0) = B := ⟨_, rfl⟩
  obtain ⟨bi, _, ball⟩ := oa_aw_I (reg := reg) hV hqQ.1 nR 0 _ hbi
  rw [hB] at bi ball
  have hall : ∀ x, x < V → B.2.2.1 x ≠ 0 := by
    intro x hx
    obtain ⟨r, hr, er⟩ := i5 x hx
    exact ball x r hx (by omega) (by omega) er
  obtain ⟨p1, p2⟩ := oa_A_all bi.1 hall
  have pj := oa_A_inj bi.1 hall
  have p1' : ∀ v, v < V → ∃ a, a < V ∧ B.1 v = nI a := fun v hv => (p1 v hv).2
  have env : oa_env V nR (oa_ps sop cnt) reg acc B.1 := ⟨hV, i2.2, hn, i5, fun j hj => oa_SS_vr cnt i7 j hj, p1'⟩
  obtain ⟨K1, hK1⟩ : ∃ K1, oa_tb reg acc B.1 sop sa (oa_ps sop cnt) 0 cnt (oa_k0 nR 0 (op, rg, od, len, ld, kn, zz, zz) (oa_kz (op, rg, od, len, ld, kn, zz, zz))) = K1 := ⟨_, rfl⟩
  obtain ⟨K2, hK2⟩ : ∃ K2, oa_tb reg acc B.1 sop sa (oa_ps sop cnt) 1 cnt (oa_k0 nR 1 K1 (oa_kz K1)) = K2 := ⟨_, rfl⟩
  obtain ⟨L1, l1, k1⟩ := oa_tb_I (w := 0) i2.1 i4 i7 env (oa_k0_I (k := (op, rg, od, len, ld, kn, zz, zz)) (oa_kz_0 i2.2 (op, rg, od, len, ld, kn, zz, zz))) cnt (Nat.le_refl cnt)
  rw [hK1] at k1
  obtain ⟨L2, l2, k2⟩ := oa_tb_I (w := 1) i2.1 i4 i7 env (oa_k0_I (k := K1) (oa_kz_0 i2.2 K1)) cnt (Nat.le_refl cnt)
  rw [hK2] at k2
  have hC : ∀ w, w < 2 → ∃ L, L ≤ 192 ∧ oa_CI nR w L 32 K2.1 K2.2.1 K2.2.2.2.1 := by
    intro w hw
    have c : w = 0 ∨ w = 1 := by omega
    rcases c with rfl | rfl
    · exact ⟨L1, by omega, k2.1.2.1 0 L1 32 (by omega) (by omega) (oa_CI_up k1.1.1 i4)⟩
    · exact ⟨L2, by omega, oa_CI_up k2.1.1 i4⟩
  have c0 := oa_CR_mk (w := 0) (cell := fun v => v) i2.1 i4 i7 env (fun v hv => ⟨hv, if_pos rfl⟩) (fun x y _ _ e => e) (oa_kz_0 i2.2 (op, rg, od, len, ld, kn, zz, zz)) hK1
  have c0' := oa_CR_fr k1.1.1.1 (by omega) (k2.1.2.2 0 (by omega)) c0
  have c1 := oa_CR_mk (w := 1) (cell := fun v => (B.1 v).toNatClampNeg) i2.1 i4 i7 env (fun v hv => ⟨(oa_c1 hV p1' v hv).1, (if_neg (by omega)).trans (oa_c1 hV p1' v hv).2⟩) (oa_c1i hV p1' pj) (oa_kz_0 i2.2 K1) hK2
  have hl : K2.2.2.2.2.1 1 = nI (oa_lt reg acc B.1 (oa_ps sop cnt)) := by
    have t := (oa_LI_tb i7 env (oa_LI_0 (k := K1) (kk' := oa_kz K1)) cnt (Nat.le_refl cnt)).2
    rw [hK2] at t
    exact t
  refine xa_compile (k := (op, rg, od, len, ld, kn, zz, zz)) hV i2.1 i2.2 i4 i7 i6 hQ (oa_G_LR hqQ.1) hB env hK1 hK2 _ (hp _ _ ?_)
  exact oa_XI (ph := 1) (sop := sop) (sd := sd) (sa := sa) (sb := sb) ⟨i1, i2, by omega, i4, i5, i6, i7, fun _ => ⟨p1', pj, p2, hC, c0', c1, hl⟩, fun h => by omega⟩
theorem xb_run {V nR : Nat} {u : St2} (I : oa_X V nR u) (post : Int32 → St2 → Prop) (hp : ∀ r u', oa_X V nR u' → post r u') : wpX_run post u := by
  obtain ⟨ph, cnt, na, ac, reg, ini, st, acc, fol, wt, fl, sl, ch, ad, op, rg, od, len, ld, kn, mx, arx, out, ocx, sop, sd, sa, sb, rfl, I⟩ := I
  have I' := I
  obtain ⟨i1, i2, i3, i4, i5, i6, i7, i8, i9⟩ := I'
  have J := oa_XI (na := na) (ac := ac) (ini := ini) (fol := fol) (wt := wt) (fl := fl) (sl := sl) (ch := ch) (kn := kn) (arx := arx) I
  have hV : V ≤ 16 := i1.2
  unfold wpX_run
  dsimp only
  by_cases c0 : nI ph = 0
  · exact br_t c0 (hp _ _ J)
  have p0 : ph ≠ 0 := fun z => c0 (by rw [z]; rfl)
  obtain ⟨p1, pj, p2, hC, cr0, cr1, hl⟩ := i8 p0
  obtain ⟨L0, l0, ci0⟩ := hC 0 (by omega)
  obtain ⟨L1, l1, ci1⟩ := hC 1 (by omega)
  have cell1 := oa_c1 hV p1
  have inj1 := oa_c1i hV p1 pj
  have mi0 := oa_m0_I (w := 0) (nR := nR) (ini := ini) (op := op) (cell := fun v => v) (m := (mx, arx, ac, out, ocx, mx, arx, ocx)) hV i2.2 (fun _ _ _ _ => rfl) (fun v hv => hv) (fun a ha => ⟨a, ha, rfl⟩)
  obtain ⟨M0, hM0⟩ : ∃ M0, oa_xs V 0 op rg od L0 (oa_m0 nR 0 V (fun v => v) ini (mx, arx, ac, out, ocx, mx, arx, ocx)) = M0 := ⟨_, rfl⟩
  have me0 := oa_xs_I (rg := rg) (od := od) mi0 L0
  rw [hM0] at me0
  have mi1 := oa_m0_I (w := 1) (nR := nR) (ini := ini) (op := op) (cell := fun v => (ad v).toNatClampNeg) (m := M0) hV i2.2 me0.2.1 (fun v hv => (cell1 v hv).1) (fun a ha => by
    obtain ⟨v, hv, ev⟩ := p2 a ha
    exact ⟨v, hv, by show (ad v).toNatClampNeg = a; rw [ev]; exact nI_clamp (by omega)⟩)
  obtain ⟨M1, hM1⟩ : ∃ M1, oa_xs V 1 op rg od L1 (oa_m0 nR 1 V (fun v => (ad v).toNatClampNeg) ini M0) = M1 := ⟨_, rfl⟩
  have me1 := oa_xs_I (rg := rg) (od := od) mi1 L1
  rw [hM1] at me1
  have eL0 : (len 0).toNatClampNeg = L0 := by rw [ci0.1]; exact nI_clamp (by omega)
  have eL1 : (len 1).toNatClampNeg = L1 := by rw [ci1.1]; exact nI_clamp (by omega)
  obtain ⟨kn0, rp0⟩ := cr0 (oa_m0 nR 0 V (fun v => v) ini (mx, arx, ac, out, ocx, mx, arx, ocx)) ini (fun v hv => oa_mi_at (cell := fun v => v) V (fun x y _ _ e => e) v hv) rfl (pk_us : upd ocx 0 0 0 = 0)
  rw [eL0, hM0] at rp0
  obtain ⟨kn1, rp1⟩ := cr1 (oa_m0 nR 1 V (fun v => (ad v).toNatClampNeg) ini M0) ini (fun v hv => oa_mi_at (cell := fun v => (ad v).toNatClampNeg) V inj1 v hv) rfl (pk_us : upd M0.2.2.2.2.1 1 0 1 = 0)
  rw [eL1, hM1] at rp1
  have hq := oa_sn_n (s := (ini, 0, (fun _ => 0), 0)) i7 cnt (Nat.le_refl cnt)
  generalize oa_sn acc sop sa cnt (ini, 0, (fun _ => 0), 0) = S at rp0 rp1 hq
  have hq' : S.2.2.2 ≤ 32 := by
    have : S.2.2.2 ≤ 0 + cnt := hq
    omega
  have fr := oa_xs_f (V := V) (op := op) (rg := rg) (od := od) (m := oa_m0 nR 1 V (fun v => (ad v).toNatClampNeg) ini M0) L1
  rw [hM1] at fr
  have wr : oa_WR V ad M1.1 M1.2.2.2.1 M1.2.2.2.2.1 := by
    refine ⟨S.2.2.2, hq', ?_, rp1.2.2.1, fun j hj => ?_, fun v hv => ?_⟩
    · rw [(me1.2.2.2.2 0 (by omega)).1]
      exact rp0.2.2.1
    · rw [rp1.2.2.2.1 j hj, fr.2 (32 * 0 + j) (by omega)]
      exact rp0.2.2.2.1 j hj
    · rw [rp1.1 v hv, fr.1 (16 * 0 + v) (by omega)]
      show oa_mi M0.1 (16 * 1) (fun v => (ad v).toNatClampNeg) ini V (16 * 0 + v) = S.1 v
      rw [oa_mi_out V (fun x _ => by show 16 * 0 + v ≠ 16 * 1 + (ad x).toNatClampNeg; omega)]
      exact rp0.1 v hv
  refine br_f c0 ?_
  refine xa_rp (w := 0) (m := (mx, arx, ac, out, ocx, mx, arx, ocx)) hV i2.2 (by omega) l0 ci0 (fun v hv => ⟨hv, if_pos rfl⟩) mi0 _ hM0 ?_
  refine xa_rp (w := 1) (m := M0) hV i2.2 (by omega) l1 ci1 (fun v hv => ⟨(cell1 v hv).1, (if_neg (by omega)).trans (cell1 v hv).2⟩) mi1 _ hM1 ?_
  exact hp _ _ (oa_XI (ph := 2) (sop := sop) (sd := sd) (sa := sa) (sb := sb) ⟨i1, i2, by omega, i4, i5, i6, i7, fun _ => ⟨p1, pj, p2, hC, cr0, cr1, hl⟩, fun _ => wr⟩)
end
section
/-! for the law: remainders, distances, a register's scan -/
theorem oa_z0 : (0 : Int32).toInt = 0 := by decide
theorem oa_md (x : Int32) {k : Nat} (h0 : 0 < k) (hk : k < 2 ^ 30) :
    ∃ j, j < k ∧ ((x - x / nI k * nI k < 0 ∧ x - x / nI k * nI k + nI k = nI j) ∨ (¬ x - x / nI k * nI k < 0 ∧ x - x / nI k * nI k = nI j)) := by
  have tk : (nI k).toInt = (k : Int) := nI_toInt (by omega)
  have b1 := Int.lt_tmod_of_pos x.toInt (show (0 : Int) < k by omega)
  have b2 := Int.tmod_lt_of_pos x.toInt (show (0 : Int) < k by omega)
  have e : (x - x / nI k * nI k).toInt = x.toInt.tmod k := by
    rw [Int32.toInt_sub, Int32.toInt_mul, Int32.toInt_div, Int.bmod_mul_bmod, Int.sub_bmod_bmod, Int.mul_comm (x.toInt.tdiv (nI k).toInt), ← Int.tmod_def, tk]
    exact Int.bmod_eq_of_le_mul_two (by omega) (by omega)
  rw [← e] at b1 b2
  generalize x - x / nI k * nI k = y at b1 b2 ⊢
  by_cases c : y < 0
  · have c' : y.toInt < 0 := by
      rw [Int32.lt_iff_toInt_lt, oa_z0] at c
      exact c
    refine ⟨(y.toInt + k).toNat, by omega, Or.inl ⟨c, ?_⟩⟩
    apply Int32.toInt_inj.mp
    rw [Int32.toInt_add, tk, nI_toInt (by omega), Int.bmod_eq_of_le_mul_two (by omega) (by omega)]
    omega
  · have c' : ¬ y.toInt < 0 := fun h => c (by rw [Int32.lt_iff_toInt_lt, oa_z0]; exact h)
    refine ⟨y.toInt.toNat, by omega, Or.inr ⟨c, ?_⟩⟩
    apply Int32.toInt_inj.mp
    rw [nI_toInt (by omega)]
    omega
theorem oa_ab {a b : Nat} (ha : a < 2 ^ 30) (hb : b < 2 ^ 30) :
    (¬ lN a - lN b < 0 ∧ (lN a - lN b).toInt32 = nI (oa_ds a b)) ∨ (lN a - lN b < 0 ∧ (-(lN a - lN b)).toInt32 = nI (oa_ds a b)) := by
  by_cases h : b ≤ a
  · have ed : oa_ds a b = a - b := by
      unfold oa_ds
      omega
    refine Or.inl ⟨fun z => ?_, ?_⟩
    · rw [lN_sub h, show (0 : Int64) = lN 0 from rfl, pk_lLT (by omega) (by omega)] at z
      omega
    · rw [lN_sub h, lN_i, ed]
  · have ed : oa_ds a b = b - a := by
      unfold oa_ds
      omega
    refine Or.inr ⟨?_, ?_⟩
    · rw [Int64.lt_iff_toInt_lt, Int64.toInt_sub, pk_lT (show a < 2 ^ 63 by omega), pk_lT (show b < 2 ^ 63 by omega), Int.bmod_eq_of_le_mul_two (by omega) (by omega), show (0 : Int64).toInt = 0 from by decide]
      omega
    · rw [Int64.neg_sub, lN_sub (by omega), lN_i, ed]
section
variable {reg acc ad : Nat → Int32} {r : Int32} {P : Nat}
theorem oa_lr_ne (h : ¬ reg (acc P).toNatClampNeg = r) : oa_lr reg acc ad r (P + 1) = oa_lr reg acc ad r P ∧ oa_pv reg acc r (P + 1) = oa_pv reg acc r P := by
  have n1 : ¬ (reg (acc P).toNatClampNeg = r ∧ oa_lj reg acc ad P) := fun z => h z.1
  rw [oa_lr, if_neg n1, oa_pv, if_neg h]
  exact ⟨rfl, rfl⟩
theorem oa_pv_e (h : reg (acc P).toNatClampNeg = r) : oa_pv reg acc r (P + 1) = acc P := by
  rw [oa_pv, if_pos h]
theorem oa_lr_t (h : reg (acc P).toNatClampNeg = r) (l : oa_pv reg acc r P = -1 ∨ 1 < oa_ds (ad (oa_pv reg acc r P).toNatClampNeg).toNatClampNeg (ad (acc P).toNatClampNeg).toNatClampNeg) : oa_lr reg acc ad r (P + 1) = oa_lr reg acc ad r P + 1 := by
  subst h
  have p1 : reg (acc P).toNatClampNeg = reg (acc P).toNatClampNeg ∧ oa_lj reg acc ad P := ⟨rfl, l⟩
  rw [oa_lr, if_pos p1]
theorem oa_lr_f (h : reg (acc P).toNatClampNeg = r) (l : ¬ (oa_pv reg acc r P = -1 ∨ 1 < oa_ds (ad (oa_pv reg acc r P).toNatClampNeg).toNatClampNeg (ad (acc P).toNatClampNeg).toNatClampNeg)) : oa_lr reg acc ad r (P + 1) = oa_lr reg acc ad r P := by
  subst h
  have n1 : ¬ (reg (acc P).toNatClampNeg = reg (acc P).toNatClampNeg ∧ oa_lj reg acc ad P) := fun z => l z.2
  rw [oa_lr, if_neg n1, Nat.add_zero]
end
/-- what is before a position is nothing, or an access -/
theorem oa_pv_a {reg acc : Nat → Int32} {r : Int32} : ∀ n, oa_pv reg acc r n = -1 ∨ ∃ i, i < n ∧ oa_pv reg acc r n = acc i := by
  intro n
  induction n with
  | zero => exact Or.inl rfl
  | succ n ih =>
    rw [oa_pv]
    by_cases h : reg (acc n).toNatClampNeg = r
    · rw [if_pos h]; exact Or.inr ⟨n, Nat.lt_succ_self n, rfl⟩
    · rw [if_neg h]
      rcases ih with ih | ⟨i, hi, e⟩
      · exact Or.inl ih
      · exact Or.inr ⟨i, by omega, e⟩
/-- access j of a statement, as the law asks for it -/
def oa_av1 (o : Int32) (P : Nat → Int32) (p j : Nat) : Int32 := if j < oa_na o then P (p + j) else -1
theorem oa_av1_t {o : Int32} {P : Nat → Int32} {p j : Nat} (h : j < oa_na o) : oa_av1 o P p j = P (p + j) := if_pos h
theorem oa_av1_f {o : Int32} {P : Nat → Int32} {p j : Nat} (h : ¬ j < oa_na o) : oa_av1 o P p j = -1 := if_neg h
end
section
/-! the law's small methods -/
theorem lw_cell {L k : Nat} {xs : Nat → Int32} {p : Int32} (hL : L < 2 ^ 31) (hk : k < 2 ^ 31) (e : p = nI k) (post : Int32 → Prop) (hp : ∀ x, post x) : wpL_cell post L xs () p := by
  subst e
  refine br_c (fun _ => hp _) (fun c => ⟨?_, hp _⟩)
  have h : ¬ L ≤ k := fun z => c (nI_le z hk)
  exact vp_in_nI (by omega) hL
theorem lw_mod {x p : Int32} {k : Nat} (h0 : 0 < k) (hk : k < 2 ^ 30) (e : p = nI k) (post : Int32 → Prop) (hp : ∀ j, j < k → post (nI j)) : wpL_mod post () x p := by
  subst e
  obtain ⟨j, hj, h⟩ := oa_md x h0 hk
  refine ⟨nI_ne0 h0 (by omega), nm_e ?_⟩
  rcases h with ⟨h1, h2⟩ | ⟨h1, h2⟩
  · refine br_f (Int32.not_le.mpr h1) ?_
    rw [h2]
    exact hp j hj
  · refine br_t (Int32.not_lt.mp h1) ?_
    rw [h2]
    exact hp j hj
theorem lw_ab {a b : Nat} (ha : a < 2 ^ 30) (hb : b < 2 ^ 30) (post : Int32 → Prop) (hp : post (nI (oa_ds a b))) : wpL_absDiff post () (nI a) (nI b) := by
  refine nm_r (show _ = lN a - lN b by rw [nI_l (by omega), nI_l (by omega)]) ?_
  rcases oa_ab ha hb with ⟨h1, h2⟩ | ⟨h1, h2⟩
  · refine br_t (Int64.not_lt.mp h1) ?_
    rw [h2]
    exact hp
  · refine br_f (Int64.not_le.mpr h1) ?_
    rw [h2]
    exact hp
theorem lw_av {V p j : Nat} {o d a b : Int32} {P : Nat → Int32} (st : oa_ST V o d a b P p) (hj : j < 3) (post : Int32 → Prop) (hp : post (oa_av1 o P p j)) : wpL_accessVar post () o d a b (nI j) := by
  have jj : j = 0 ∨ j = 1 ∨ j = 2 := by omega
  rcases st with ⟨z, hz, rfl, _, _, _, h4, h5, h6⟩ | ⟨rfl, _, _, h3, h4⟩ | ⟨rfl, _, h2⟩ | ⟨rfl, _, h2⟩
  · have hn := oa_na5 hz
    refine br_f (nI_pos (by omega)) (br_f (nI_nlt (a := 5) hz (by decide)) ?_)
    rcases jj with rfl | rfl | rfl
    · rw [oa_av1_t (by rw [hn]; omega), Nat.add_zero, h4] at hp
      exact br_t rfl hp
    · rw [oa_av1_t (by rw [hn]; omega), h5] at hp
      exact br_f (by decide) (br_t rfl hp)
    · rw [oa_av1_t (by rw [hn]; omega), h6] at hp
      exact br_f (by decide) (br_f (by decide) hp)
  · refine br_f (by decide) (br_t (by decide) (br_t rfl ?_))
    rcases jj with rfl | rfl | rfl
    · rw [oa_av1_t (by decide), Nat.add_zero, h3] at hp
      exact br_t rfl hp
    · rw [oa_av1_t (by decide), h4] at hp
      exact br_f (by decide) (br_t rfl hp)
    · rw [oa_av1_f (by decide)] at hp
      exact br_f (by decide) (br_f (by decide) hp)
  · refine br_f (by decide) (br_t (by decide) (br_f (by decide) (br_t rfl ?_)))
    rcases jj with rfl | rfl | rfl
    · rw [oa_av1_t (by decide), Nat.add_zero, h2] at hp
      exact br_t rfl hp
    · rw [oa_av1_f (by decide)] at hp
      exact br_f (by decide) hp
    · rw [oa_av1_f (by decide)] at hp
      exact br_f (by decide) hp
  · refine br_f (by decide) (br_t (by decide) (br_f (by decide) (br_f (by decide) (br_t rfl ?_))))
    rcases jj with rfl | rfl | rfl
    · rw [oa_av1_t (by decide), Nat.add_zero, h2] at hp
      exact br_t rfl hp
    · rw [oa_av1_f (by decide)] at hp
      exact br_f (by decide) hp
    · rw [oa_av1_f (by decide)] at hp
      exact br_f (by decide) hp
end
section
/-! the law's checks after a turn -/
section
variable {post : Int32 → Prop} {L : Nat} {xs : Nat → Int32} {J60 : Int32 → Int32 → Int32 → Int32 → Int32 → Int32 → Int32 → Int32 → (Nat → Int32) → (Nat → Int32) → (Nat → Int32) → (Nat → Int32) → (Nat → Int32) → (Nat → Int32) → (Nat → Int32) → (Nat → Int32) → (Nat → Int32) → (Nat → Int32) → (Nat → Int32) → (Nat → Int32) → (Nat → Int32) → (Nat → Int32) → (Nat → Int32) → (Nat → Int32) → (Nat → Int32) → (Nat → Int32) → (Nat → Int32) → (Nat → Int32) → Prop} {x4 x5 : Int32} {kc ks : Nat} {V nR ph cnt : Nat} {na ac : Int32} {reg ini st acc fol wt fl sl ch ad op rg od len ld kn mx arx out ocx sop sd sa sb : Nat → Int32}
theorem lw_498 {J440 : Int32 → Int32 → Prop} {J452 : Int32 → Int32 → Int32 → Prop} {x7 x8 : Int32} {r i p n E : Nat} {o d a b : Int32} (hV : V ≤ 16) (c0 : ¬ nI ph = 0) (s1 : oa_ST V o d a b acc p) (hn : p + oa_na o ≤ n) (ha : ∀ j, j < n → oa_vr V (acc j)) (p1 : ∀ v, v < V → ∃ a, a < V ∧ ad v = nI a)
    (hJ : J452 (nI (E + oa_lr reg acc ad (nI r) (p + oa_na o))) (oa_pv reg acc (nI r) (p + oa_na o)) (nI (i + 1))) :
    ∀ dd j fu, j + dd = 3 → dd < fu → wL_law_498 post L xs J60 J440 J452 (nI V) (nI nR) x4 x5 x7 x8 (nI r) (nI i) o d a b kc ks (nI V) (nI nR) (nI ph) (nI cnt) (nI (oa_ps sop cnt)) na ac reg ini st acc fol wt fl sl ch ad op rg od len ld kn mx arx out ocx fu (nI (E + oa_lr reg acc ad (nI r) (p + min j (oa_na o)))) (oa_pv reg acc (nI r) (p + min j (oa_na o))) (nI j) := by
  have na3 := oa_na_le o
  intro dd
  induction dd with
  | zero =>
    intro j fu hj hf
    obtain ⟨fu, rfl⟩ : ∃ f, fu = f + 1 := ⟨fu - 1, by omega⟩
    have e3 : j = 3 := by omega
    subst e3
    rw [show min 3 (oa_na o) = oa_na o by omega]
    exact br_t (nI_le (a := 3) (b := 3) (by omega) (by omega)) (nm_r (nI_1 i) hJ)
  | succ dd ih =>
    intro j fu hj hf
    obtain ⟨fu, rfl⟩ : ∃ f, fu = f + 1 := ⟨fu - 1, by omega⟩
    have nx := ih (j + 1) fu (by omega) (by omega)
    refine br_f (nI_ge (b := 3) (by omega) (by omega)) (lw_av s1 (by omega) _ ?_)
    by_cases c : j < oa_na o
    · rw [show min (j + 1) (oa_na o) = j + 1 by omega, show p + (j + 1) = p + j + 1 from rfl] at nx
      rw [oa_av1_t c, show min j (oa_na o) = j by omega]
      obtain ⟨v, hv, ev⟩ := ha (p + j) (by omega)
      have cv : (acc (p + j)).toNatClampNeg = v := by
        rw [ev]
        exact nI_clamp (by omega)
      rw [ev]
      refine br_t (nI_pos' (by omega)) (xg_vr hV hv rfl _ ?_)
      by_cases cr : reg v = nI r
      · have er : reg (acc (p + j)).toNatClampNeg = nI r := by
          rw [cv]
          exact cr
        rw [oa_pv_e er, ev] at nx
        refine br_t cr ?_
        by_cases cp : oa_pv reg acc (nI r) (p + j) = -1
        · rw [oa_lr_t er (Or.inl cp)] at nx
          refine br_f (by rw [cp]; decide) (nm_r (nI_1 _) (nm_r (nI_1 j) ?_))
          exact nx
        · obtain ⟨i', hi', ei⟩ := (oa_pv_a (reg := reg) (acc := acc) (r := nI r) (p + j)).resolve_left cp
          obtain ⟨v', hv', ev'⟩ := ha i' (by omega)
          have ep : oa_pv reg acc (nI r) (p + j) = nI v' := ei.trans ev'
          obtain ⟨a', ha', ea'⟩ := p1 v' hv'
          obtain ⟨b', hb', eb'⟩ := p1 v hv
          have ed : oa_ds (ad (oa_pv reg acc (nI r) (p + j)).toNatClampNeg).toNatClampNeg (ad (acc (p + j)).toNatClampNeg).toNatClampNeg = oa_ds a' b' := by
            rw [ep, cv, nI_clamp (show v' < 2 ^ 31 by omega), ea', eb', nI_clamp (show a' < 2 ^ 31 by omega), nI_clamp (show b' < 2 ^ 31 by omega)]
          by_cases cl : oa_ds a' b' ≤ 1
          · have nl : ¬ (oa_pv reg acc (nI r) (p + j) = -1 ∨ 1 < oa_ds (ad (oa_pv reg acc (nI r) (p + j)).toNatClampNeg).toNatClampNeg (ad (acc (p + j)).toNatClampNeg).toNatClampNeg) := by
              rw [ed]
              rintro (z | z)
              · exact cp z
              · omega
            rw [oa_lr_f er nl] at nx
            rw [ep]
            exact br_t (nI_pos' (by omega)) (xg_ad hV hv' c0 ea' _ (xg_ad hV hv c0 eb' _ (lw_ab (by omega) (by omega) _ (br_t (nI_le (b := 1) cl (by decide)) (nm_r (nI_1 j) nx)))))
          · have yl : oa_pv reg acc (nI r) (p + j) = -1 ∨ 1 < oa_ds (ad (oa_pv reg acc (nI r) (p + j)).toNatClampNeg).toNatClampNeg (ad (acc (p + j)).toNatClampNeg).toNatClampNeg := by
              rw [ed]
              exact Or.inr (by omega)
            have hds : oa_ds a' b' < 2 ^ 31 := by
              unfold oa_ds
              omega
            rw [oa_lr_t er yl] at nx
            rw [ep]
            exact br_t (nI_pos' (by omega)) (xg_ad hV hv' c0 ea' _ (xg_ad hV hv c0 eb' _ (lw_ab (by omega) (by omega) _ (br_f (nI_ge (a := 1) (by omega) hds) (nm_r (nI_1 _) (nm_r (nI_1 j) nx))))))
      · have er : ¬ reg (acc (p + j)).toNatClampNeg = nI r := by
          rw [cv]
          exact cr
        obtain ⟨f1, f2⟩ := oa_lr_ne (ad := ad) er
        rw [f1, f2] at nx
        exact br_f cr (nm_r (nI_1 j) nx)
    · rw [show min (j + 1) (oa_na o) = min j (oa_na o) by omega] at nx
      rw [oa_av1_f c]
      exact br_f (by decide) (nm_r (nI_1 j) nx)
theorem lw_452 {J440 : Int32 → Int32 → Prop} {x7 : Int32} {r E : Nat} (hV : V ≤ 16) (hc : cnt ≤ 32) (c0 : ¬ nI ph = 0) (sr : oa_SR st sop sd sa sb) (ss : oa_SS V cnt sop sd sa sb acc) (p1 : ∀ v, v < V → ∃ a, a < V ∧ ad v = nI a)
    (hJ : J440 (nI (E + oa_lr reg acc ad (nI r) (oa_ps sop cnt))) (nI (r + 1))) :
    ∀ dd i fu, i + dd = cnt → dd < fu → wL_law_452 post L xs J60 J440 (nI V) (nI nR) x4 x5 x7 (nI cnt) (nI r) kc ks (nI V) (nI nR) (nI ph) (nI cnt) (nI (oa_ps sop cnt)) na ac reg ini st acc fol wt fl sl ch ad op rg od len ld kn mx arx out ocx fu (nI (E + oa_lr reg acc ad (nI r) (oa_ps sop i))) (oa_pv reg acc (nI r) (oa_ps sop i)) (nI i) := by
  intro dd
  induction dd with
  | zero =>
    intro i fu hi hf
    obtain ⟨fu, rfl⟩ : ∃ f, fu = f + 1 := ⟨fu - 1, by omega⟩
    have e : i = cnt := by omega
    subst e
    exact br_t (nI_le (by omega) (by omega)) (nm_r (nI_1 r) hJ)
  | succ dd ih =>
    intro i fu hi hf
    obtain ⟨fu, rfl⟩ : ∃ f, fu = f + 1 := ⟨fu - 1, by omega⟩
    have nx := ih (i + 1) fu (by omega) (by omega)
    have s4 := sr i (by omega)
    have hn : oa_ps sop i + oa_na (sop i) ≤ oa_ps sop cnt := oa_ps_mono sop cnt (i + 1) (by omega)
    refine br_f (nI_ge (by omega) (by omega)) ?_
    refine xg_st (f := 0) hc (by omega) (by omega) s4.1 _ ?_
    refine xg_st (f := 1) hc (by omega) (by omega) s4.2.1 _ ?_
    refine xg_st (f := 2) hc (by omega) (by omega) s4.2.2.1 _ ?_
    refine xg_st (f := 3) hc (by omega) (by omega) s4.2.2.2 _ ?_
    have h := lw_498 (post := post) (L := L) (xs := xs) (J60 := J60) (J440 := J440) (x4 := x4) (x5 := x5) (kc := kc) (ks := ks) (nR := nR) (cnt := cnt) (na := na) (ac := ac) (ini := ini) (st := st) (fol := fol) (wt := wt) (fl := fl) (sl := sl) (ch := ch) (op := op) (rg := rg) (od := od) (len := len) (ld := ld) (kn := kn) (mx := mx) (arx := arx) (out := out) (ocx := ocx) (sop := sop) (x7 := x7) (x8 := nI cnt) hV c0 (ss i (by omega)) hn (fun j hj => oa_SS_vr cnt ss j hj) p1 nx 3 0 4 (by omega) (by omega)
    rw [Nat.zero_min, Nat.add_zero] at h
    exact ⟨4, h⟩
theorem lw_440 (hV : V ≤ 16) (hR : nR ≤ 4) (hc : cnt ≤ 32) (c0 : ¬ nI ph = 0) (hr : ∀ v, v < V → ∃ r, r < nR ∧ reg v = nI r) (sr : oa_SR st sop sd sa sb) (ss : oa_SS V cnt sop sd sa sb acc) (p1 : ∀ v, v < V → ∃ a, a < V ∧ ad v = nI a)
    (hJ : J60 (x5 + 1) (nI V) (nI nR) (nI ph) (nI cnt) (nI (oa_ps sop cnt)) na ac reg ini st acc fol wt fl sl ch ad op rg od len ld kn mx arx out ocx) :
    ∀ dd r fu, r + dd = nR → dd < fu → wL_law_440 post L xs J60 (nI V) (nI nR) x4 x5 (nI (oa_lt reg acc ad (oa_ps sop cnt))) (nI cnt) kc ks (nI V) (nI nR) (nI ph) (nI cnt) (nI (oa_ps sop cnt)) na ac reg ini st acc fol wt fl sl ch ad op rg od len ld kn mx arx out ocx fu (nI (oa_sr reg acc ad (oa_ps sop cnt) r)) (nI r) := by
  intro dd
  induction dd with
  | zero =>
    intro r fu hi hf
    obtain ⟨fu, rfl⟩ : ∃ f, fu = f + 1 := ⟨fu - 1, by omega⟩
    have e : r = nR := by omega
    have h : ∀ j, j < oa_ps sop cnt → ∃ r', r' < nR ∧ reg (acc j).toNatClampNeg = nI r' := by
      intro j hj
      obtain ⟨v, hv, ev⟩ := oa_SS_vr cnt ss j hj
      rw [ev, nI_clamp (by omega)]
      exact hr v hv
    have es := oa_sr_lt (ad := ad) (show nR < 2 ^ 31 by omega) h (oa_ps sop cnt) (Nat.le_refl _)
    exact br_t (nI_le (by omega) (by omega)) (br_t (by rw [e, es]) (nm_e hJ))
  | succ dd ih =>
    intro r fu hi hf
    obtain ⟨fu, rfl⟩ : ∃ f, fu = f + 1 := ⟨fu - 1, by omega⟩
    have nx := ih (r + 1) fu (by omega) (by omega)
    have h := lw_452 (post := post) (L := L) (xs := xs) (J60 := J60) (x4 := x4) (x5 := x5) (kc := kc) (ks := ks) (nR := nR) (na := na) (ac := ac) (ini := ini) (fol := fol) (wt := wt) (fl := fl) (sl := sl) (ch := ch) (op := op) (rg := rg) (od := od) (len := len) (ld := ld) (kn := kn) (mx := mx) (arx := arx) (out := out) (ocx := ocx) (x7 := nI (oa_lt reg acc ad (oa_ps sop cnt))) (E := oa_sr reg acc ad (oa_ps sop cnt) r) hV hc c0 sr ss p1 nx cnt 0 (cnt + 1) (by omega) (by omega)
    have z1 : oa_lr reg acc ad (nI r) (oa_ps sop 0) = 0 := rfl
    have z2 : oa_pv reg acc (nI r) (oa_ps sop 0) = -1 := rfl
    rw [z1, z2, Nat.add_zero] at h
    exact br_f (nI_ge (by omega) (by omega)) ⟨cnt + 1, h⟩
theorem lw_413 (h : oa_W V nR ph cnt reg st acc ad op rg od len ld mx out ocx sop sd sa sb) (hJ : J60 (x5 + 1) (nI V) (nI nR) (nI ph) (nI cnt) (nI (oa_ps sop cnt)) na ac reg ini st acc fol wt fl sl ch ad op rg od len ld kn mx arx out ocx) : wL_law_413 post L xs J60 (nI V) (nI nR) x4 x5 kc ks (nI V) (nI nR) (nI ph) (nI cnt) (nI (oa_ps sop cnt)) na ac reg ini st acc fol wt fl sl ch ad op rg od len ld kn mx arx out ocx := by
  obtain ⟨i1, i2, i3, i4, i5, i6, i7, i8, i9⟩ := h
  unfold wL_law_413
  by_cases c0 : nI ph = 0
  · exact xg_al0 c0 _ (br_t rfl (nm_e hJ))
  · have p0 : ph ≠ 0 := fun z => c0 (by rw [z]; rfl)
    obtain ⟨p1, pj, p2, hC, cr0, cr1, hl⟩ := i8 p0
    have hle := oa_lt_le reg acc ad (oa_ps sop cnt)
    have hps := oa_ps_le sop cnt
    refine xg_al (w := 1) (by omega) c0 hl _ (br_f (oa_ne (by omega)) (xg_sc _ ⟨nR + 1, ?_⟩))
    have g := lw_440 (post := post) (L := L) (xs := xs) (x4 := x4) (kc := kc) (ks := ks) i1.2 i2.2 i4 c0 i5 i6 i7 p1 hJ nR 0 (nR + 1) (by omega) (by omega)
    rw [show oa_sr reg acc ad (oa_ps sop cnt) 0 = 0 from rfl] at g
    exact g
theorem lw_382 (hV : V ≤ 16) (c2 : nI ph = 2) (p1 : ∀ v, v < V → ∃ a, a < V ∧ ad v = nI a) (hm : ∀ v, v < V → mx (16 * 0 + v) = mx (16 * 1 + (ad v).toNatClampNeg))
    (h : wL_law_413 post L xs J60 (nI V) (nI nR) x4 x5 kc ks (nI V) (nI nR) (nI ph) (nI cnt) (nI (oa_ps sop cnt)) na ac reg ini st acc fol wt fl sl ch ad op rg od len ld kn mx arx out ocx) :
    ∀ dd v fu, v + dd = V → dd < fu → wL_law_382 post L xs J60 (nI V) (nI nR) x4 x5 kc ks (nI V) (nI nR) (nI ph) (nI cnt) (nI (oa_ps sop cnt)) na ac reg ini st acc fol wt fl sl ch ad op rg od len ld kn mx arx out ocx fu (nI v) := by
  intro dd
  induction dd with
  | zero =>
    intro v fu hi hf
    obtain ⟨fu, rfl⟩ : ∃ f, fu = f + 1 := ⟨fu - 1, by omega⟩
    exact br_t (nI_le (by omega) (by omega)) h
  | succ dd ih =>
    intro v fu hi hf
    obtain ⟨fu, rfl⟩ : ∃ f, fu = f + 1 := ⟨fu - 1, by omega⟩
    have c1 := oa_c1 hV p1 v (by omega)
    have nx := ih (v + 1) fu (by omega) (by omega)
    refine br_f (nI_ge (by omega) (by omega)) ?_
    refine xg_va (w := 0) (c := v) hV (by omega) (by omega) c2 (if_pos rfl) (by omega) (hm v (by omega)) _ ?_
    refine xg_va (w := 1) (c := (ad v).toNatClampNeg) hV (by omega) (by omega) c2 ((if_neg (by omega)).trans c1.2) (by omega) rfl _ ?_
    exact br_t rfl (nm_r (nI_1 v) nx)
theorem lw_347 {q : Nat} (c2 : nI ph = 2) (hq : q ≤ 32) (q0 : ocx 0 = nI q) (q1 : ocx 1 = nI q) (ho : ∀ j, j < q → out (32 * 0 + j) = out (32 * 1 + j))
    (h : ∃ f, wL_law_382 post L xs J60 (nI V) (nI nR) x4 x5 kc ks (nI V) (nI nR) (nI ph) (nI cnt) (nI (oa_ps sop cnt)) na ac reg ini st acc fol wt fl sl ch ad op rg od len ld kn mx arx out ocx f 0) :
    ∀ dd j fu, j + dd = q → dd < fu → wL_law_347 post L xs J60 (nI V) (nI nR) x4 x5 (nI q) kc ks (nI V) (nI nR) (nI ph) (nI cnt) (nI (oa_ps sop cnt)) na ac reg ini st acc fol wt fl sl ch ad op rg od len ld kn mx arx out ocx fu (nI j) := by
  intro dd
  induction dd with
  | zero =>
    intro j fu hi hf
    obtain ⟨fu, rfl⟩ : ∃ f, fu = f + 1 := ⟨fu - 1, by omega⟩
    exact br_t (nI_le (by omega) (by omega)) h
  | succ dd ih =>
    intro j fu hi hf
    obtain ⟨fu, rfl⟩ : ∃ f, fu = f + 1 := ⟨fu - 1, by omega⟩
    have nx := ih (j + 1) fu (by omega) (by omega)
    refine br_f (nI_ge (by omega) (by omega)) ?_
    refine xg_ou (w := 0) (by omega) c2 q0 hq (by omega) (ho j (by omega)) _ ?_
    refine xg_ou (w := 1) (by omega) c2 q1 hq (by omega) rfl _ ?_
    exact br_t rfl (nm_r (nI_1 j) nx)
theorem lw_319 (h : oa_W V nR ph cnt reg st acc ad op rg od len ld mx out ocx sop sd sa sb) (hJ : J60 (x5 + 1) (nI V) (nI nR) (nI ph) (nI cnt) (nI (oa_ps sop cnt)) na ac reg ini st acc fol wt fl sl ch ad op rg od len ld kn mx arx out ocx) : wL_law_319 post L xs J60 (nI V) (nI nR) x4 x5 kc ks (nI V) (nI nR) (nI ph) (nI cnt) (nI (oa_ps sop cnt)) na ac reg ini st acc fol wt fl sl ch ad op rg od len ld kn mx arx out ocx := by
  have h413 := lw_413 (post := post) (L := L) (xs := xs) (x4 := x4) (kc := kc) (ks := ks) h hJ
  obtain ⟨i1, i2, i3, i4, i5, i6, i7, i8, i9⟩ := h
  unfold wL_law_319
  by_cases c2 : nI ph = 2
  · have p2 : ph = 2 := oa_inj (b := 2) (by omega) (by omega) c2
    obtain ⟨q, hq, q0, q1, ho, hm⟩ := i9 p2
    have p1 := (i8 (by omega)).1
    refine xg_oc2 (w := 1) (by omega) c2 q1 _ (br_f (oa_ne (by omega)) ?_)
    refine xg_oc2 (w := 0) (by omega) c2 q0 _ (br_t rfl ⟨q + 1, ?_⟩)
    exact lw_347 c2 hq q0 q1 ho ⟨V + 1, lw_382 i1.2 c2 p1 hm h413 V 0 (V + 1) (by omega) (by omega)⟩ q 0 (q + 1) (by omega) (by omega)
  · exact xg_oc0 c2 _ (br_t rfl h413)
theorem lw_296 (h : oa_W V nR ph cnt reg st acc ad op rg od len ld mx out ocx sop sd sa sb) (hJ : J60 (x5 + 1) (nI V) (nI nR) (nI ph) (nI cnt) (nI (oa_ps sop cnt)) na ac reg ini st acc fol wt fl sl ch ad op rg od len ld kn mx arx out ocx) : wL_law_296 post L xs J60 (nI V) (nI nR) x4 x5 kc ks (nI V) (nI nR) (nI ph) (nI cnt) (nI (oa_ps sop cnt)) na ac reg ini st acc fol wt fl sl ch ad op rg od len ld kn mx arx out ocx := by
  unfold wL_law_296
  exact lw_319 h hJ
end
end
section
/-! the law's turns -/
section
variable {post : Int32 → Prop} {L : Nat} {xs : Nat → Int32} {kc ks : Nat} {V nR : Nat}
theorem lw_170 {J60 : Int32 → Int32 → Int32 → Int32 → Int32 → Int32 → Int32 → Int32 → (Nat → Int32) → (Nat → Int32) → (Nat → Int32) → (Nat → Int32) → (Nat → Int32) → (Nat → Int32) → (Nat → Int32) → (Nat → Int32) → (Nat → Int32) → (Nat → Int32) → (Nat → Int32) → (Nat → Int32) → (Nat → Int32) → (Nat → Int32) → (Nat → Int32) → (Nat → Int32) → (Nat → Int32) → (Nat → Int32) → (Nat → Int32) → (Nat → Int32) → Prop} {x4 x5 x9 x11 x12 z0 : Int32} {ph cnt : Nat} {na ac : Int32} {reg ini st acc fol wt fl sl ch ad op rg od len ld kn mx arx out ocx sop sd sa sb : Nat → Int32} (h : oa_W V nR ph cnt reg st acc ad op rg od len ld mx out ocx sop sd sa sb)
    (nx : ∀ {ph cnt : Nat} {na ac : Int32} {reg ini st acc fol wt fl sl ch ad op rg od len ld kn mx arx out ocx sop sd sa sb : Nat → Int32}, oa_W V nR ph cnt reg st acc ad op rg od len ld mx out ocx sop sd sa sb → J60 (x5 + 1) (nI V) (nI nR) (nI ph) (nI cnt) (nI (oa_ps sop cnt)) na ac reg ini st acc fol wt fl sl ch ad op rg od len ld kn mx arx out ocx) :
    wL_law_170 post L xs J60 (nI V) (nI nR) x4 x5 x9 x11 x12 z0 kc ks (nI V) (nI nR) (nI ph) (nI cnt) (nI (oa_ps sop cnt)) na ac reg ini st acc fol wt fl sl ch ad op rg od len ld kn mx arx out ocx := by
  have I := oa_XI (na := na) (ac := ac) (ini := ini) (fol := fol) (wt := wt) (fl := fl) (sl := sl) (ch := ch) (kn := kn) (arx := arx) h
  have v1 := h.1
  unfold wL_law_170
  refine lw_mod (k := V) (by omega) (by omega) rfl _ (fun d _ => ?_)
  refine lw_mod (k := V) (by omega) (by omega) rfl _ (fun b _ => ?_)
  exact xb_add I _ _ _ _ _ (fun _ u' I' => by
    obtain ⟨ph, cnt, na, ac, reg, ini, st, acc, fol, wt, fl, sl, ch, ad, op, rg, od, len, ld, kn, mx, arx, out, ocx, sop, sd, sa, sb, rfl, W'⟩ := I'
    exact lw_296 W' (nx W'))
theorem lw_60 (hL : L < 2 ^ 31) {s : Nat} (hs : s ≤ 1000) (hp : post 1) :
    ∀ dd t fu, t + dd = s + 2 → dd < fu → ∀ {ph cnt : Nat} {na ac : Int32} {reg ini st acc fol wt fl sl ch ad op rg od len ld kn mx arx out ocx sop sd sa sb : Nat → Int32}, oa_W V nR ph cnt reg st acc ad op rg od len ld mx out ocx sop sd sa sb →
      wL_law_60 post L xs (nI V) (nI nR) (nI s) kc ks fu (nI t) (nI V) (nI nR) (nI ph) (nI cnt) (nI (oa_ps sop cnt)) na ac reg ini st acc fol wt fl sl ch ad op rg od len ld kn mx arx out ocx := by
  intro dd
  induction dd with
  | zero =>
    intro t fu ht hf ph cnt na ac reg ini st acc fol wt fl sl ch ad op rg od len ld kn mx arx out ocx sop sd sa sb h
    obtain ⟨fu, rfl⟩ : ∃ f, fu = f + 1 := ⟨fu - 1, by omega⟩
    refine br_t ?_ hp
    rw [show nI s + 2 = nI (s + 2) from nI_add s 2]
    exact nI_le (by omega) (by omega)
  | succ dd ih =>
    intro t fu ht hf ph cnt na ac reg ini st acc fol wt fl sl ch ad op rg od len ld kn mx arx out ocx sop sd sa sb h
    obtain ⟨fu, rfl⟩ : ∃ f, fu = f + 1 := ⟨fu - 1, by omega⟩
    have I := oa_XI (na := na) (ac := ac) (ini := ini) (fol := fol) (wt := wt) (fl := fl) (sl := sl) (ch := ch) (kn := kn) (arx := arx) h
    have v1 := h.1
    have r1 := h.2.1
    have nx : ∀ {ph cnt : Nat} {na ac : Int32} {reg ini st acc fol wt fl sl ch ad op rg od len ld kn mx arx out ocx sop sd sa sb : Nat → Int32}, oa_W V nR ph cnt reg st acc ad op rg od len ld mx out ocx sop sd sa sb → wL_law_60 post L xs (nI V) (nI nR) (nI s) kc ks fu (nI t + 1) (nI V) (nI nR) (nI ph) (nI cnt) (nI (oa_ps sop cnt)) na ac reg ini st acc fol wt fl sl ch ad op rg od len ld kn mx arx out ocx := by
      intro ph cnt na ac reg ini st acc fol wt fl sl ch ad op rg od len ld kn mx arx out ocx sop sd sa sb h'
      rw [nI_1]
      exact ih (t + 1) fu (by omega) (by omega) h'
    have e6 : 2 + 5 * nI t = nI (2 + 5 * t) := by
      rw [show (5 : Int32) = nI 5 from rfl, show (2 : Int32) = nI 2 from rfl, pk_mul, nI_add]
    refine br_f ?_ ?_
    · rw [show nI s + 2 = nI (s + 2) from nI_add s 2]
      exact nI_ge (by omega) (by omega)
    by_cases c : s ≤ t
    · refine br_t (nI_le c (by omega)) ?_
      refine br_c (fun _ => ?_) (fun _ => ?_)
      · exact xb_compile I _ (fun _ u' I' => by
          obtain ⟨ph, cnt, na, ac, reg, ini, st, acc, fol, wt, fl, sl, ch, ad, op, rg, od, len, ld, kn, mx, arx, out, ocx, sop, sd, sa, sb, rfl, W'⟩ := I'
          exact lw_319 W' (nx W'))
      · exact xb_run I _ (fun _ u' I' => by
          obtain ⟨ph, cnt, na, ac, reg, ini, st, acc, fol, wt, fl, sl, ch, ad, op, rg, od, len, ld, kn, mx, arx, out, ocx, sop, sd, sa, sb, rfl, W'⟩ := I'
          exact lw_319 W' (nx W'))
    · refine br_f (nI_ge (by omega) (by omega)) (nm_r e6 ?_)
      refine lw_cell (k := 2 + 5 * t) hL (by omega) rfl _ (fun y0 => ?_)
      refine lw_mod (k := 10) (by omega) (by omega) rfl _ (fun j0 _ => ?_)
      refine lw_cell (k := 2 + 5 * t + 1) hL (by omega) (nI_add _ 1) _ (fun y1 => ?_)
      refine lw_cell (k := 2 + 5 * t + 2) hL (by omega) (nI_add _ 2) _ (fun y2 => ?_)
      refine lw_cell (k := 2 + 5 * t + 3) hL (by omega) (nI_add _ 3) _ (fun y3 => ?_)
      refine lw_cell (k := 2 + 5 * t + 4) hL (by omega) (nI_add _ 4) _ (fun y4 => ?_)
      refine br_c (fun _ => br_c (fun _ => ?_) (fun _ => br_c (fun _ => ?_) (fun _ => br_c (fun _ => ?_) (fun _ => br_c (fun _ => ?_) (fun _ => ?_))))) (fun _ => ?_)
      · refine lw_mod (k := V) (by omega) (by omega) rfl _ (fun a1 _ => ?_)
        refine lw_mod (k := nR) (by omega) (by omega) rfl _ (fun a2 _ => ?_)
        exact xb_setRegister I _ _ _ (fun _ u' I' => by
          obtain ⟨ph, cnt, na, ac, reg, ini, st, acc, fol, wt, fl, sl, ch, ad, op, rg, od, len, ld, kn, mx, arx, out, ocx, sop, sd, sa, sb, rfl, W'⟩ := I'
          exact lw_296 W' (nx W'))
      · refine lw_mod (k := V) (by omega) (by omega) rfl _ (fun a1 _ => ?_)
        exact xb_setInit I _ _ _ (fun _ u' I' => by
          obtain ⟨ph, cnt, na, ac, reg, ini, st, acc, fol, wt, fl, sl, ch, ad, op, rg, od, len, ld, kn, mx, arx, out, ocx, sop, sd, sa, sb, rfl, W'⟩ := I'
          exact lw_296 W' (nx W'))
      · exact xb_compile I _ (fun _ u' I' => by
          obtain ⟨ph, cnt, na, ac, reg, ini, st, acc, fol, wt, fl, sl, ch, ad, op, rg, od, len, ld, kn, mx, arx, out, ocx, sop, sd, sa, sb, rfl, W'⟩ := I'
          exact lw_296 W' (nx W'))
      · exact xb_run I _ (fun _ u' I' => by
          obtain ⟨ph, cnt, na, ac, reg, ini, st, acc, fol, wt, fl, sl, ch, ad, op, rg, od, len, ld, kn, mx, arx, out, ocx, sop, sd, sa, sb, rfl, W'⟩ := I'
          exact lw_296 W' (nx W'))
      · refine lw_mod (k := 3) (by omega) (by omega) rfl _ (fun a1 _ => br_c (fun _ => ?_) (fun _ => ?_))
        · exact xb_clear I _ (fun u' I' => by
            obtain ⟨ph, cnt, na, ac, reg, ini, st, acc, fol, wt, fl, sl, ch, ad, op, rg, od, len, ld, kn, mx, arx, out, ocx, sop, sd, sa, sb, rfl, W'⟩ := I'
            exact lw_296 W' (nx W'))
        · exact xb_run I _ (fun _ u' I' => by
            obtain ⟨ph, cnt, na, ac, reg, ini, st, acc, fol, wt, fl, sl, ch, ad, op, rg, od, len, ld, kn, mx, arx, out, ocx, sop, sd, sa, sb, rfl, W'⟩ := I'
            exact lw_296 W' (nx W'))
      · refine lw_mod (k := 9) (by omega) (by omega) rfl _ (fun a1 _ => br_c (fun _ => ?_) (fun _ => ?_))
        · exact lw_170 h nx
        · exact lw_mod (k := V) (by omega) (by omega) rfl _ (fun a2 _ => lw_170 h nx)
end
end
section
/-! the law -/
section
variable {post : Int32 → Prop} {L : Nat} {xs : Nat → Int32} {kc ks : Nat} {V nR : Nat}
theorem lw_41 (hL : L ≤ 260) (hp : post 1) {ph cnt : Nat} {na ac : Int32} {reg ini st acc fol wt fl sl ch ad op rg od len ld kn mx arx out ocx sop sd sa sb : Nat → Int32} (h : oa_W V nR ph cnt reg st acc ad op rg od len ld mx out ocx sop sd sa sb) :
    ∀ d s, s + d ≤ 60 → L ≤ 2 + 5 * s + 5 * d → wL_law_41 post L xs (nI V) (nI nR) kc ks (nI V) (nI nR) (nI ph) (nI cnt) (nI (oa_ps sop cnt)) na ac reg ini st acc fol wt fl sl ch ad op rg od len ld kn mx arx out ocx (d + 1) (nI s) (nI (2 + 5 * s)) := by
  have fin : ∀ s, s ≤ 60 → ∃ f, wL_law_60 post L xs (nI V) (nI nR) (nI s) kc ks f 0 (nI V) (nI nR) (nI ph) (nI cnt) (nI (oa_ps sop cnt)) na ac reg ini st acc fol wt fl sl ch ad op rg od len ld kn mx arx out ocx :=
    fun s hs => ⟨s + 3, lw_60 (by omega) (by omega) hp (s + 2) 0 (s + 3) (by omega) (by omega) h⟩
  intro d
  induction d with
  | zero =>
    intro s hs hl
    exact br_t (nI_le (a := L) (by omega) (by omega)) (fin s (by omega))
  | succ d ih =>
    intro s hs hl
    by_cases c : L ≤ 2 + 5 * s
    · exact br_t (nI_le (a := L) c (by omega)) (fin s (by omega))
    · refine br_f (nI_ge (b := L) (by omega) (by omega)) (nm_r (nI_1 s) (nm_r ?_ (ih (s + 1) (by omega) (by omega))))
      rw [show (5 : Int32) = nI 5 from rfl, nI_add]
      exact congrArg nI (by omega)
end
theorem xb_init {V nR : Nat} (v1 : 2 ≤ V) (v2 : V ≤ 16) (r1 : 1 ≤ nR) (r2 : nR ≤ 4) (post : St2 → Prop) (hp : ∀ u', oa_X V nR u' → post u') : wpX_init post 20 1934 (0, 0, 0, 0, 0, 0, 0) (nI V) (nI nR) := by
  refine ⟨by decide, by decide, by decide, by decide, by decide, by decide, by decide, by decide, by decide, by decide, by decide, by decide, by decide, by decide, by decide, by decide, by decide, by decide, by decide, by decide, by decide, by decide, by decide, by decide, by decide, by decide, by decide, by decide, by decide, by decide, by decide, by decide, by decide, by decide, by decide, by decide, by decide, by decide, by decide, by decide, ?_⟩
  refine xa_cl (a := 2) (b := 16) (V := V) (Or.inl ⟨nI_le v1 (by omega), nI_le v2 (by omega), rfl⟩) _ ?_
  refine xa_cl (a := 1) (b := 4) (V := nR) (Or.inl ⟨nI_le r1 (by omega), nI_le r2 (by omega), rfl⟩) _ ?_
  exact hp _ (oa_XI (ph := 0) (cnt := 0) (sop := fun _ => 0) (sd := fun _ => 0) (sa := fun _ => 0) (sb := fun _ => 0) ⟨⟨v1, v2⟩, ⟨r1, r2⟩, by omega, by omega, fun v _ => ⟨0, by omega, rfl⟩, fun i _ => ⟨rfl, rfl, rfl, rfl⟩, fun i hi => absurd hi (Nat.not_lt_zero i), fun h => absurd rfl h, fun h => by omega⟩)
theorem i_vc (xs : Nat → Int32) (L : Nat) (hL : L ≤ 260) : wpL_law (fun r => r = 1) L xs := by
  unfold wpL_law
  refine lw_cell (k := 0) (by omega) (by omega) rfl _ (fun y0 => ?_)
  refine lw_mod (k := 15) (by omega) (by omega) rfl _ (fun a ha => nm_r (nI_add 2 a) ?_)
  refine lw_cell (k := 1) (by omega) (by omega) rfl _ (fun y1 => ?_)
  refine lw_mod (k := 4) (by omega) (by omega) rfl _ (fun b hb => nm_r (nI_add 1 b) ?_)
  refine ⟨20, 1934, by omega, by omega, xb_init (by omega) (by omega) (by omega) (by omega) _ (fun u' I' => ?_)⟩
  obtain ⟨ph, cnt, na, ac, reg, ini, st, acc, fol, wt, fl, sl, ch, ad, op, rg, od, len, ld, kn, mx, arx, out, ocx, sop, sd, sa, sb, rfl, W'⟩ := I'
  exact ⟨61, lw_41 (post := fun r => r = 1) hL rfl W' 60 0 (by omega) (by omega)⟩
end
