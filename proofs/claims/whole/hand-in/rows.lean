section
/-! from kit/rows: pk_ rows as given; then small facts of our own -/
theorem pk_us {f : Nat → Int32} {k : Nat} {x : Int32} : upd f k x k = x := if_pos rfl
theorem pk_un {f : Nat → Int32} {k j : Nat} {x : Int32} (h : j ≠ k) : upd f k x j = f j := if_neg h
theorem pk_sub {a b : Nat} (h : b ≤ a) : nI a - nI b = nI (a - b) := by
  obtain ⟨c, rfl⟩ : ∃ c, a = c + b := ⟨a - b, by omega⟩
  rw [← nI_add, Int32.add_sub_cancel, Nat.add_sub_cancel]
theorem pk_m1 (n : Nat) : nI (n + 1) + (-1) = nI n := by
  rw [← nI_1, Int32.add_assoc, show (1 : Int32) + (-1) = 0 from rfl, Int32.add_zero]
theorem pk_mul (a b : Nat) : nI a * nI b = nI (a * b) := (Int32.ofNat_mul a b).symm
theorem pk_div {a d : Nat} (ha : a < 2 ^ 31) (h0 : 0 < d) (hd : d < 2 ^ 31) : nI a / nI d = nI (a / d) := by
  apply Int32.toInt_inj.mp
  rw [lg_idiv_nonneg (by rw [nI_toInt ha]; omega) (by rw [nI_toInt hd]; omega), nI_toInt ha, nI_toInt hd, nI_toInt (Nat.lt_of_le_of_lt (Nat.div_le_self a d) ha)]
  first | rfl | exact (Int.natCast_ediv _ _).symm
theorem pk_rem {a d : Nat} (ha : a < 2 ^ 31) (h0 : 0 < d) (hd : d < 2 ^ 31) : nI a - nI a / nI d * nI d = nI (a % d) := by
  rw [pk_div ha h0 hd, pk_mul, pk_sub (Nat.div_mul_le_self a d)]
  exact congrArg nI (by have := Nat.div_add_mod' a d; omega)
theorem pk_sub_toInt {a b : Nat} (ha : a < 2 ^ 30) (hb : b < 2 ^ 30) : (nI a - nI b).toInt = (a : Int) - b := by
  rw [Int32.toInt_sub, nI_toInt (by omega), nI_toInt (by omega)]
  exact Int.bmod_eq_of_le (by omega) (by omega)
theorem pk_sneg {a b : Nat} (hb : b < 2 ^ 30) (h : a < b) : nI a - nI b < 0 := by
  rw [Int32.lt_iff_toInt_lt, pk_sub_toInt (by omega) hb, show (0 : Int32).toInt = 0 from by decide]
  omega
theorem pk_ix (x : Int32) {n : Nat} (hn : n < 2 ^ 31) : x < 0 ∨ nI n ≤ x ∨ ∃ j : Nat, j < n ∧ x = nI j := by
  by_cases h : x < 0
  · exact Or.inl h
  · obtain ⟨j, hj, rfl⟩ := nI_of h
    by_cases h2 : j < n
    · exact Or.inr (Or.inr ⟨j, h2, rfl⟩)
    · exact Or.inr (Or.inl (nI_le (by omega) hj))
theorem pk_le {x y : Int32} {A B : Prop} (a b : Nat) (f : a ≤ b → A) (g : b < a → B) (hx : x = nI a := by rfl) (hy : y = nI b := by rfl) (ha : a < 2 ^ 31 := by omega) (hb : b < 2 ^ 31 := by omega) : (x ≤ y → A) ∧ (¬ x ≤ y → B) := by
  subst hx hy
  rw [nI_leI ha hb]
  exact ⟨f, fun z => g (by omega)⟩
theorem pk_lt {x y : Int32} {A B : Prop} (a b : Nat) (f : a < b → A) (g : b ≤ a → B) (hx : x = nI a := by rfl) (hy : y = nI b := by rfl) (ha : a < 2 ^ 31 := by omega) (hb : b < 2 ^ 31 := by omega) : (x < y → A) ∧ (¬ x < y → B) := by
  subst hx hy
  rw [nI_ltI ha hb]
  exact ⟨f, fun z => g (by omega)⟩
theorem pk_eq {x y : Int32} {A B : Prop} (a b : Nat) (f : a = b → A) (g : a ≠ b → B) (hx : x = nI a := by rfl) (hy : y = nI b := by rfl) (ha : a < 2 ^ 31 := by omega) (hb : b < 2 ^ 31 := by omega) : (x = y → A) ∧ (¬ x = y → B) := by
  subst hx hy
  rw [nI_eq ha hb]
  exact ⟨f, g⟩
theorem pk_in {x : Int32} (n N : Nat) (h : n < N) (hx : x = nI n := by rfl) (hN : N < 2 ^ 31 := by omega) : vp_in x N := by
  subst hx
  exact vp_in_nI h hN
theorem pk_cl {x : Int32} (n : Nat) (hx : x = nI n := by rfl) (h : n < 2 ^ 31 := by omega) : x.toNatClampNeg = n := by
  subst hx
  exact nI_clamp h
theorem oa_ne {k : Nat} (h : k < 2 ^ 31) : nI k ≠ -1 := by
  intro e
  have e2 := congrArg Int32.toInt e
  rw [nI_toInt h, show (-1 : Int32).toInt = -1 from by decide] at e2
  omega
theorem oa_inj {a b : Nat} (ha : a < 2 ^ 31) (hb : b < 2 ^ 31) (h : nI a = nI b) : a = b := (nI_eq ha hb).mp h
theorem oa_m1lt : (-1 : Int32) < 0 := by decide
theorem oa_m1cl : (-1 : Int32).toNatClampNeg = 0 := by decide
/-- a cell of a square of side 16 -/
theorem oa_cell {u v a b : Nat} (hv : v < 16) (hb : b < 16) : u * 16 + v = a * 16 + b ↔ u = a ∧ v = b := by
  constructor
  · intro h; constructor <;> omega
  · rintro ⟨rfl, rfl⟩; rfl
end
section
/-! the access graph's weights: counted by followers (X) and by a scan with the previous access (Y) -/
/-- the first position at or behind i whose variable has register r, of d positions; else i + d -/
def oa_nx (R a : Nat → Int32) (r : Int32) : Nat → Nat → Nat
  | 0, i => i
  | d + 1, i => if R (a i).toNatClampNeg = r then i else oa_nx R a r d (i + 1)
theorem oa_nx_le (R a : Nat → Int32) (r : Int32) : ∀ d i, i ≤ oa_nx R a r d i ∧ oa_nx R a r d i ≤ i + d := by
  intro d
  induction d with
  | zero => intro i; exact ⟨Nat.le_refl _, Nat.le_refl _⟩
  | succ d ih =>
    intro i
    rw [oa_nx]
    split
    · omega
    · have := ih (i + 1); omega
theorem oa_nx_r (R a : Nat → Int32) (r : Int32) : ∀ d i, oa_nx R a r d i < i + d → R (a (oa_nx R a r d i)).toNatClampNeg = r := by
  intro d
  induction d with
  | zero => intro i h; exact absurd h (by rw [oa_nx]; omega)
  | succ d ih =>
    intro i h
    rw [oa_nx] at h ⊢
    by_cases hr : R (a i).toNatClampNeg = r
    · rw [if_pos hr]; exact hr
    · rw [if_neg hr] at h ⊢
      exact ih (i + 1) (by omega)
/-- the follower of position j among n -/
def oa_fo (R a : Nat → Int32) (n j : Nat) : Nat := oa_nx R a (R (a j).toNatClampNeg) (n - (j + 1)) (j + 1)
/-- the follower as X keeps it -/
def oa_fv (R a : Nat → Int32) (n j : Nat) : Int32 := if oa_fo R a n j < n then nI (oa_fo R a n j) else -1
theorem oa_fo_le {R a : Nat → Int32} {n j : Nat} (hj : j < n) : j < oa_fo R a n j ∧ oa_fo R a n j ≤ n := by
  have := oa_nx_le R a (R (a j).toNatClampNeg) (n - (j + 1)) (j + 1)
  unfold oa_fo
  omega
theorem oa_fo_r {R a : Nat → Int32} {n j : Nat} (hj : j < n) (h : oa_fo R a n j < n) : R (a (oa_fo R a n j)).toNatClampNeg = R (a j).toNatClampNeg :=
  oa_nx_r R a _ (n - (j + 1)) (j + 1) (by unfold oa_fo at h; omega)
abbrev oa_pm (u v p x : Int32) : Prop := (p = u ∧ x = v) ∨ (p = v ∧ x = u)
/-- the previous access to register r, before position i -/
def oa_pv (R a : Nat → Int32) (r : Int32) : Nat → Int32
  | 0 => -1
  | i + 1 => if R (a i).toNatClampNeg = r then a i else oa_pv R a r i
/-- the scan's count -/
def oa_ct (R a : Nat → Int32) (r u v : Int32) : Nat → Int32
  | 0 => 0
  | i + 1 => if R (a i).toNatClampNeg = r then (if oa_pm u v (oa_pv R a r i) (a i) then oa_ct R a r u v i + 1 else oa_ct R a r u v i) else oa_ct R a r u v i
/-- the count by followers -/
def oa_wt (R a : Nat → Int32) (n : Nat) (u v : Int32) : Nat → Int32
  | 0 => 0
  | j + 1 => if oa_fo R a n j < n ∧ a j ≠ a (oa_fo R a n j) ∧ oa_pm u v (a j) (a (oa_fo R a n j)) then oa_wt R a n u v j + 1 else oa_wt R a n u v j
theorem oa_wt_ct_i {R a : Nat → Int32} {n : Nat} {r u v : Int32} (hu : R u.toNatClampNeg = r) (hv : R v.toNatClampNeg = r) (huv : u ≠ v) (hu1 : u ≠ -1) (hv1 : v ≠ -1) :
    ∀ i, i ≤ n → oa_wt R a n u v i = oa_ct R a r u v i + (if oa_nx R a r (n - i) i < n ∧ oa_pm u v (oa_pv R a r i) (a (oa_nx R a r (n - i) i)) then 1 else 0) := by
  intro i
  induction i with
  | zero =>
    intro _
    rw [if_neg]
    · exact (Int32.add_zero _).symm
    · rintro ⟨_, h⟩
      rcases h with h | h
      · exact hu1 h.1.symm
      · exact hv1 h.1.symm
  | succ i ih =>
    intro hi
    have ih := ih (by omega)
    have e : n - i = (n - (i + 1)) + 1 := by omega
    rw [e] at ih
    by_cases hr : R (a i).toNatClampNeg = r
    · rw [oa_nx, if_pos hr] at ih
      have e1 : oa_ct R a r u v (i + 1) = oa_wt R a n u v i := by
        rw [oa_ct, if_pos hr, ih]
        by_cases hp : oa_pm u v (oa_pv R a r i) (a i)
        · rw [if_pos hp, if_pos ⟨by omega, hp⟩]
        · rw [if_neg hp, if_neg (fun h => hp h.2), Int32.add_zero]
      have e2 : oa_pv R a r (i + 1) = a i := by rw [oa_pv, if_pos hr]
      have e3 : oa_fo R a n i = oa_nx R a r (n - (i + 1)) (i + 1) := by unfold oa_fo; rw [hr]
      rw [e1, e2, ← e3, oa_wt]
      by_cases hq : oa_fo R a n i < n ∧ oa_pm u v (a i) (a (oa_fo R a n i))
      · rw [if_pos hq, if_pos]
        refine ⟨hq.1, ?_, hq.2⟩
        intro he
        rcases hq.2 with h | h
        · exact huv (by rw [← h.1, ← h.2, he])
        · exact huv (by rw [← h.1, ← h.2, he])
      · rw [if_neg hq, if_neg (fun h => hq ⟨h.1, h.2.2⟩), Int32.add_zero]
    · rw [oa_nx, if_neg hr] at ih
      have e1 : oa_ct R a r u v (i + 1) = oa_ct R a r u v i := by rw [oa_ct, if_neg hr]
      have e2 : oa_pv R a r (i + 1) = oa_pv R a r i := by rw [oa_pv, if_neg hr]
      rw [e1, e2, oa_wt, if_neg, ih]
      rintro ⟨_, _, h⟩
      rcases h with h | h
      · exact hr (by rw [h.1, hu])
      · exact hr (by rw [h.1, hv])
theorem oa_wt_ct {R a : Nat → Int32} {n : Nat} {r u v : Int32} (hu : R u.toNatClampNeg = r) (hv : R v.toNatClampNeg = r) (huv : u ≠ v) (hu1 : u ≠ -1) (hv1 : v ≠ -1) :
    oa_wt R a n u v n = oa_ct R a r u v n := by
  rw [oa_wt_ct_i hu hv huv hu1 hv1 n (Nat.le_refl n), Nat.sub_self, if_neg, Int32.add_zero]
  rintro ⟨h, _⟩
  rw [oa_nx] at h
  exact Nat.lt_irrefl _ h
theorem oa_wt_0 {R a : Nat → Int32} {n : Nat} {u v : Int32} (h : R u.toNatClampNeg ≠ R v.toNatClampNeg) : ∀ i, i ≤ n → oa_wt R a n u v i = 0 := by
  intro i
  induction i with
  | zero => intro _; rfl
  | succ i ih =>
    intro hi
    rw [oa_wt, if_neg, ih (by omega)]
    rintro ⟨hf, _, hp⟩
    have e := oa_fo_r (R := R) (a := a) (n := n) (j := i) (by omega) hf
    rcases hp with hp | hp
    · rw [hp.1, hp.2] at e; exact h e.symm
    · rw [hp.1, hp.2] at e; exact h e
end
section
/-! chains of links: f the first link of a variable, s its second, c the chain's name -/
def oa_lk (f s : Nat → Int32) (x y : Nat) : Prop := f x = nI y ∨ s x = nI y
def oa_G (V : Nat) (f s c : Nat → Int32) : Prop :=
  (∀ x, x < V → f x = -1 ∨ ∃ y, y < V ∧ y ≠ x ∧ f x = nI y) ∧
  (∀ x, x < V → s x = -1 ∨ ∃ y, y < V ∧ y ≠ x ∧ s x = nI y) ∧
  (∀ x, x < V → s x ≠ -1 → f x ≠ -1 ∧ f x ≠ s x) ∧
  (∀ x y, x < V → y < V → oa_lk f s x y → oa_lk f s y x) ∧
  (∀ x y, x < V → y < V → oa_lk f s x y → c x = c y) ∧
  (∀ x, x < V → ∃ y, y < V ∧ c y = c x ∧ s y = -1) ∧
  (∀ x, x < V → s x = -1 → f x ≠ -1 → ∃ y, y < V ∧ y ≠ x ∧ c y = c x ∧ s y = -1) ∧
  (∀ P : Nat → Prop, (∀ x y, x < V → y < V → P x → oa_lk f s x y → P y) → ∀ x y, x < V → y < V → c x = c y → P x → P y)
theorem oa_G0 {V : Nat} (hV : V ≤ 16) {f s c : Nat → Int32} (hf : ∀ x, x < V → f x = -1) (hs : ∀ x, x < V → s x = -1) (hc : ∀ x, x < V → c x = nI x) : oa_G V f s c := by
  have nl : ∀ x y, x < V → y < V → ¬ oa_lk f s x y := by
    intro x y hx hy h
    rcases h with h | h
    · rw [hf x hx] at h; exact oa_ne (by omega) h.symm
    · rw [hs x hx] at h; exact oa_ne (by omega) h.symm
  refine ⟨fun x hx => Or.inl (hf x hx), fun x hx => Or.inl (hs x hx), fun x hx h => absurd (hs x hx) h, fun x y hx hy h => absurd h (nl x y hx hy), fun x y hx hy h => absurd h (nl x y hx hy), fun x hx => ⟨x, hx, rfl, hs x hx⟩, fun x hx _ h => absurd (hf x hx) h, ?_⟩
  intro P _ x y hx hy h hp
  rw [hc x hx, hc y hy] at h
  have : x = y := oa_inj (by omega) (by omega) h
  exact this ▸ hp
/-- u and v are joined: f' s' c' behind f s c -/
def oa_J (V u v : Nat) (f s c f' s' c' : Nat → Int32) : Prop :=
  (∀ x, x < V → x ≠ u → x ≠ v → f' x = f x ∧ s' x = s x) ∧
  (f u = -1 → f' u = nI v ∧ s' u = s u) ∧ (f u ≠ -1 → f' u = f u ∧ s' u = nI v) ∧
  (f v = -1 → f' v = nI u ∧ s' v = s v) ∧ (f v ≠ -1 → f' v = f v ∧ s' v = nI u) ∧
  (∀ x, x < V → c' x = if c x = c v then c u else c x)
theorem oa_J_lk {V u v : Nat} {f s c f' s' c' : Nat → Int32} (hV : V ≤ 16) (hu : u < V) (hv : v < V) (huv : u ≠ v) (su : s u = -1) (sv : s v = -1) (j : oa_J V u v f s c f' s' c') :
    ∀ x y, x < V → y < V → (oa_lk f' s' x y ↔ oa_lk f s x y ∨ (x = u ∧ y = v) ∨ (x = v ∧ y = u)) := by
  obtain ⟨j1, ju1, ju2, jv1, jv2, _⟩ := j
  intro x y hx hy
  have ny : (-1 : Int32) ≠ nI y := fun h => oa_ne (by omega) h.symm
  have eqv : nI v = nI y ↔ y = v := by rw [nI_eq (by omega) (by omega)]; exact eq_comm
  have equ : nI u = nI y ↔ y = u := by rw [nI_eq (by omega) (by omega)]; exact eq_comm
  unfold oa_lk
  by_cases h1 : x = u
  · subst h1
    by_cases h2 : f x = -1
    · have := ju1 h2
      rw [this.1, this.2, su, h2, eqv]
      constructor
      · rintro (h | h)
        · exact Or.inr (Or.inl ⟨rfl, h⟩)
        · exact absurd h ny
      · rintro ((h | h) | ⟨_, h⟩ | ⟨h, _⟩)
        · exact absurd h ny
        · exact absurd h ny
        · exact Or.inl h
        · exact absurd h huv
    · have := ju2 h2
      rw [this.1, this.2, su, eqv]
      constructor
      · rintro (h | h)
        · exact Or.inl (Or.inl h)
        · exact Or.inr (Or.inl ⟨rfl, h⟩)
      · rintro ((h | h) | ⟨_, h⟩ | ⟨h, _⟩)
        · exact Or.inl h
        · exact absurd h ny
        · exact Or.inr h
        · exact absurd h huv
  · by_cases h1v : x = v
    · subst h1v
      by_cases h2 : f x = -1
      · have := jv1 h2
        rw [this.1, this.2, sv, h2, equ]
        constructor
        · rintro (h | h)
          · exact Or.inr (Or.inr ⟨rfl, h⟩)
          · exact absurd h ny
        · rintro ((h | h) | ⟨h, _⟩ | ⟨_, h⟩)
          · exact absurd h ny
          · exact absurd h ny
          · exact absurd h h1
          · exact Or.inl h
      · have := jv2 h2
        rw [this.1, this.2, sv, equ]
        constructor
        · rintro (h | h)
          · exact Or.inl (Or.inl h)
          · exact Or.inr (Or.inr ⟨rfl, h⟩)
        · rintro ((h | h) | ⟨h, _⟩ | ⟨_, h⟩)
          · exact Or.inl h
          · exact absurd h ny
          · exact absurd h h1
          · exact Or.inr h
    · have := j1 x hx h1 h1v
      rw [this.1, this.2]
      constructor
      · exact Or.inl
      · rintro (h | ⟨h, _⟩ | ⟨h, _⟩)
        · exact h
        · exact absurd h h1
        · exact absurd h h1v
theorem oa_J_G {V u v : Nat} {f s c f' s' c' : Nat → Int32} (hV : V ≤ 16) (hu : u < V) (hv : v < V) (su : s u = -1) (sv : s v = -1) (cc : c u ≠ c v) (j : oa_J V u v f s c f' s' c') (g : oa_G V f s c) : oa_G V f' s' c' := by
  have huv : u ≠ v := fun h => cc (by rw [h])
  have lk := oa_J_lk hV hu hv huv su sv j
  obtain ⟨j1, ju1, ju2, jv1, jv2, jc⟩ := j
  obtain ⟨g1, g2, g3, g4, g5, g6, g7, g8⟩ := g
  have nv : nI v ≠ -1 := oa_ne (by omega)
  have nu : nI u ≠ -1 := oa_ne (by omega)
  have cu : c' u = c u := by rw [jc u hu, if_neg cc]
  have cv : c' v = c u := by rw [jc v hv, if_pos rfl]
  have cin : ∀ x, x < V → (c x = c u ∨ c x = c v) → c' x = c u := by
    intro x hx h
    rw [jc x hx]
    rcases h with h | h
    · rw [h, if_neg cc]
    · rw [if_pos h]
  have cout : ∀ x, x < V → c x ≠ c v → c' x = c x := by
    intro x hx h
    rw [jc x hx, if_neg h]
  have eu : ∃ y, y < V ∧ c y = c u ∧ s' y = -1 := by
    by_cases h : f u = -1
    · exact ⟨u, hu, rfl, by rw [(ju1 h).2, su]⟩
    · obtain ⟨y, hy, yu, yc, ys⟩ := g7 u hu su h
      have yv : y ≠ v := fun e => cc (by rw [← yc, e])
      exact ⟨y, hy, yc, by rw [(j1 y hy yu yv).2, ys]⟩
  have ev : ∃ y, y < V ∧ c y = c v ∧ s' y = -1 := by
    by_cases h : f v = -1
    · exact ⟨v, hv, rfl, by rw [(jv1 h).2, sv]⟩
    · obtain ⟨y, hy, yv, yc, ys⟩ := g7 v hv sv h
      have yu : y ≠ u := fun e => cc (by rw [← yc, e])
      exact ⟨y, hy, yc, by rw [(j1 y hy yu yv).2, ys]⟩
  obtain ⟨a, ha, ac, as⟩ := eu
  obtain ⟨b, hb, bc, bs⟩ := ev
  have ab : a ≠ b := fun e => cc (by rw [← ac, ← bc, e])
  have a' : c' a = c u := cin a ha (Or.inl ac)
  have b' : c' b = c u := cin b hb (Or.inr bc)
  refine ⟨?_, ?_, ?_, ?_, ?_, ?_, ?_, ?_⟩
  · intro x hx
    by_cases h1 : x = u
    · subst h1
      by_cases h : f x = -1
      · exact Or.inr ⟨v, hv, fun e => huv e.symm, (ju1 h).1⟩
      · rw [(ju2 h).1]; exact g1 x hx
    · by_cases h2 : x = v
      · subst h2
        by_cases h : f x = -1
        · exact Or.inr ⟨u, hu, huv, (jv1 h).1⟩
        · rw [(jv2 h).1]; exact g1 x hx
      · rw [(j1 x hx h1 h2).1]; exact g1 x hx
  · intro x hx
    by_cases h1 : x = u
    · subst h1
      by_cases h : f x = -1
      · rw [(ju1 h).2]; exact g2 x hx
      · exact Or.inr ⟨v, hv, fun e => huv e.symm, (ju2 h).2⟩
    · by_cases h2 : x = v
      · subst h2
        by_cases h : f x = -1
        · rw [(jv1 h).2]; exact g2 x hx
        · exact Or.inr ⟨u, hu, huv, (jv2 h).2⟩
      · rw [(j1 x hx h1 h2).2]; exact g2 x hx
  · intro x hx hn
    by_cases h1 : x = u
    · subst h1
      by_cases h : f x = -1
      · rw [(ju1 h).2] at hn; exact absurd su hn
      · rw [(ju2 h).1, (ju2 h).2]
        exact ⟨h, fun e => cc (g5 x v hx hv (Or.inl e))⟩
    · by_cases h2 : x = v
      · subst h2
        by_cases h : f x = -1
        · rw [(jv1 h).2] at hn; exact absurd sv hn
        · rw [(jv2 h).1, (jv2 h).2]
          exact ⟨h, fun e => cc (g5 x u hx hu (Or.inl e)).symm⟩
      · rw [(j1 x hx h1 h2).2] at hn
        rw [(j1 x hx h1 h2).1, (j1 x hx h1 h2).2]
        exact g3 x hx hn
  · intro x y hx hy h
    rw [lk x y hx hy] at h
    rw [lk y x hy hx]
    rcases h with h | ⟨h, h'⟩ | ⟨h, h'⟩
    · exact Or.inl (g4 x y hx hy h)
    · exact Or.inr (Or.inr ⟨h', h⟩)
    · exact Or.inr (Or.inl ⟨h', h⟩)
  · intro x y hx hy h
    rw [lk x y hx hy] at h
    rcases h with h | ⟨h, h'⟩ | ⟨h, h'⟩
    · rw [jc x hx, jc y hy, g5 x y hx hy h]
    · rw [h, h', cu, cv]
    · rw [h, h', cu, cv]
  · intro x hx
    by_cases h1 : c x = c u ∨ c x = c v
    · exact ⟨a, ha, by rw [a', cin x hx h1], as⟩
    · have h2 : c x ≠ c u := fun e => h1 (Or.inl e)
      have h3 : c x ≠ c v := fun e => h1 (Or.inr e)
      obtain ⟨y, hy, yc, ys⟩ := g6 x hx
      have yu : y ≠ u := fun e => h2 (by rw [← yc, e])
      have yv : y ≠ v := fun e => h3 (by rw [← yc, e])
      exact ⟨y, hy, by rw [cout x hx h3, cout y hy (by rw [yc]; exact h3), yc], by rw [(j1 y hy yu yv).2, ys]⟩
  · intro x hx sx fx
    by_cases h1 : c x = c u ∨ c x = c v
    · by_cases xa : x = a
      · exact ⟨b, hb, fun e => ab (by rw [← xa, e]), by rw [b', cin x hx h1], bs⟩
      · exact ⟨a, ha, fun e => xa e.symm, by rw [a', cin x hx h1], as⟩
    · have h2 : c x ≠ c u := fun e => h1 (Or.inl e)
      have h3 : c x ≠ c v := fun e => h1 (Or.inr e)
      have xu : x ≠ u := fun e => h2 (by rw [e])
      have xv : x ≠ v := fun e => h3 (by rw [e])
      rw [(j1 x hx xu xv).2] at sx
      rw [(j1 x hx xu xv).1] at fx
      obtain ⟨y, hy, yx, yc, ys⟩ := g7 x hx sx fx
      have yu : y ≠ u := fun e => h2 (by rw [← yc, e])
      have yv : y ≠ v := fun e => h3 (by rw [← yc, e])
      exact ⟨y, hy, yx, by rw [cout x hx h3, cout y hy (by rw [yc]; exact h3), yc], by rw [(j1 y hy yu yv).2, ys]⟩
  · intro P hP
    have old : ∀ x y, x < V → y < V → c x = c y → P x → P y :=
      g8 P (fun x y hx hy px h => hP x y hx hy px ((lk x y hx hy).mpr (Or.inl h)))
    have uv : P u → P v := fun p => hP u v hu hv p ((lk u v hu hv).mpr (Or.inr (Or.inl ⟨rfl, rfl⟩)))
    have vu : P v → P u := fun p => hP v u hv hu p ((lk v u hv hu).mpr (Or.inr (Or.inr ⟨rfl, rfl⟩)))
    intro x y hx hy h px
    by_cases hxv : c x = c v
    · by_cases hyv : c y = c v
      · exact old x y hx hy (by rw [hxv, hyv]) px
      · rw [cin x hx (Or.inr hxv), cout y hy hyv] at h
        exact old u y hu hy h (vu (old x v hx hv hxv px))
    · by_cases hyv : c y = c v
      · rw [cin y hy (Or.inr hyv), cout x hx hxv] at h
        exact old v y hv hy hyv.symm (uv (old x u hx hu h px))
      · rw [cout x hx hxv, cout y hy hyv] at h
        exact old x y hx hy h px
end
section
/-! a path is walked from an end: pl the placed variables, pr the one before, cu the one that is next -/
def oa_T (V : Nat) (f s pl : Nat → Int32) (pr cu : Int32) : Prop :=
  (cu = -1 ∧ ∀ x y, x < V → y < V → pl x ≠ 0 → oa_lk f s x y → pl y ≠ 0) ∨
  ∃ k, k < V ∧ cu = nI k ∧ pl k = 0 ∧ ((pr = -1 ∧ s k = -1) ∨ ∃ q, q < V ∧ pr = nI q ∧ pl q ≠ 0 ∧ oa_lk f s k q) ∧
    (∀ x y, x < V → y < V → pl x ≠ 0 → oa_lk f s x y → pl y ≠ 0 ∨ (pr = nI x ∧ y = k))
/-- the one behind k, as X finds it -/
def oa_nt (f s : Nat → Int32) (pr : Int32) (k : Nat) : Int32 := if f k = pr then s k else f k
theorem oa_T_step {V : Nat} {f s c pl pl' : Nat → Int32} {pr : Int32} {k : Nat} (hV : V ≤ 16) (g : oa_G V f s c) (hk : k < V) (t : oa_T V f s pl pr (nI k)) (p1 : pl' k ≠ 0) (p2 : ∀ x, x ≠ k → pl' x = pl x) :
    oa_T V f s pl' (nI k) (oa_nt f s pr k) ∧ (oa_nt f s pr k = -1 ∨ ∃ y, y < V ∧ oa_nt f s pr k = nI y) ∧
    (∀ y, y < V → ((oa_lk f s k y ∧ pl' y = 0) ↔ oa_nt f s pr k = nI y)) := by
  obtain ⟨g1, g2, g3, g4, _, _, _, _⟩ := g
  rcases t with ⟨h, _⟩ | ⟨k', hk', ek, pk0, hpr, hcl⟩
  · exact absurd h (oa_ne (by omega))
  have : k = k' := oa_inj (by omega) (by omega) ek
  subst this
  have nin : oa_nt f s pr k = -1 ∨ ∃ y, y < V ∧ y ≠ k ∧ oa_nt f s pr k = nI y := by
    unfold oa_nt
    split
    · exact g2 k hk
    · exact g1 k hk
  have lkk : ∀ y, y < V → oa_nt f s pr k = nI y → oa_lk f s k y := by
    intro y _ h
    unfold oa_nt at h
    split at h
    · exact Or.inr h
    · exact Or.inl h
  -- the next one is not the one before
  have nnp : ∀ y, y < V → oa_nt f s pr k = nI y → pr ≠ nI y := by
    intro y hy h e
    unfold oa_nt at h
    split at h
    · rename_i h1
      have := g3 k hk (by rw [h]; exact oa_ne (by omega))
      exact this.2 (by rw [h1, e, h])
    · rename_i h1
      exact h1 (by rw [h, e])
  -- the next one is not placed
  have nnl : ∀ y, y < V → oa_nt f s pr k = nI y → pl y = 0 := by
    intro y hy h
    by_cases z : pl y = 0
    · exact z
    · have l := g4 k y hk hy (lkk y hy h)
      rcases hcl y k hy hk z l with h2 | h2
      · exact absurd pk0 h2
      · exact absurd h2.1 (nnp y hy h)
  -- any link of k is the one before or the next
  have two : ∀ y, y < V → oa_lk f s k y → pr = nI y ∨ oa_nt f s pr k = nI y := by
    intro y hy h
    unfold oa_nt
    by_cases e : f k = pr
    · rw [if_pos e]
      rcases h with h | h
      · exact Or.inl (by rw [← e, h])
      · exact Or.inr h
    · rw [if_neg e]
      rcases h with h | h
      · exact Or.inr h
      · rcases hpr with ⟨_, h2⟩ | ⟨q, hq, hpq, _, hl⟩
        · rw [h2] at h; exact absurd h.symm (oa_ne (by omega))
        · rcases hl with hl | hl
          · exact absurd (by rw [hl, hpq]) e
          · exact Or.inl (by rw [hpq, ← hl, h])
  have prp : ∀ y, y < V → pr = nI y → pl y ≠ 0 := by
    intro y hy h
    rcases hpr with ⟨h2, _⟩ | ⟨q, hq, hpq, hp, _⟩
    · rw [h2] at h; exact absurd h.symm (oa_ne (by omega))
    · have : q = y := oa_inj (by omega) (by omega) (by rw [← hpq, h])
      exact this ▸ hp
  have pl'0 : ∀ y, pl' y = 0 → pl y = 0 := by
    intro y h
    by_cases e : y = k
    · subst e; exact pk0
    · rw [← p2 y e]; exact h
  have pl'n : ∀ y, pl y ≠ 0 → pl' y ≠ 0 := fun y h h2 => h (pl'0 y h2)
  have nni : ∀ y, y < V → ((oa_lk f s k y ∧ pl' y = 0) ↔ oa_nt f s pr k = nI y) := by
    intro y hy
    constructor
    · rintro ⟨h, h0⟩
      rcases two y hy h with h1 | h1
      · exact absurd (pl'0 y h0) (prp y hy h1)
      · exact h1
    · intro h
      refine ⟨lkk y hy h, ?_⟩
      have yk : y ≠ k := by
        rcases nin with h2 | ⟨z, hz, zk, h2⟩
        · rw [h2] at h; exact absurd h.symm (oa_ne (by omega))
        · have : z = y := oa_inj (by omega) (by omega) (by rw [← h2, h])
          exact this ▸ zk
      rw [p2 y yk]; exact nnl y hy h
  refine ⟨?_, ?_, nni⟩
  · rcases nin with h | ⟨y, hy, yk, h⟩
    · refine Or.inl ⟨h, ?_⟩
      intro x y hx hy px l
      by_cases e : x = k
      · subst e
        intro h0
        have := (nni y hy).mp ⟨l, h0⟩
        rw [h] at this
        exact oa_ne (by omega) this.symm
      · rw [p2 x e] at px
        rcases hcl x y hx hy px l with h2 | h2
        · exact pl'n y h2
        · rw [h2.2]; exact p1
    · refine Or.inr ⟨y, hy, h, ((nni y hy).mpr h).2, Or.inr ⟨k, hk, rfl, p1, g4 k y hk hy (lkk y hy h)⟩, ?_⟩
      intro x z hx hz px l
      by_cases e : x = k
      · subst e
        by_cases h0 : pl' z = 0
        · have := (nni z hz).mp ⟨l, h0⟩
          have : z = y := oa_inj (by omega) (by omega) (by rw [← this, h])
          exact Or.inr ⟨rfl, this⟩
        · exact Or.inl h0
      · rw [p2 x e] at px
        rcases hcl x z hx hz px l with h2 | h2
        · exact Or.inl (pl'n z h2)
        · exact Or.inl (by rw [h2.2]; exact p1)
  · rcases nin with h | ⟨y, hy, _, h⟩
    · exact Or.inl h
    · exact Or.inr ⟨y, hy, h⟩
/-- how many of the first n are placed -/
def oa_cn (pl : Nat → Int32) : Nat → Nat
  | 0 => 0
  | n + 1 => oa_cn pl n + if pl n = 0 then 0 else 1
theorem oa_cn_le (pl : Nat → Int32) : ∀ n, oa_cn pl n ≤ n := by
  intro n
  induction n with
  | zero => exact Nat.le_refl _
  | succ n ih => rw [oa_cn]; split <;> omega
theorem oa_cn_lt {pl : Nat → Int32} {k : Nat} (h : pl k = 0) : ∀ n, k < n → oa_cn pl n < n := by
  intro n
  induction n with
  | zero => intro h; omega
  | succ n ih =>
    intro hk
    rw [oa_cn]
    by_cases e : k = n
    · subst e; rw [if_pos h]; have := oa_cn_le pl k; omega
    · have := ih (by omega); split <;> omega
theorem oa_cn_all {pl : Nat → Int32} : ∀ n, (∀ x, x < n → pl x ≠ 0) → oa_cn pl n = n := by
  intro n
  induction n with
  | zero => intro _; rfl
  | succ n ih =>
    intro h
    rw [oa_cn, ih (fun x hx => h x (by omega)), if_neg (h n (by omega))]
theorem oa_cn_0 {pl : Nat → Int32} : ∀ n, (∀ x, x < n → pl x = 0) → oa_cn pl n = 0 := by
  intro n
  induction n with
  | zero => intro _; rfl
  | succ n ih =>
    intro h
    rw [oa_cn, ih (fun x hx => h x (by omega)), if_pos (h n (by omega))]
theorem oa_cn_up {pl pl' : Nat → Int32} {k : Nat} (h : pl k = 0) (p1 : pl' k ≠ 0) (p2 : ∀ x, x ≠ k → pl' x = pl x) : ∀ n, oa_cn pl' n = oa_cn pl n + if k < n then 1 else 0 := by
  intro n
  induction n with
  | zero => rfl
  | succ n ih =>
    rw [oa_cn, oa_cn, ih]
    by_cases e : k = n
    · subst e
      rw [if_neg p1, if_pos h, if_neg (Nat.lt_irrefl k), if_pos (Nat.lt_succ_self k)]
    · rw [p2 n (fun z => e z.symm)]
      by_cases e2 : k < n
      · rw [if_pos e2, if_pos (show k < n + 1 by omega)]; omega
      · rw [if_neg e2, if_neg (show ¬ k < n + 1 by omega)]; omega
/-- addresses given so far: ad of X, ay of Y -/
def oa_A (V N : Nat) (ad ay pl : Nat → Int32) : Prop :=
  N = oa_cn pl V ∧ (∀ x, x < V → pl x = 0 → ad x = -1) ∧
  (∀ x, x < V → pl x ≠ 0 → ay x = ad x ∧ ∃ a, a < N ∧ ad x = nI a) ∧
  (∀ a, a < N → ∃ x, x < V ∧ pl x ≠ 0 ∧ ad x = nI a)
theorem oa_A_step {V N k : Nat} {ad ay pl : Nat → Int32} {t : Int32} (hV : V ≤ 16) (h : oa_A V N ad ay pl) (hk : k < V) (h0 : pl k = 0) (ht : t ≠ 0) :
    oa_A V (N + 1) (upd ad k (nI N)) (upd ay k (nI N)) (upd pl k t) ∧ N < V := by
  obtain ⟨h1, h2, h3, h4⟩ := h
  have q1 : upd pl k t k ≠ 0 := by rw [pk_us]; exact ht
  have q2 : ∀ x, x ≠ k → upd pl k t x = pl x := fun x hx => pk_un hx
  refine ⟨⟨?_, ?_, ?_, ?_⟩, ?_⟩
  · rw [oa_cn_up h0 q1 q2, if_pos hk, ← h1]
  · intro x hx hp
    by_cases e : x = k
    · subst e; exact absurd hp q1
    · rw [pk_un e] at hp ⊢; exact h2 x hx hp
  · intro x hx hp
    by_cases e : x = k
    · subst e; rw [pk_us, pk_us]; exact ⟨rfl, N, Nat.lt_succ_self N, rfl⟩
    · rw [pk_un e] at hp; rw [pk_un e, pk_un e]
      obtain ⟨e1, a, ha, e2⟩ := h3 x hx hp
      exact ⟨e1, a, by omega, e2⟩
  · intro a ha
    by_cases e : a = N
    · exact ⟨k, hk, q1, by rw [pk_us, e]⟩
    · obtain ⟨x, hx, hp, e2⟩ := h4 a (by omega)
      have xk : x ≠ k := fun z => hp (by rw [z]; exact h0)
      exact ⟨x, hx, by rw [pk_un xk]; exact hp, by rw [pk_un xk]; exact e2⟩
  · rw [h1]; exact oa_cn_lt h0 V hk
end
section
/-! the code of a program: what both sides hold, and the machine's memory at its start -/
/-- the number of OUT among the first n instructions from b on -/
def oa_oc (op : Nat → Int32) (b : Nat) : Nat → Nat
  | 0 => 0
  | n + 1 => oa_oc op b n + if op (b + n) = 10 then 1 else 0
theorem oa_oc_cg {op op' : Nat → Int32} {b : Nat} : ∀ n, (∀ i, i < n → op' (b + i) = op (b + i)) → oa_oc op' b n = oa_oc op b n := by
  intro n
  induction n with
  | zero => intro _; rfl
  | succ n ih =>
    intro h
    rw [oa_oc, oa_oc, ih (fun i hi => h i (by omega)), h n (by omega)]
theorem oa_oc_mono (op : Nat → Int32) (b : Nat) : ∀ j i, i ≤ j → oa_oc op b i ≤ oa_oc op b j := by
  intro j
  induction j with
  | zero => intro i hi; rw [show i = 0 by omega]; exact Nat.le_refl _
  | succ j ih =>
    intro i hi
    by_cases e : i = j + 1
    · rw [e]; exact Nat.le_refl _
    · have := ih i (by omega)
      rw [oa_oc]
      omega
theorem oa_oc_lt {op : Nat → Int32} {b i j : Nat} (h : op (b + i) = 10) (hij : i < j) : oa_oc op b i + 1 ≤ oa_oc op b j := by
  have := oa_oc_mono op b j (i + 1) (by omega)
  rw [oa_oc, if_pos h] at this
  exact this
/-- program w has L instructions, at most q of them OUT -/
def oa_CI (nR w L q : Nat) (op rg len : Nat → Int32) : Prop :=
  len w = nI L ∧ (∀ i, i < L → (∃ o, o ≤ 10 ∧ op (192 * w + i) = nI o) ∧ ∃ r, r < nR ∧ rg (192 * w + i) = nI r) ∧ oa_oc op (192 * w) L ≤ q
theorem oa_CI_up {nR w L q q' : Nat} {op rg len : Nat → Int32} (h : oa_CI nR w L q op rg len) (hq : q ≤ q') : oa_CI nR w L q' op rg len :=
  ⟨h.1, h.2.1, Nat.le_trans h.2.2 hq⟩
/-- an instruction more -/
theorem oa_CI_emit {nR w L q o r : Nat} {op rg len : Nat → Int32} (h : oa_CI nR w L q op rg len) (ho : o ≤ 10) (hr : r < nR) :
    oa_CI nR w (L + 1) (q + if o = 10 then 1 else 0) (upd op (192 * w + L) (nI o)) (upd rg (192 * w + L) (nI r)) (upd len w (nI (L + 1))) := by
  obtain ⟨h1, h2, h3⟩ := h
  refine ⟨pk_us, ?_, ?_⟩
  · intro i hi
    by_cases e : i = L
    · rw [e, pk_us, pk_us]; exact ⟨⟨o, ho, rfl⟩, r, hr, rfl⟩
    · rw [pk_un (by omega), pk_un (by omega)]; exact h2 i (by omega)
  · have hcg : oa_oc (upd op (192 * w + L) (nI o)) (192 * w) L = oa_oc op (192 * w) L := oa_oc_cg L (fun i hi => pk_un (by omega))
    rw [oa_oc, hcg, pk_us]
    have e10 : (nI o = 10) ↔ o = 10 := nI_eq (b := 10) (by omega) (by decide)
    by_cases e : o = 10
    · rw [if_pos (e10.mpr e), if_pos e]; omega
    · rw [if_neg (fun z => e (e10.mp z)), if_neg e]; omega
/-- the other program stays -/
theorem oa_CI_other {nR w w' L L' q' : Nat} {o r l : Int32} {op rg len : Nat → Int32} (h : oa_CI nR w' L' q' op rg len) (hL : L < 192) (hL' : L' ≤ 192) (hw : w' ≠ w) :
    oa_CI nR w' L' q' (upd op (192 * w + L) o) (upd rg (192 * w + L) r) (upd len w l) := by
  obtain ⟨h1, h2, h3⟩ := h
  refine ⟨by rw [pk_un hw]; exact h1, ?_, ?_⟩
  · intro i hi
    rw [pk_un (by omega), pk_un (by omega)]; exact h2 i hi
  · have hcg : oa_oc (upd op (192 * w + L) o) (192 * w') L' = oa_oc op (192 * w') L' := oa_oc_cg L' (fun i hi => pk_un (by omega))
    rw [hcg]; exact h3
/-- initial values into their cells -/
def oa_mi (m : Nat → Int32) (b : Nat) (cell : Nat → Nat) (ini : Nat → Int32) : Nat → Nat → Int32
  | 0 => m
  | v + 1 => upd (oa_mi m b cell ini v) (b + cell v) (ini v)
theorem oa_mi_hit {m m' : Nat → Int32} {b : Nat} {cell : Nat → Nat} {ini : Nat → Int32} {c : Nat} : ∀ n, (∃ v, v < n ∧ b + cell v = c) → oa_mi m b cell ini n c = oa_mi m' b cell ini n c := by
  intro n
  induction n with
  | zero => rintro ⟨v, hv, _⟩; omega
  | succ n ih =>
    rintro ⟨v, hv, e⟩
    rw [oa_mi, oa_mi]
    by_cases e2 : c = b + cell n
    · rw [e2, pk_us, pk_us]
    · rw [pk_un e2, pk_un e2]
      have : v ≠ n := fun z => e2 (by rw [← e, z])
      exact ih ⟨v, by omega, e⟩
theorem oa_mi_out {m : Nat → Int32} {b : Nat} {cell : Nat → Nat} {ini : Nat → Int32} {c : Nat} : ∀ n, (∀ v, v < n → c ≠ b + cell v) → oa_mi m b cell ini n c = m c := by
  intro n
  induction n with
  | zero => intro _; rfl
  | succ n ih =>
    intro h
    rw [oa_mi, pk_un (h n (by omega))]
    exact ih (fun v hv => h v (by omega))
/-- cells filled one by one -/
def oa_fill (f g : Nat → Int32) (n : Nat) : Nat → Int32 := fun j => if j < n then g j else f j
theorem oa_fill_0 (f g : Nat → Int32) : oa_fill f g 0 = f := by
  funext j
  exact if_neg (by omega)
theorem oa_fill_s {f g : Nat → Int32} {n : Nat} {x : Int32} (h : x = g n) : upd (oa_fill f g n) n x = oa_fill f g (n + 1) := by
  funext j
  unfold upd oa_fill
  by_cases e : j = n
  · rw [if_pos e, if_pos (by omega), e, h]
  · rw [if_neg e]
    by_cases e2 : j < n
    · rw [if_pos e2, if_pos (by omega)]
    · rw [if_neg e2, if_neg (by omega)]
theorem oa_fill_lt {f g : Nat → Int32} {n j : Nat} (h : j < n) : oa_fill f g n j = g j := if_pos h
theorem oa_fill_ge {f g : Nat → Int32} {n j : Nat} (h : n ≤ j) : oa_fill f g n j = f j := if_neg (by omega)
theorem oa_uu {f : Nat → Int32} {k : Nat} {x y : Int32} : upd (upd f k x) k y = upd f k y := by
  funext j
  unfold upd
  split <;> rfl
/-- a chain's name is changed -/
def oa_rn (c : Nat → Int32) (a b : Int32) (n : Nat) : Nat → Int32 := fun j => if j < n ∧ c j = a then b else c j
theorem oa_rn_0 (c : Nat → Int32) (a b : Int32) : oa_rn c a b 0 = c := by
  funext j
  exact if_neg (by omega)
theorem oa_rn_self {c : Nat → Int32} {a b : Int32} {n : Nat} : oa_rn c a b n n = c n := if_neg (by omega)
theorem oa_rn_t {c : Nat → Int32} {a b : Int32} {n : Nat} (h : c n = a) : upd (oa_rn c a b n) n b = oa_rn c a b (n + 1) := by
  funext j
  unfold upd oa_rn
  by_cases e : j = n
  · rw [if_pos e, if_pos ⟨by omega, by rw [e]; exact h⟩]
  · rw [if_neg e]
    by_cases e2 : j < n ∧ c j = a
    · rw [if_pos e2, if_pos ⟨by omega, e2.2⟩]
    · rw [if_neg e2, if_neg (fun z => e2 ⟨by omega, z.2⟩)]
theorem oa_rn_f {c : Nat → Int32} {a b : Int32} {n : Nat} (h : ¬ c n = a) : oa_rn c a b n = oa_rn c a b (n + 1) := by
  funext j
  unfold oa_rn
  by_cases e2 : j < n ∧ c j = a
  · rw [if_pos e2, if_pos ⟨by omega, e2.2⟩]
  · rw [if_neg e2, if_neg]
    rintro ⟨z1, z2⟩
    by_cases e : j = n
    · rw [e] at z2; exact h z2
    · exact e2 ⟨by omega, z2⟩
end
section
/-! the table of weights as X fills it -/
def oa_wA (w0 R a : Nat → Int32) (n : Nat) : Nat → Nat → Int32
  | 0 => w0
  | j + 1 => if oa_fo R a n j < n then (if a j = a (oa_fo R a n j) then oa_wA w0 R a n j else
      upd (upd (oa_wA w0 R a n j) ((a j).toNatClampNeg * 16 + (a (oa_fo R a n j)).toNatClampNeg) (oa_wA w0 R a n j ((a j).toNatClampNeg * 16 + (a (oa_fo R a n j)).toNatClampNeg) + 1))
        ((a (oa_fo R a n j)).toNatClampNeg * 16 + (a j).toNatClampNeg) (upd (oa_wA w0 R a n j) ((a j).toNatClampNeg * 16 + (a (oa_fo R a n j)).toNatClampNeg) (oa_wA w0 R a n j ((a j).toNatClampNeg * 16 + (a (oa_fo R a n j)).toNatClampNeg) + 1) ((a (oa_fo R a n j)).toNatClampNeg * 16 + (a j).toNatClampNeg) + 1)) else oa_wA w0 R a n j
theorem oa_wA_wt {w0 R a : Nat → Int32} {n : Nat} (h0 : ∀ p, p < 256 → w0 p = 0) (ha : ∀ j, j < n → ∃ k, k < 16 ∧ a j = nI k) :
    ∀ i, i ≤ n → ∀ x y, x < 16 → y < 16 → oa_wA w0 R a n i (x * 16 + y) = oa_wt R a n (nI x) (nI y) i := by
  intro i
  induction i with
  | zero => intro _ x y hx hy; exact h0 _ (by omega)
  | succ i ih =>
    intro hi x y hx hy
    have ih := ih (by omega)
    rw [oa_wA, oa_wt]
    by_cases hf : oa_fo R a n i < n
    · rw [if_pos hf]
      by_cases he : a i = a (oa_fo R a n i)
      · rw [if_pos he, if_neg (fun z => z.2.1 he)]; exact ih x y hx hy
      · rw [if_neg he]
        obtain ⟨u, hu, eu⟩ := ha i (by omega)
        obtain ⟨v, hv, ev⟩ := ha (oa_fo R a n i) hf
        generalize oa_wA w0 R a n i = m at ih ⊢
        rw [eu, ev] at he
        rw [eu, ev, nI_clamp (by omega), nI_clamp (by omega)]
        have uv : u ≠ v := fun z => he (by rw [z])
        have pm : oa_pm (nI x) (nI y) (nI u) (nI v) ↔ (u = x ∧ v = y) ∨ (u = y ∧ v = x) := by
          unfold oa_pm
          rw [nI_eq (by omega) (by omega), nI_eq (by omega) (by omega), nI_eq (by omega) (by omega), nI_eq (by omega) (by omega)]
        by_cases h1 : u = x ∧ v = y
        · rw [if_pos ⟨hf, he, pm.mpr (Or.inl h1)⟩, pk_un (by rw [← h1.1, ← h1.2]; intro z; exact uv ((oa_cell hv hu).mp z).1), ← h1.1, ← h1.2, pk_us, ih u v hu hv]
        · by_cases h2 : u = y ∧ v = x
          · rw [if_pos ⟨hf, he, pm.mpr (Or.inr h2)⟩, ← h2.1, ← h2.2, pk_us, pk_un (by intro z; exact uv ((oa_cell hu hv).mp z).1.symm), ih v u hv hu]
          · rw [if_neg (fun z => (pm.mp z.2.2).elim h1 h2), pk_un (by intro z; have := (oa_cell hy hu).mp z; exact h2 ⟨this.2.symm, this.1.symm⟩), pk_un (by intro z; have := (oa_cell hy hv).mp z; exact h1 ⟨this.1.symm, this.2.symm⟩)]
            exact ih x y hx hy
    · rw [if_neg hf, if_neg (fun z => hf z.1)]; exact ih x y hx hy
/-- the table as Y fills it -/
def oa_wY (R a : Nat → Int32) (V n : Nat) (p : Nat) : Int32 :=
  if p / 16 < p % 16 ∧ p % 16 < V ∧ R (p / 16) = R (p % 16) then oa_ct R a (R (p / 16)) (nI (p / 16)) (nI (p % 16)) n else 0
theorem oa_wA_wY {w0 R a : Nat → Int32} {n V u v : Nat} (hV : V ≤ 16) (h0 : ∀ p, p < 256 → w0 p = 0) (ha : ∀ j, j < n → ∃ k, k < 16 ∧ a j = nI k) (huv : u < v) (hv : v < V) :
    oa_wA w0 R a n n (u * 16 + v) = oa_wY R a V n (u * 16 + v) := by
  rw [oa_wA_wt h0 ha n (Nat.le_refl n) u v (by omega) (by omega)]
  unfold oa_wY
  rw [show (u * 16 + v) / 16 = u by omega, show (u * 16 + v) % 16 = v by omega]
  by_cases hr : R u = R v
  · rw [if_pos ⟨huv, hv, hr⟩]
    exact oa_wt_ct (by rw [nI_clamp (by omega)]) (by rw [nI_clamp (by omega), hr]) (fun z => by have := oa_inj (by omega) (by omega) z; omega) (oa_ne (by omega)) (oa_ne (by omega))
  · rw [if_neg (fun z => hr z.2.2)]
    exact oa_wt_0 (by rw [nI_clamp (by omega), nI_clamp (by omega)]; exact hr) n (Nat.le_refl n)
theorem oa_wY_0 {R a : Nat → Int32} {n V u v : Nat} (hv : v < 16) (h : ¬ (u < v ∧ v < V)) : oa_wY R a V n (u * 16 + v) = 0 := by
  unfold oa_wY
  rw [show (u * 16 + v) / 16 = u by omega, show (u * 16 + v) % 16 = v by omega, if_neg]
  exact fun z => h ⟨z.1, z.2.1⟩
/-- scans of equal accesses are equal -/
theorem oa_ct_cg {R a a' : Nat → Int32} {r u v : Int32} : ∀ n, (∀ j, j < n → a' j = a j) → oa_pv R a' r n = oa_pv R a r n ∧ oa_ct R a' r u v n = oa_ct R a r u v n := by
  intro n
  induction n with
  | zero => intro _; exact ⟨rfl, rfl⟩
  | succ n ih =>
    intro h
    obtain ⟨e1, e2⟩ := ih (fun j hj => h j (by omega))
    rw [oa_pv, oa_pv, oa_ct, oa_ct, h n (by omega), e1, e2]
    exact ⟨rfl, rfl⟩
end
section
/-! statements and their accesses -/
def oa_na (o : Int32) : Nat := if o ≤ 5 then 3 else if o = 6 then 2 else 1
def oa_ps (sop : Nat → Int32) : Nat → Nat
  | 0 => 0
  | i + 1 => oa_ps sop i + oa_na (sop i)
theorem oa_na_le (o : Int32) : oa_na o ≤ 3 := by
  unfold oa_na
  split
  · omega
  · split <;> omega
theorem oa_ps_le (sop : Nat → Int32) : ∀ n, oa_ps sop n ≤ 3 * n := by
  intro n
  induction n with
  | zero => exact Nat.le_refl _
  | succ n ih => have := oa_na_le (sop n); rw [oa_ps]; omega
theorem oa_ps_mono (sop : Nat → Int32) : ∀ j i, i ≤ j → oa_ps sop i ≤ oa_ps sop j := by
  intro j
  induction j with
  | zero => intro i hi; rw [show i = 0 by omega]; exact Nat.le_refl _
  | succ j ih =>
    intro i hi
    by_cases e : i = j + 1
    · rw [e]; exact Nat.le_refl _
    · have := ih i (by omega)
      rw [oa_ps]
      omega
theorem oa_ps_cg {sop sop' : Nat → Int32} : ∀ n, (∀ i, i < n → sop' i = sop i) → oa_ps sop' n = oa_ps sop n := by
  intro n
  induction n with
  | zero => intro _; rfl
  | succ n ih => intro h; rw [oa_ps, oa_ps, ih (fun i hi => h i (by omega)), h n (by omega)]
def oa_vr (V : Nat) (x : Int32) : Prop := ∃ k, k < V ∧ x = nI k
/-- a good statement whose accesses stand in P from p on -/
def oa_ST (V : Nat) (o d a b : Int32) (P : Nat → Int32) (p : Nat) : Prop :=
  (∃ k, k ≤ 5 ∧ o = nI k ∧ oa_vr V d ∧ oa_vr V a ∧ oa_vr V b ∧ P p = a ∧ P (p + 1) = b ∧ P (p + 2) = d) ∨
  (o = 6 ∧ oa_vr V d ∧ oa_vr V a ∧ P p = a ∧ P (p + 1) = d) ∨ (o = 7 ∧ oa_vr V d ∧ P p = d) ∨ (o = 8 ∧ oa_vr V a ∧ P p = a)
theorem oa_na5 {k : Nat} (h : k ≤ 5) : oa_na (nI k) = 3 := if_pos (nI_le (b := 5) h (by decide))
theorem oa_na6 : oa_na 6 = 2 := by decide
theorem oa_na7 : oa_na 7 = 1 := by decide
theorem oa_na8 : oa_na 8 = 1 := by decide
theorem oa_ST_cg {V : Nat} {o d a b : Int32} {P P' : Nat → Int32} {p : Nat} (h : oa_ST V o d a b P p) (e : ∀ j, p ≤ j → j < p + oa_na o → P' j = P j) : oa_ST V o d a b P' p := by
  rcases h with ⟨k, hk, rfl, h1, h2, h3, h4, h5, h6⟩ | ⟨rfl, h1, h2, h3, h4⟩ | ⟨rfl, h1, h2⟩ | ⟨rfl, h1, h2⟩
  · rw [oa_na5 hk] at e
    exact Or.inl ⟨k, hk, rfl, h1, h2, h3, by rw [e p (by omega) (by omega)]; exact h4, by rw [e (p + 1) (by omega) (by omega)]; exact h5, by rw [e (p + 2) (by omega) (by omega)]; exact h6⟩
  · rw [oa_na6] at e
    exact Or.inr (Or.inl ⟨rfl, h1, h2, by rw [e p (by omega) (by omega)]; exact h3, by rw [e (p + 1) (by omega) (by omega)]; exact h4⟩)
  · rw [oa_na7] at e
    exact Or.inr (Or.inr (Or.inl ⟨rfl, h1, by rw [e p (by omega) (by omega)]; exact h2⟩))
  · rw [oa_na8] at e
    exact Or.inr (Or.inr (Or.inr ⟨rfl, h1, by rw [e p (by omega) (by omega)]; exact h2⟩))
theorem oa_ST_vr {V : Nat} {o d a b : Int32} {P : Nat → Int32} {p : Nat} (h : oa_ST V o d a b P p) : ∀ j, p ≤ j → j < p + oa_na o → oa_vr V (P j) := by
  intro j hj hj2
  rcases h with ⟨k, hk, rfl, h1, h2, h3, h4, h5, h6⟩ | ⟨rfl, h1, h2, h3, h4⟩ | ⟨rfl, h1, h2⟩ | ⟨rfl, h1, h2⟩
  · rw [oa_na5 hk] at hj2
    by_cases e0 : j = p
    · rw [e0, h4]; exact h2
    · by_cases e1 : j = p + 1
      · rw [e1, h5]; exact h3
      · rw [show j = p + 2 by omega, h6]; exact h1
  · rw [oa_na6] at hj2
    by_cases e0 : j = p
    · rw [e0, h3]; exact h2
    · rw [show j = p + 1 by omega, h4]; exact h1
  · rw [oa_na7] at hj2
    rw [show j = p by omega, h2]; exact h1
  · rw [oa_na8] at hj2
    rw [show j = p by omega, h2]; exact h1
/-- the block's first n statements, with their accesses in P -/
def oa_SS (V n : Nat) (sop sd sa sb P : Nat → Int32) : Prop := ∀ i, i < n → oa_ST V (sop i) (sd i) (sa i) (sb i) P (oa_ps sop i)
theorem oa_SS_vr {V : Nat} {sop sd sa sb P : Nat → Int32} : ∀ n, oa_SS V n sop sd sa sb P → ∀ j, j < oa_ps sop n → oa_vr V (P j) := by
  intro n
  induction n with
  | zero => intro _ j hj; exact absurd hj (by rw [oa_ps]; omega)
  | succ n ih =>
    intro h j hj
    by_cases e : j < oa_ps sop n
    · exact ih (fun i hi => h i (by omega)) j e
    · rw [oa_ps] at hj
      exact oa_ST_vr (h n (by omega)) j (by omega) hj
/-- one more -/
theorem oa_SS_add {V n : Nat} {sop sd sa sb P P' : Nat → Int32} {o d a b : Int32} (h : oa_SS V n sop sd sa sb P) (eP : ∀ j, j < oa_ps sop n → P' j = P j) (hn : oa_ST V o d a b P' (oa_ps sop n)) :
    oa_SS V (n + 1) (upd sop n o) (upd sd n d) (upd sa n a) (upd sb n b) P' ∧ oa_ps (upd sop n o) (n + 1) = oa_ps sop n + oa_na o := by
  have e1 : ∀ i, i ≤ n → oa_ps (upd sop n o) i = oa_ps sop i := fun i hi => oa_ps_cg i (fun j hj => pk_un (by omega))
  refine ⟨?_, ?_⟩
  · intro i hi
    rw [e1 i (by omega)]
    by_cases e : i = n
    · rw [e, pk_us, pk_us, pk_us, pk_us]; exact hn
    · rw [pk_un e, pk_un e, pk_un e, pk_un e]
      refine oa_ST_cg (h i (by omega)) (fun j _ hj => eP j ?_)
      have : oa_ps sop (i + 1) ≤ oa_ps sop n := oa_ps_mono sop n (i + 1) (by omega)
      rw [oa_ps] at this
      omega
  · rw [oa_ps, e1 n (Nat.le_refl n), pk_us]
end
section
/-! joining two variables, on both sides -/
def oa_lf (f : Nat → Int32) (x y : Nat) : Nat → Int32 := if f x = -1 then upd f x (nI y) else f
def oa_ls (f s : Nat → Int32) (x y : Nat) : Nat → Int32 := if f x = -1 then s else upd s x (nI y)
theorem oa_lf_n {f : Nat → Int32} {x y z : Nat} (h : z ≠ x) : oa_lf f x y z = f z := by
  unfold oa_lf
  split
  · exact pk_un h
  · rfl
theorem oa_ls_n {f s : Nat → Int32} {x y z : Nat} (h : z ≠ x) : oa_ls f s x y z = s z := by
  unfold oa_ls
  split
  · rfl
  · exact pk_un h
theorem oa_l_t {f s : Nat → Int32} {x y : Nat} (h : f x = -1) : oa_lf f x y x = nI y ∧ oa_ls f s x y x = s x := by
  unfold oa_lf oa_ls
  rw [if_pos h, if_pos h]
  exact ⟨pk_us, rfl⟩
theorem oa_l_f {f s : Nat → Int32} {x y : Nat} (h : f x ≠ -1) : oa_lf f x y x = f x ∧ oa_ls f s x y x = nI y := by
  unfold oa_lf oa_ls
  rw [if_neg h, if_neg h]
  exact ⟨rfl, pk_us⟩
theorem oa_J_mk {V u v : Nat} {f s c : Nat → Int32} (huv : u ≠ v) :
    oa_J V u v f s c (oa_lf (oa_lf f u v) v u) (oa_ls (oa_lf f u v) (oa_ls f s u v) v u) (oa_rn c (c v) (c u) V) := by
  have fv : oa_lf f u v v = f v := oa_lf_n (fun z => huv z.symm)
  have sv : oa_ls f s u v v = s v := oa_ls_n (fun z => huv z.symm)
  refine ⟨?_, ?_, ?_, ?_, ?_, ?_⟩
  · intro x _ h1 h2
    rw [oa_lf_n h2, oa_lf_n h1, oa_ls_n h2, oa_ls_n h1]
    exact ⟨rfl, rfl⟩
  · intro h
    rw [oa_lf_n huv, oa_ls_n huv]
    exact oa_l_t h
  · intro h
    rw [oa_lf_n huv, oa_ls_n huv]
    exact oa_l_f h
  · intro h
    have := oa_l_t (f := oa_lf f u v) (s := oa_ls f s u v) (x := v) (y := u) (by rw [fv]; exact h)
    rw [sv] at this
    exact this
  · intro h
    have := oa_l_f (f := oa_lf f u v) (s := oa_ls f s u v) (x := v) (y := u) (by rw [fv]; exact h)
    rw [fv] at this
    exact this
  · intro x hx
    unfold oa_rn
    by_cases e : c x = c v
    · rw [if_pos ⟨hx, e⟩, if_pos e]
    · rw [if_neg (fun z => e z.2), if_neg e]
/-- X's links against Y's edges, degrees, components -/
def oa_JR (V : Nat) (f s c ed dg cp : Nat → Int32) : Prop :=
  (∀ x, x < V → (f x = -1 ∧ dg x = 0) ∨ (f x ≠ -1 ∧ s x = -1 ∧ dg x = 1) ∨ (s x ≠ -1 ∧ dg x = 2)) ∧
  (∀ x y, x < V → y < V → (ed (x * 16 + y) ≠ 0 ↔ oa_lk f s x y)) ∧ (∀ x, x < V → cp x = c x)
theorem oa_JR_deg {V : Nat} {f s c ed dg cp : Nat → Int32} (g : oa_G V f s c) (r : oa_JR V f s c ed dg cp) {x : Nat} (hx : x < V) : dg x < 2 ↔ s x = -1 := by
  have g3 := g.2.2.1
  rcases r.1 x hx with ⟨h1, h2⟩ | ⟨h1, h2, h3⟩ | ⟨h1, h2⟩
  · rw [h2]
    constructor
    · intro _
      by_cases z : s x = -1
      · exact z
      · exact absurd h1 (g3 x hx z).1
    · intro _; decide
  · rw [h3]
    exact ⟨fun _ => h2, fun _ => by decide⟩
  · rw [h2]
    exact ⟨fun z => absurd z (by decide), fun z => absurd z h1⟩
theorem oa_JR_step {V u v : Nat} {f s c f' s' c' ed dg cp cp' : Nat → Int32} (hV : V ≤ 16) (hu : u < V) (hv : v < V) (g : oa_G V f s c) (su : s u = -1) (sv : s v = -1) (cc : c u ≠ c v) (j : oa_J V u v f s c f' s' c')
    (r : oa_JR V f s c ed dg cp) (hcp : ∀ x, x < V → cp' x = if cp x = cp v then cp u else cp x) :
    oa_JR V f' s' c' (upd (upd ed (u * 16 + v) 1) (v * 16 + u) 1) (upd (upd dg u (dg u + 1)) v (dg v + 1)) cp' := by
  have huv : u ≠ v := fun h => cc (by rw [h])
  have lk := oa_J_lk hV hu hv huv su sv j
  obtain ⟨j1, ju1, ju2, jv1, jv2, jc⟩ := j
  obtain ⟨r1, r2, r3⟩ := r
  have nv : nI v ≠ -1 := oa_ne (by omega)
  have nu : nI u ≠ -1 := oa_ne (by omega)
  refine ⟨?_, ?_, ?_⟩
  · intro x hx
    by_cases h1 : x = u
    · subst h1
      rw [pk_un huv, pk_us]
      rcases r1 x hx with ⟨h1, h2⟩ | ⟨h1, h2, h3⟩ | ⟨h1, h2⟩
      · exact Or.inr (Or.inl ⟨by rw [(ju1 h1).1]; exact nv, by rw [(ju1 h1).2]; exact su, by rw [h2]; decide⟩)
      · exact Or.inr (Or.inr ⟨by rw [(ju2 h1).2]; exact nv, by rw [h3]; decide⟩)
      · exact absurd su h1
    · by_cases h2 : x = v
      · subst h2
        rw [pk_us]
        rcases r1 x hx with ⟨h1, h2⟩ | ⟨h1, h2, h3⟩ | ⟨h1, h2⟩
        · exact Or.inr (Or.inl ⟨by rw [(jv1 h1).1]; exact nu, by rw [(jv1 h1).2]; exact sv, by rw [h2]; decide⟩)
        · exact Or.inr (Or.inr ⟨by rw [(jv2 h1).2]; exact nu, by rw [h3]; decide⟩)
        · exact absurd sv h1
      · rw [pk_un h2, pk_un h1, (j1 x hx h1 h2).1, (j1 x hx h1 h2).2]
        exact r1 x hx
  · intro x y hx hy
    rw [lk x y hx hy]
    by_cases h2 : x = v ∧ y = u
    · rw [h2.1, h2.2, pk_us]
      exact ⟨fun _ => Or.inr (Or.inr ⟨rfl, rfl⟩), fun _ => by decide⟩
    · rw [pk_un (fun z => h2 ((oa_cell (by omega) (by omega)).mp z))]
      by_cases h1 : x = u ∧ y = v
      · rw [h1.1, h1.2, pk_us]
        exact ⟨fun _ => Or.inr (Or.inl ⟨rfl, rfl⟩), fun _ => by decide⟩
      · rw [pk_un (fun z => h1 ((oa_cell (by omega) (by omega)).mp z)), r2 x y hx hy]
        constructor
        · exact Or.inl
        · rintro (h | h | h)
          · exact h
          · exact absurd h h1
          · exact absurd h h2
  · intro x hx
    rw [hcp x hx, jc x hx, r3 x hx, r3 u hu, r3 v hv]
end
section
/-! a path's beginning and end -/
theorem oa_least (P : Nat → Prop) (h : ∃ k, P k) : ∃ k, P k ∧ ∀ j, j < k → ¬ P j := by
  obtain ⟨k, hk⟩ := h
  induction k using Nat.strongRecOn with
  | _ k ih =>
    by_cases z : ∃ j, j < k ∧ P j
    · obtain ⟨j, hj, pj⟩ := z
      exact ih j hj pj
    · exact ⟨k, hk, fun j hj pj => z ⟨j, hj, pj⟩⟩
def oa_Cl (V : Nat) (f s pl : Nat → Int32) : Prop := ∀ x y, x < V → y < V → pl x ≠ 0 → oa_lk f s x y → pl y ≠ 0
/-- the smaller end of k's chain -/
theorem oa_end {V k : Nat} {f s c : Nat → Int32} (g : oa_G V f s c) (hk : k < V) : ∃ e, e < V ∧ (c e = c k ∧ s e = -1) ∧ ∀ x, x < e → ¬ (c x = c k ∧ s x = -1) := by
  obtain ⟨y, hy, h1, h2⟩ := g.2.2.2.2.2.1 k hk
  obtain ⟨e, he, hl⟩ := oa_least (fun x => c x = c k ∧ s x = -1) ⟨y, h1, h2⟩
  refine ⟨e, ?_, he, hl⟩
  by_cases z : e < V
  · exact z
  · exact absurd ⟨h1, h2⟩ (hl y (by omega))
theorem oa_T_start {V k e : Nat} {f s c pl : Nat → Int32} (g : oa_G V f s c) (hk : k < V) (he : e < V) (hc : c e = c k) (hs : s e = -1) (h0 : pl k = 0) (cl : oa_Cl V f s pl) : oa_T V f s pl (-1) (nI e) := by
  refine Or.inr ⟨e, he, rfl, ?_, Or.inl ⟨rfl, hs⟩, fun x y hx hy hp hl => Or.inl (cl x y hx hy hp hl)⟩
  by_cases z : pl e = 0
  · exact z
  · exact absurd h0 (g.2.2.2.2.2.2.2 (fun x => pl x ≠ 0) cl e k he hk hc z)
theorem oa_T_end {V k e : Nat} {f s c pl : Nat → Int32} {pr : Int32} (hV : V ≤ 16) (g : oa_G V f s c) (hk : k < V) (he : e < V) (hc : c e = c k) (t : oa_T V f s pl pr (-1)) (h : pl e ≠ 0) : oa_Cl V f s pl ∧ pl k ≠ 0 := by
  rcases t with ⟨_, cl⟩ | ⟨q, hq, h2, _⟩
  · exact ⟨cl, g.2.2.2.2.2.2.2 (fun x => pl x ≠ 0) cl e k he hk hc h⟩
  · exact absurd h2.symm (oa_ne (by omega))
/-- when all are placed, the addresses are 0 to V - 1 -/
theorem oa_A_all {V N : Nat} {ad ay pl : Nat → Int32} (h : oa_A V N ad ay pl) (ha : ∀ x, x < V → pl x ≠ 0) :
    (∀ x, x < V → ay x = ad x ∧ ∃ a, a < V ∧ ad x = nI a) ∧ (∀ a, a < V → ∃ x, x < V ∧ ad x = nI a) := by
  obtain ⟨h1, _, h3, h4⟩ := h
  rw [oa_cn_all V ha] at h1
  subst h1
  refine ⟨fun x hx => h3 x hx (ha x hx), fun a hN => ?_⟩
  obtain ⟨x, hx, _, e⟩ := h4 a hN
  exact ⟨x, hx, e⟩
end
section
/-! all joins: X's three loops as a function; Y's one loop follows it. A state: links f s, chains c, edges, degrees, components -/
abbrev oa_Q : Type := (Nat → Int32) × (Nat → Int32) × (Nat → Int32) × (Nat → Int32) × (Nat → Int32) × (Nat → Int32)
def oa_jj (V u v : Nat) (q : oa_Q) : oa_Q :=
  (oa_lf (oa_lf q.1 u v) v u, oa_ls (oa_lf q.1 u v) (oa_ls q.1 q.2.1 u v) v u, oa_rn q.2.2.1 (q.2.2.1 v) (q.2.2.1 u) V,
   upd (upd q.2.2.2.1 (u * 16 + v) 1) (v * 16 + u) 1, upd (upd q.2.2.2.2.1 u (q.2.2.2.2.1 u + 1)) v (q.2.2.2.2.1 v + 1), oa_rn q.2.2.2.2.2 (q.2.2.2.2.2 v) (q.2.2.2.2.2 u) 16)
abbrev oa_cj (q : oa_Q) (u v : Nat) : Prop := q.2.1 u = -1 ∧ q.2.1 v = -1 ∧ q.2.2.1 u ≠ q.2.2.1 v
def oa_j1 (W : Nat → Int32) (w : Int32) (V u v : Nat) (q : oa_Q) : oa_Q :=
  if W (u * 16 + v) = w ∧ oa_cj q u v then oa_jj V u v q else q
def oa_jv (W : Nat → Int32) (w : Int32) (V u : Nat) : Nat → Nat → oa_Q → oa_Q
  | 0, _, q => q
  | d + 1, v, q => oa_jv W w V u d (v + 1) (oa_j1 W w V u v q)
def oa_ju (W : Nat → Int32) (w : Int32) (V : Nat) : Nat → Nat → oa_Q → oa_Q
  | 0, _, q => q
  | d + 1, u, q => oa_ju W w V d (u + 1) (oa_jv W w V u (V - (u + 1)) (u + 1) q)
def oa_jw (W : Nat → Int32) (V : Nat) : Nat → oa_Q → oa_Q
  | 0, q => q
  | w + 1, q => oa_jw W V w (oa_ju W (nI (w + 1)) V V 0 q)
def oa_QI (V : Nat) (q : oa_Q) : Prop := oa_G V q.1 q.2.1 q.2.2.1 ∧ oa_JR V q.1 q.2.1 q.2.2.1 q.2.2.2.1 q.2.2.2.2.1 q.2.2.2.2.2
theorem oa_QI_jj {V u v : Nat} {q : oa_Q} (hV : V ≤ 16) (hu : u < V) (hv : v < V) (c : oa_cj q u v) (h : oa_QI V q) : oa_QI V (oa_jj V u v q) := by
  obtain ⟨g, r⟩ := h
  obtain ⟨su, sv, cc⟩ := c
  have huv : u ≠ v := fun z => cc (by rw [z])
  have j := oa_J_mk (V := V) (f := q.1) (s := q.2.1) (c := q.2.2.1) huv
  refine ⟨oa_J_G hV hu hv su sv cc j g, oa_JR_step hV hu hv g su sv cc j r ?_⟩
  intro x hx
  show oa_rn q.2.2.2.2.2 (q.2.2.2.2.2 v) (q.2.2.2.2.2 u) 16 x = _
  unfold oa_rn
  by_cases e : q.2.2.2.2.2 x = q.2.2.2.2.2 v
  · rw [if_pos ⟨by omega, e⟩, if_pos e]
  · rw [if_neg (fun z => e z.2), if_neg e]
/-- what Y asks before it joins -/
def oa_cY (q : oa_Q) (u v : Nat) : Prop := q.2.2.2.2.1 u < 2 ∧ q.2.2.2.2.1 v < 2 ∧ q.2.2.2.2.2 u ≠ q.2.2.2.2.2 v
theorem oa_cY_cj {V u v : Nat} {q : oa_Q} (hu : u < V) (hv : v < V) (h : oa_QI V q) : oa_cY q u v ↔ oa_cj q u v := by
  unfold oa_cY oa_cj
  rw [oa_JR_deg h.1 h.2 hu, oa_JR_deg h.1 h.2 hv, h.2.2.2 u hu, h.2.2.2 v hv]
theorem oa_j1_I {W : Nat → Int32} {w : Int32} {V u v : Nat} {q : oa_Q} (hV : V ≤ 16) (hu : u < V) (hv : v < V) (h : oa_QI V q) : oa_QI V (oa_j1 W w V u v q) := by
  unfold oa_j1
  split
  · rename_i c; exact oa_QI_jj hV hu hv c.2 h
  · exact h
theorem oa_jv_I {W : Nat → Int32} {w : Int32} {V u : Nat} (hV : V ≤ 16) (hu : u < V) : ∀ d v q, v + d ≤ V → oa_QI V q → oa_QI V (oa_jv W w V u d v q) := by
  intro d
  induction d with
  | zero => intro v q _ h; exact h
  | succ d ih => intro v q hv h; exact ih (v + 1) _ (by omega) (oa_j1_I hV hu (by omega) h)
theorem oa_ju_I {W : Nat → Int32} {w : Int32} {V : Nat} (hV : V ≤ 16) : ∀ d u q, u + d ≤ V → oa_QI V q → oa_QI V (oa_ju W w V d u q) := by
  intro d
  induction d with
  | zero => intro u q _ h; exact h
  | succ d ih => intro u q hu h; exact ih (u + 1) _ (by omega) (oa_jv_I hV (by omega) _ _ _ (by omega) h)
theorem oa_jw_I {W : Nat → Int32} {V : Nat} (hV : V ≤ 16) : ∀ w q, oa_QI V q → oa_QI V (oa_jw W V w q) := by
  intro w
  induction w with
  | zero => intro q h; exact h
  | succ w ih => intro q h; exact ih _ (oa_ju_I hV V 0 q (by omega) h)
section
variable {W wt : Nat → Int32} {V : Nat} {YW : Nat → Nat → oa_Q → Prop}
/-- Y's step at t, as a rule -/
def oa_YS (wt : Nat → Int32) (V : Nat) (YW : Nat → Nat → oa_Q → Prop) : Prop := ∀ k u v n q, k < 95 → u < 16 → v < 16 →
  (¬ (wt (u * 16 + v) = nI (95 - k) ∧ oa_cY q u v) → YW n (k * 256 + u * 16 + v + 1) q → YW (n + 1) (k * 256 + u * 16 + v) q) ∧
  ((wt (u * 16 + v) = nI (95 - k) ∧ oa_cY q u v) → YW n (k * 256 + u * 16 + v + 1) (oa_jj V u v q) → YW (n + 1) (k * 256 + u * 16 + v) q)
theorem oa_Y_skip (hY : oa_YS wt V YW) (h0 : ∀ u v, u < 16 → v < 16 → ¬ (u < v ∧ v < V) → wt (u * 16 + v) = 0) {k u : Nat} (hk : k < 95) (hu : u < 16) {q : oa_Q} :
    ∀ d v n, v + d ≤ 16 → (∀ y, v ≤ y → y < v + d → ¬ (u < y ∧ y < V)) → YW n (k * 256 + u * 16 + v + d) q → YW (n + d) (k * 256 + u * 16 + v) q := by
  intro d
  induction d with
  | zero => intro v n _ _ h; exact h
  | succ d ih =>
    intro v n hv hs h
    refine (hY k u v (n + d) q hk hu (by omega)).1 ?_ ?_
    · rintro ⟨z, _⟩
      rw [h0 u v hu (by omega) (hs v (by omega) (by omega))] at z
      exact nI_ne0 (n := 95 - k) (by omega) (by omega) z.symm
    · refine ih (v + 1) n (by omega) (fun y h1 h2 => hs y (by omega) (by omega)) ?_
      rw [show k * 256 + u * 16 + (v + 1) + d = k * 256 + u * 16 + v + (d + 1) by omega]
      exact h
theorem oa_Y_jv (hV : V ≤ 16) (hY : oa_YS wt V YW) (hW : ∀ u v, u < v → v < V → W (u * 16 + v) = wt (u * 16 + v)) {k u : Nat} (hk : k < 95) (hu : u < V) :
    ∀ d v n q, u < v → v + d = V → oa_QI V q → YW n (k * 256 + u * 16 + V) (oa_jv W (nI (95 - k)) V u d v q) → YW (n + d) (k * 256 + u * 16 + v) q := by
  intro d
  induction d with
  | zero => intro v n q _ hv _ h; rw [← show v = V by omega] at h; exact h
  | succ d ih =>
    intro v n q huv hv hq h
    have h2 := ih (v + 1) n (oa_j1 W (nI (95 - k)) V u v q) (by omega) (by omega) (oa_j1_I hV hu (by omega) hq) h
    have ec := oa_cY_cj hu (show v < V by omega) hq
    have ew := hW u v huv (by omega)
    by_cases c : W (u * 16 + v) = nI (95 - k) ∧ oa_cj q u v
    · rw [show oa_j1 W (nI (95 - k)) V u v q = oa_jj V u v q from if_pos c] at h2
      exact (hY k u v (n + d) q hk (by omega) (by omega)).2 ⟨by rw [← ew]; exact c.1, ec.mpr c.2⟩ h2
    · rw [show oa_j1 W (nI (95 - k)) V u v q = q from if_neg c] at h2
      exact (hY k u v (n + d) q hk (by omega) (by omega)).1 (fun z => c ⟨by rw [ew]; exact z.1, ec.mp z.2⟩) h2
theorem oa_Y_ju (hV : V ≤ 16) (hY : oa_YS wt V YW) (hW : ∀ u v, u < v → v < V → W (u * 16 + v) = wt (u * 16 + v)) (h0 : ∀ u v, u < 16 → v < 16 → ¬ (u < v ∧ v < V) → wt (u * 16 + v) = 0) {k : Nat} (hk : k < 95) :
    ∀ d u n q, u + d = V → oa_QI V q → YW n (k * 256 + V * 16) (oa_ju W (nI (95 - k)) V d u q) → YW (n + d * 16) (k * 256 + u * 16) q := by
  intro d
  induction d with
  | zero => intro u n q hu _ h; rw [← show u = V by omega] at h; rw [Nat.zero_mul]; exact h
  | succ d ih =>
    intro u n q hu hq h
    have hq2 := oa_jv_I (W := W) (w := nI (95 - k)) hV (show u < V by omega) (V - (u + 1)) (u + 1) q (by omega) hq
    have h2 := ih (u + 1) n _ (by omega) hq2 h
    have h3 := oa_Y_skip hY h0 hk (show u < 16 by omega) (q := oa_jv W (nI (95 - k)) V u (V - (u + 1)) (u + 1) q) (16 - V) V (n + d * 16) (by omega) (fun y h1 h2 => by omega) (by rw [show k * 256 + u * 16 + V + (16 - V) = k * 256 + (u + 1) * 16 by omega]; exact h2)
    have h4 := oa_Y_jv hV hY hW hk (show u < V by omega) (V - (u + 1)) (u + 1) _ q (by omega) (by omega) hq h3
    have h5 := oa_Y_skip hY h0 hk (show u < 16 by omega) (q := q) (u + 1) 0 _ (by omega) (fun y h1 h2 => by omega) (by rw [show k * 256 + u * 16 + 0 + (u + 1) = k * 256 + u * 16 + (u + 1) by omega]; exact h4)
    rw [show n + d * 16 + (16 - V) + (V - (u + 1)) + (u + 1) = n + (d + 1) * 16 by omega] at h5
    exact h5
theorem oa_Y_rows (hY : oa_YS wt V YW) (h0 : ∀ u v, u < 16 → v < 16 → ¬ (u < v ∧ v < V) → wt (u * 16 + v) = 0) {k : Nat} (hk : k < 95) {q : oa_Q} :
    ∀ d u n, u + d = 16 → V ≤ u → YW n (k * 256 + 256) q → YW (n + d * 16) (k * 256 + u * 16) q := by
  intro d
  induction d with
  | zero => intro u n hu _ h; rw [show u = 16 by omega, Nat.zero_mul]; exact h
  | succ d ih =>
    intro u n hu hv h
    have h2 := ih (u + 1) n (by omega) (by omega) h
    have h5 := oa_Y_skip hY h0 hk (show u < 16 by omega) (q := q) 16 0 _ (by omega) (fun y h1 h2 => by omega) (by rw [show k * 256 + u * 16 + 0 + 16 = k * 256 + (u + 1) * 16 by omega]; exact h2)
    rw [show n + d * 16 + 16 = n + (d + 1) * 16 by omega] at h5
    exact h5
theorem oa_Y_jw (hV : V ≤ 16) (hY : oa_YS wt V YW) (hW : ∀ u v, u < v → v < V → W (u * 16 + v) = wt (u * 16 + v)) (h0 : ∀ u v, u < 16 → v < 16 → ¬ (u < v ∧ v < V) → wt (u * 16 + v) = 0) :
    ∀ w n q, w ≤ 95 → oa_QI V q → YW n 24320 (oa_jw W V w q) → YW (n + w * 256) ((95 - w) * 256) q := by
  intro w
  induction w with
  | zero => intro n q _ _ h; rw [Nat.zero_mul]; exact h
  | succ w ih =>
    intro n q hw hq h
    have ek : 95 - (95 - (w + 1)) = w + 1 := by omega
    have hk : 95 - (w + 1) < 95 := by omega
    have hq2 := oa_ju_I (W := W) (w := nI (w + 1)) hV V 0 q (by omega) hq
    have h2 := ih n _ (by omega) hq2 h
    have h3 := oa_Y_rows hY h0 hk (q := oa_ju W (nI (w + 1)) V V 0 q) (16 - V) V _ (by omega) (by omega) (by rw [show (95 - (w + 1)) * 256 + 256 = (95 - w) * 256 by omega]; exact h2)
    have h4 := oa_Y_ju hV hY hW h0 hk V 0 _ q (by omega) hq (by rw [ek]; exact h3)
    rw [show n + w * 256 + (16 - V) * 16 + V * 16 = n + (w + 1) * 256 by omega, show (95 - (w + 1)) * 256 + 0 * 16 = (95 - (w + 1)) * 256 by omega] at h4
    exact h4
end
end
section
/-! all paths are placed: X's loops as a function. A state: addresses of X, of Y, the placed ones, the next address -/
abbrev oa_B : Type := (Nat → Int32) × (Nat → Int32) × (Nat → Int32) × Nat
def oa_b1 (b : oa_B) (k : Nat) : oa_B := (upd b.1 k (nI b.2.2.2), upd b.2.1 k (nI b.2.2.2), upd b.2.2.1 k 1, b.2.2.2 + 1)
def oa_tr (f s : Nat → Int32) : Nat → Int32 → Int32 → oa_B → oa_B
  | 0, _, _, b => b
  | d + 1, pr, cu, b => if cu = -1 then b else oa_tr f s d cu (oa_nt f s pr cu.toNatClampNeg) (oa_b1 b cu.toNatClampNeg)
theorem oa_tr_I {V : Nat} {f s c : Nat → Int32} (hV : V ≤ 16) (g : oa_G V f s c) : ∀ d pr cu (b : oa_B), oa_T V f s b.2.2.1 pr cu → oa_A V b.2.2.2 b.1 b.2.1 b.2.2.1 → V ≤ d + oa_cn b.2.2.1 V →
    (∃ pr', oa_T V f s (oa_tr f s d pr cu b).2.2.1 pr' (-1)) ∧ oa_A V (oa_tr f s d pr cu b).2.2.2 (oa_tr f s d pr cu b).1 (oa_tr f s d pr cu b).2.1 (oa_tr f s d pr cu b).2.2.1 ∧
    (∀ x, b.2.2.1 x ≠ 0 → (oa_tr f s d pr cu b).2.2.1 x ≠ 0) ∧ (∀ k, k < V → cu = nI k → (oa_tr f s d pr cu b).2.2.1 k ≠ 0) := by
  intro d
  induction d with
  | zero =>
    intro pr cu b t a hd
    have e : cu = -1 := by
      rcases t with ⟨h, _⟩ | ⟨k, hk, _, h0, _⟩
      · exact h
      · have := oa_cn_lt h0 V hk; omega
    subst e
    exact ⟨⟨pr, t⟩, a, fun x h => h, fun k hk h => absurd h.symm (oa_ne (by omega))⟩
  | succ d ih =>
    intro pr cu b t a hd
    rw [oa_tr]
    by_cases e : cu = -1
    · rw [if_pos e]
      subst e
      exact ⟨⟨pr, t⟩, a, fun x h => h, fun k hk h => absurd h.symm (oa_ne (by omega))⟩
    · rw [if_neg e]
      rcases t with ⟨h, _⟩ | ⟨k, hk, rfl, h0, h1, h2⟩
      · exact absurd h e
      · rw [nI_clamp (by omega)]
        have t : oa_T V f s b.2.2.1 pr (nI k) := Or.inr ⟨k, hk, rfl, h0, h1, h2⟩
        have q1 : upd b.2.2.1 k 1 k ≠ 0 := by rw [pk_us]; decide
        have q2 : ∀ x, x ≠ k → upd b.2.2.1 k 1 x = b.2.2.1 x := fun x hx => pk_un hx
        have st := oa_T_step hV g hk t q1 q2
        have sa := oa_A_step hV a hk h0 (t := 1) (by decide)
        have sc := oa_cn_up h0 q1 q2 V
        rw [if_pos hk] at sc
        obtain ⟨i1, i2, i3, i4⟩ := ih (nI k) (oa_nt f s pr k) (oa_b1 b k) st.1 sa.1 (by show V ≤ d + oa_cn (upd b.2.2.1 k 1) V; omega)
        have mono : ∀ x, b.2.2.1 x ≠ 0 → (oa_b1 b k).2.2.1 x ≠ 0 := by
          intro x hx
          show upd b.2.2.1 k 1 x ≠ 0
          by_cases z : x = k
          · rw [z]; exact q1
          · rw [q2 x z]; exact hx
        refine ⟨i1, i2, fun x hx => i3 x (mono x hx), fun k' hk' e' => ?_⟩
        have : k = k' := oa_inj (by omega) (by omega) e'
        subst this
        exact i3 k q1
/-- the smaller end, as both sides look for it -/
def oa_sm (s c : Nat → Int32) (x : Int32) : Nat → Nat → Int32
  | 0, _ => -1
  | d + 1, v => if c v = x ∧ s v = -1 then nI v else oa_sm s c x d (v + 1)
theorem oa_sm_e {V e : Nat} {s c : Nat → Int32} {x : Int32} (he : e < V) (h1 : c e = x ∧ s e = -1) (h2 : ∀ y, y < e → ¬ (c y = x ∧ s y = -1)) : ∀ d v, v + d = V → v ≤ e → oa_sm s c x d v = nI e := by
  intro d
  induction d with
  | zero => intro v hv hve; omega
  | succ d ih =>
    intro v hv hve
    rw [oa_sm]
    by_cases z : v = e
    · rw [z, if_pos h1]
    · rw [if_neg (h2 v (by omega))]; exact ih (v + 1) (by omega) (by omega)
def oa_a1 (reg f s c : Nat → Int32) (V : Nat) (r : Int32) (v : Nat) (b : oa_B) : oa_B :=
  if reg v = r ∧ b.1 v = -1 then oa_tr f s V (-1) (oa_sm s c (c v) V 0) b else b
def oa_av (reg f s c : Nat → Int32) (V : Nat) (r : Int32) : Nat → Nat → oa_B → oa_B
  | 0, _, b => b
  | d + 1, v, b => oa_av reg f s c V r d (v + 1) (oa_a1 reg f s c V r v b)
def oa_aw (reg f s c : Nat → Int32) (V : Nat) : Nat → Nat → oa_B → oa_B
  | 0, _, b => b
  | d + 1, r, b => oa_aw reg f s c V d (r + 1) (oa_av reg f s c V (nI r) V 0 b)
def oa_BI (V : Nat) (f s : Nat → Int32) (b : oa_B) : Prop := oa_A V b.2.2.2 b.1 b.2.1 b.2.2.1 ∧ oa_Cl V f s b.2.2.1
theorem oa_BI_un {V : Nat} {f s : Nat → Int32} {b : oa_B} (hV : V ≤ 16) (h : oa_BI V f s b) {v : Nat} (hv : v < V) : b.1 v = -1 ↔ b.2.2.1 v = 0 := by
  obtain ⟨⟨h1, h2, h3, h4⟩, _⟩ := h
  constructor
  · intro e
    by_cases z : b.2.2.1 v = 0
    · exact z
    · obtain ⟨_, a, ha, ea⟩ := h3 v hv z
      rw [e] at ea
      have := oa_cn_le b.2.2.1 V
      exact absurd ea.symm (oa_ne (by omega))
  · exact h2 v hv
theorem oa_a1_I {V v : Nat} {reg f s c : Nat → Int32} {r : Int32} {b : oa_B} (hV : V ≤ 16) (g : oa_G V f s c) (hv : v < V) (h : oa_BI V f s b) :
    oa_BI V f s (oa_a1 reg f s c V r v b) ∧ (∀ x, b.2.2.1 x ≠ 0 → (oa_a1 reg f s c V r v b).2.2.1 x ≠ 0) ∧ (reg v = r → (oa_a1 reg f s c V r v b).2.2.1 v ≠ 0) := by
  have un := oa_BI_un hV h hv
  unfold oa_a1
  by_cases z : reg v = r ∧ b.1 v = -1
  · rw [if_pos z]
    obtain ⟨e, he, ⟨hc, hs⟩, hl⟩ := oa_end g hv
    rw [oa_sm_e he ⟨hc, hs⟩ hl V 0 (by omega) (by omega)]
    have t := oa_T_start g hv he hc hs (un.mp z.2) h.2
    obtain ⟨⟨pr, i1⟩, i2, i3, i4⟩ := oa_tr_I hV g V (-1) (nI e) b t h.1 (by omega)
    have en := oa_T_end hV g hv he hc i1 (i4 e he rfl)
    exact ⟨⟨i2, en.1⟩, i3, fun _ => en.2⟩
  · rw [if_neg z]
    exact ⟨h, fun x hx => hx, fun hr => fun h0 => z ⟨hr, un.mpr h0⟩⟩
theorem oa_av_I {V : Nat} {reg f s c : Nat → Int32} {r : Int32} (hV : V ≤ 16) (g : oa_G V f s c) : ∀ d v b, v + d ≤ V → oa_BI V f s b →
    oa_BI V f s (oa_av reg f s c V r d v b) ∧ (∀ x, b.2.2.1 x ≠ 0 → (oa_av reg f s c V r d v b).2.2.1 x ≠ 0) ∧ (∀ x, v ≤ x → x < v + d → reg x = r → (oa_av reg f s c V r d v b).2.2.1 x ≠ 0) := by
  intro d
  induction d with
  | zero => intro v b _ h; exact ⟨h, fun x hx => hx, fun x h1 h2 => by omega⟩
  | succ d ih =>
    intro v b hv h
    obtain ⟨a1, a2, a3⟩ := oa_a1_I (reg := reg) (r := r) hV g (show v < V by omega) h
    obtain ⟨i1, i2, i3⟩ := ih (v + 1) _ (by omega) a1
    refine ⟨i1, fun x hx => i2 x (a2 x hx), fun x h1 h2 hr => ?_⟩
    by_cases z : x = v
    · rw [z] at hr ⊢; exact i2 v (a3 hr)
    · exact i3 x (by omega) (by omega) hr
theorem oa_aw_I {V : Nat} {reg f s c : Nat → Int32} (hV : V ≤ 16) (g : oa_G V f s c) : ∀ d r b, oa_BI V f s b →
    oa_BI V f s (oa_aw reg f s c V d r b) ∧ (∀ x, b.2.2.1 x ≠ 0 → (oa_aw reg f s c V d r b).2.2.1 x ≠ 0) ∧ (∀ x r', x < V → r ≤ r' → r' < r + d → reg x = nI r' → (oa_aw reg f s c V d r b).2.2.1 x ≠ 0) := by
  intro d
  induction d with
  | zero => intro r b h; exact ⟨h, fun x hx => hx, fun x r' _ h1 h2 => by omega⟩
  | succ d ih =>
    intro r b h
    obtain ⟨a1, a2, a3⟩ := oa_av_I (reg := reg) (r := nI r) hV g V 0 b (by omega) h
    obtain ⟨i1, i2, i3⟩ := ih (r + 1) _ a1
    refine ⟨i1, fun x hx => i2 x (a2 x hx), fun x r' hx h1 h2 hr => ?_⟩
    by_cases z : r' = r
    · rw [z] at hr; exact i2 x (a3 x (by omega) (by omega) hr)
    · exact i3 x r' hx (by omega) (by omega) hr
/-- Y's loop over t = r * V + v -/
theorem oa_Y_av {V : Nat} {reg f s c : Nat → Int32} {YW : Nat → Nat → oa_B → Prop} (hV : V ≤ 16) (g : oa_G V f s c) {r : Nat}
    (hY : ∀ v n b, v < V → oa_BI V f s b → YW n (r * V + v + 1) (oa_a1 reg f s c V (nI r) v b) → YW (n + 1) (r * V + v) b) :
    ∀ d v n b, v + d = V → oa_BI V f s b → YW n (r * V + V) (oa_av reg f s c V (nI r) d v b) → YW (n + d) (r * V + v) b := by
  intro d
  induction d with
  | zero =>
    intro v n b hv _ h
    have e : r * V + V = r * V + v := by omega
    rw [e] at h
    exact h
  | succ d ih =>
    intro v n b hv hb h
    exact hY v (n + d) b (by omega) hb (ih (v + 1) n _ (by omega) (oa_a1_I hV g (by omega) hb).1 h)
theorem oa_Y_aw {V nR : Nat} {reg f s c : Nat → Int32} {YW : Nat → Nat → oa_B → Prop} (hV : V ≤ 16) (g : oa_G V f s c)
    (hY : ∀ r v n b, r < nR → v < V → oa_BI V f s b → YW n (r * V + v + 1) (oa_a1 reg f s c V (nI r) v b) → YW (n + 1) (r * V + v) b) :
    ∀ d r n b, r + d = nR → oa_BI V f s b → YW n (nR * V) (oa_aw reg f s c V d r b) → YW (n + d * V) (r * V) b := by
  intro d
  induction d with
  | zero => intro r n b hr _ h; rw [← show r = nR by omega] at h; rw [Nat.zero_mul]; exact h
  | succ d ih =>
    intro r n b hr hb h
    have h2 := ih (r + 1) n _ (by omega) (oa_av_I (reg := reg) (r := nI r) hV g V 0 b (by omega) hb).1 h
    rw [Nat.succ_mul] at h2
    have h3 := oa_Y_av hV g (fun v n b hv hb h => hY r v n b (by omega) hv hb h) V 0 (n + d * V) b (by omega) hb h2
    rw [Nat.succ_mul, ← Nat.add_assoc]
    exact h3
end
section
/-! the code is made: X's methods as functions. A state: opcodes, registers, operands, lengths, loads, X's known addresses, Y's known values, Y's marks -/
abbrev oa_K : Type := (Nat → Int32) × (Nat → Int32) × (Nat → Int32) × (Nat → Int32) × (Nat → Int32) × (Nat → Int32) × (Nat → Int32) × (Nat → Int32)
def oa_em (w : Nat) (o r x : Int32) (k : oa_K) : oa_K :=
  (upd k.1 (192 * w + (k.2.2.2.1 w).toNatClampNeg) o, upd k.2.1 (192 * w + (k.2.2.2.1 w).toNatClampNeg) r, upd k.2.2.1 (192 * w + (k.2.2.2.1 w).toNatClampNeg) x,
   upd k.2.2.2.1 w (k.2.2.2.1 w + 1), if o = 0 then upd k.2.2.2.2.1 w (k.2.2.2.2.1 w + 1) else k.2.2.2.2.1, k.2.2.2.2.2)
def oa_mk (w R : Nat) (k : oa_K) : oa_K :=
  (k.1, k.2.1, k.2.2.1, k.2.2.2.1, k.2.2.2.2.1, k.2.2.2.2.2.1, k.2.2.2.2.2.2.1, if w = 0 then k.2.2.2.2.2.2.2 else upd k.2.2.2.2.2.2.2 R 1)
def oa_st (w R : Nat) (x : Int32) (k : oa_K) : oa_K :=
  (k.1, k.2.1, k.2.2.1, k.2.2.2.1, k.2.2.2.2.1, upd k.2.2.2.2.2.1 R x, if w = 0 then k.2.2.2.2.2.2.1 else upd k.2.2.2.2.2.2.1 R x, k.2.2.2.2.2.2.2)
/-- the step behind access j -/
def oa_sp (reg acc ad : Nat → Int32) (n j : Nat) : Int32 :=
  if oa_fo reg acc n j < n then (if -1 ≤ ad (acc (oa_fo reg acc n j)).toNatClampNeg - ad (acc j).toNatClampNeg ∧ ad (acc (oa_fo reg acc n j)).toNatClampNeg - ad (acc j).toNatClampNeg ≤ 1
    then ad (acc (oa_fo reg acc n j)).toNatClampNeg - ad (acc j).toNatClampNeg else 0) else 0
def oa_pa (acc ad : Nat → Int32) (w j : Nat) : Int32 := if w = 0 then acc j else ad (acc j).toNatClampNeg
def oa_ms (reg acc ad : Nat → Int32) (n w j : Nat) : Int32 := if w = 0 then 0 else oa_sp reg acc ad n j
/-- the load of an address, where it is wanted -/
def oa_ld (reg acc ad : Nat → Int32) (w j : Nat) (k : oa_K) : oa_K :=
  if w = 0 ∨ k.2.2.2.2.2.1 (reg (acc j).toNatClampNeg).toNatClampNeg ≠ oa_pa acc ad w j
  then oa_mk w (reg (acc j).toNatClampNeg).toNatClampNeg (oa_em w 0 (reg (acc j).toNatClampNeg) (oa_pa acc ad w j) k) else k
def oa_ac (reg acc ad : Nat → Int32) (n w : Nat) (code : Int32) (j : Nat) (k : oa_K) : oa_K :=
  oa_st w (reg (acc j).toNatClampNeg).toNatClampNeg (oa_pa acc ad w j + oa_ms reg acc ad n w j)
    (oa_em w code (reg (acc j).toNatClampNeg) (oa_ms reg acc ad n w j) (oa_ld reg acc ad w j k))
/-- a statement -/
def oa_tt (reg acc ad : Nat → Int32) (n w : Nat) (o a : Int32) (p : Nat) (k : oa_K) : oa_K :=
  if o ≤ 5 then oa_ac reg acc ad n w 8 (p + 2) (oa_ac reg acc ad n w (2 + o) (p + 1) (oa_ac reg acc ad n w 1 p k))
  else if o = 6 then oa_ac reg acc ad n w 8 (p + 1) (oa_ac reg acc ad n w 1 p k)
  else if o = 7 then oa_ac reg acc ad n w 8 p (oa_em w 9 0 a k)
  else oa_em w 10 0 0 (oa_ac reg acc ad n w 1 p k)
def oa_tb (reg acc ad sop sa : Nat → Int32) (n w : Nat) : Nat → oa_K → oa_K
  | 0, k => k
  | i + 1, k => oa_tt reg acc ad n w (sop i) (sa i) (oa_ps sop i) (oa_tb reg acc ad sop sa n w i k)
/-- the two kinds of knowledge agree -/
def oa_KR (nR w : Nat) (k : oa_K) : Prop := w = 0 ∨ ∀ r, r < nR → (k.2.2.2.2.2.2.2 r = 0 → k.2.2.2.2.2.1 r = -1) ∧ (k.2.2.2.2.2.2.2 r ≠ 0 → k.2.2.2.2.2.1 r = k.2.2.2.2.2.2.1 r)
/-- length L, at most q OUT; the other program is as in k0 -/
def oa_KC (nR w L q : Nat) (k0 k : oa_K) : Prop :=
  oa_CI nR w L q k.1 k.2.1 k.2.2.2.1 ∧ (∀ w' L' q', w' ≠ w → L' ≤ 192 → oa_CI nR w' L' q' k0.1 k0.2.1 k0.2.2.2.1 → oa_CI nR w' L' q' k.1 k.2.1 k.2.2.2.1)
theorem oa_em_C {nR w L q o r : Nat} {x : Int32} {k0 k : oa_K} (h : oa_KC nR w L q k0 k) (hL : L < 192) (ho : o ≤ 10) (hr : r < nR) : oa_KC nR w (L + 1) (q + if o = 10 then 1 else 0) k0 (oa_em w (nI o) (nI r) x k) := by
  obtain ⟨h1, h3⟩ := h
  have eL : (k.2.2.2.1 w).toNatClampNeg = L := by rw [h1.1]; exact nI_clamp (by omega)
  have eN : k.2.2.2.1 w + 1 = nI (L + 1) := by rw [h1.1]; exact nI_1 L
  unfold oa_em
  rw [eL, eN]
  exact ⟨oa_CI_emit h1 ho hr, fun w' L' q' hw hl hc => oa_CI_other (h3 w' L' q' hw hl hc) hL hl hw⟩
theorem oa_em_C' {nR w L q o r : Nat} {x : Int32} {k0 k : oa_K} (h : oa_KC nR w L q k0 k) (hL : L < 192) (ho : o < 10) (hr : r < nR) : oa_KC nR w (L + 1) q k0 (oa_em w (nI o) (nI r) x k) := by
  have := oa_em_C (x := x) h hL (show o ≤ 10 by omega) hr
  rw [if_neg (by omega), Nat.add_zero] at this
  exact this
theorem oa_ld_C {nR w L q j r : Nat} {reg acc ad : Nat → Int32} {k0 k : oa_K} (er : reg (acc j).toNatClampNeg = nI r) (hr : r < nR) (h : oa_KC nR w L q k0 k) (hL : L < 192) :
    ∃ L', L' ≤ L + 1 ∧ oa_KC nR w L' q k0 (oa_ld reg acc ad w j k) := by
  unfold oa_ld
  split
  · refine ⟨L + 1, Nat.le_refl _, ?_⟩
    rw [er]
    exact oa_em_C' (o := 0) (x := oa_pa acc ad w j) h hL (by omega) hr
  · exact ⟨L, by omega, h⟩
theorem oa_ac_C {nR w L q j n o r : Nat} {reg acc ad : Nat → Int32} {k0 k : oa_K} (er : reg (acc j).toNatClampNeg = nI r) (hr : r < nR) (h : oa_KC nR w L q k0 k) (hL : L + 2 ≤ 192) (ho : o < 10) :
    ∃ L', L' ≤ L + 2 ∧ oa_KC nR w L' q k0 (oa_ac reg acc ad n w (nI o) j k) := by
  obtain ⟨L1, hL1, h1⟩ := oa_ld_C (ad := ad) er hr h (by omega)
  refine ⟨L1 + 1, by omega, ?_⟩
  unfold oa_ac
  rw [er]
  exact oa_em_C' (x := oa_ms reg acc ad n w j) h1 (by omega) ho hr
theorem oa_ld_kn (reg acc ad : Nat → Int32) (w j : Nat) (k : oa_K) : (oa_ld reg acc ad w j k).2.2.2.2.2.1 = k.2.2.2.2.2.1 ∧ (oa_ld reg acc ad w j k).2.2.2.2.2.2.1 = k.2.2.2.2.2.2.1 := by
  unfold oa_ld
  split
  · exact ⟨rfl, rfl⟩
  · exact ⟨rfl, rfl⟩
theorem oa_ld_kk {reg acc ad : Nat → Int32} {w j r : Nat} {k : oa_K} (hw : w ≠ 0) (er : (reg (acc j).toNatClampNeg).toNatClampNeg = r) (hp : oa_pa acc ad w j ≠ -1) (h : k.2.2.2.2.2.2.2 r = 0 → k.2.2.2.2.2.1 r = -1) :
    (oa_ld reg acc ad w j k).2.2.2.2.2.2.2 r ≠ 0 ∧ ∀ x, x ≠ r → (oa_ld reg acc ad w j k).2.2.2.2.2.2.2 x = k.2.2.2.2.2.2.2 x := by
  unfold oa_ld
  rw [er]
  by_cases c : w = 0 ∨ k.2.2.2.2.2.1 r ≠ oa_pa acc ad w j
  · rw [if_pos c]
    have e : ∀ x, (oa_mk w r (oa_em w 0 (reg (acc j).toNatClampNeg) (oa_pa acc ad w j) k)).2.2.2.2.2.2.2 x = upd k.2.2.2.2.2.2.2 r 1 x := by
      intro x
      show (if w = 0 then k.2.2.2.2.2.2.2 else upd k.2.2.2.2.2.2.2 r 1) x = _
      rw [if_neg hw]
    refine ⟨?_, fun x hx => ?_⟩
    · rw [e, pk_us]; decide
    · rw [e, pk_un hx]
  · rw [if_neg c]
    refine ⟨fun z => c (Or.inr ?_), fun x _ => rfl⟩
    rw [h z]
    exact fun y => hp y.symm
theorem oa_ac_R {nR w j n r : Nat} {o : Int32} {reg acc ad : Nat → Int32} {k : oa_K} (er : (reg (acc j).toNatClampNeg).toNatClampNeg = r) (hr : r < nR) (hp : w ≠ 0 → oa_pa acc ad w j ≠ -1) (h : oa_KR nR w k) :
    oa_KR nR w (oa_ac reg acc ad n w o j k) := by
  rcases h with h | h
  · exact Or.inl h
  · by_cases hw : w = 0
    · exact Or.inl hw
    · refine Or.inr fun x hx => ?_
      have l1 := oa_ld_kk hw er (hp hw) (h r hr).1
      have l2 := oa_ld_kn reg acc ad w j k
      have e1 : (oa_ac reg acc ad n w o j k).2.2.2.2.2.1 = upd k.2.2.2.2.2.1 r (oa_pa acc ad w j + oa_ms reg acc ad n w j) := by
        rw [← l2.1, ← er]; rfl
      have e2 : (oa_ac reg acc ad n w o j k).2.2.2.2.2.2.1 = upd k.2.2.2.2.2.2.1 r (oa_pa acc ad w j + oa_ms reg acc ad n w j) := by
        rw [← l2.2, ← er]; exact if_neg hw
      have e3 : (oa_ac reg acc ad n w o j k).2.2.2.2.2.2.2 = (oa_ld reg acc ad w j k).2.2.2.2.2.2.2 := rfl
      rw [e1, e2, e3]
      by_cases z : x = r
      · subst z
        rw [pk_us, pk_us]
        exact ⟨fun y => absurd y l1.1, fun _ => rfl⟩
      · rw [pk_un z, pk_un z, l1.2 x z]
        exact h x hx
/-- what the accesses of the block are -/
def oa_env (V nR n : Nat) (reg acc ad : Nat → Int32) : Prop :=
  V ≤ 16 ∧ nR ≤ 4 ∧ n ≤ 96 ∧ (∀ v, v < V → ∃ r, r < nR ∧ reg v = nI r) ∧ (∀ j, j < n → oa_vr V (acc j)) ∧ (∀ v, v < V → ∃ a, a < V ∧ ad v = nI a)
theorem oa_env_j {V nR n j w : Nat} {reg acc ad : Nat → Int32} (e : oa_env V nR n reg acc ad) (hj : j < n) :
    ∃ v r a, v < V ∧ r < nR ∧ a < V ∧ acc j = nI v ∧ (acc j).toNatClampNeg = v ∧ reg (acc j).toNatClampNeg = nI r ∧ (reg (acc j).toNatClampNeg).toNatClampNeg = r ∧ ad (acc j).toNatClampNeg = nI a ∧ oa_pa acc ad w j ≠ -1 := by
  obtain ⟨hV, hR, _, h1, h2, h3⟩ := e
  obtain ⟨v, hv, ev⟩ := h2 j hj
  have cv : (acc j).toNatClampNeg = v := by rw [ev]; exact nI_clamp (by omega)
  obtain ⟨r, hr, er⟩ := h1 v hv
  obtain ⟨a, ha, ea⟩ := h3 v hv
  refine ⟨v, r, a, hv, hr, ha, ev, cv, by rw [cv, er], by rw [cv, er]; exact nI_clamp (by omega), by rw [cv, ea], ?_⟩
  unfold oa_pa
  split
  · rw [ev]; exact oa_ne (by omega)
  · rw [cv, ea]; exact oa_ne (by omega)
def oa_KI (nR w L q : Nat) (k0 k : oa_K) : Prop := oa_KC nR w L q k0 k ∧ oa_KR nR w k
theorem oa_ac_I {V nR w L q j n o : Nat} {reg acc ad : Nat → Int32} {k0 k : oa_K} (e : oa_env V nR n reg acc ad) (hj : j < n) (h : oa_KI nR w L q k0 k) (hL : L + 2 ≤ 192) (ho : o < 10) :
    ∃ L', L' ≤ L + 2 ∧ oa_KI nR w L' q k0 (oa_ac reg acc ad n w (nI o) j k) := by
  obtain ⟨v, r, a, hv, hr, ha, e1, e2, e3, e4, e5, e6⟩ := oa_env_j (w := w) e hj
  obtain ⟨L', h1, h2⟩ := oa_ac_C (n := n) (ad := ad) e3 hr h.1 hL ho
  exact ⟨L', h1, h2, oa_ac_R e4 hr (fun _ => e6) h.2⟩
theorem oa_em_I {nR w L q o r : Nat} {x : Int32} {k0 k : oa_K} (h : oa_KI nR w L q k0 k) (hL : L < 192) (ho : o ≤ 10) (hr : r < nR) : oa_KI nR w (L + 1) (q + if o = 10 then 1 else 0) k0 (oa_em w (nI o) (nI r) x k) :=
  ⟨oa_em_C h.1 hL ho hr, h.2⟩
theorem oa_KI_up {nR w L q q' : Nat} {k0 k : oa_K} (h : oa_KI nR w L q k0 k) (hq : q ≤ q') : oa_KI nR w L q' k0 k := ⟨⟨oa_CI_up h.1.1 hq, h.1.2⟩, h.2⟩
theorem oa_tt_I {V nR w L q p n : Nat} {reg acc ad : Nat → Int32} {o d a b : Int32} {k0 k : oa_K} (e : oa_env V nR n reg acc ad) (hR : 0 < nR) (st : oa_ST V o d a b acc p) (hp : p + oa_na o ≤ n) (h : oa_KI nR w L q k0 k) (hL : L + 6 ≤ 192) :
    ∃ L', L' ≤ L + 6 ∧ oa_KI nR w L' (q + 1) k0 (oa_tt reg acc ad n w o a p k) := by
  rcases st with ⟨z, hz, rfl, -⟩ | ⟨rfl, -⟩ | ⟨rfl, -⟩ | ⟨rfl, -⟩
  · rw [oa_na5 hz] at hp
    unfold oa_tt
    rw [if_pos (show nI z ≤ 5 from nI_le (b := 5) hz (by decide))]
    obtain ⟨L1, l1, h1⟩ := oa_ac_I (o := 1) e (show p < n by omega) h (by omega) (by omega)
    obtain ⟨L2, l2, h2⟩ := oa_ac_I (o := 2 + z) e (show p + 1 < n by omega) h1 (by omega) (by omega)
    obtain ⟨L3, l3, h3⟩ := oa_ac_I (o := 8) e (show p + 2 < n by omega) h2 (by omega) (by omega)
    rw [← nI_add 2 z] at h3
    exact ⟨L3, by omega, oa_KI_up h3 (by omega)⟩
  · rw [oa_na6] at hp
    unfold oa_tt
    rw [if_neg (by decide), if_pos rfl]
    obtain ⟨L1, l1, h1⟩ := oa_ac_I (o := 1) e (show p < n by omega) h (by omega) (by omega)
    obtain ⟨L2, l2, h2⟩ := oa_ac_I (o := 8) e (show p + 1 < n by omega) h1 (by omega) (by omega)
    exact ⟨L2, by omega, oa_KI_up h2 (by omega)⟩
  · rw [oa_na7] at hp
    unfold oa_tt
    rw [if_neg (by decide), if_neg (by decide), if_pos rfl]
    have h1 := oa_em_I (x := a) (o := 9) (r := 0) h (by omega) (by omega) hR
    rw [if_neg (by omega), Nat.add_zero] at h1
    obtain ⟨L2, l2, h2⟩ := oa_ac_I (o := 8) e (show p < n by omega) h1 (by omega) (by omega)
    exact ⟨L2, by omega, oa_KI_up h2 (by omega)⟩
  · rw [oa_na8] at hp
    unfold oa_tt
    rw [if_neg (by decide), if_neg (by decide), if_neg (by decide)]
    obtain ⟨L1, l1, h1⟩ := oa_ac_I (o := 1) e (show p < n by omega) h (by omega) (by omega)
    have h2 := oa_em_I (x := 0) (o := 10) (r := 0) h1 (by omega) (by omega) hR
    rw [if_pos rfl] at h2
    exact ⟨L1 + 1, by omega, h2⟩
theorem oa_tb_I {V nR w cnt : Nat} {reg acc ad sop sd sa sb : Nat → Int32} {k0 k : oa_K} (hR : 0 < nR) (hc : cnt ≤ 32) (ss : oa_SS V cnt sop sd sa sb acc) (e : oa_env V nR (oa_ps sop cnt) reg acc ad) (h : oa_KI nR w 0 0 k0 k) :
    ∀ i, i ≤ cnt → ∃ L, L ≤ 6 * i ∧ oa_KI nR w L i k0 (oa_tb reg acc ad sop sa (oa_ps sop cnt) w i k) := by
  intro i
  induction i with
  | zero => intro _; exact ⟨0, by omega, h⟩
  | succ i ih =>
    intro hi
    obtain ⟨L, hL, h1⟩ := ih (by omega)
    have hp : oa_ps sop i + oa_na (sop i) ≤ oa_ps sop cnt := oa_ps_mono sop cnt (i + 1) hi
    obtain ⟨L', hL', h2⟩ := oa_tt_I e hR (ss i (by omega)) hp h1 (by omega)
    exact ⟨L', by omega, h2⟩
end
section
/-! the machine: X's methods as functions. A state: memory, address registers, accumulator, outputs, their number (X); memory, address registers, number (Y) -/
abbrev oa_M : Type := (Nat → Int32) × (Nat → Int32) × Int32 × (Nat → Int32) × (Nat → Int32) × (Nat → Int32) × (Nat → Int32) × (Nat → Int32)
def oa_cb (o l r : Int32) : Int32 := if o = 2 then l + r else if o = 3 then l - r else if o = 4 then l * r else if o = 5 then l &&& r else if o = 6 then l ||| r else if o = 7 then l ^^^ r else r
abbrev oa_in (V : Nat) (a : Int32) : Prop := 0 ≤ a ∧ a < nI V
theorem oa_in_c {V : Nat} {a : Int32} (hV : V ≤ 16) (h : oa_in V a) : ∃ c, c < V ∧ a = nI c := by
  obtain ⟨c, hc, rfl⟩ := nI_of (x := a) (Int32.not_lt.mpr h.1)
  exact ⟨c, (nI_ltI hc (by omega)).mp h.2, rfl⟩
def oa_x1 (V w : Nat) (o r x : Int32) (m : oa_M) : oa_M :=
  if o = 0 then (m.1, upd m.2.1 r.toNatClampNeg x, m.2.2.1, m.2.2.2.1, m.2.2.2.2.1, m.2.2.2.2.2.1, upd m.2.2.2.2.2.2.1 r.toNatClampNeg x, m.2.2.2.2.2.2.2)
  else if o = 9 then (m.1, m.2.1, x, m.2.2.2)
  else if o = 10 then (m.1, m.2.1, m.2.2.1, upd m.2.2.2.1 (32 * w + (m.2.2.2.2.1 w).toNatClampNeg) m.2.2.1, upd m.2.2.2.2.1 w (m.2.2.2.2.1 w + 1), m.2.2.2.2.2.1, m.2.2.2.2.2.2.1, upd m.2.2.2.2.2.2.2 w (m.2.2.2.2.2.2.2 w + 1))
  else if o = 8 then
    (if oa_in V (m.2.1 r.toNatClampNeg) then upd m.1 (16 * w + (m.2.1 r.toNatClampNeg).toNatClampNeg) m.2.2.1 else m.1, upd m.2.1 r.toNatClampNeg (m.2.1 r.toNatClampNeg + x), m.2.2.1, m.2.2.2.1, m.2.2.2.2.1,
     if oa_in V (m.2.1 r.toNatClampNeg) then upd m.2.2.2.2.2.1 (16 * w + (m.2.1 r.toNatClampNeg).toNatClampNeg) m.2.2.1 else m.2.2.2.2.2.1, upd m.2.2.2.2.2.2.1 r.toNatClampNeg (m.2.1 r.toNatClampNeg + x), m.2.2.2.2.2.2.2)
  else
    (m.1, upd m.2.1 r.toNatClampNeg (m.2.1 r.toNatClampNeg + x), oa_cb o m.2.2.1 (if oa_in V (m.2.1 r.toNatClampNeg) then m.1 (16 * w + (m.2.1 r.toNatClampNeg).toNatClampNeg) else 0), m.2.2.2.1, m.2.2.2.2.1,
     m.2.2.2.2.2.1, upd m.2.2.2.2.2.2.1 r.toNatClampNeg (m.2.1 r.toNatClampNeg + x), m.2.2.2.2.2.2.2)
def oa_xs (V w : Nat) (op rg od : Nat → Int32) : Nat → oa_M → oa_M
  | 0, m => m
  | i + 1, m => oa_x1 V w (op (192 * w + i)) (rg (192 * w + i)) (od (192 * w + i)) (oa_xs V w op rg od i m)
/-- before instruction i -/
def oa_MI (V nR w i : Nat) (op : Nat → Int32) (m0 m : oa_M) : Prop :=
  (∀ r, r < nR → m.2.2.2.2.2.2.1 r = m.2.1 r) ∧ (∀ w' c, w' < 2 → c < V → m.2.2.2.2.2.1 (16 * w' + c) = m.1 (16 * w' + c)) ∧
  m.2.2.2.2.1 w = nI (oa_oc op (192 * w) i) ∧ m.2.2.2.2.2.2.2 w = nI (oa_oc op (192 * w) i) ∧
  (∀ w', w' ≠ w → m.2.2.2.2.1 w' = m0.2.2.2.2.1 w' ∧ m.2.2.2.2.2.2.2 w' = m0.2.2.2.2.2.2.2 w')
theorem oa_up_eq {f g : Nat → Int32} {n k : Nat} {x : Int32} (h : ∀ r, r < n → g r = f r) : ∀ r, r < n → upd g k x r = upd f k x r := by
  intro r hr
  unfold upd
  split
  · rfl
  · exact h r hr
theorem oa_up_mem {f g : Nat → Int32} {V k : Nat} {x : Int32} (h : ∀ w' c, w' < 2 → c < V → g (16 * w' + c) = f (16 * w' + c)) : ∀ w' c, w' < 2 → c < V → upd g k x (16 * w' + c) = upd f k x (16 * w' + c) := by
  intro w' c h1 h2
  unfold upd
  split
  · rfl
  · exact h w' c h1 h2
theorem oa_x1_I {V nR w i : Nat} {op : Nat → Int32} {r x : Int32} {m0 m : oa_M} (h : oa_MI V nR w i op m0 m) : oa_MI V nR w (i + 1) op m0 (oa_x1 V w (op (192 * w + i)) r x m) := by
  obtain ⟨h1, h2, h3, h4, h5⟩ := h
  have eo : oa_oc op (192 * w) (i + 1) = oa_oc op (192 * w) i + if op (192 * w + i) = 10 then 1 else 0 := rfl
  unfold oa_MI
  rw [eo]
  unfold oa_x1
  by_cases c0 : op (192 * w + i) = 0
  · rw [if_pos c0, if_neg (by rw [c0]; decide), Nat.add_zero]
    exact ⟨oa_up_eq h1, h2, h3, h4, h5⟩
  · rw [if_neg c0]
    by_cases c9 : op (192 * w + i) = 9
    · rw [if_pos c9, if_neg (by rw [c9]; decide), Nat.add_zero]
      exact ⟨h1, h2, h3, h4, h5⟩
    · rw [if_neg c9]
      by_cases c10 : op (192 * w + i) = 10
      · rw [if_pos c10, if_pos c10]
        refine ⟨h1, h2, ?_, ?_, ?_⟩
        · show upd m.2.2.2.2.1 w (m.2.2.2.2.1 w + 1) w = _
          rw [pk_us, h3, nI_1]
        · show upd m.2.2.2.2.2.2.2 w (m.2.2.2.2.2.2.2 w + 1) w = _
          rw [pk_us, h4, nI_1]
        · intro w' hw
          show upd m.2.2.2.2.1 w (m.2.2.2.2.1 w + 1) w' = _ ∧ upd m.2.2.2.2.2.2.2 w (m.2.2.2.2.2.2.2 w + 1) w' = _
          rw [pk_un hw, pk_un hw]
          exact h5 w' hw
      · rw [if_neg c10, if_neg c10, Nat.add_zero]
        by_cases c8 : op (192 * w + i) = 8
        · rw [if_pos c8]
          refine ⟨oa_up_eq h1, ?_, h3, h4, h5⟩
          by_cases ci : oa_in V (m.2.1 r.toNatClampNeg)
          · rw [if_pos ci, if_pos ci]; exact oa_up_mem h2
          · rw [if_neg ci, if_neg ci]; exact h2
        · rw [if_neg c8]
          exact ⟨oa_up_eq h1, h2, h3, h4, h5⟩
theorem oa_xs_I {V nR w : Nat} {op rg od : Nat → Int32} {m0 m : oa_M} (h : oa_MI V nR w 0 op m0 m) : ∀ i, oa_MI V nR w i op m0 (oa_xs V w op rg od i m) := by
  intro i
  induction i with
  | zero => exact h
  | succ i ih => exact oa_x1_I ih
/-- the memory at the start -/
theorem oa_mem0 {V w : Nat} {mx my ini : Nat → Int32} {cell : Nat → Nat} (hV : V ≤ 16) (h : ∀ w' c, w' < 2 → c < V → my (16 * w' + c) = mx (16 * w' + c)) (hc : ∀ v, v < V → cell v < V) (hs : ∀ a, a < V → ∃ v, v < V ∧ cell v = a) :
    ∀ w' c, w' < 2 → c < V → oa_mi (oa_mi my (16 * w) (fun c => c) (fun _ => 0) 16) (16 * w) cell ini V (16 * w' + c) = oa_mi mx (16 * w) cell ini V (16 * w' + c) := by
  intro w' c h1 h2
  by_cases e : w' = w
  · subst e
    obtain ⟨v, hv, ev⟩ := hs c h2
    exact oa_mi_hit V ⟨v, hv, by rw [ev]⟩
  · have n1 : ∀ v, v < V → 16 * w' + c ≠ 16 * w + cell v := by
      intro v hv
      have := hc v hv
      omega
    have n2 : ∀ v, v < 16 → 16 * w' + c ≠ 16 * w + (fun c => c) v := by
      intro v hv
      show 16 * w' + c ≠ 16 * w + v
      omega
    rw [oa_mi_out V n1, oa_mi_out 16 n2, oa_mi_out V n1]
    exact h w' c h1 h2
end
section
/-! what holds between two calls -/
def oa_SR (st sop sd sa sb : Nat → Int32) : Prop := ∀ i, i < 32 → st (i * 4) = sop i ∧ st (i * 4 + 1) = sd i ∧ st (i * 4 + 2) = sa i ∧ st (i * 4 + 3) = sb i
theorem oa_SR_add {st sop sd sa sb : Nat → Int32} {c : Nat} {o d a b : Int32} (h : oa_SR st sop sd sa sb) :
    oa_SR (upd (upd (upd (upd st (c * 4) o) (c * 4 + 1) d) (c * 4 + 2) a) (c * 4 + 3) b) (upd sop c o) (upd sd c d) (upd sa c a) (upd sb c b) := by
  intro i hi
  by_cases e : i = c
  · subst e
    refine ⟨?_, ?_, ?_, ?_⟩
    · rw [pk_un (by omega), pk_un (by omega), pk_un (by omega), pk_us, pk_us]
    · rw [pk_un (by omega), pk_un (by omega), pk_us, pk_us]
    · rw [pk_un (by omega), pk_us, pk_us]
    · rw [pk_us, pk_us]
  · rw [pk_un e, pk_un e, pk_un e, pk_un e]
    refine ⟨?_, ?_, ?_, ?_⟩
    all_goals rw [pk_un (by omega), pk_un (by omega), pk_un (by omega), pk_un (by omega)]
    · exact (h i hi).1
    · exact (h i hi).2.1
    · exact (h i hi).2.2.1
    · exact (h i hi).2.2.2
/-- compiled: addresses and code -/
def oa_IC (V nR : Nat) (ad ady op rg len : Nat → Int32) : Prop :=
  (∀ v, v < V → ady v = ad v ∧ ∃ a, a < V ∧ ad v = nI a) ∧ (∀ a, a < V → ∃ v, v < V ∧ ad v = nI a) ∧ (∀ w, w < 2 → ∃ L, L ≤ 192 ∧ oa_CI nR w L 32 op rg len)
def oa_I (V nR ph cnt : Nat) (reg st acc ad ady op rg len mx my ocx ocy sop sd sa sb : Nat → Int32) : Prop :=
  (2 ≤ V ∧ V ≤ 16) ∧ (1 ≤ nR ∧ nR ≤ 4) ∧ ph ≤ 2 ∧ cnt ≤ 32 ∧ (∀ v, v < V → ∃ r, r < nR ∧ reg v = nI r) ∧ oa_SR st sop sd sa sb ∧ oa_SS V cnt sop sd sa sb acc ∧
  (∀ w c, w < 2 → c < V → my (16 * w + c) = mx (16 * w + c)) ∧ (ph ≠ 0 → oa_IC V nR ad ady op rg len) ∧ (ph = 2 → ∀ w, w < 2 → ocy w = ocx w ∧ ∃ q, q ≤ 32 ∧ ocx w = nI q)
end
section
/-! X: followers and weights -/
theorem oa_ix16 (u v : Nat) : nI u * 16 + nI v = nI (u * 16 + v) := by
  rw [show (16 : Int32) = nI 16 from rfl, pk_mul, nI_add]
section
variable {x_varCount x_regCount x_phase x_statementCount x_accessCount x_nextAddress x_accumulator : Int32} {x_register x_init x_statements x_accessVar x_follower x_weight x_firstLink x_secondLink x_chain x_address x_opcode x_instrRegister x_operand x_codeLength x_addrLoads x_knownAddress x_memory x_addressRegister x_output x_outputCount : Nat → Int32}
theorem xa_nos {n : Nat} (hn : n ≤ 96) (ha : ∀ i, i < n → ∃ k, k < 16 ∧ x_accessVar i = nI k) (r : Int32) (post : Int32 → Prop) :
    ∀ d i fu, i + d = n → d < fu → post (if oa_nx x_register x_accessVar r d i < n then nI (oa_nx x_register x_accessVar r d i) else -1) → wX_nextOfSameRegister_16 post r x_varCount x_regCount x_phase x_statementCount (nI n) x_nextAddress x_accumulator x_register x_init x_statements x_accessVar x_follower x_weight x_firstLink x_secondLink x_chain x_address x_opcode x_instrRegister x_operand x_codeLength x_addrLoads x_knownAddress x_memory x_addressRegister x_output x_outputCount fu (nI i) := by
  intro d
  induction d with
  | zero =>
    intro i fu hi hf hp
    obtain ⟨fu, rfl⟩ : ∃ f, fu = f + 1 := ⟨fu - 1, by omega⟩
    rw [oa_nx, if_neg (by omega)] at hp
    exact br_t (nI_le (by omega) (by omega)) hp
  | succ d ih =>
    intro i fu hi hf hp
    obtain ⟨fu, rfl⟩ : ∃ f, fu = f + 1 := ⟨fu - 1, by omega⟩
    obtain ⟨k, hk, ek⟩ := ha i (by omega)
    refine br_f (nI_ge (by omega) (by omega)) ⟨vp_in_nI (by omega) (by omega), ?_, ?_⟩
    · rw [nI_clamp (by omega), ek]; exact vp_in_nI hk (by omega)
    · rw [nI_clamp (by omega)]
      by_cases c : x_register (x_accessVar i).toNatClampNeg = r
      · rw [oa_nx, if_pos c, if_pos (by omega)] at hp
        exact br_t c hp
      · rw [oa_nx, if_neg c] at hp
        exact br_f c (nm_r (nI_1 i) (ih (i + 1) fu (by omega) (by omega) hp))
theorem xa_fo {n j : Nat} (hn : n ≤ 96) (ha : ∀ i, i < n → ∃ k, k < 16 ∧ x_accessVar i = nI k) (hj : j < n) (post : Int32 → Prop) (hp : post (oa_fv x_register x_accessVar n j)) :
    wpX_nextOfSameRegister post (x_varCount, x_regCount, x_phase, x_statementCount, nI n, x_nextAddress, x_accumulator, x_register, x_init, x_statements, x_accessVar, x_follower, x_weight, x_firstLink, x_secondLink, x_chain, x_address, x_opcode, x_instrRegister, x_operand, x_codeLength, x_addrLoads, x_knownAddress, x_memory, x_addressRegister, x_output, x_outputCount) (nI j) := by
  obtain ⟨k, hk, ek⟩ := ha j hj
  refine ⟨vp_in_nI (by omega) (by omega), ?_, fun r er y ey => ?_⟩
  · rw [nI_clamp (by omega), ek]; exact vp_in_nI hk (by omega)
  · rw [nI_clamp (by omega)] at er
    subst er
    rw [ey, nI_1]
    exact ⟨n + 1, xa_nos hn ha _ post (n - (j + 1)) (j + 1) (n + 1) (by omega) (by omega) hp⟩
theorem xa_ff_l {n : Nat} (hn : n ≤ 96) (ha : ∀ i, i < n → ∃ k, k < 16 ∧ x_accessVar i = nI k) (post : SX → Prop) (hp : post (x_varCount, x_regCount, x_phase, x_statementCount, nI n, x_nextAddress, x_accumulator, x_register, x_init, x_statements, x_accessVar, (oa_fill x_follower (oa_fv x_register x_accessVar n) n), x_weight, x_firstLink, x_secondLink, x_chain, x_address, x_opcode, x_instrRegister, x_operand, x_codeLength, x_addrLoads, x_knownAddress, x_memory, x_addressRegister, x_output, x_outputCount)) :
    ∀ d i fu, i + d = n → d < fu → wX_findFollowers_2 post x_varCount x_regCount x_phase x_statementCount (nI n) x_nextAddress x_accumulator fu (nI i) x_register x_init x_statements x_accessVar (oa_fill x_follower (oa_fv x_register x_accessVar n) i) x_weight x_firstLink x_secondLink x_chain x_address x_opcode x_instrRegister x_operand x_codeLength x_addrLoads x_knownAddress x_memory x_addressRegister x_output x_outputCount := by
  intro d
  induction d with
  | zero =>
    intro i fu hi hf
    obtain ⟨fu, rfl⟩ : ∃ f, fu = f + 1 := ⟨fu - 1, by omega⟩
    have e : i = n := by omega
    subst e
    exact br_t (nI_le (by omega) (by omega)) hp
  | succ d ih =>
    intro i fu hi hf
    obtain ⟨fu, rfl⟩ : ∃ f, fu = f + 1 := ⟨fu - 1, by omega⟩
    refine br_f (nI_ge (by omega) (by omega)) (xa_fo hn ha (show i < n by omega) _ ⟨vp_in_nI (by omega) (by omega), nm_r ?_ (nm_r (nI_1 i) (ih (i + 1) fu (by omega) (by omega)))⟩)
    rw [nI_clamp (by omega)]
    exact oa_fill_s rfl
theorem xa_ff {n : Nat} (hn : n ≤ 96) (ha : ∀ i, i < n → ∃ k, k < 16 ∧ x_accessVar i = nI k) (post : SX → Prop) (hp : post (x_varCount, x_regCount, x_phase, x_statementCount, nI n, x_nextAddress, x_accumulator, x_register, x_init, x_statements, x_accessVar, (oa_fill x_follower (oa_fv x_register x_accessVar n) n), x_weight, x_firstLink, x_secondLink, x_chain, x_address, x_opcode, x_instrRegister, x_operand, x_codeLength, x_addrLoads, x_knownAddress, x_memory, x_addressRegister, x_output, x_outputCount)) :
    wpX_findFollowers post (x_varCount, x_regCount, x_phase, x_statementCount, nI n, x_nextAddress, x_accumulator, x_register, x_init, x_statements, x_accessVar, x_follower, x_weight, x_firstLink, x_secondLink, x_chain, x_address, x_opcode, x_instrRegister, x_operand, x_codeLength, x_addrLoads, x_knownAddress, x_memory, x_addressRegister, x_output, x_outputCount) := by
  have h := xa_ff_l hn ha post hp n 0 (n + 1) (by omega) (by omega)
  rw [oa_fill_0] at h
  exact ⟨n + 1, h⟩
theorem xa_cp {u v : Nat} (hu : u < 16) (hv : v < 16) (post : SX → Prop) (h1 : nI u = nI v → post (x_varCount, x_regCount, x_phase, x_statementCount, x_accessCount, x_nextAddress, x_accumulator, x_register, x_init, x_statements, x_accessVar, x_follower, x_weight, x_firstLink, x_secondLink, x_chain, x_address, x_opcode, x_instrRegister, x_operand, x_codeLength, x_addrLoads, x_knownAddress, x_memory, x_addressRegister, x_output, x_outputCount))
    (h2 : ¬ nI u = nI v → post (x_varCount, x_regCount, x_phase, x_statementCount, x_accessCount, x_nextAddress, x_accumulator, x_register, x_init, x_statements, x_accessVar, x_follower, (upd (upd x_weight (u * 16 + v) (x_weight (u * 16 + v) + 1)) (v * 16 + u) (upd x_weight (u * 16 + v) (x_weight (u * 16 + v) + 1) (v * 16 + u) + 1)), x_firstLink, x_secondLink, x_chain, x_address, x_opcode, x_instrRegister, x_operand, x_codeLength, x_addrLoads, x_knownAddress, x_memory, x_addressRegister, x_output, x_outputCount)) :
    wpX_countPair post (x_varCount, x_regCount, x_phase, x_statementCount, x_accessCount, x_nextAddress, x_accumulator, x_register, x_init, x_statements, x_accessVar, x_follower, x_weight, x_firstLink, x_secondLink, x_chain, x_address, x_opcode, x_instrRegister, x_operand, x_codeLength, x_addrLoads, x_knownAddress, x_memory, x_addressRegister, x_output, x_outputCount) (nI u) (nI v) := by
  unfold wpX_countPair
  dsimp only
  rw [oa_ix16, oa_ix16]
  have i1 : vp_in (nI (u * 16 + v)) 256 := vp_in_nI (by omega) (by omega)
  have i2 : vp_in (nI (v * 16 + u)) 256 := vp_in_nI (by omega) (by omega)
  rw [nI_clamp (show u * 16 + v < 2 ^ 31 by omega), nI_clamp (show v * 16 + u < 2 ^ 31 by omega)]
  exact br_c h1 fun hn => ⟨i1, i1, nm_e ⟨i2, i2, nm_e (h2 hn)⟩⟩
theorem xa_cw_l {n : Nat} (hn : n ≤ 96) (ha : ∀ i, i < n → ∃ k, k < 16 ∧ x_accessVar i = nI k) (hF : ∀ j, j < n → x_follower j = oa_fv x_register x_accessVar n j) (w0 : Nat → Int32) (post : SX → Prop)
    (hp : post (x_varCount, x_regCount, x_phase, x_statementCount, nI n, x_nextAddress, x_accumulator, x_register, x_init, x_statements, x_accessVar, x_follower, oa_wA w0 x_register x_accessVar n n, x_firstLink, x_secondLink, x_chain, x_address, x_opcode, x_instrRegister, x_operand, x_codeLength, x_addrLoads, x_knownAddress, x_memory, x_addressRegister, x_output, x_outputCount)) :
    ∀ d i fu, i + d = n → d < fu → wX_countWeights_24 post fu (nI i) x_varCount x_regCount x_phase x_statementCount (nI n) x_nextAddress x_accumulator x_register x_init x_statements x_accessVar x_follower (oa_wA w0 x_register x_accessVar n i) x_firstLink x_secondLink x_chain x_address x_opcode x_instrRegister x_operand x_codeLength x_addrLoads x_knownAddress x_memory x_addressRegister x_output x_outputCount := by
  intro d
  induction d with
  | zero =>
    intro i fu hi hf
    obtain ⟨fu, rfl⟩ : ∃ f, fu = f + 1 := ⟨fu - 1, by omega⟩
    have e : i = n := by omega
    subst e
    exact br_t (nI_le (by omega) (by omega)) hp
  | succ d ih =>
    intro i fu hi hf
    obtain ⟨fu, rfl⟩ : ∃ f, fu = f + 1 := ⟨fu - 1, by omega⟩
    have nx := ih (i + 1) fu (by omega) (by omega)
    have vi : vp_in (nI i) 96 := vp_in_nI (by omega) (by omega)
    refine br_f (nI_ge (by omega) (by omega)) ⟨vi, ?_⟩
    rw [nI_clamp (show i < 2 ^ 31 by omega), hF i (by omega)]
    unfold oa_fv
    by_cases hf2 : oa_fo x_register x_accessVar n i < n
    · rw [if_pos hf2]
      obtain ⟨u, hu, eu⟩ := ha i (by omega)
      obtain ⟨v, hv, ev⟩ := ha (oa_fo x_register x_accessVar n i) hf2
      refine br_f (oa_ne (by omega)) ⟨vi, vi, vp_in_nI (show oa_fo x_register x_accessVar n i < 96 by omega) (by omega), ?_⟩
      rw [nI_clamp (show oa_fo x_register x_accessVar n i < 2 ^ 31 by omega), eu, ev]
      refine xa_cp hu hv _ (fun he => nm_r (nI_1 i) ?_) (fun he => nm_r (nI_1 i) ?_)
      · rw [oa_wA, if_pos hf2, if_pos (by rw [eu, ev]; exact he)] at nx
        exact nx
      · rw [oa_wA, if_pos hf2, if_neg (by rw [eu, ev]; exact he), eu, ev, nI_clamp (show u < 2 ^ 31 by omega), nI_clamp (show v < 2 ^ 31 by omega)] at nx
        exact nx
    · rw [if_neg hf2]
      rw [oa_wA, if_neg hf2] at nx
      exact br_t rfl (nm_r (nI_1 i) nx)
theorem xa_cw_z (post : SX → Prop) (hp : ∃ f, wX_countWeights_24 post f 0 x_varCount x_regCount x_phase x_statementCount x_accessCount x_nextAddress x_accumulator x_register x_init x_statements x_accessVar x_follower (oa_fill x_weight (fun _ => 0) 256) x_firstLink x_secondLink x_chain x_address x_opcode x_instrRegister x_operand x_codeLength x_addrLoads x_knownAddress x_memory x_addressRegister x_output x_outputCount) :
    ∀ d i fu, i + d = 256 → d < fu → wX_countWeights_2 post x_varCount x_regCount x_phase x_statementCount x_accessCount x_nextAddress x_accumulator fu (nI i) x_register x_init x_statements x_accessVar x_follower (oa_fill x_weight (fun _ => 0) i) x_firstLink x_secondLink x_chain x_address x_opcode x_instrRegister x_operand x_codeLength x_addrLoads x_knownAddress x_memory x_addressRegister x_output x_outputCount := by
  intro d
  induction d with
  | zero =>
    intro i fu hi hf
    obtain ⟨fu, rfl⟩ : ∃ f, fu = f + 1 := ⟨fu - 1, by omega⟩
    have e : i = 256 := by omega
    subst e
    exact br_t (by decide) hp
  | succ d ih =>
    intro i fu hi hf
    obtain ⟨fu, rfl⟩ : ∃ f, fu = f + 1 := ⟨fu - 1, by omega⟩
    refine br_f (nI_ge (b := 256) (by omega) (by decide)) ⟨vp_in_nI (by omega) (by omega), nm_r ?_ (nm_r (nI_1 i) (ih (i + 1) fu (by omega) (by omega)))⟩
    rw [nI_clamp (by omega)]
    exact oa_fill_s rfl
theorem xa_cw {n : Nat} (hn : n ≤ 96) (ha : ∀ i, i < n → ∃ k, k < 16 ∧ x_accessVar i = nI k) (hF : ∀ j, j < n → x_follower j = oa_fv x_register x_accessVar n j) (post : SX → Prop)
    (hp : post (x_varCount, x_regCount, x_phase, x_statementCount, nI n, x_nextAddress, x_accumulator, x_register, x_init, x_statements, x_accessVar, x_follower, (oa_wA (oa_fill x_weight (fun _ => 0) 256) x_register x_accessVar n n), x_firstLink, x_secondLink, x_chain, x_address, x_opcode, x_instrRegister, x_operand, x_codeLength, x_addrLoads, x_knownAddress, x_memory, x_addressRegister, x_output, x_outputCount)) : wpX_countWeights post (x_varCount, x_regCount, x_phase, x_statementCount, nI n, x_nextAddress, x_accumulator, x_register, x_init, x_statements, x_accessVar, x_follower, x_weight, x_firstLink, x_secondLink, x_chain, x_address, x_opcode, x_instrRegister, x_operand, x_codeLength, x_addrLoads, x_knownAddress, x_memory, x_addressRegister, x_output, x_outputCount) := by
  have h := xa_cw_z (x_accessCount := nI n) post ⟨n + 1, xa_cw_l hn ha hF (oa_fill x_weight (fun _ => 0) 256) post hp n 0 (n + 1) (by omega) (by omega)⟩ 256 0 257 (by omega) (by omega)
  rw [oa_fill_0] at h
  exact ⟨257, h⟩
end
end
section
/-! X: joins -/
abbrev oa_JX : Type := Int32 → Int32 → Int32 → Int32 → Int32 → Int32 → Int32 → Int32 → (Nat → Int32) → (Nat → Int32) → (Nat → Int32) → (Nat → Int32) → (Nat → Int32) → (Nat → Int32) → (Nat → Int32) → (Nat → Int32) → (Nat → Int32) → (Nat → Int32) → (Nat → Int32) → (Nat → Int32) → (Nat → Int32) → (Nat → Int32) → (Nat → Int32) → (Nat → Int32) → (Nat → Int32) → (Nat → Int32) → (Nat → Int32) → (Nat → Int32) → Prop
section
variable {x_varCount x_regCount x_phase x_statementCount x_accessCount x_nextAddress x_accumulator : Int32} {x_register x_init x_statements x_accessVar x_follower x_weight x_firstLink x_secondLink x_chain x_address x_opcode x_instrRegister x_operand x_codeLength x_addrLoads x_knownAddress x_memory x_addressRegister x_output x_outputCount : Nat → Int32}
theorem xa_cj {u v : Nat} (hu : u < 16) (hv : v < 16) (post : Int32 → Prop) (h1 : (x_secondLink u = -1 ∧ x_secondLink v = -1 ∧ x_chain u ≠ x_chain v) → post 1) (h0 : ¬ (x_secondLink u = -1 ∧ x_secondLink v = -1 ∧ x_chain u ≠ x_chain v) → post 0) :
    wpX_canJoin post (x_varCount, x_regCount, x_phase, x_statementCount, x_accessCount, x_nextAddress, x_accumulator, x_register, x_init, x_statements, x_accessVar, x_follower, x_weight, x_firstLink, x_secondLink, x_chain, x_address, x_opcode, x_instrRegister, x_operand, x_codeLength, x_addrLoads, x_knownAddress, x_memory, x_addressRegister, x_output, x_outputCount) (nI u) (nI v) := by
  have iu : vp_in (nI u) 16 := vp_in_nI hu (by omega)
  have iv : vp_in (nI v) 16 := vp_in_nI hv (by omega)
  unfold wpX_canJoin
  dsimp only
  rw [nI_clamp (show u < 2 ^ 31 by omega), nI_clamp (show v < 2 ^ 31 by omega)]
  exact ⟨iu, br_c (fun a => ⟨iv, br_c (fun b => ⟨iu, iv, br_c (fun c => h0 (fun z => z.2.2 c)) (fun c => h1 ⟨a, b, c⟩)⟩) (fun b => h0 (fun z => b z.2.1))⟩) (fun a => h0 (fun z => a z.1))⟩
theorem xa_lk {u v : Nat} (hu : u < 16) (post : SX → Prop) (h : post (x_varCount, x_regCount, x_phase, x_statementCount, x_accessCount, x_nextAddress, x_accumulator, x_register, x_init, x_statements, x_accessVar, x_follower, x_weight, oa_lf x_firstLink u v, oa_ls x_firstLink x_secondLink u v, x_chain, x_address, x_opcode, x_instrRegister, x_operand, x_codeLength, x_addrLoads, x_knownAddress, x_memory, x_addressRegister, x_output, x_outputCount)) : wpX_link post (x_varCount, x_regCount, x_phase, x_statementCount, x_accessCount, x_nextAddress, x_accumulator, x_register, x_init, x_statements, x_accessVar, x_follower, x_weight, x_firstLink, x_secondLink, x_chain, x_address, x_opcode, x_instrRegister, x_operand, x_codeLength, x_addrLoads, x_knownAddress, x_memory, x_addressRegister, x_output, x_outputCount) (nI u) (nI v) := by
  have iu : vp_in (nI u) 16 := vp_in_nI hu (by omega)
  unfold wpX_link
  dsimp only
  rw [nI_clamp (show u < 2 ^ 31 by omega)]
  by_cases c : x_firstLink u = -1
  · unfold oa_lf oa_ls at h
    rw [if_pos c, if_pos c] at h
    exact ⟨iu, br_t c ⟨iu, nm_e h⟩⟩
  · unfold oa_lf oa_ls at h
    rw [if_neg c, if_neg c] at h
    exact ⟨iu, br_f c ⟨iu, nm_e h⟩⟩
theorem xa_jn_l {V : Nat} (hV : V ≤ 16) (a b : Int32) (post : SX → Prop) (hp : post (nI V, x_regCount, x_phase, x_statementCount, x_accessCount, x_nextAddress, x_accumulator, x_register, x_init, x_statements, x_accessVar, x_follower, x_weight, x_firstLink, x_secondLink, oa_rn x_chain a b V, x_address, x_opcode, x_instrRegister, x_operand, x_codeLength, x_addrLoads, x_knownAddress, x_memory, x_addressRegister, x_output, x_outputCount)) :
    ∀ d i fu, i + d = V → d < fu → wX_join_30 post b a (nI V) x_regCount x_phase x_statementCount x_accessCount x_nextAddress x_accumulator fu (nI i) x_register x_init x_statements x_accessVar x_follower x_weight x_firstLink x_secondLink (oa_rn x_chain a b i) x_address x_opcode x_instrRegister x_operand x_codeLength x_addrLoads x_knownAddress x_memory x_addressRegister x_output x_outputCount := by
  intro d
  induction d with
  | zero =>
    intro i fu hi hf
    obtain ⟨fu, rfl⟩ : ∃ f, fu = f + 1 := ⟨fu - 1, by omega⟩
    have e : i = V := by omega
    subst e
    exact br_t (nI_le (by omega) (by omega)) hp
  | succ d ih =>
    intro i fu hi hf
    obtain ⟨fu, rfl⟩ : ∃ f, fu = f + 1 := ⟨fu - 1, by omega⟩
    have nx := ih (i + 1) fu (by omega) (by omega)
    have vi : vp_in (nI i) 16 := vp_in_nI (by omega) (by omega)
    refine br_f (nI_ge (by omega) (by omega)) ⟨vi, ?_⟩
    rw [nI_clamp (show i < 2 ^ 31 by omega), oa_rn_self]
    by_cases c : x_chain i = a
    · exact br_t c ⟨vi, nm_r (oa_rn_t c) (nm_r (nI_1 i) nx)⟩
    · rw [oa_rn_f c]
      exact br_f c (nm_r (nI_1 i) nx)
theorem xa_jn {V u v : Nat} (hV : V ≤ 16) (hu : u < 16) (hv : v < 16) (post : SX → Prop)
    (hp : post (nI V, x_regCount, x_phase, x_statementCount, x_accessCount, x_nextAddress, x_accumulator, x_register, x_init, x_statements, x_accessVar, x_follower, x_weight, (oa_lf (oa_lf x_firstLink u v) v u), (oa_ls (oa_lf x_firstLink u v) (oa_ls x_firstLink x_secondLink u v) v u), (oa_rn x_chain (x_chain v) (x_chain u) V), x_address, x_opcode, x_instrRegister, x_operand, x_codeLength, x_addrLoads, x_knownAddress, x_memory, x_addressRegister, x_output, x_outputCount)) :
    wpX_join post (nI V, x_regCount, x_phase, x_statementCount, x_accessCount, x_nextAddress, x_accumulator, x_register, x_init, x_statements, x_accessVar, x_follower, x_weight, x_firstLink, x_secondLink, x_chain, x_address, x_opcode, x_instrRegister, x_operand, x_codeLength, x_addrLoads, x_knownAddress, x_memory, x_addressRegister, x_output, x_outputCount) (nI u) (nI v) := by
  have h := xa_jn_l hV (x_chain v) (x_chain u) post hp V 0 (V + 1) (by omega) (by omega)
  rw [oa_rn_0] at h
  unfold wpX_join
  dsimp only
  refine xa_lk hu _ ?_
  refine xa_lk hv _ ?_
  exact ⟨vp_in_nI hu (by omega), nm_r (by rw [nI_clamp (by omega)]) ⟨vp_in_nI hv (by omega), nm_r (by rw [nI_clamp (by omega)]) ⟨V + 1, h⟩⟩⟩
theorem xa_j58 {V u : Nat} (hV : V ≤ 16) (hu : u < V) (w : Int32) (post : SX → Prop) (J40 J46 : oa_JX) :
    ∀ d v fu (q : oa_Q), v + d = V → d < fu → J46 (nI (u + 1)) (nI V) x_regCount x_phase x_statementCount x_accessCount x_nextAddress x_accumulator x_register x_init x_statements x_accessVar x_follower x_weight ((oa_jv x_weight w V u d v q).1) ((oa_jv x_weight w V u d v q).2.1) ((oa_jv x_weight w V u d v q).2.2.1) x_address x_opcode x_instrRegister x_operand x_codeLength x_addrLoads x_knownAddress x_memory x_addressRegister x_output x_outputCount →
      wX_joinChains_58 post J40 J46 w (nI u) fu (nI v) (nI V) x_regCount x_phase x_statementCount x_accessCount x_nextAddress x_accumulator x_register x_init x_statements x_accessVar x_follower x_weight q.1 q.2.1 q.2.2.1 x_address x_opcode x_instrRegister x_operand x_codeLength x_addrLoads x_knownAddress x_memory x_addressRegister x_output x_outputCount := by
  intro d
  induction d with
  | zero =>
    intro v fu q hv hf hp
    obtain ⟨fu, rfl⟩ : ∃ f, fu = f + 1 := ⟨fu - 1, by omega⟩
    exact br_t (nI_le (by omega) (by omega)) (nm_r (nI_1 u) hp)
  | succ d ih =>
    intro v fu q hv hf hp
    obtain ⟨fu, rfl⟩ : ∃ f, fu = f + 1 := ⟨fu - 1, by omega⟩
    have nx := ih (v + 1) fu (oa_j1 x_weight w V u v q) (by omega) (by omega) hp
    refine br_f (nI_ge (by omega) (by omega)) ?_
    rw [oa_ix16, nI_clamp (show u * 16 + v < 2 ^ 31 by omega)]
    refine ⟨vp_in_nI (by omega) (by omega), ?_⟩
    by_cases c : x_weight (u * 16 + v) = w
    · refine br_t c (xa_cj (by omega) (by omega) _ (fun cj => br_f (by decide) (xa_jn hV (by omega) (by omega) _ (nm_r (nI_1 v) ?_))) (fun cj => br_t rfl (nm_r (nI_1 v) ?_)))
      · rw [show oa_j1 x_weight w V u v q = oa_jj V u v q from if_pos ⟨c, cj⟩] at nx
        exact nx
      · rw [show oa_j1 x_weight w V u v q = q from if_neg (fun z => cj z.2)] at nx
        exact nx
    · rw [show oa_j1 x_weight w V u v q = q from if_neg (fun z => c z.1)] at nx
      exact br_f c (nm_r (nI_1 v) nx)
theorem xa_j46 {V : Nat} (hV : V ≤ 16) (w : Int32) (post : SX → Prop) (J40 : oa_JX) :
    ∀ d u fu (q : oa_Q), u + d = V → d < fu → J40 (w + (-1)) (nI V) x_regCount x_phase x_statementCount x_accessCount x_nextAddress x_accumulator x_register x_init x_statements x_accessVar x_follower x_weight ((oa_ju x_weight w V d u q).1) ((oa_ju x_weight w V d u q).2.1) ((oa_ju x_weight w V d u q).2.2.1) x_address x_opcode x_instrRegister x_operand x_codeLength x_addrLoads x_knownAddress x_memory x_addressRegister x_output x_outputCount →
      wX_joinChains_46 post J40 w fu (nI u) (nI V) x_regCount x_phase x_statementCount x_accessCount x_nextAddress x_accumulator x_register x_init x_statements x_accessVar x_follower x_weight q.1 q.2.1 q.2.2.1 x_address x_opcode x_instrRegister x_operand x_codeLength x_addrLoads x_knownAddress x_memory x_addressRegister x_output x_outputCount := by
  intro d
  induction d with
  | zero =>
    intro u fu q hu hf hp
    obtain ⟨fu, rfl⟩ : ∃ f, fu = f + 1 := ⟨fu - 1, by omega⟩
    exact br_t (nI_le (by omega) (by omega)) (nm_e hp)
  | succ d ih =>
    intro u fu q hu hf hp
    obtain ⟨fu, rfl⟩ : ∃ f, fu = f + 1 := ⟨fu - 1, by omega⟩
    exact br_f (nI_ge (by omega) (by omega)) (nm_r (nI_1 u) ⟨V + 1, xa_j58 hV (by omega) w post J40 _ (V - (u + 1)) (u + 1) (V + 1) q (by omega) (by omega) (ih (u + 1) fu _ (by omega) (by omega) hp)⟩)
theorem xa_j40 {V : Nat} (hV : V ≤ 16) (post : SX → Prop) :
    ∀ k fu (q : oa_Q), k < fu → k < 96 → post (nI V, x_regCount, x_phase, x_statementCount, x_accessCount, x_nextAddress, x_accumulator, x_register, x_init, x_statements, x_accessVar, x_follower, x_weight, ((oa_jw x_weight V k q).1), ((oa_jw x_weight V k q).2.1), ((oa_jw x_weight V k q).2.2.1), x_address, x_opcode, x_instrRegister, x_operand, x_codeLength, x_addrLoads, x_knownAddress, x_memory, x_addressRegister, x_output, x_outputCount) →
      wX_joinChains_40 post fu (nI k) (nI V) x_regCount x_phase x_statementCount x_accessCount x_nextAddress x_accumulator x_register x_init x_statements x_accessVar x_follower x_weight q.1 q.2.1 q.2.2.1 x_address x_opcode x_instrRegister x_operand x_codeLength x_addrLoads x_knownAddress x_memory x_addressRegister x_output x_outputCount := by
  intro k
  induction k with
  | zero =>
    intro fu q hf _ hp
    obtain ⟨fu, rfl⟩ : ∃ f, fu = f + 1 := ⟨fu - 1, by omega⟩
    exact br_t (by decide) hp
  | succ k ih =>
    intro fu q hf hk hp
    obtain ⟨fu, rfl⟩ : ∃ f, fu = f + 1 := ⟨fu - 1, by omega⟩
    refine br_f (nI_nle (by omega) (by omega)) ⟨V + 1, xa_j46 hV (nI (k + 1)) post _ V 0 (V + 1) q (by omega) (by omega) ?_⟩
    rw [pk_m1]
    exact ih fu _ (by omega) (by omega) hp
theorem xa_jc_l {V : Nat} (hV : V ≤ 16) (post : SX → Prop) (hp : ∃ f, wX_joinChains_40 post f 95 (nI V) x_regCount x_phase x_statementCount x_accessCount x_nextAddress x_accumulator x_register x_init x_statements x_accessVar x_follower x_weight (oa_fill x_firstLink (fun _ => -1) V) (oa_fill x_secondLink (fun _ => -1) V) (oa_fill x_chain nI V) x_address x_opcode x_instrRegister x_operand x_codeLength x_addrLoads x_knownAddress x_memory x_addressRegister x_output x_outputCount) :
    ∀ d i fu, i + d = V → d < fu → wX_joinChains_2 post (nI V) x_regCount x_phase x_statementCount x_accessCount x_nextAddress x_accumulator fu (nI i) x_register x_init x_statements x_accessVar x_follower x_weight (oa_fill x_firstLink (fun _ => -1) i) (oa_fill x_secondLink (fun _ => -1) i) (oa_fill x_chain nI i) x_address x_opcode x_instrRegister x_operand x_codeLength x_addrLoads x_knownAddress x_memory x_addressRegister x_output x_outputCount := by
  intro d
  induction d with
  | zero =>
    intro i fu hi hf
    obtain ⟨fu, rfl⟩ : ∃ f, fu = f + 1 := ⟨fu - 1, by omega⟩
    have e : i = V := by omega
    subst e
    exact br_t (nI_le (by omega) (by omega)) hp
  | succ d ih =>
    intro i fu hi hf
    obtain ⟨fu, rfl⟩ : ∃ f, fu = f + 1 := ⟨fu - 1, by omega⟩
    have vi : vp_in (nI i) 16 := vp_in_nI (by omega) (by omega)
    refine br_f (nI_ge (by omega) (by omega)) ⟨vi, nm_r ?_ ⟨vi, nm_r ?_ ⟨vi, nm_r ?_ (nm_r (nI_1 i) (ih (i + 1) fu (by omega) (by omega)))⟩⟩⟩
    all_goals rw [nI_clamp (show i < 2 ^ 31 by omega)]
    all_goals exact oa_fill_s rfl
theorem xa_jc {V : Nat} (hV : V ≤ 16) (e g p : Nat → Int32) (post : SX → Prop) (q : oa_Q) (eq : q = oa_jw x_weight V 95 (oa_fill x_firstLink (fun _ => -1) V, oa_fill x_secondLink (fun _ => -1) V, oa_fill x_chain nI V, e, g, p))
    (hp : post (nI V, x_regCount, x_phase, x_statementCount, x_accessCount, x_nextAddress, x_accumulator, x_register, x_init, x_statements, x_accessVar, x_follower, x_weight, q.1, q.2.1, q.2.2.1, x_address, x_opcode, x_instrRegister, x_operand, x_codeLength, x_addrLoads, x_knownAddress, x_memory, x_addressRegister, x_output, x_outputCount)) : wpX_joinChains post (nI V, x_regCount, x_phase, x_statementCount, x_accessCount, x_nextAddress, x_accumulator, x_register, x_init, x_statements, x_accessVar, x_follower, x_weight, x_firstLink, x_secondLink, x_chain, x_address, x_opcode, x_instrRegister, x_operand, x_codeLength, x_addrLoads, x_knownAddress, x_memory, x_addressRegister, x_output, x_outputCount) := by
  subst eq
  have h := xa_jc_l hV post ⟨96, xa_j40 hV post 95 96 (oa_fill x_firstLink (fun _ => -1) V, oa_fill x_secondLink (fun _ => -1) V, oa_fill x_chain nI V, e, g, p) (by omega) (by omega) hp⟩ V 0 (V + 1) (by omega) (by omega)
  rw [oa_fill_0, oa_fill_0, oa_fill_0] at h
  exact ⟨V + 1, h⟩
end
end
section
/-! X: addresses -/
theorem oa_sm_r (s c : Nat → Int32) (x : Int32) {V : Nat} : ∀ d v, v + d = V → oa_sm s c x d v = -1 ∨ ∃ e, e < V ∧ oa_sm s c x d v = nI e := by
  intro d
  induction d with
  | zero => intro v _; exact Or.inl rfl
  | succ d ih =>
    intro v hv
    rw [oa_sm]
    split
    · exact Or.inr ⟨v, by omega, rfl⟩
    · exact ih (v + 1) (by omega)
def oa_LR (V : Nat) (f s : Nat → Int32) : Prop := ∀ k, k < V → (f k = -1 ∨ ∃ y, y < V ∧ f k = nI y) ∧ (s k = -1 ∨ ∃ y, y < V ∧ s k = nI y)
theorem oa_G_LR {V : Nat} {f s c : Nat → Int32} (g : oa_G V f s c) : oa_LR V f s := by
  intro k hk
  refine ⟨?_, ?_⟩
  · rcases g.1 k hk with h | ⟨y, hy, _, h⟩
    · exact Or.inl h
    · exact Or.inr ⟨y, hy, h⟩
  · rcases g.2.1 k hk with h | ⟨y, hy, _, h⟩
    · exact Or.inl h
    · exact Or.inr ⟨y, hy, h⟩
section
variable {x_varCount x_regCount x_phase x_statementCount x_accessCount x_nextAddress x_accumulator : Int32} {x_register x_init x_statements x_accessVar x_follower x_weight x_firstLink x_secondLink x_chain x_address x_opcode x_instrRegister x_operand x_codeLength x_addrLoads x_knownAddress x_memory x_addressRegister x_output x_outputCount : Nat → Int32}
theorem xa_se {V k : Nat} (hV : V ≤ 16) (hk : k < V) (post : Int32 → Prop) :
    ∀ d v fu, v + d = V → d < fu → post (oa_sm x_secondLink x_chain (x_chain k) d v) → wX_smallerEnd_2 post (nI k) (nI V) x_regCount x_phase x_statementCount x_accessCount x_nextAddress x_accumulator x_register x_init x_statements x_accessVar x_follower x_weight x_firstLink x_secondLink x_chain x_address x_opcode x_instrRegister x_operand x_codeLength x_addrLoads x_knownAddress x_memory x_addressRegister x_output x_outputCount fu (nI v) := by
  have ik : vp_in (nI k) 16 := vp_in_nI (by omega) (by omega)
  intro d
  induction d with
  | zero =>
    intro v fu hv hf hp
    obtain ⟨fu, rfl⟩ : ∃ f, fu = f + 1 := ⟨fu - 1, by omega⟩
    exact br_t (nI_le (by omega) (by omega)) hp
  | succ d ih =>
    intro v fu hv hf hp
    obtain ⟨fu, rfl⟩ : ∃ f, fu = f + 1 := ⟨fu - 1, by omega⟩
    have iv : vp_in (nI v) 16 := vp_in_nI (by omega) (by omega)
    rw [oa_sm] at hp
    refine br_f (nI_ge (by omega) (by omega)) ⟨iv, ik, ?_⟩
    rw [nI_clamp (show v < 2 ^ 31 by omega), nI_clamp (show k < 2 ^ 31 by omega)]
    by_cases c : x_chain v = x_chain k
    · refine br_t c ⟨iv, ?_⟩
      by_cases s : x_secondLink v = -1
      · rw [if_pos ⟨c, s⟩] at hp
        exact br_t s hp
      · rw [if_neg (fun z => s z.2)] at hp
        exact br_f s (nm_r (nI_1 v) (ih (v + 1) fu (by omega) (by omega) hp))
    · rw [if_neg (fun z => c z.1)] at hp
      exact br_f c (nm_r (nI_1 v) (ih (v + 1) fu (by omega) (by omega) hp))
theorem xa_pp_l {V : Nat} (hV : V ≤ 16) (hl : oa_LR V x_firstLink x_secondLink) (post : SX → Prop) :
    ∀ d i fu pr cu (b : oa_B), i + d = V → d < fu → (cu = -1 ∨ ∃ k, k < V ∧ cu = nI k) →
      post (nI V, x_regCount, x_phase, x_statementCount, x_accessCount, (nI (oa_tr x_firstLink x_secondLink d pr cu b).2.2.2), x_accumulator, x_register, x_init, x_statements, x_accessVar, x_follower, x_weight, x_firstLink, x_secondLink, x_chain, ((oa_tr x_firstLink x_secondLink d pr cu b).1), x_opcode, x_instrRegister, x_operand, x_codeLength, x_addrLoads, x_knownAddress, x_memory, x_addressRegister, x_output, x_outputCount) →
      wX_placePath_11 post (nI V) x_regCount x_phase x_statementCount x_accessCount x_accumulator fu pr cu (nI i) (nI b.2.2.2) x_register x_init x_statements x_accessVar x_follower x_weight x_firstLink x_secondLink x_chain b.1 x_opcode x_instrRegister x_operand x_codeLength x_addrLoads x_knownAddress x_memory x_addressRegister x_output x_outputCount := by
  intro d
  induction d with
  | zero =>
    intro i fu pr cu b hi hf _ hp
    obtain ⟨fu, rfl⟩ : ∃ f, fu = f + 1 := ⟨fu - 1, by omega⟩
    exact br_t (nI_le (by omega) (by omega)) hp
  | succ d ih =>
    intro i fu pr cu b hi hf hc hp
    obtain ⟨fu, rfl⟩ : ∃ f, fu = f + 1 := ⟨fu - 1, by omega⟩
    refine br_f (nI_ge (by omega) (by omega)) ?_
    rw [oa_tr] at hp
    by_cases c : cu = -1
    · rw [if_pos c] at hp
      exact br_t c hp
    · rcases hc with hc | ⟨k, hk, rfl⟩
      · exact absurd hc c
      rw [if_neg c, nI_clamp (show k < 2 ^ 31 by omega)] at hp
      have ik : vp_in (nI k) 16 := vp_in_nI (by omega) (by omega)
      refine br_f c ⟨ik, nm_r (show _ = upd b.1 k (nI b.2.2.2) by rw [nI_clamp (show k < 2 ^ 31 by omega)]) (nm_r (nI_1 b.2.2.2) ⟨ik, ?_⟩)⟩
      rw [nI_clamp (show k < 2 ^ 31 by omega)]
      by_cases e : x_firstLink k = pr
      · refine br_t e ⟨ik, nm_r (show _ = oa_nt x_firstLink x_secondLink pr k by unfold oa_nt; rw [if_pos e]) (nm_r (nI_1 i) (ih (i + 1) fu (nI k) _ (oa_b1 b k) (by omega) (by omega) ?_ hp))⟩
        unfold oa_nt; rw [if_pos e]; exact (hl k hk).2
      · refine br_f e ⟨ik, nm_r (show _ = oa_nt x_firstLink x_secondLink pr k by unfold oa_nt; rw [if_neg e]) (nm_r (nI_1 i) (ih (i + 1) fu (nI k) _ (oa_b1 b k) (by omega) (by omega) ?_ hp))⟩
        unfold oa_nt; rw [if_neg e]; exact (hl k hk).1
theorem xa_pp {V k : Nat} (hV : V ≤ 16) (hk : k < V) (hl : oa_LR V x_firstLink x_secondLink) (post : SX → Prop) (b b' : oa_B) (eb : oa_tr x_firstLink x_secondLink V (-1) (oa_sm x_secondLink x_chain (x_chain k) V 0) b = b')
    (hp : post (nI V, x_regCount, x_phase, x_statementCount, x_accessCount, nI b'.2.2.2, x_accumulator, x_register, x_init, x_statements, x_accessVar, x_follower, x_weight, x_firstLink, x_secondLink, x_chain, b'.1, x_opcode, x_instrRegister, x_operand, x_codeLength, x_addrLoads, x_knownAddress, x_memory, x_addressRegister, x_output, x_outputCount)) : wpX_placePath post (nI V, x_regCount, x_phase, x_statementCount, x_accessCount, nI b.2.2.2, x_accumulator, x_register, x_init, x_statements, x_accessVar, x_follower, x_weight, x_firstLink, x_secondLink, x_chain, b.1, x_opcode, x_instrRegister, x_operand, x_codeLength, x_addrLoads, x_knownAddress, x_memory, x_addressRegister, x_output, x_outputCount) (nI k) := by
  subst eb
  exact ⟨V + 1, xa_se hV hk _ V 0 (V + 1) (by omega) (by omega) ⟨V + 1, xa_pp_l hV hl post V 0 (V + 1) (-1) _ b (by omega) (by omega) (oa_sm_r x_secondLink x_chain (x_chain k) V 0 (by omega)) hp⟩⟩
theorem xa_a40 {V r : Nat} (hV : V ≤ 16) (hl : oa_LR V x_firstLink x_secondLink) (post : SX → Prop) (J30 : oa_JX) :
    ∀ d v fu (b : oa_B), v + d = V → d < fu →
      J30 (nI (r + 1)) (nI V) x_regCount x_phase x_statementCount x_accessCount (nI (oa_av x_register x_firstLink x_secondLink x_chain V (nI r) d v b).2.2.2) x_accumulator x_register x_init x_statements x_accessVar x_follower x_weight x_firstLink x_secondLink x_chain ((oa_av x_register x_firstLink x_secondLink x_chain V (nI r) d v b).1) x_opcode x_instrRegister x_operand x_codeLength x_addrLoads x_knownAddress x_memory x_addressRegister x_output x_outputCount →
      wX_assignAddresses_40 post J30 (nI r) fu (nI v) (nI V) x_regCount x_phase x_statementCount x_accessCount (nI b.2.2.2) x_accumulator x_register x_init x_statements x_accessVar x_follower x_weight x_firstLink x_secondLink x_chain b.1 x_opcode x_instrRegister x_operand x_codeLength x_addrLoads x_knownAddress x_memory x_addressRegister x_output x_outputCount := by
  intro d
  induction d with
  | zero =>
    intro v fu b hv hf hp
    obtain ⟨fu, rfl⟩ : ∃ f, fu = f + 1 := ⟨fu - 1, by omega⟩
    exact br_t (nI_le (by omega) (by omega)) (nm_r (nI_1 r) hp)
  | succ d ih =>
    intro v fu b hv hf hp
    obtain ⟨fu, rfl⟩ : ∃ f, fu = f + 1 := ⟨fu - 1, by omega⟩
    have nx := ih (v + 1) fu (oa_a1 x_register x_firstLink x_secondLink x_chain V (nI r) v b) (by omega) (by omega) hp
    have iv : vp_in (nI v) 16 := vp_in_nI (by omega) (by omega)
    refine br_f (nI_ge (by omega) (by omega)) ⟨iv, ?_⟩
    rw [nI_clamp (show v < 2 ^ 31 by omega)]
    by_cases c : x_register v = nI r
    · refine br_t c ⟨iv, ?_⟩
      by_cases a : b.1 v = -1
      · refine br_t a (xa_pp hV (by omega) hl _ b _ rfl (nm_r (nI_1 v) ?_))
        rw [show oa_a1 x_register x_firstLink x_secondLink x_chain V (nI r) v b = _ from if_pos ⟨c, a⟩] at nx
        exact nx
      · rw [show oa_a1 x_register x_firstLink x_secondLink x_chain V (nI r) v b = b from if_neg (fun z => a z.2)] at nx
        exact br_f a (nm_r (nI_1 v) nx)
    · rw [show oa_a1 x_register x_firstLink x_secondLink x_chain V (nI r) v b = b from if_neg (fun z => c z.1)] at nx
      exact br_f c (nm_r (nI_1 v) nx)
theorem xa_a30 {V nR : Nat} (hV : V ≤ 16) (hR : nR ≤ 4) (hl : oa_LR V x_firstLink x_secondLink) (post : SX → Prop) :
    ∀ d r fu (b : oa_B), r + d = nR → d < fu →
      post (nI V, nI nR, x_phase, x_statementCount, x_accessCount, (nI (oa_aw x_register x_firstLink x_secondLink x_chain V d r b).2.2.2), x_accumulator, x_register, x_init, x_statements, x_accessVar, x_follower, x_weight, x_firstLink, x_secondLink, x_chain, ((oa_aw x_register x_firstLink x_secondLink x_chain V d r b).1), x_opcode, x_instrRegister, x_operand, x_codeLength, x_addrLoads, x_knownAddress, x_memory, x_addressRegister, x_output, x_outputCount) →
      wX_assignAddresses_30 post fu (nI r) (nI V) (nI nR) x_phase x_statementCount x_accessCount (nI b.2.2.2) x_accumulator x_register x_init x_statements x_accessVar x_follower x_weight x_firstLink x_secondLink x_chain b.1 x_opcode x_instrRegister x_operand x_codeLength x_addrLoads x_knownAddress x_memory x_addressRegister x_output x_outputCount := by
  intro d
  induction d with
  | zero =>
    intro r fu b hr hf hp
    obtain ⟨fu, rfl⟩ : ∃ f, fu = f + 1 := ⟨fu - 1, by omega⟩
    exact br_t (nI_le (by omega) (by omega)) hp
  | succ d ih =>
    intro r fu b hr hf hp
    obtain ⟨fu, rfl⟩ : ∃ f, fu = f + 1 := ⟨fu - 1, by omega⟩
    exact br_f (nI_ge (by omega) (by omega)) ⟨V + 1, xa_a40 hV hl post _ V 0 (V + 1) b (by omega) (by omega) (ih (r + 1) fu _ (by omega) (by omega) hp)⟩
theorem xa_aa_l {V : Nat} (hV : V ≤ 16) (post : SX → Prop) (hp : ∃ f, wX_assignAddresses_30 post f 0 (nI V) x_regCount x_phase x_statementCount x_accessCount 0 x_accumulator x_register x_init x_statements x_accessVar x_follower x_weight x_firstLink x_secondLink x_chain (oa_fill x_address (fun _ => -1) V) x_opcode x_instrRegister x_operand x_codeLength x_addrLoads x_knownAddress x_memory x_addressRegister x_output x_outputCount) :
    ∀ d i fu, i + d = V → d < fu → wX_assignAddresses_2 post (nI V) x_regCount x_phase x_statementCount x_accessCount x_nextAddress x_accumulator fu (nI i) x_register x_init x_statements x_accessVar x_follower x_weight x_firstLink x_secondLink x_chain (oa_fill x_address (fun _ => -1) i) x_opcode x_instrRegister x_operand x_codeLength x_addrLoads x_knownAddress x_memory x_addressRegister x_output x_outputCount := by
  intro d
  induction d with
  | zero =>
    intro i fu hi hf
    obtain ⟨fu, rfl⟩ : ∃ f, fu = f + 1 := ⟨fu - 1, by omega⟩
    have e : i = V := by omega
    subst e
    exact br_t (nI_le (by omega) (by omega)) hp
  | succ d ih =>
    intro i fu hi hf
    obtain ⟨fu, rfl⟩ : ∃ f, fu = f + 1 := ⟨fu - 1, by omega⟩
    have vi : vp_in (nI i) 16 := vp_in_nI (by omega) (by omega)
    refine br_f (nI_ge (by omega) (by omega)) ⟨vi, nm_r ?_ (nm_r (nI_1 i) (ih (i + 1) fu (by omega) (by omega)))⟩
    rw [nI_clamp (show i < 2 ^ 31 by omega)]
    exact oa_fill_s rfl
theorem xa_aa {V nR : Nat} (hV : V ≤ 16) (hR : nR ≤ 4) (hl : oa_LR V x_firstLink x_secondLink) (ay pl : Nat → Int32) (post : SX → Prop) (b : oa_B)
    (eb : oa_aw x_register x_firstLink x_secondLink x_chain V nR 0 (oa_fill x_address (fun _ => -1) V, ay, pl, 0) = b)
    (hp : post (nI V, nI nR, x_phase, x_statementCount, x_accessCount, nI b.2.2.2, x_accumulator, x_register, x_init, x_statements, x_accessVar, x_follower, x_weight, x_firstLink, x_secondLink, x_chain, b.1, x_opcode, x_instrRegister, x_operand, x_codeLength, x_addrLoads, x_knownAddress, x_memory, x_addressRegister, x_output, x_outputCount)) : wpX_assignAddresses post (nI V, nI nR, x_phase, x_statementCount, x_accessCount, x_nextAddress, x_accumulator, x_register, x_init, x_statements, x_accessVar, x_follower, x_weight, x_firstLink, x_secondLink, x_chain, x_address, x_opcode, x_instrRegister, x_operand, x_codeLength, x_addrLoads, x_knownAddress, x_memory, x_addressRegister, x_output, x_outputCount) := by
  subst eb
  have h := xa_aa_l (x_regCount := nI nR) (x_nextAddress := x_nextAddress) hV post ⟨nR + 1, xa_a30 hV hR hl post nR 0 (nR + 1) (oa_fill x_address (fun _ => -1) V, ay, pl, 0) (by omega) (by omega) hp⟩ V 0 (V + 1) (by omega) (by omega)
  rw [oa_fill_0] at h
  exact ⟨V + 1, h⟩
end
end
section
/-! X: code -/
theorem oa_ix192 (w L : Nat) : nI w * 192 + nI L = nI (192 * w + L) := by
  rw [show (192 : Int32) = nI 192 from rfl, pk_mul, nI_add, Nat.mul_comm]
theorem oa_w0 {w : Nat} (hw : w < 2) : nI w = 0 ↔ w = 0 := nI_eq (b := 0) (by omega) (by omega)
section
variable {x_varCount x_regCount x_phase x_statementCount x_accessCount x_nextAddress x_accumulator : Int32} {x_register x_init x_statements x_accessVar x_follower x_weight x_firstLink x_secondLink x_chain x_address x_opcode x_instrRegister x_operand x_codeLength x_addrLoads x_knownAddress x_memory x_addressRegister x_output x_outputCount : Nat → Int32}
theorem xa_em {w L : Nat} {o r x : Int32} {k : oa_K} (hw : w < 2) (hL : k.2.2.2.1 w = nI L) (hL2 : L < 192) (post : SX → Prop) (hp : post (x_varCount, x_regCount, x_phase, x_statementCount, x_accessCount, x_nextAddress, x_accumulator, x_register, x_init, x_statements, x_accessVar, x_follower, x_weight, x_firstLink, x_secondLink, x_chain, x_address, ((oa_em w o r x k).1), ((oa_em w o r x k).2.1), ((oa_em w o r x k).2.2.1), ((oa_em w o r x k).2.2.2.1), ((oa_em w o r x k).2.2.2.2.1), ((oa_em w o r x k).2.2.2.2.2.1), x_memory, x_addressRegister, x_output, x_outputCount)) : wpX_emit post (x_varCount, x_regCount, x_phase, x_statementCount, x_accessCount, x_nextAddress, x_accumulator, x_register, x_init, x_statements, x_accessVar, x_follower, x_weight, x_firstLink, x_secondLink, x_chain, x_address, k.1, k.2.1, k.2.2.1, k.2.2.2.1, k.2.2.2.2.1, k.2.2.2.2.2.1, x_memory, x_addressRegister, x_output, x_outputCount) (nI w) o r x := by
  have iw : vp_in (nI w) 2 := vp_in_nI hw (by omega)
  have ii : vp_in (nI (192 * w + L)) 384 := vp_in_nI (by omega) (by omega)
  have eL : (k.2.2.2.1 w).toNatClampNeg = L := by rw [hL]; exact nI_clamp (by omega)
  have ci : (nI (192 * w + L)).toNatClampNeg = 192 * w + L := nI_clamp (by omega)
  have e1 : nI w * 192 + k.2.2.2.1 w = nI (192 * w + L) := by rw [hL, oa_ix192]
  dsimp only [oa_em] at hp
  rw [eL] at hp
  unfold wpX_emit
  dsimp only
  rw [nI_clamp (show w < 2 ^ 31 by omega)]
  refine ⟨iw, nm_r e1 ⟨ii, nm_r (by rw [ci]) ⟨ii, nm_r (by rw [ci]) ⟨ii, nm_r (by rw [ci]) ⟨iw, iw, nm_e ?_⟩⟩⟩⟩⟩
  by_cases c : o = 0
  · rw [if_pos c] at hp
    exact br_t c ⟨iw, iw, nm_e hp⟩
  · rw [if_neg c] at hp
    exact br_f c hp
theorem xa_ai {w v : Nat} {P : Int32} (hw : w < 2) (hv : v < 16) (hP : (if w = 0 then nI v else x_address v) = P) (post : Int32 → Prop) (hp : post P) : wpX_addressIn post (x_varCount, x_regCount, x_phase, x_statementCount, x_accessCount, x_nextAddress, x_accumulator, x_register, x_init, x_statements, x_accessVar, x_follower, x_weight, x_firstLink, x_secondLink, x_chain, x_address, x_opcode, x_instrRegister, x_operand, x_codeLength, x_addrLoads, x_knownAddress, x_memory, x_addressRegister, x_output, x_outputCount) (nI w) (nI v) := by
  rw [← hP] at hp
  unfold wpX_addressIn
  dsimp only
  rw [nI_clamp (show v < 2 ^ 31 by omega), oa_w0 hw]
  by_cases c : w = 0
  · rw [if_pos c] at hp
    exact br_t c hp
  · rw [if_neg c] at hp
    exact br_f c ⟨vp_in_nI hv (by omega), hp⟩
theorem xa_sa {V nR n j : Nat} (e : oa_env V nR n x_register x_accessVar x_address) (hj : j < n) (hF : x_follower j = oa_fv x_register x_accessVar n j) (post : Int32 → Prop) (hp : post (oa_sp x_register x_accessVar x_address n j)) :
    wpX_stepAfter post (x_varCount, x_regCount, x_phase, x_statementCount, x_accessCount, x_nextAddress, x_accumulator, x_register, x_init, x_statements, x_accessVar, x_follower, x_weight, x_firstLink, x_secondLink, x_chain, x_address, x_opcode, x_instrRegister, x_operand, x_codeLength, x_addrLoads, x_knownAddress, x_memory, x_addressRegister, x_output, x_outputCount) (nI j) := by
  obtain ⟨v, r, a, hv, hr, ha, e1, e2, e3, e4, e5, e6⟩ := oa_env_j (w := 0) e hj
  obtain ⟨hV, _, hn, _, _, _⟩ := e
  have ij : vp_in (nI j) 96 := vp_in_nI (by omega) (by omega)
  have cj : (nI j).toNatClampNeg = j := nI_clamp (by omega)
  unfold wpX_stepAfter
  dsimp only
  rw [cj, hF]
  refine ⟨ij, nm_e ?_⟩
  unfold oa_sp at hp
  unfold oa_fv
  by_cases hf : oa_fo x_register x_accessVar n j < n
  · rw [if_pos hf] at hp ⊢
    obtain ⟨v', r', a', hv', _, _, f1, f2, _, _, _, _⟩ := oa_env_j (w := 0) (V := V) (nR := nR) ⟨hV, by assumption, hn, by assumption, by assumption, by assumption⟩ hf
    have cf : (nI (oa_fo x_register x_accessVar n j)).toNatClampNeg = oa_fo x_register x_accessVar n j := nI_clamp (by omega)
    rw [cf]
    refine br_f (oa_ne (by omega)) ⟨vp_in_nI (show oa_fo x_register x_accessVar n j < 96 by omega) (by omega), by rw [f1]; exact vp_in_nI (by omega) (by omega), ij, by rw [e1]; exact vp_in_nI (by omega) (by omega), nm_e ?_⟩
    generalize x_address (x_accessVar (oa_fo x_register x_accessVar n j)).toNatClampNeg - x_address (x_accessVar j).toNatClampNeg = D at hp ⊢
    by_cases c1 : D < -1
    · rw [if_neg (fun z => Int32.not_lt.mpr z.1 c1)] at hp
      exact br_t c1 hp
    · refine br_f c1 ?_
      by_cases c2 : 1 < D
      · rw [if_neg (fun z => Int32.not_lt.mpr z.2 c2)] at hp
        exact br_t c2 hp
      · rw [if_pos ⟨Int32.not_lt.mp c1, Int32.not_lt.mp c2⟩] at hp
        exact br_f c2 hp
  · rw [if_neg hf] at hp ⊢
    exact br_t rfl hp
theorem xa_65 {w L r : Nat} {o p m : Int32} {k : oa_K} (hw : w < 2) (hr : r < 4) (hL : k.2.2.2.1 w = nI L) (hL2 : L < 192) (post : SX → Prop) (hp : post (x_varCount, x_regCount, x_phase, x_statementCount, x_accessCount, x_nextAddress, x_accumulator, x_register, x_init, x_statements, x_accessVar, x_follower, x_weight, x_firstLink, x_secondLink, x_chain, x_address, ((oa_st w r (p + m) (oa_em w o (nI r) m k)).1), ((oa_st w r (p + m) (oa_em w o (nI r) m k)).2.1), ((oa_st w r (p + m) (oa_em w o (nI r) m k)).2.2.1), ((oa_st w r (p + m) (oa_em w o (nI r) m k)).2.2.2.1), ((oa_st w r (p + m) (oa_em w o (nI r) m k)).2.2.2.2.1), ((oa_st w r (p + m) (oa_em w o (nI r) m k)).2.2.2.2.2.1), x_memory, x_addressRegister, x_output, x_outputCount)) :
    wX_emitAccess_65 post (nI w) o (nI r) p m x_varCount x_regCount x_phase x_statementCount x_accessCount x_nextAddress x_accumulator x_register x_init x_statements x_accessVar x_follower x_weight x_firstLink x_secondLink x_chain x_address k.1 k.2.1 k.2.2.1 k.2.2.2.1 k.2.2.2.2.1 k.2.2.2.2.2.1 x_memory x_addressRegister x_output x_outputCount := by
  unfold wX_emitAccess_65
  refine xa_em hw hL hL2 _ ⟨vp_in_nI hr (by omega), nm_r (by rw [nI_clamp (show r < 2 ^ 31 by omega)]; rfl) hp⟩
theorem xa_52 {V nR n w L r j : Nat} {o p : Int32} {k : oa_K} (e : oa_env V nR n x_register x_accessVar x_address) (hj : j < n) (hF : x_follower j = oa_fv x_register x_accessVar n j) (hw : w < 2) (hr : r < 4) (hL : k.2.2.2.1 w = nI L) (hL2 : L < 192)
    (post : SX → Prop) (hp : post (x_varCount, x_regCount, x_phase, x_statementCount, x_accessCount, x_nextAddress, x_accumulator, x_register, x_init, x_statements, x_accessVar, x_follower, x_weight, x_firstLink, x_secondLink, x_chain, x_address, ((oa_st w r (p + oa_ms x_register x_accessVar x_address n w j) (oa_em w o (nI r) (oa_ms x_register x_accessVar x_address n w j) k)).1), ((oa_st w r (p + oa_ms x_register x_accessVar x_address n w j) (oa_em w o (nI r) (oa_ms x_register x_accessVar x_address n w j) k)).2.1), ((oa_st w r (p + oa_ms x_register x_accessVar x_address n w j) (oa_em w o (nI r) (oa_ms x_register x_accessVar x_address n w j) k)).2.2.1), ((oa_st w r (p + oa_ms x_register x_accessVar x_address n w j) (oa_em w o (nI r) (oa_ms x_register x_accessVar x_address n w j) k)).2.2.2.1), ((oa_st w r (p + oa_ms x_register x_accessVar x_address n w j) (oa_em w o (nI r) (oa_ms x_register x_accessVar x_address n w j) k)).2.2.2.2.1), ((oa_st w r (p + oa_ms x_register x_accessVar x_address n w j) (oa_em w o (nI r) (oa_ms x_register x_accessVar x_address n w j) k)).2.2.2.2.2.1), x_memory, x_addressRegister, x_output, x_outputCount)) :
    wX_emitAccess_52 post (nI w) o (nI j) (nI r) p x_varCount x_regCount x_phase x_statementCount x_accessCount x_nextAddress x_accumulator x_register x_init x_statements x_accessVar x_follower x_weight x_firstLink x_secondLink x_chain x_address k.1 k.2.1 k.2.2.1 k.2.2.2.1 k.2.2.2.2.1 k.2.2.2.2.2.1 x_memory x_addressRegister x_output x_outputCount := by
  unfold wX_emitAccess_52
  rw [oa_w0 hw]
  unfold oa_ms at hp
  by_cases c : w = 0
  · rw [if_pos c] at hp
    exact br_t c (xa_65 hw hr hL hL2 post hp)
  · rw [if_neg c] at hp
    exact br_f c (xa_sa e hj hF _ (xa_65 hw hr hL hL2 post hp))
theorem xa_ea {V nR n w L j : Nat} {o x : Int32} {k : oa_K} (e : oa_env V nR n x_register x_accessVar x_address) (hj : j < n) (hx : x = nI j) (hF : x_follower j = oa_fv x_register x_accessVar n j) (hw : w < 2) (hL : k.2.2.2.1 w = nI L) (hL2 : L + 2 ≤ 192)
    (post : SX → Prop) (hp : post (x_varCount, x_regCount, x_phase, x_statementCount, x_accessCount, x_nextAddress, x_accumulator, x_register, x_init, x_statements, x_accessVar, x_follower, x_weight, x_firstLink, x_secondLink, x_chain, x_address, ((oa_ac x_register x_accessVar x_address n w o j k).1), ((oa_ac x_register x_accessVar x_address n w o j k).2.1), ((oa_ac x_register x_accessVar x_address n w o j k).2.2.1), ((oa_ac x_register x_accessVar x_address n w o j k).2.2.2.1), ((oa_ac x_register x_accessVar x_address n w o j k).2.2.2.2.1), ((oa_ac x_register x_accessVar x_address n w o j k).2.2.2.2.2.1), x_memory, x_addressRegister, x_output, x_outputCount)) : wpX_emitAccess post (x_varCount, x_regCount, x_phase, x_statementCount, x_accessCount, x_nextAddress, x_accumulator, x_register, x_init, x_statements, x_accessVar, x_follower, x_weight, x_firstLink, x_secondLink, x_chain, x_address, k.1, k.2.1, k.2.2.1, k.2.2.2.1, k.2.2.2.2.1, k.2.2.2.2.2.1, x_memory, x_addressRegister, x_output, x_outputCount) (nI w) o x := by
  subst hx
  obtain ⟨v, r, a, hv, hr, ha, e1, e2, e3, e4, e5, e6⟩ := oa_env_j (w := 0) e hj
  have hV := e.1
  have hR := e.2.1
  have hn := e.2.2.1
  have cj : (nI j).toNatClampNeg = j := nI_clamp (by omega)
  have cv : (nI v).toNatClampNeg = v := nI_clamp (by omega)
  have cr : (nI r).toNatClampNeg = r := nI_clamp (by omega)
  have ir : vp_in (nI r) 4 := vp_in_nI (by omega) (by omega)
  have iv : vp_in (nI v) 16 := vp_in_nI (by omega) (by omega)
  have er : x_register v = nI r := by rw [← e2]; exact e3
  have ep : (if w = 0 then nI v else x_address v) = oa_pa x_accessVar x_address w j := by
    unfold oa_pa; rw [e2, e1]
  unfold oa_ac oa_ld at hp
  rw [e4, e3] at hp
  refine ⟨vp_in_nI (by omega) (by omega), nm_r (show _ = nI v by rw [cj, e1]) ⟨iv, nm_r (show _ = nI r by rw [cv, er]) (xa_ai hw (by omega) ep _ ?_)⟩⟩
  generalize oa_pa x_accessVar x_address w j = p at hp ⊢
  by_cases c : w = 0 ∨ k.2.2.2.2.2.1 r ≠ p
  · rw [if_pos c] at hp
    have hL' : (oa_em w 0 (nI r) p k).2.2.2.1 w = nI (L + 1) := by
      show upd k.2.2.2.1 w (k.2.2.2.1 w + 1) w = _
      rw [pk_us, hL, nI_1]
    have h42 : wX_emitAccess_42 post (nI w) o (nI j) (nI r) p x_varCount x_regCount x_phase x_statementCount x_accessCount x_nextAddress x_accumulator x_register x_init x_statements x_accessVar x_follower x_weight x_firstLink x_secondLink x_chain x_address k.1 k.2.1 k.2.2.1 k.2.2.2.1 k.2.2.2.2.1 k.2.2.2.2.2.1 x_memory x_addressRegister x_output x_outputCount := by
      unfold wX_emitAccess_42
      exact xa_em hw hL (by omega) _ (xa_52 (k := oa_mk w r (oa_em w 0 (nI r) p k)) e hj hF hw (by omega) hL' (by omega) post hp)
    by_cases c0 : w = 0
    · exact br_t ((oa_w0 hw).mpr c0) h42
    · refine br_f (fun z => c0 ((oa_w0 hw).mp z)) ⟨ir, br_f ?_ h42⟩
      rw [cr]
      exact c.resolve_left c0
  · rw [if_neg c] at hp
    have c0 : ¬ w = 0 := fun z => c (Or.inl z)
    have cp : k.2.2.2.2.2.1 r = p := by
      by_cases z : k.2.2.2.2.2.1 r = p
      · exact z
      · exact absurd (Or.inr z) c
    refine br_f (fun z => c0 ((oa_w0 hw).mp z)) ⟨ir, br_t ?_ (xa_52 e hj hF hw (by omega) hL (by omega) post hp)⟩
    rw [cr]
    exact cp
theorem xa_ts {V nR n w L q i p : Nat} {o d a b : Int32} {k0 k : oa_K} (e : oa_env V nR n x_register x_accessVar x_address) (hF : ∀ j, j < n → x_follower j = oa_fv x_register x_accessVar n j) (hw : w < 2) (hR : 0 < nR) (hi : i < 32)
    (ho : x_statements (i * 4) = o) (hA : x_statements (i * 4 + 2) = a) (st : oa_ST V o d a b x_accessVar p) (hn : p + oa_na o ≤ n) (h : oa_KI nR w L q k0 k) (hL : L + 6 ≤ 192) (post : Int32 → SX → Prop)
    (hp : post (nI (p + oa_na o)) (x_varCount, x_regCount, x_phase, x_statementCount, x_accessCount, x_nextAddress, x_accumulator, x_register, x_init, x_statements, x_accessVar, x_follower, x_weight, x_firstLink, x_secondLink, x_chain, x_address, ((oa_tt x_register x_accessVar x_address n w o a p k).1), ((oa_tt x_register x_accessVar x_address n w o a p k).2.1), ((oa_tt x_register x_accessVar x_address n w o a p k).2.2.1), ((oa_tt x_register x_accessVar x_address n w o a p k).2.2.2.1), ((oa_tt x_register x_accessVar x_address n w o a p k).2.2.2.2.1), ((oa_tt x_register x_accessVar x_address n w o a p k).2.2.2.2.2.1), x_memory, x_addressRegister, x_output, x_outputCount)) : wpX_translateStatement post (x_varCount, x_regCount, x_phase, x_statementCount, x_accessCount, x_nextAddress, x_accumulator, x_register, x_init, x_statements, x_accessVar, x_follower, x_weight, x_firstLink, x_secondLink, x_chain, x_address, k.1, k.2.1, k.2.2.1, k.2.2.2.1, k.2.2.2.2.1, k.2.2.2.2.2.1, x_memory, x_addressRegister, x_output, x_outputCount) (nI w) (nI i) (nI p) := by
  have e4 : nI i * 4 = nI (i * 4) := by rw [show (4 : Int32) = nI 4 from rfl, pk_mul]
  have c4 : (nI (i * 4)).toNatClampNeg = i * 4 := nI_clamp (by omega)
  have eo : x_statements (nI (i * 4) + 0).toNatClampNeg = o := by rw [Int32.add_zero, c4]; exact ho
  refine nm_r e4 ⟨by rw [Int32.add_zero]; exact vp_in_nI (by omega) (by omega), nm_r eo ?_⟩
  unfold oa_tt at hp
  rcases st with ⟨z, hz, rfl, -⟩ | ⟨rfl, -⟩ | ⟨rfl, -⟩ | ⟨rfl, -⟩
  · rw [oa_na5 hz] at hn hp
    rw [if_pos (show nI z ≤ 5 from nI_le (b := 5) hz (by decide)), ← nI_add] at hp
    obtain ⟨L1, l1, h1⟩ := oa_ac_I (o := 1) e (show p < n by omega) h (by omega) (by omega)
    obtain ⟨L2, l2, h2⟩ := oa_ac_I (o := 2 + z) e (show p + 1 < n by omega) h1 (by omega) (by omega)
    rw [← nI_add 2 z] at h2
    exact br_t (nI_lt (b := 6) (by omega) (by decide)) (xa_ea e (show p < n by omega) rfl (hF _ (by omega)) hw h.1.1.1 (by omega) _
      (xa_ea e (show p + 1 < n by omega) (nI_1 p) (hF _ (by omega)) hw h1.1.1.1 (by omega) _
        (xa_ea e (show p + 2 < n by omega) (nI_add p 2) (hF _ (by omega)) hw h2.1.1.1 (by omega) _ hp)))
  · rw [oa_na6] at hn hp
    rw [if_neg (by decide), if_pos rfl, ← nI_add] at hp
    obtain ⟨L1, l1, h1⟩ := oa_ac_I (o := 1) e (show p < n by omega) h (by omega) (by omega)
    exact br_f (by decide) (br_f (by decide) (br_t rfl (xa_ea e (show p < n by omega) rfl (hF _ (by omega)) hw h.1.1.1 (by omega) _
      (xa_ea e (show p + 1 < n by omega) (nI_1 p) (hF _ (by omega)) hw h1.1.1.1 (by omega) _ hp))))
  · rw [oa_na7] at hn hp
    rw [if_neg (by decide), if_neg (by decide), if_pos rfl, ← nI_add] at hp
    have h1 := oa_em_I (x := a) (o := 9) (r := 0) h (by omega) (by omega) hR
    have ea : x_statements (nI (i * 4) + 2).toNatClampNeg = a := by
      rw [show nI (i * 4) + 2 = nI (i * 4 + 2) from nI_add (i * 4) 2, nI_clamp (by omega)]; exact hA
    refine br_f (by decide) (br_f (by decide) (br_f (by decide) (br_t rfl ⟨?_, ?_⟩)))
    · rw [show nI (i * 4) + 2 = nI (i * 4 + 2) from nI_add (i * 4) 2]; exact vp_in_nI (by omega) (by omega)
    · rw [ea]
      exact xa_em hw h.1.1.1 (by omega) _ (xa_ea e (show p < n by omega) rfl (hF _ (by omega)) hw h1.1.1.1 (by omega) _ hp)
  · rw [oa_na8] at hn hp
    rw [if_neg (by decide), if_neg (by decide), if_neg (by decide), ← nI_add] at hp
    obtain ⟨L1, l1, h1⟩ := oa_ac_I (o := 1) e (show p < n by omega) h (by omega) (by omega)
    exact br_f (by decide) (br_f (by decide) (br_f (by decide) (br_f (by decide) (br_t rfl (xa_ea e (show p < n by omega) rfl (hF _ (by omega)) hw h.1.1.1 (by omega) _
      (xa_em hw h1.1.1.1 (by omega) _ hp))))))
theorem xa_tb_l {V nR w cnt : Nat} {sop sd sa sb : Nat → Int32} {k0 k : oa_K} (hw : w < 2) (hR : 0 < nR) (hc : cnt ≤ 32) (ss : oa_SS V cnt sop sd sa sb x_accessVar) (sr : oa_SR x_statements sop sd sa sb) (e : oa_env V nR (oa_ps sop cnt) x_register x_accessVar x_address)
    (hF : ∀ j, j < oa_ps sop cnt → x_follower j = oa_fv x_register x_accessVar (oa_ps sop cnt) j) (h : oa_KI nR w 0 0 k0 k) (post : SX → Prop)
    (hp : post (x_varCount, x_regCount, x_phase, nI cnt, x_accessCount, x_nextAddress, x_accumulator, x_register, x_init, x_statements, x_accessVar, x_follower, x_weight, x_firstLink, x_secondLink, x_chain, x_address, ((oa_tb x_register x_accessVar x_address sop sa (oa_ps sop cnt) w cnt k).1), ((oa_tb x_register x_accessVar x_address sop sa (oa_ps sop cnt) w cnt k).2.1), ((oa_tb x_register x_accessVar x_address sop sa (oa_ps sop cnt) w cnt k).2.2.1), ((oa_tb x_register x_accessVar x_address sop sa (oa_ps sop cnt) w cnt k).2.2.2.1), ((oa_tb x_register x_accessVar x_address sop sa (oa_ps sop cnt) w cnt k).2.2.2.2.1), ((oa_tb x_register x_accessVar x_address sop sa (oa_ps sop cnt) w cnt k).2.2.2.2.2.1), x_memory, x_addressRegister, x_output, x_outputCount)) :
    ∀ d i fu, i + d = cnt → d < fu → wX_translateBlock_41 post (nI w) fu (nI (oa_ps sop i)) (nI i) x_varCount x_regCount x_phase (nI cnt) x_accessCount x_nextAddress x_accumulator x_register x_init x_statements x_accessVar x_follower x_weight x_firstLink x_secondLink x_chain x_address ((oa_tb x_register x_accessVar x_address sop sa (oa_ps sop cnt) w i k).1) ((oa_tb x_register x_accessVar x_address sop sa (oa_ps sop cnt) w i k).2.1) ((oa_tb x_register x_accessVar x_address sop sa (oa_ps sop cnt) w i k).2.2.1) ((oa_tb x_register x_accessVar x_address sop sa (oa_ps sop cnt) w i k).2.2.2.1) ((oa_tb x_register x_accessVar x_address sop sa (oa_ps sop cnt) w i k).2.2.2.2.1) ((oa_tb x_register x_accessVar x_address sop sa (oa_ps sop cnt) w i k).2.2.2.2.2.1) x_memory x_addressRegister x_output x_outputCount := by
  intro d
  induction d with
  | zero =>
    intro i fu hi hf
    obtain ⟨fu, rfl⟩ : ∃ f, fu = f + 1 := ⟨fu - 1, by omega⟩
    have ei : i = cnt := by omega
    subst ei
    exact br_t (nI_le (by omega) (by omega)) hp
  | succ d ih =>
    intro i fu hi hf
    obtain ⟨fu, rfl⟩ : ∃ f, fu = f + 1 := ⟨fu - 1, by omega⟩
    obtain ⟨L, hL, hk⟩ := oa_tb_I hR hc ss e h i (by omega)
    have hn : oa_ps sop i + oa_na (sop i) ≤ oa_ps sop cnt := oa_ps_mono sop cnt (i + 1) (by omega)
    have s4 := sr i (by omega)
    exact br_f (nI_ge (by omega) (by omega)) (xa_ts e hF hw hR (by omega) s4.1 s4.2.2.1 (ss i (by omega)) hn hk (by omega) _ (nm_r (nI_1 i) (ih (i + 1) fu (by omega) (by omega))))
theorem xa_tk_l {nR w : Nat} (hR : nR ≤ 4) (post : SX → Prop) (hp : ∃ f, wX_translateBlock_41 post (nI w) f 0 0 x_varCount (nI nR) x_phase x_statementCount x_accessCount x_nextAddress x_accumulator x_register x_init x_statements x_accessVar x_follower x_weight x_firstLink x_secondLink x_chain x_address x_opcode x_instrRegister x_operand x_codeLength x_addrLoads (oa_fill x_knownAddress (fun _ => -1) nR) x_memory x_addressRegister x_output x_outputCount) :
    ∀ d i fu, i + d = nR → d < fu → wX_translateBlock_16 post (nI w) x_varCount (nI nR) x_phase x_statementCount x_accessCount x_nextAddress x_accumulator fu (nI i) x_register x_init x_statements x_accessVar x_follower x_weight x_firstLink x_secondLink x_chain x_address x_opcode x_instrRegister x_operand x_codeLength x_addrLoads (oa_fill x_knownAddress (fun _ => -1) i) x_memory x_addressRegister x_output x_outputCount := by
  intro d
  induction d with
  | zero =>
    intro i fu hi hf
    obtain ⟨fu, rfl⟩ : ∃ f, fu = f + 1 := ⟨fu - 1, by omega⟩
    have e : i = nR := by omega
    subst e
    exact br_t (nI_le (by omega) (by omega)) hp
  | succ d ih =>
    intro i fu hi hf
    obtain ⟨fu, rfl⟩ : ∃ f, fu = f + 1 := ⟨fu - 1, by omega⟩
    have vi : vp_in (nI i) 4 := vp_in_nI (by omega) (by omega)
    refine br_f (nI_ge (by omega) (by omega)) ⟨vi, nm_r ?_ (nm_r (nI_1 i) (ih (i + 1) fu (by omega) (by omega)))⟩
    rw [nI_clamp (show i < 2 ^ 31 by omega)]
    exact oa_fill_s rfl
end
/-- the state of the code as a block's translation begins -/
def oa_k0 (nR w : Nat) (k kk' : oa_K) : oa_K := (k.1, k.2.1, k.2.2.1, upd k.2.2.2.1 w 0, upd k.2.2.2.2.1 w 0, oa_fill k.2.2.2.2.2.1 (fun _ => -1) nR, kk'.2.2.2.2.2.2.1, kk'.2.2.2.2.2.2.2)
theorem oa_k0_I {nR w : Nat} {k kk' : oa_K} (h : ∀ r, r < nR → kk'.2.2.2.2.2.2.2 r = 0) : oa_KI nR w 0 0 k (oa_k0 nR w k kk') := by
  refine ⟨⟨⟨pk_us, fun i hi => by omega, Nat.le_refl _⟩, ?_⟩, Or.inr fun r hr => ⟨fun _ => (oa_fill_lt hr : oa_fill k.2.2.2.2.2.1 (fun _ => -1) nR r = -1), fun z => absurd (h r hr) z⟩⟩
  intro w' L' q' hw _ hc
  exact ⟨by show upd k.2.2.2.1 w 0 w' = _; rw [pk_un hw]; exact hc.1, hc.2⟩
section
variable {x_varCount x_regCount x_phase x_statementCount x_accessCount x_nextAddress x_accumulator : Int32} {x_register x_init x_statements x_accessVar x_follower x_weight x_firstLink x_secondLink x_chain x_address x_opcode x_instrRegister x_operand x_codeLength x_addrLoads x_knownAddress x_memory x_addressRegister x_output x_outputCount : Nat → Int32}
theorem xa_tb {V nR w cnt : Nat} {sop sd sa sb : Nat → Int32} {k kk' K : oa_K} (hw : w < 2) (hR : 0 < nR) (hR4 : nR ≤ 4) (hc : cnt ≤ 32) (ss : oa_SS V cnt sop sd sa sb x_accessVar) (sr : oa_SR x_statements sop sd sa sb) (e : oa_env V nR (oa_ps sop cnt) x_register x_accessVar x_address)
    (hF : ∀ j, j < oa_ps sop cnt → x_follower j = oa_fv x_register x_accessVar (oa_ps sop cnt) j) (hk : ∀ r, r < nR → kk'.2.2.2.2.2.2.2 r = 0) (post : SX → Prop)
    (eK : oa_tb x_register x_accessVar x_address sop sa (oa_ps sop cnt) w cnt (oa_k0 nR w k kk') = K)
    (hp : post (x_varCount, nI nR, x_phase, nI cnt, x_accessCount, x_nextAddress, x_accumulator, x_register, x_init, x_statements, x_accessVar, x_follower, x_weight, x_firstLink, x_secondLink, x_chain, x_address, K.1, K.2.1, K.2.2.1, K.2.2.2.1, K.2.2.2.2.1, K.2.2.2.2.2.1, x_memory, x_addressRegister, x_output, x_outputCount)) : wpX_translateBlock post (x_varCount, nI nR, x_phase, nI cnt, x_accessCount, x_nextAddress, x_accumulator, x_register, x_init, x_statements, x_accessVar, x_follower, x_weight, x_firstLink, x_secondLink, x_chain, x_address, k.1, k.2.1, k.2.2.1, k.2.2.2.1, k.2.2.2.2.1, k.2.2.2.2.2.1, x_memory, x_addressRegister, x_output, x_outputCount) (nI w) := by
  subst eK
  have iw : vp_in (nI w) 2 := vp_in_nI hw (by omega)
  have cw : (nI w).toNatClampNeg = w := nI_clamp (by omega)
  have h := xa_tk_l (w := w) (x_opcode := k.1) (x_instrRegister := k.2.1) (x_operand := k.2.2.1) (x_codeLength := upd k.2.2.2.1 w 0) (x_addrLoads := upd k.2.2.2.2.1 w 0) (x_knownAddress := k.2.2.2.2.2.1) (x_statementCount := nI cnt) hR4 post
    ⟨cnt + 1, xa_tb_l (x_regCount := nI nR) hw hR hc ss sr e hF (oa_k0_I (k := k) hk) post hp cnt 0 (cnt + 1) (by omega) (by omega)⟩ nR 0 (nR + 1) (by omega) (by omega)
  rw [oa_fill_0] at h
  exact ⟨iw, nm_r (by rw [cw]) ⟨iw, nm_r (by rw [cw]) ⟨nR + 1, h⟩⟩⟩
end
end
section
/-! X: the machine -/
theorem oa_ix16w (w c : Nat) : nI w * 16 + nI c = nI (16 * w + c) := by
  rw [oa_ix16, Nat.mul_comm]
theorem oa_ix32 (w c : Nat) : nI w * 32 + nI c = nI (32 * w + c) := by
  rw [show (32 : Int32) = nI 32 from rfl, pk_mul, nI_add, Nat.mul_comm]
theorem oa_lit {x a b : Int32} (h : x = a) (n : a ≠ b) : ¬ x = b := fun z => n (by rw [← h, z])
theorem xa_cb {p0 l r : Int32} (post : Int32 → Prop) (hp : post (oa_cb p0 l r)) : wpX_combine post p0 l r := by
  unfold oa_cb at hp
  unfold wpX_combine
  by_cases c1 : p0 < 2
  · have n : ∀ b : Int32, ¬ b < 2 → ¬ p0 = b := fun b hb z => hb (by rw [← z]; exact c1)
    rw [if_neg (n 2 (by decide)), if_neg (n 3 (by decide)), if_neg (n 4 (by decide)), if_neg (n 5 (by decide)), if_neg (n 6 (by decide)), if_neg (n 7 (by decide))] at hp
    exact br_t c1 hp
  · refine br_f c1 ?_
    by_cases c2 : 7 < p0
    · have n : ∀ b : Int32, ¬ 7 < b → ¬ p0 = b := fun b hb z => hb (by rw [← z]; exact c2)
      rw [if_neg (n 2 (by decide)), if_neg (n 3 (by decide)), if_neg (n 4 (by decide)), if_neg (n 5 (by decide)), if_neg (n 6 (by decide)), if_neg (n 7 (by decide))] at hp
      exact br_t c2 hp
    · refine br_f c2 (br_c (fun z => ?_) (fun z2 => br_c (fun z => ?_) (fun z3 => br_c (fun z => ?_) (fun z4 => br_c (fun z => ?_) (fun z5 => br_c (fun z => ?_) (fun z6 => br_c (fun z => ?_) (fun _ => trivial)))))))
      · rw [if_pos z] at hp; exact hp
      · rw [if_neg z2, if_pos z] at hp; exact hp
      · rw [if_neg z2, if_neg z3, if_pos z] at hp; exact hp
      · rw [if_neg z2, if_neg z3, if_neg z4, if_pos z] at hp; exact hp
      · rw [if_neg z2, if_neg z3, if_neg z4, if_neg z5, if_pos z] at hp; exact hp
      · rw [if_neg z2, if_neg z3, if_neg z4, if_neg z5, if_neg z6, if_pos z] at hp; exact hp
section
variable {x_varCount x_regCount x_phase x_statementCount x_accessCount x_nextAddress x_accumulator : Int32} {x_register x_init x_statements x_accessVar x_follower x_weight x_firstLink x_secondLink x_chain x_address x_opcode x_instrRegister x_operand x_codeLength x_addrLoads x_knownAddress x_memory x_addressRegister x_output x_outputCount : Nat → Int32}
theorem xa_iv {V : Nat} {x : Int32} (post : Int32 → Prop) (h1 : oa_in V x → post 1) (h0 : ¬ oa_in V x → post 0) : wpX_isVariable post (nI V, x_regCount, x_phase, x_statementCount, x_accessCount, x_nextAddress, x_accumulator, x_register, x_init, x_statements, x_accessVar, x_follower, x_weight, x_firstLink, x_secondLink, x_chain, x_address, x_opcode, x_instrRegister, x_operand, x_codeLength, x_addrLoads, x_knownAddress, x_memory, x_addressRegister, x_output, x_outputCount) x :=
  br_c (fun c => h0 (fun z => Int32.not_lt.mpr z.1 c)) (fun c => br_c (fun d => h0 (fun z => Int32.not_lt.mpr d z.2)) (fun d => h1 ⟨Int32.not_lt.mp c, Int32.not_le.mp d⟩))
theorem xa_95 {A : Nat} {x3 x4 : Int32} (hA : A < 384) (i3 : vp_in x3 4) (post : SX → Prop) (hp : post (x_varCount, x_regCount, x_phase, x_statementCount, x_accessCount, x_nextAddress, x_accumulator, x_register, x_init, x_statements, x_accessVar, x_follower, x_weight, x_firstLink, x_secondLink, x_chain, x_address, x_opcode, x_instrRegister, x_operand, x_codeLength, x_addrLoads, x_knownAddress, x_memory, (upd x_addressRegister x3.toNatClampNeg (x4 + x_operand A)), x_output, x_outputCount)) : wX_executeAccess_95 post (nI A) x3 x4 x_varCount x_regCount x_phase x_statementCount x_accessCount x_nextAddress x_accumulator x_register x_init x_statements x_accessVar x_follower x_weight x_firstLink x_secondLink x_chain x_address x_opcode x_instrRegister x_operand x_codeLength x_addrLoads x_knownAddress x_memory x_addressRegister x_output x_outputCount := by
  have cA : (nI A).toNatClampNeg = A := nI_clamp (by omega)
  exact ⟨vp_in_nI hA (by omega), i3, nm_r (by rw [cA]) hp⟩
theorem xa_xa {V w A : Nat} {m : oa_M} (hV : V ≤ 16) (hw : w < 2) (hA : A < 384) (ir : vp_in (x_instrRegister A) 4) (n0 : ¬ x_opcode A = 0) (n9 : ¬ x_opcode A = 9) (n10 : ¬ x_opcode A = 10) (post : SX → Prop)
    (hp : post (nI V, x_regCount, x_phase, x_statementCount, x_accessCount, x_nextAddress, ((oa_x1 V w (x_opcode A) (x_instrRegister A) (x_operand A) m).2.2.1), x_register, x_init, x_statements, x_accessVar, x_follower, x_weight, x_firstLink, x_secondLink, x_chain, x_address, x_opcode, x_instrRegister, x_operand, x_codeLength, x_addrLoads, x_knownAddress, ((oa_x1 V w (x_opcode A) (x_instrRegister A) (x_operand A) m).1), ((oa_x1 V w (x_opcode A) (x_instrRegister A) (x_operand A) m).2.1), ((oa_x1 V w (x_opcode A) (x_instrRegister A) (x_operand A) m).2.2.2.1), ((oa_x1 V w (x_opcode A) (x_instrRegister A) (x_operand A) m).2.2.2.2.1))) : wpX_executeAccess post (nI V, x_regCount, x_phase, x_statementCount, x_accessCount, x_nextAddress, m.2.2.1, x_register, x_init, x_statements, x_accessVar, x_follower, x_weight, x_firstLink, x_secondLink, x_chain, x_address, x_opcode, x_instrRegister, x_operand, x_codeLength, x_addrLoads, x_knownAddress, m.1, m.2.1, m.2.2.2.1, m.2.2.2.2.1) (nI w) (nI A) := by
  have iA : vp_in (nI A) 384 := vp_in_nI hA (by omega)
  have cA : (nI A).toNatClampNeg = A := nI_clamp (by omega)
  unfold oa_x1 at hp
  rw [if_neg n0, if_neg n9, if_neg n10] at hp
  unfold wpX_executeAccess
  dsimp only
  rw [cA]
  refine ⟨iA, nm_e ⟨ir, nm_e ?_⟩⟩
  refine xa_iv _ (fun ci => ?_) (fun ci => ?_)
  · obtain ⟨c, hc, ec⟩ := oa_in_c hV ci
    have ex : nI w * 16 + m.2.1 (x_instrRegister A).toNatClampNeg = nI (16 * w + c) := by rw [ec, oa_ix16w]
    have ec2 : (m.2.1 (x_instrRegister A).toNatClampNeg).toNatClampNeg = c := by rw [ec]; exact nI_clamp (by omega)
    have ix : vp_in (nI (16 * w + c)) 32 := vp_in_nI (by omega) (by omega)
    have cx : (nI (16 * w + c)).toNatClampNeg = 16 * w + c := nI_clamp (by omega)
    refine nm_r ex ⟨iA, ?_⟩
    rw [cx]
    by_cases c8 : x_opcode A = 8
    · rw [if_pos c8, if_pos ci, if_pos ci, ec2] at hp
      exact br_t c8 (br_f (by decide) ⟨ix, nm_e (xa_95 hA ir post hp)⟩)
    · rw [if_neg c8, if_pos ci, ec2] at hp
      exact br_f c8 ⟨iA, br_f (by decide) ⟨ix, by unfold wX_executeAccess_70; exact xa_cb _ (xa_95 hA ir post hp)⟩⟩
  · refine nm_e ⟨iA, ?_⟩
    by_cases c8 : x_opcode A = 8
    · rw [if_pos c8, if_neg ci, if_neg ci] at hp
      exact br_t c8 (br_t rfl (xa_95 hA ir post hp))
    · rw [if_neg c8, if_neg ci] at hp
      exact br_f c8 ⟨iA, br_t rfl (by unfold wX_executeAccess_70; exact xa_cb _ (xa_95 hA ir post hp))⟩
theorem xa_ex {V w A : Nat} {m : oa_M} (hV : V ≤ 16) (hw : w < 2) (hA : A < 384) (ir : vp_in (x_instrRegister A) 4) (ho : x_opcode A = 10 → ∃ q, q < 32 ∧ m.2.2.2.2.1 w = nI q) (post : SX → Prop)
    (hp : post (nI V, x_regCount, x_phase, x_statementCount, x_accessCount, x_nextAddress, ((oa_x1 V w (x_opcode A) (x_instrRegister A) (x_operand A) m).2.2.1), x_register, x_init, x_statements, x_accessVar, x_follower, x_weight, x_firstLink, x_secondLink, x_chain, x_address, x_opcode, x_instrRegister, x_operand, x_codeLength, x_addrLoads, x_knownAddress, ((oa_x1 V w (x_opcode A) (x_instrRegister A) (x_operand A) m).1), ((oa_x1 V w (x_opcode A) (x_instrRegister A) (x_operand A) m).2.1), ((oa_x1 V w (x_opcode A) (x_instrRegister A) (x_operand A) m).2.2.2.1), ((oa_x1 V w (x_opcode A) (x_instrRegister A) (x_operand A) m).2.2.2.2.1))) : wpX_execute post (nI V, x_regCount, x_phase, x_statementCount, x_accessCount, x_nextAddress, m.2.2.1, x_register, x_init, x_statements, x_accessVar, x_follower, x_weight, x_firstLink, x_secondLink, x_chain, x_address, x_opcode, x_instrRegister, x_operand, x_codeLength, x_addrLoads, x_knownAddress, m.1, m.2.1, m.2.2.2.1, m.2.2.2.2.1) (nI w) (nI A) := by
  have iA : vp_in (nI A) 384 := vp_in_nI hA (by omega)
  have cA : (nI A).toNatClampNeg = A := nI_clamp (by omega)
  have iw : vp_in (nI w) 2 := vp_in_nI hw (by omega)
  have cw : (nI w).toNatClampNeg = w := nI_clamp (by omega)
  unfold wpX_execute
  dsimp only
  rw [cA, cw]
  refine ⟨iA, nm_e ?_⟩
  by_cases c0 : x_opcode A = 0
  · unfold oa_x1 at hp
    rw [if_pos c0] at hp
    exact br_t c0 ⟨iA, iA, ir, nm_e hp⟩
  · refine br_f c0 ?_
    by_cases c9 : x_opcode A = 9
    · unfold oa_x1 at hp
      rw [if_neg c0, if_pos c9] at hp
      exact br_t c9 ⟨iA, nm_e hp⟩
    · refine br_f c9 ?_
      by_cases c10 : x_opcode A = 10
      · obtain ⟨q, hq, eq⟩ := ho c10
        unfold oa_x1 at hp
        rw [if_neg c0, if_neg c9, if_pos c10] at hp
        have cq : (m.2.2.2.2.1 w).toNatClampNeg = q := by rw [eq]; exact nI_clamp (by omega)
        rw [cq] at hp
        have ei : nI w * 32 + m.2.2.2.2.1 w = nI (32 * w + q) := by rw [eq, oa_ix32]
        rw [ei, nI_clamp (show 32 * w + q < 2 ^ 31 by omega)]
        exact br_t c10 ⟨iw, vp_in_nI (by omega) (by omega), nm_e ⟨iw, iw, nm_e hp⟩⟩
      · exact br_f c10 (xa_xa hV hw hA ir c0 c9 c10 _ hp)
theorem xa_77 {V nR w L : Nat} {m0 m : oa_M} (hV : V ≤ 16) (hR : nR ≤ 4) (hw : w < 2) (hL : L ≤ 192) (ci : oa_CI nR w L 32 x_opcode x_instrRegister x_codeLength) (mi : oa_MI V nR w 0 x_opcode m0 m) (post : SX → Prop)
    (hp : post (nI V, x_regCount, x_phase, x_statementCount, x_accessCount, x_nextAddress, ((oa_xs V w x_opcode x_instrRegister x_operand L m).2.2.1), x_register, x_init, x_statements, x_accessVar, x_follower, x_weight, x_firstLink, x_secondLink, x_chain, x_address, x_opcode, x_instrRegister, x_operand, x_codeLength, x_addrLoads, x_knownAddress, ((oa_xs V w x_opcode x_instrRegister x_operand L m).1), ((oa_xs V w x_opcode x_instrRegister x_operand L m).2.1), ((oa_xs V w x_opcode x_instrRegister x_operand L m).2.2.2.1), ((oa_xs V w x_opcode x_instrRegister x_operand L m).2.2.2.2.1))) :
    ∀ d i fu, i + d = L → d < fu → wX_runProgram_77 post (nI w) fu (nI i) (nI V) x_regCount x_phase x_statementCount x_accessCount x_nextAddress ((oa_xs V w x_opcode x_instrRegister x_operand i m).2.2.1) x_register x_init x_statements x_accessVar x_follower x_weight x_firstLink x_secondLink x_chain x_address x_opcode x_instrRegister x_operand x_codeLength x_addrLoads x_knownAddress ((oa_xs V w x_opcode x_instrRegister x_operand i m).1) ((oa_xs V w x_opcode x_instrRegister x_operand i m).2.1) ((oa_xs V w x_opcode x_instrRegister x_operand i m).2.2.2.1) ((oa_xs V w x_opcode x_instrRegister x_operand i m).2.2.2.2.1) := by
  have iw : vp_in (nI w) 2 := vp_in_nI hw (by omega)
  have cw : (nI w).toNatClampNeg = w := nI_clamp (by omega)
  have eL : x_codeLength (nI w).toNatClampNeg = nI L := by rw [cw]; exact ci.1
  intro d
  induction d with
  | zero =>
    intro i fu hi hf
    obtain ⟨fu, rfl⟩ : ∃ f, fu = f + 1 := ⟨fu - 1, by omega⟩
    have e : i = L := by omega
    subst e
    exact ⟨iw, br_t (by rw [eL]; exact nI_le (by omega) (by omega)) hp⟩
  | succ d ih =>
    intro i fu hi hf
    obtain ⟨fu, rfl⟩ : ∃ f, fu = f + 1 := ⟨fu - 1, by omega⟩
    have mi2 := oa_xs_I (rg := x_instrRegister) (od := x_operand) mi i
    obtain ⟨_, r, hr, er⟩ := ci.2.1 i (by omega)
    refine ⟨iw, br_f (by rw [eL]; exact nI_ge (by omega) (by omega)) ?_⟩
    rw [oa_ix192]
    refine xa_ex hV hw (show 192 * w + i < 384 by omega) (by rw [er]; exact vp_in_nI (by omega) (by omega)) (fun h10 => ⟨oa_oc x_opcode (192 * w) i, ?_, mi2.2.2.1⟩) _ (nm_r (nI_1 i) (ih (i + 1) fu (by omega) (by omega)))
    have := oa_oc_lt h10 (show i < L by omega)
    have := ci.2.2
    omega
end
/-- the machine's state as a program begins -/
def oa_m0 (nR w V : Nat) (cell : Nat → Nat) (ini : Nat → Int32) (m : oa_M) : oa_M :=
  (oa_mi m.1 (16 * w) cell ini V, oa_fill m.2.1 (fun _ => 0) nR, 0, m.2.2.2.1, upd m.2.2.2.2.1 w 0,
   oa_mi (oa_mi m.2.2.2.2.2.1 (16 * w) (fun c => c) (fun _ => 0) 16) (16 * w) cell ini V, oa_fill m.2.2.2.2.2.2.1 (fun _ => 0) 4, upd m.2.2.2.2.2.2.2 w 0)
theorem oa_m0_I {V nR w : Nat} {cell : Nat → Nat} {ini op : Nat → Int32} {m : oa_M} (hV : V ≤ 16) (hR : nR ≤ 4) (h : ∀ w' c, w' < 2 → c < V → m.2.2.2.2.2.1 (16 * w' + c) = m.1 (16 * w' + c)) (hc : ∀ v, v < V → cell v < V) (hs : ∀ a, a < V → ∃ v, v < V ∧ cell v = a) :
    oa_MI V nR w 0 op m (oa_m0 nR w V cell ini m) := by
  refine ⟨fun r hr => ?_, oa_mem0 hV h hc hs, pk_us, pk_us, fun w' hw => ⟨pk_un hw, pk_un hw⟩⟩
  show oa_fill m.2.2.2.2.2.2.1 (fun _ => 0) 4 r = oa_fill m.2.1 (fun _ => 0) nR r
  rw [oa_fill_lt (by omega), oa_fill_lt hr]
section
variable {x_varCount x_regCount x_phase x_statementCount x_accessCount x_nextAddress x_accumulator : Int32} {x_register x_init x_statements x_accessVar x_follower x_weight x_firstLink x_secondLink x_chain x_address x_opcode x_instrRegister x_operand x_codeLength x_addrLoads x_knownAddress x_memory x_addressRegister x_output x_outputCount : Nat → Int32}
theorem xa_42 {nR w : Nat} (hR : nR ≤ 4) (hw : w < 2) (post : SX → Prop) (hp : ∃ f, wX_runProgram_77 post (nI w) f 0 x_varCount (nI nR) x_phase x_statementCount x_accessCount x_nextAddress 0 x_register x_init x_statements x_accessVar x_follower x_weight x_firstLink x_secondLink x_chain x_address x_opcode x_instrRegister x_operand x_codeLength x_addrLoads x_knownAddress x_memory (oa_fill x_addressRegister (fun _ => 0) nR) x_output (upd x_outputCount w 0)) :
    ∀ d i fu, i + d = nR → d < fu → wX_runProgram_42 post (nI w) x_varCount (nI nR) x_phase x_statementCount x_accessCount x_nextAddress x_accumulator fu (nI i) x_register x_init x_statements x_accessVar x_follower x_weight x_firstLink x_secondLink x_chain x_address x_opcode x_instrRegister x_operand x_codeLength x_addrLoads x_knownAddress x_memory (oa_fill x_addressRegister (fun _ => 0) i) x_output x_outputCount := by
  intro d
  induction d with
  | zero =>
    intro i fu hi hf
    obtain ⟨fu, rfl⟩ : ∃ f, fu = f + 1 := ⟨fu - 1, by omega⟩
    have e : i = nR := by omega
    subst e
    exact br_t (nI_le (by omega) (by omega)) ⟨vp_in_nI hw (by omega), nm_r (by rw [nI_clamp (show w < 2 ^ 31 by omega)]) hp⟩
  | succ d ih =>
    intro i fu hi hf
    obtain ⟨fu, rfl⟩ : ∃ f, fu = f + 1 := ⟨fu - 1, by omega⟩
    have vi : vp_in (nI i) 4 := vp_in_nI (by omega) (by omega)
    refine br_f (nI_ge (by omega) (by omega)) ⟨vi, nm_r ?_ (nm_r (nI_1 i) (ih (i + 1) fu (by omega) (by omega)))⟩
    rw [nI_clamp (show i < 2 ^ 31 by omega)]
    exact oa_fill_s rfl
theorem xa_r2 {V w : Nat} {cell : Nat → Nat} (hV : V ≤ 16) (hw : w < 2) (hc : ∀ v, v < V → cell v < V ∧ (if w = 0 then nI v else x_address v) = nI (cell v)) (post : SX → Prop)
    (hp : ∃ f, wX_runProgram_42 post (nI w) (nI V) x_regCount x_phase x_statementCount x_accessCount x_nextAddress x_accumulator f 0 x_register x_init x_statements x_accessVar x_follower x_weight x_firstLink x_secondLink x_chain x_address x_opcode x_instrRegister x_operand x_codeLength x_addrLoads x_knownAddress (oa_mi x_memory (16 * w) cell x_init V) x_addressRegister x_output x_outputCount) :
    ∀ d i fu, i + d = V → d < fu → wX_runProgram_2 post (nI w) (nI V) x_regCount x_phase x_statementCount x_accessCount x_nextAddress x_accumulator fu (nI i) x_register x_init x_statements x_accessVar x_follower x_weight x_firstLink x_secondLink x_chain x_address x_opcode x_instrRegister x_operand x_codeLength x_addrLoads x_knownAddress (oa_mi x_memory (16 * w) cell x_init i) x_addressRegister x_output x_outputCount := by
  intro d
  induction d with
  | zero =>
    intro i fu hi hf
    obtain ⟨fu, rfl⟩ : ∃ f, fu = f + 1 := ⟨fu - 1, by omega⟩
    have e : i = V := by omega
    subst e
    exact br_t (nI_le (by omega) (by omega)) hp
  | succ d ih =>
    intro i fu hi hf
    obtain ⟨fu, rfl⟩ : ∃ f, fu = f + 1 := ⟨fu - 1, by omega⟩
    have h1 := hc i (by omega)
    refine br_f (nI_ge (by omega) (by omega)) (xa_ai hw (by omega) h1.2 _ ⟨vp_in_nI (by omega) (by omega), ?_⟩)
    rw [oa_ix16w]
    refine ⟨vp_in_nI (by omega) (by omega), nm_r ?_ (nm_r (nI_1 i) (ih (i + 1) fu (by omega) (by omega)))⟩
    rw [nI_clamp (show i < 2 ^ 31 by omega), nI_clamp (show 16 * w + cell i < 2 ^ 31 by omega)]
    rfl
theorem xa_rp {V nR w L : Nat} {cell : Nat → Nat} {m M : oa_M} (hV : V ≤ 16) (hR : nR ≤ 4) (hw : w < 2) (hL : L ≤ 192) (ci : oa_CI nR w L 32 x_opcode x_instrRegister x_codeLength)
    (hc : ∀ v, v < V → cell v < V ∧ (if w = 0 then nI v else x_address v) = nI (cell v)) (mi : oa_MI V nR w 0 x_opcode m (oa_m0 nR w V cell x_init m)) (post : SX → Prop)
    (eM : oa_xs V w x_opcode x_instrRegister x_operand L (oa_m0 nR w V cell x_init m) = M)
    (hp : post (nI V, nI nR, x_phase, x_statementCount, x_accessCount, x_nextAddress, M.2.2.1, x_register, x_init, x_statements, x_accessVar, x_follower, x_weight, x_firstLink, x_secondLink, x_chain, x_address, x_opcode, x_instrRegister, x_operand, x_codeLength, x_addrLoads, x_knownAddress, M.1, M.2.1, M.2.2.2.1, M.2.2.2.2.1)) : wpX_runProgram post (nI V, nI nR, x_phase, x_statementCount, x_accessCount, x_nextAddress, m.2.2.1, x_register, x_init, x_statements, x_accessVar, x_follower, x_weight, x_firstLink, x_secondLink, x_chain, x_address, x_opcode, x_instrRegister, x_operand, x_codeLength, x_addrLoads, x_knownAddress, m.1, m.2.1, m.2.2.2.1, m.2.2.2.2.1) (nI w) := by
  subst eM
  have h1 := xa_42 (x_varCount := nI V) (x_accumulator := m.2.2.1) (x_memory := oa_mi m.1 (16 * w) cell x_init V) (x_addressRegister := m.2.1) (x_output := m.2.2.2.1) (x_outputCount := m.2.2.2.2.1) hR hw post
    ⟨L + 1, xa_77 (x_regCount := nI nR) hV hR hw hL ci mi post hp L 0 (L + 1) (by omega) (by omega)⟩ nR 0 (nR + 1) (by omega) (by omega)
  rw [oa_fill_0] at h1
  have h2 := xa_r2 (x_regCount := nI nR) (x_accumulator := m.2.2.1) (x_memory := m.1) (x_addressRegister := m.2.1) (x_output := m.2.2.2.1) (x_outputCount := m.2.2.2.2.1) hV hw hc post ⟨nR + 1, h1⟩ V 0 (V + 1) (by omega) (by omega)
  exact ⟨V + 1, h2⟩
end
end
section
/-! Y: accesses and weights -/
theorem oa_b0 : vp_nar .boolean 0 = 0 := rfl
theorem oa_b1' : vp_nar .boolean 1 = 1 := rfl
section
variable {y_nV y_nR y_count y_phase y_accN : Int32} {y_reg y_init y_sop y_sdest y_sa y_sb y_accV y_addr y_wt y_edge y_deg y_comp y_placed y_cOp y_cReg y_cOpd y_len y_loads y_kval y_kKnown y_mem y_outs y_outN y_ar : Nat → Int32}
theorem ya_ba_l {V cnt : Nat} {acc : Nat → Int32} (hc : cnt ≤ 32) (ss : oa_SS V cnt y_sop y_sdest y_sa y_sb acc) (post : SY → Prop)
    (hp : ∀ A, (∀ j, j < oa_ps y_sop cnt → A j = acc j) → post (y_nV, y_nR, nI cnt, y_phase, (nI (oa_ps y_sop cnt)), y_reg, y_init, y_sop, y_sdest, y_sa, y_sb, A, y_addr, y_wt, y_edge, y_deg, y_comp, y_placed, y_cOp, y_cReg, y_cOpd, y_len, y_loads, y_kval, y_kKnown, y_mem, y_outs, y_outN, y_ar)) :
    ∀ d i fu A, i + d = cnt → d < fu → (∀ j, j < oa_ps y_sop i → A j = acc j) → wY_buildAcc_7 post y_nV y_nR (nI cnt) y_phase fu (nI i) (nI (oa_ps y_sop i)) y_reg y_init y_sop y_sdest y_sa y_sb A y_addr y_wt y_edge y_deg y_comp y_placed y_cOp y_cReg y_cOpd y_len y_loads y_kval y_kKnown y_mem y_outs y_outN y_ar := by
  intro d
  induction d with
  | zero =>
    intro i fu A hi hf hA
    obtain ⟨fu, rfl⟩ : ∃ f, fu = f + 1 := ⟨fu - 1, by omega⟩
    have e : i = cnt := by omega
    subst e
    exact br_t (nI_le (by omega) (by omega)) (hp A hA)
  | succ d ih =>
    intro i fu A hi hf hA
    obtain ⟨fu, rfl⟩ : ∃ f, fu = f + 1 := ⟨fu - 1, by omega⟩
    have ih := ih (i + 1) fu
    have ep : oa_ps y_sop (i + 1) = oa_ps y_sop i + oa_na (y_sop i) := rfl
    have hl := oa_ps_le y_sop i
    have vi : vp_in (nI i) 32 := vp_in_nI (by omega) (by omega)
    have ci : (nI i).toNatClampNeg = i := nI_clamp (by omega)
    have st := ss i (by omega)
    rw [ep] at ih
    revert hA ih st
    generalize oa_ps y_sop i = p at hl ⊢
    intro hA ih st
    have ip : vp_in (nI p) 96 := vp_in_nI (by omega) (by omega)
    have cp : (nI p).toNatClampNeg = p := nI_clamp (by omega)
    have ip1 : vp_in (nI (p + 1)) 96 := vp_in_nI (by omega) (by omega)
    have cp1 : (nI (p + 1)).toNatClampNeg = p + 1 := nI_clamp (by omega)
    have ip2 : vp_in (nI (p + 2)) 96 := vp_in_nI (by omega) (by omega)
    have cp2 : (nI (p + 2)).toNatClampNeg = p + 2 := nI_clamp (by omega)
    refine br_f (nI_ge (by omega) (by omega)) ⟨vi, ?_⟩
    rw [ci, cp]
    rcases st with ⟨z, hz, eo, -, -, -, h4, h5, h6⟩ | ⟨eo, -, -, h4, h5⟩ | ⟨eo, -, h4⟩ | ⟨eo, -, h4⟩
    · rw [eo, oa_na5 hz] at ih
      refine nm_r eo (br_f (nI_nlt (a := 5) (by omega) (by decide)) (nm_r (nI_1 p) ⟨vi, ip, nm_e (nm_r (nI_1 (p + 1)) ⟨vi, ip1, nm_r (by rw [cp1]) (nm_r (nI_1 (p + 2)) ⟨vi, ip2, nm_r (by rw [cp2]) (nm_r (nI_1 i) (ih _ (by omega) (by omega) ?_))⟩)⟩)⟩))
      intro j hj
      by_cases e2 : j = p + 2
      · rw [e2, pk_us, h6]
      · rw [pk_un e2]
        by_cases e1 : j = p + 1
        · rw [e1, pk_us, h5]
        · rw [pk_un e1]
          by_cases e0 : j = p
          · rw [e0, pk_us, h4]
          · rw [pk_un e0]; exact hA j (by omega)
    · rw [eo, oa_na6] at ih
      refine nm_r eo (br_t (by decide) (br_t rfl (nm_r (nI_1 p) ⟨vi, ip, nm_e (nm_r (nI_1 (p + 1)) ⟨vi, ip1, nm_r (by rw [cp1]) (nm_r (nI_1 i) (ih _ (by omega) (by omega) ?_))⟩)⟩)))
      intro j hj
      by_cases e1 : j = p + 1
      · rw [e1, pk_us, h5]
      · rw [pk_un e1]
        by_cases e0 : j = p
        · rw [e0, pk_us, h4]
        · rw [pk_un e0]; exact hA j (by omega)
    · rw [eo, oa_na7] at ih
      refine nm_r eo (br_t (by decide) (br_f (by decide) (br_t rfl (nm_r (nI_1 p) ⟨vi, ip, nm_e (nm_r (nI_1 i) (ih _ (by omega) (by omega) ?_))⟩))))
      intro j hj
      by_cases e0 : j = p
      · rw [e0, pk_us, h4]
      · rw [pk_un e0]; exact hA j (by omega)
    · rw [eo, oa_na8] at ih
      refine nm_r eo (br_t (by decide) (br_f (by decide) (br_f (by decide) (nm_r (nI_1 p) ⟨vi, ip, nm_e (nm_r (nI_1 i) (ih _ (by omega) (by omega) ?_))⟩))))
      intro j hj
      by_cases e0 : j = p
      · rw [e0, pk_us, h4]
      · rw [pk_un e0]; exact hA j (by omega)
theorem ya_ba {V cnt : Nat} {acc : Nat → Int32} (hc : cnt ≤ 32) (ss : oa_SS V cnt y_sop y_sdest y_sa y_sb acc) (post : SY → Prop)
    (hp : ∀ A, (∀ j, j < oa_ps y_sop cnt → A j = acc j) → post (y_nV, y_nR, nI cnt, y_phase, (nI (oa_ps y_sop cnt)), y_reg, y_init, y_sop, y_sdest, y_sa, y_sb, A, y_addr, y_wt, y_edge, y_deg, y_comp, y_placed, y_cOp, y_cReg, y_cOpd, y_len, y_loads, y_kval, y_kKnown, y_mem, y_outs, y_outN, y_ar)) : wpY_buildAcc post (y_nV, y_nR, nI cnt, y_phase, y_accN, y_reg, y_init, y_sop, y_sdest, y_sa, y_sb, y_accV, y_addr, y_wt, y_edge, y_deg, y_comp, y_placed, y_cOp, y_cReg, y_cOpd, y_len, y_loads, y_kval, y_kKnown, y_mem, y_outs, y_outN, y_ar) :=
  ⟨cnt + 1, ya_ba_l hc ss post hp cnt 0 (cnt + 1) y_accV (by omega) (by omega) (fun j hj => absurd hj (Nat.not_lt_zero j))⟩
theorem ya_60 {u v r p c x6 x : Int32} (post : Int32 → Prop) (J : Int32 → Int32 → Int32 → Prop) (h1 : (p = v ∧ x = u) → J x (c + 1) (x6 + 1)) (h0 : ¬ (p = v ∧ x = u) → J x c (x6 + 1)) : wY_weight_60 post J u v r p c x6 x y_nV y_nR y_count y_phase y_accN y_reg y_init y_sop y_sdest y_sa y_sb y_accV y_addr y_wt y_edge y_deg y_comp y_placed y_cOp y_cReg y_cOpd y_len y_loads y_kval y_kKnown y_mem y_outs y_outN y_ar :=
  br_c (fun a => br_c (fun b => nm_e (nm_e (h1 ⟨a, b⟩))) (fun b => nm_e (h0 (fun z => b z.2)))) (fun a => nm_e (h0 (fun z => a z.1)))
theorem ya_wt_l {n : Nat} {u v r : Int32} (hn : n ≤ 96) (ha : ∀ i, i < n → ∃ k, k < 16 ∧ y_accV i = nI k) (post : Int32 → Prop) (hp : post (oa_ct y_reg y_accV r u v n)) :
    ∀ d i fu, i + d = n → d < fu → wY_weight_16 post u v r y_nV y_nR y_count y_phase (nI n) y_reg y_init y_sop y_sdest y_sa y_sb y_accV y_addr y_wt y_edge y_deg y_comp y_placed y_cOp y_cReg y_cOpd y_len y_loads y_kval y_kKnown y_mem y_outs y_outN y_ar fu (oa_pv y_reg y_accV r i) (oa_ct y_reg y_accV r u v i) (nI i) := by
  intro d
  induction d with
  | zero =>
    intro i fu hi hf
    obtain ⟨fu, rfl⟩ : ∃ f, fu = f + 1 := ⟨fu - 1, by omega⟩
    have e : i = n := by omega
    subst e
    exact br_t (nI_le (by omega) (by omega)) hp
  | succ d ih =>
    intro i fu hi hf
    obtain ⟨fu, rfl⟩ : ∃ f, fu = f + 1 := ⟨fu - 1, by omega⟩
    have nx := ih (i + 1) fu (by omega) (by omega)
    obtain ⟨k, hk, ek⟩ := ha i (by omega)
    refine br_f (nI_ge (by omega) (by omega)) ⟨vp_in_nI (by omega) (by omega), ?_⟩
    rw [nI_clamp (show i < 2 ^ 31 by omega)]
    refine nm_e ⟨by rw [ek]; exact vp_in_nI hk (by omega), ?_⟩
    rw [oa_pv, oa_ct] at nx
    by_cases c : y_reg (y_accV i).toNatClampNeg = r
    · rw [if_pos c, if_pos c] at nx
      refine br_t c ?_
      by_cases a1 : oa_pv y_reg y_accV r i = u
      · refine br_t a1 ?_
        by_cases a2 : y_accV i = v
        · rw [if_pos (Or.inl ⟨a1, a2⟩)] at nx
          exact br_t a2 (nm_e (nm_r (nI_1 i) nx))
        · refine br_f a2 (ya_60 post _ (fun z => ?_) (fun z => ?_))
          · rw [if_pos (Or.inr z)] at nx; rw [nI_1]; exact nx
          · rw [if_neg (fun y => y.elim (fun y => a2 y.2) z)] at nx; rw [nI_1]; exact nx
      · refine br_f a1 (ya_60 post _ (fun z => ?_) (fun z => ?_))
        · rw [if_pos (Or.inr z)] at nx; rw [nI_1]; exact nx
        · rw [if_neg (fun y => y.elim (fun y => a1 y.1) z)] at nx; rw [nI_1]; exact nx
    · rw [if_neg c, if_neg c] at nx
      exact br_f c (nm_r (nI_1 i) nx)
theorem ya_wt {n u : Nat} {v : Int32} (hn : n ≤ 96) (hu : u < 16) (ha : ∀ i, i < n → ∃ k, k < 16 ∧ y_accV i = nI k) (post : Int32 → Prop) (hp : post (oa_ct y_reg y_accV (y_reg u) (nI u) v n)) : wpY_weight post (y_nV, y_nR, y_count, y_phase, nI n, y_reg, y_init, y_sop, y_sdest, y_sa, y_sb, y_accV, y_addr, y_wt, y_edge, y_deg, y_comp, y_placed, y_cOp, y_cReg, y_cOpd, y_len, y_loads, y_kval, y_kKnown, y_mem, y_outs, y_outN, y_ar) (nI u) v := by
  refine ⟨vp_in_nI hu (by omega), nm_r (show _ = y_reg u by rw [nI_clamp (by omega)]) ⟨n + 1, ?_⟩⟩
  exact ya_wt_l hn ha post hp n 0 (n + 1) (by omega) (by omega)
theorem ya_c6 {V n : Nat} (hV : V ≤ 16) (hn : n ≤ 96) (ha : ∀ i, i < n → ∃ k, k < 16 ∧ y_accV i = nI k) (post : Int32 → SY → Prop)
    (hp : ∃ f, wY_compile_85 post (nI V) y_nR y_count y_phase (nI n) f 0 y_reg y_init y_sop y_sdest y_sa y_sb y_accV y_addr (oa_fill y_wt (oa_wY y_reg y_accV V n) 256) (oa_fill y_edge (fun _ => 0) 256) y_deg y_comp y_placed y_cOp y_cReg y_cOpd y_len y_loads y_kval y_kKnown y_mem y_outs y_outN y_ar) :
    ∀ d i fu, i + d = 256 → d < fu → wY_compile_6 post (nI V) y_nR y_count y_phase (nI n) fu (nI i) y_reg y_init y_sop y_sdest y_sa y_sb y_accV y_addr (oa_fill y_wt (oa_wY y_reg y_accV V n) i) (oa_fill y_edge (fun _ => 0) i) y_deg y_comp y_placed y_cOp y_cReg y_cOpd y_len y_loads y_kval y_kKnown y_mem y_outs y_outN y_ar := by
  intro d
  induction d with
  | zero =>
    intro i fu hi hf
    obtain ⟨fu, rfl⟩ : ∃ f, fu = f + 1 := ⟨fu - 1, by omega⟩
    have e : i = 256 := by omega
    subst e
    exact br_t (by decide) hp
  | succ d ih =>
    intro i fu hi hf
    obtain ⟨fu, rfl⟩ : ∃ f, fu = f + 1 := ⟨fu - 1, by omega⟩
    have nx := ih (i + 1) fu (by omega) (by omega)
    have ci : (nI i).toNatClampNeg = i := nI_clamp (by omega)
    have vi : vp_in (nI i) 256 := vp_in_nI (by omega) (by omega)
    have d1 : nI i / 16 = nI (i / 16) := pk_div (d := 16) (by omega) (by omega) (by omega)
    have d2 : nI i - nI i / 16 * 16 = nI (i % 16) := pk_rem (d := 16) (by omega) (by omega) (by omega)
    have e1 : upd (oa_fill y_edge (fun _ => 0) i) (nI i).toNatClampNeg (vp_nar .boolean 0) = oa_fill y_edge (fun _ => 0) (i + 1) := by rw [ci]; exact oa_fill_s rfl
    have cu : (nI (i / 16)).toNatClampNeg = i / 16 := nI_clamp (by omega)
    have cv : (nI (i % 16)).toNatClampNeg = i % 16 := nI_clamp (by omega)
    have w0 : oa_wY y_reg y_accV V n i = 0 → upd (oa_fill y_wt (oa_wY y_reg y_accV V n) i) i 0 = oa_fill y_wt (oa_wY y_reg y_accV V n) (i + 1) := fun h => oa_fill_s h.symm
    refine br_f (nI_ge (b := 256) (by omega) (by decide)) ⟨by decide, nm_r d1 ⟨by decide, nm_r d2 ⟨vi, nm_r (show _ = upd (oa_fill y_wt (oa_wY y_reg y_accV V n) i) i 0 by rw [ci]) ⟨vi, nm_r e1 ?_⟩⟩⟩⟩
    refine pk_le (i % 16) (i / 16) (fun h => nm_r (nI_1 i) ?_) (fun h => pk_le V (i % 16) (fun h2 => nm_r (nI_1 i) ?_) (fun h2 => ⟨vp_in_nI (by omega) (by omega), vp_in_nI (by omega) (by omega), ?_⟩))
    · rw [w0 (if_neg (fun z => by omega))]; exact nx
    · rw [w0 (if_neg (fun z => by omega))]; exact nx
    · rw [cu, cv]
      by_cases c : y_reg (i / 16) = y_reg (i % 16)
      · refine br_t c (ya_wt hn (by omega) ha _ ⟨vi, nm_r ?_ (nm_r (nI_1 i) nx)⟩)
        rw [ci, oa_uu]
        exact oa_fill_s (if_pos ⟨h, h2, c⟩).symm
      · refine br_f c (nm_r (nI_1 i) ?_)
        rw [w0 (if_neg (fun z => c z.2.2))]; exact nx
theorem ya_c85 (post : Int32 → SY → Prop) (hp : ∃ f, wY_compile_120 post f 0 y_nV y_nR y_count y_phase y_accN y_reg y_init y_sop y_sdest y_sa y_sb y_accV y_addr y_wt y_edge (oa_fill y_deg (fun _ => 0) 16) (oa_fill y_comp nI 16) (oa_fill y_placed (fun _ => 0) 16) y_cOp y_cReg y_cOpd y_len y_loads y_kval y_kKnown y_mem y_outs y_outN y_ar) :
    ∀ d i fu, i + d = 16 → d < fu → wY_compile_85 post y_nV y_nR y_count y_phase y_accN fu (nI i) y_reg y_init y_sop y_sdest y_sa y_sb y_accV y_addr y_wt y_edge (oa_fill y_deg (fun _ => 0) i) (oa_fill y_comp nI i) (oa_fill y_placed (fun _ => 0) i) y_cOp y_cReg y_cOpd y_len y_loads y_kval y_kKnown y_mem y_outs y_outN y_ar := by
  intro d
  induction d with
  | zero =>
    intro i fu hi hf
    obtain ⟨fu, rfl⟩ : ∃ f, fu = f + 1 := ⟨fu - 1, by omega⟩
    have e : i = 16 := by omega
    subst e
    exact br_t (by decide) hp
  | succ d ih =>
    intro i fu hi hf
    obtain ⟨fu, rfl⟩ : ∃ f, fu = f + 1 := ⟨fu - 1, by omega⟩
    have vi : vp_in (nI i) 16 := vp_in_nI (by omega) (by omega)
    refine br_f (nI_ge (b := 16) (by omega) (by decide)) ⟨vi, nm_r ?_ ⟨vi, nm_r ?_ ⟨vi, nm_r ?_ (nm_r (nI_1 i) (ih (i + 1) fu (by omega) (by omega)))⟩⟩⟩
    all_goals rw [nI_clamp (show i < 2 ^ 31 by omega)]
    all_goals exact oa_fill_s rfl
end
end
section
/-! Y: joins -/
section
variable {y_nV y_nR y_count y_phase y_accN : Int32} {y_reg y_init y_sop y_sdest y_sa y_sb y_accV y_addr y_wt y_edge y_deg y_comp y_placed y_cOp y_cReg y_cOpd y_len y_loads y_kval y_kKnown y_mem y_outs y_outN y_ar : Nat → Int32}
theorem ya_mg_l (a b : Int32) (post : SY → Prop) (hp : post (y_nV, y_nR, y_count, y_phase, y_accN, y_reg, y_init, y_sop, y_sdest, y_sa, y_sb, y_accV, y_addr, y_wt, y_edge, y_deg, oa_rn y_comp a b 16, y_placed, y_cOp, y_cReg, y_cOpd, y_len, y_loads, y_kval, y_kKnown, y_mem, y_outs, y_outN, y_ar)) :
    ∀ d i fu, i + d = 16 → d < fu → wY_merge_2 post a b y_nV y_nR y_count y_phase y_accN fu (nI i) y_reg y_init y_sop y_sdest y_sa y_sb y_accV y_addr y_wt y_edge y_deg (oa_rn y_comp a b i) y_placed y_cOp y_cReg y_cOpd y_len y_loads y_kval y_kKnown y_mem y_outs y_outN y_ar := by
  intro d
  induction d with
  | zero =>
    intro i fu hi hf
    obtain ⟨fu, rfl⟩ : ∃ f, fu = f + 1 := ⟨fu - 1, by omega⟩
    have e : i = 16 := by omega
    subst e
    exact br_t (by decide) hp
  | succ d ih =>
    intro i fu hi hf
    obtain ⟨fu, rfl⟩ : ∃ f, fu = f + 1 := ⟨fu - 1, by omega⟩
    have nx := ih (i + 1) fu (by omega) (by omega)
    have vi : vp_in (nI i) 16 := vp_in_nI (by omega) (by omega)
    refine br_f (nI_ge (b := 16) (by omega) (by decide)) ⟨vi, ?_⟩
    rw [nI_clamp (show i < 2 ^ 31 by omega), oa_rn_self]
    by_cases c : y_comp i = a
    · exact br_t c ⟨vi, nm_r (oa_rn_t c) (nm_r (nI_1 i) nx)⟩
    · rw [oa_rn_f c]
      exact br_f c (nm_r (nI_1 i) nx)
theorem ya_mg (a b : Int32) (post : SY → Prop) (hp : post (y_nV, y_nR, y_count, y_phase, y_accN, y_reg, y_init, y_sop, y_sdest, y_sa, y_sb, y_accV, y_addr, y_wt, y_edge, y_deg, oa_rn y_comp a b 16, y_placed, y_cOp, y_cReg, y_cOpd, y_len, y_loads, y_kval, y_kKnown, y_mem, y_outs, y_outN, y_ar)) : wpY_merge post (y_nV, y_nR, y_count, y_phase, y_accN, y_reg, y_init, y_sop, y_sdest, y_sa, y_sb, y_accV, y_addr, y_wt, y_edge, y_deg, y_comp, y_placed, y_cOp, y_cReg, y_cOpd, y_len, y_loads, y_kval, y_kKnown, y_mem, y_outs, y_outN, y_ar) a b := by
  have h := ya_mg_l a b post hp 16 0 17 (by omega) (by omega)
  rw [oa_rn_0] at h
  exact ⟨17, h⟩
theorem ya_js {V : Nat} (post : Int32 → SY → Prop) : oa_YS y_wt V (fun n t q => wY_compile_120 post n (nI t) y_nV y_nR y_count y_phase y_accN y_reg y_init y_sop y_sdest y_sa y_sb y_accV y_addr y_wt q.2.2.2.1 q.2.2.2.2.1 q.2.2.2.2.2 y_placed y_cOp y_cReg y_cOpd y_len y_loads y_kval y_kKnown y_mem y_outs y_outN y_ar) := by
  intro k u v n q hk hu hv
  have ht : ¬ (24320 : Int32) ≤ nI (k * 256 + u * 16 + v) := nI_ge (b := 24320) (by omega) (by decide)
  have d1 : (95 : Int32) - nI (k * 256 + u * 16 + v) / 256 = nI (95 - k) := by
    rw [show (256 : Int32) = nI 256 from rfl, pk_div (by omega) (by omega) (by omega), show (95 : Int32) = nI 95 from rfl, show (k * 256 + u * 16 + v) / 256 = k by omega]
    exact pk_sub (by omega)
  have d2 : nI (k * 256 + u * 16 + v) - nI (k * 256 + u * 16 + v) / 256 * 256 = nI (u * 16 + v) := by
    rw [show (256 : Int32) = nI 256 from rfl, pk_rem (by omega) (by omega) (by omega), show (k * 256 + u * 16 + v) % 256 = u * 16 + v by omega]
  have d3 : nI (u * 16 + v) / 16 = nI u := by
    rw [show (16 : Int32) = nI 16 from rfl, pk_div (by omega) (by omega) (by omega), show (u * 16 + v) / 16 = u by omega]
  have d4 : nI (u * 16 + v) - nI (u * 16 + v) / 16 * 16 = nI v := by
    rw [show (16 : Int32) = nI 16 from rfl, pk_rem (by omega) (by omega) (by omega), show (u * 16 + v) % 16 = v by omega]
  have ip : vp_in (nI (u * 16 + v)) 256 := vp_in_nI (by omega) (by omega)
  have iq : vp_in (nI (v * 16 + u)) 256 := vp_in_nI (by omega) (by omega)
  have iu : vp_in (nI u) 16 := vp_in_nI hu (by omega)
  have iv : vp_in (nI v) 16 := vp_in_nI hv (by omega)
  have cp : (nI (u * 16 + v)).toNatClampNeg = u * 16 + v := nI_clamp (by omega)
  have cq : (nI (v * 16 + u)).toNatClampNeg = v * 16 + u := nI_clamp (by omega)
  have cu : (nI u).toNatClampNeg = u := nI_clamp (by omega)
  have cv : (nI v).toNatClampNeg = v := nI_clamp (by omega)
  have w0 : ¬ nI (95 - k) ≤ 0 := nI_nle (by omega) (by omega)
  have n1 := nI_1 (k * 256 + u * 16 + v)
  constructor
  · intro c h
    refine br_f ht ⟨by decide, nm_r d1 ⟨by decide, nm_r d2 ⟨by decide, nm_r d3 ⟨by decide, nm_r d4 (br_f w0 ⟨ip, ?_⟩)⟩⟩⟩⟩
    rw [cp, cu, cv, oa_ix16, cq]
    by_cases c1 : y_wt (u * 16 + v) = nI (95 - k)
    · refine br_t c1 ⟨iu, ?_⟩
      by_cases c2 : 2 ≤ q.2.2.2.2.1 u
      · exact br_t c2 (nm_r n1 h)
      · refine br_f c2 ⟨iv, ?_⟩
        by_cases c3 : 2 ≤ q.2.2.2.2.1 v
        · exact br_t c3 (nm_r n1 h)
        · refine br_f c3 ⟨iu, iv, ?_⟩
          by_cases c4 : q.2.2.2.2.2 u = q.2.2.2.2.2 v
          · exact br_t c4 (nm_r n1 h)
          · exact absurd ⟨c1, Int32.not_le.mp c2, Int32.not_le.mp c3, c4⟩ c
    · exact br_f c1 (nm_r n1 h)
  · rintro ⟨c1, c2, c3, c4⟩ h
    have uv : v ≠ u := fun z => c4 (by rw [z])
    refine br_f ht ⟨by decide, nm_r d1 ⟨by decide, nm_r d2 ⟨by decide, nm_r d3 ⟨by decide, nm_r d4 (br_f w0 ⟨ip, ?_⟩)⟩⟩⟩⟩
    rw [cp, cu, cv, oa_ix16, cq]
    refine br_t c1 ⟨iu, br_f (Int32.not_le.mpr c2) ⟨iv, br_f (Int32.not_le.mpr c3) ⟨iu, iv, br_f c4 ⟨ip, nm_e ⟨iq, nm_e ⟨iu, iu, nm_e ⟨iv, iv, nm_r (show _ = upd (upd q.2.2.2.2.1 u (q.2.2.2.2.1 u + 1)) v (q.2.2.2.2.1 v + 1) by rw [pk_un uv]) ⟨iv, iu, ?_⟩⟩⟩⟩⟩⟩⟩⟩
    exact ya_mg _ _ _ (nm_r n1 h)
theorem ya_c120 {V : Nat} {W : Nat → Int32} (hV : V ≤ 16) (hW : ∀ u v, u < v → v < V → W (u * 16 + v) = y_wt (u * 16 + v)) (h0 : ∀ u v, u < 16 → v < 16 → ¬ (u < v ∧ v < V) → y_wt (u * 16 + v) = 0) (post : Int32 → SY → Prop) (q : oa_Q) (hq : oa_QI V q)
    (hp : ∃ f, wY_compile_278 post f 0 0 y_nV y_nR y_count y_phase y_accN y_reg y_init y_sop y_sdest y_sa y_sb y_accV y_addr y_wt ((oa_jw W V 95 q).2.2.2.1) ((oa_jw W V 95 q).2.2.2.2.1) ((oa_jw W V 95 q).2.2.2.2.2) y_placed y_cOp y_cReg y_cOpd y_len y_loads y_kval y_kKnown y_mem y_outs y_outN y_ar) : ∃ f, wY_compile_120 post f 0 y_nV y_nR y_count y_phase y_accN y_reg y_init y_sop y_sdest y_sa y_sb y_accV y_addr y_wt q.2.2.2.1 q.2.2.2.2.1 q.2.2.2.2.2 y_placed y_cOp y_cReg y_cOpd y_len y_loads y_kval y_kKnown y_mem y_outs y_outN y_ar := by
  have h := oa_Y_jw hV (ya_js (V := V) post) hW h0 95 1 q (by omega) hq (br_t (by decide) hp)
  exact ⟨_, h⟩
end
end
section
/-! Y: addresses -/
abbrev oa_JY3 : Type := Int32 → Int32 → Int32 → (Nat → Int32) → (Nat → Int32) → (Nat → Int32) → (Nat → Int32) → (Nat → Int32) → (Nat → Int32) → (Nat → Int32) → (Nat → Int32) → (Nat → Int32) → (Nat → Int32) → (Nat → Int32) → (Nat → Int32) → (Nat → Int32) → (Nat → Int32) → (Nat → Int32) → (Nat → Int32) → (Nat → Int32) → (Nat → Int32) → (Nat → Int32) → (Nat → Int32) → (Nat → Int32) → (Nat → Int32) → (Nat → Int32) → (Nat → Int32) → Prop
section
variable {y_nV y_nR y_count y_phase y_accN : Int32} {y_reg y_init y_sop y_sdest y_sa y_sb y_accV y_addr y_wt y_edge y_deg y_comp y_placed y_cOp y_cReg y_cOpd y_len y_loads y_kval y_kKnown y_mem y_outs y_outN y_ar : Nat → Int32}
theorem ya_104 {V k : Nat} {t x2 : Int32} {i : Nat} (hV : V ≤ 16) (hk : k < V) (ht : t = -1 ∨ ∃ y, y < V ∧ t = nI y) (hy : ∀ y, y < V → ((y_edge (k * 16 + y) ≠ 0 ∧ y_placed y = 0) ↔ t = nI y)) (post : Int32 → SY → Prop) (J : oa_JY3)
    (hp : J x2 t (nI i + 1) y_reg y_init y_sop y_sdest y_sa y_sb y_accV y_addr y_wt y_edge y_deg y_comp y_placed y_cOp y_cReg y_cOpd y_len y_loads y_kval y_kKnown y_mem y_outs y_outN y_ar) :
    ∀ d y fu x7, y + d = V → d < fu → ((x7 = t ∧ ∀ z, y ≤ z → z < V → t ≠ nI z) ∨ (x7 = -1 ∧ ∀ z, z < y → t ≠ nI z)) → wY_placePath_104 post J x2 (nI k) (nI i) (nI V) y_nR y_count y_phase y_accN y_reg y_init y_sop y_sdest y_sa y_sb y_accV y_addr y_wt y_edge y_deg y_comp y_placed y_cOp y_cReg y_cOpd y_len y_loads y_kval y_kKnown y_mem y_outs y_outN y_ar fu x7 (nI y) := by
  intro d
  induction d with
  | zero =>
    intro y fu x7 hd hf h
    obtain ⟨fu, rfl⟩ : ∃ f, fu = f + 1 := ⟨fu - 1, by omega⟩
    have e : x7 = t := by
      rcases h with h | h
      · exact h.1
      · rcases ht with h2 | ⟨z, hz, h2⟩
        · rw [h.1, h2]
        · exact absurd h2 (h.2 z (by omega))
    rw [e]
    exact br_t (nI_le (by omega) (by omega)) (nm_e hp)
  | succ d ih =>
    intro y fu x7 hd hf h
    obtain ⟨fu, rfl⟩ : ∃ f, fu = f + 1 := ⟨fu - 1, by omega⟩
    have iy : vp_in (nI y) 16 := vp_in_nI (by omega) (by omega)
    have hyy := hy y (by omega)
    have keep : t ≠ nI y → ((x7 = t ∧ ∀ z, y + 1 ≤ z → z < V → t ≠ nI z) ∨ (x7 = -1 ∧ ∀ z, z < y + 1 → t ≠ nI z)) := by
      intro ny
      rcases h with h | h
      · exact Or.inl ⟨h.1, fun z h1 h2 => h.2 z (by omega) h2⟩
      · refine Or.inr ⟨h.1, fun z hz => ?_⟩
        by_cases e : z = y
        · rw [e]; exact ny
        · exact h.2 z (by omega)
    refine br_f (nI_ge (by omega) (by omega)) ?_
    rw [oa_ix16, nI_clamp (show k * 16 + y < 2 ^ 31 by omega), nI_clamp (show y < 2 ^ 31 by omega)]
    refine ⟨vp_in_nI (by omega) (by omega), ?_⟩
    by_cases c1 : y_edge (k * 16 + y) = 0
    · exact br_t c1 (nm_r (nI_1 y) (ih (y + 1) fu x7 (by omega) (by omega) (keep (fun z => (hyy.mpr z).1 c1))))
    · refine br_f c1 ⟨iy, ?_⟩
      by_cases c2 : y_placed y = 0
      · have et := hyy.mp ⟨c1, c2⟩
        refine br_t c2 (nm_r (nI_1 y) (ih (y + 1) fu (nI y) (by omega) (by omega) (Or.inl ⟨et.symm, fun z h1 h2 e => ?_⟩)))
        rw [et] at e
        have := oa_inj (by omega) (by omega) e
        omega
      · exact br_f c2 (nm_r (nI_1 y) (ih (y + 1) fu x7 (by omega) (by omega) (keep (fun z => c2 (hyy.mpr z).2))))
theorem ya_64 {V : Nat} {f s c : Nat → Int32} (hV : V ≤ 16) (g : oa_G V f s c) (he : ∀ x y, x < V → y < V → (y_edge (x * 16 + y) ≠ 0 ↔ oa_lk f s x y)) (post : Int32 → SY → Prop) :
    ∀ d i fu pr cu (b : oa_B), i + d ≤ 16 → d < fu → oa_T V f s b.2.2.1 pr cu → oa_A V b.2.2.2 b.1 b.2.1 b.2.2.1 → V ≤ d + oa_cn b.2.2.1 V →
      post (nI (oa_tr f s d pr cu b).2.2.2) (nI V, y_nR, y_count, y_phase, y_accN, y_reg, y_init, y_sop, y_sdest, y_sa, y_sb, y_accV, ((oa_tr f s d pr cu b).2.1), y_wt, y_edge, y_deg, y_comp, ((oa_tr f s d pr cu b).2.2.1), y_cOp, y_cReg, y_cOpd, y_len, y_loads, y_kval, y_kKnown, y_mem, y_outs, y_outN, y_ar) →
      wY_placePath_64 post (nI V) y_nR y_count y_phase y_accN fu (nI b.2.2.2) cu (nI i) y_reg y_init y_sop y_sdest y_sa y_sb y_accV b.2.1 y_wt y_edge y_deg y_comp b.2.2.1 y_cOp y_cReg y_cOpd y_len y_loads y_kval y_kKnown y_mem y_outs y_outN y_ar := by
  intro d
  induction d with
  | zero =>
    intro i fu pr cu b hi hf t a hd hp
    obtain ⟨fu, rfl⟩ : ∃ f, fu = f + 1 := ⟨fu - 1, by omega⟩
    have e : cu = -1 := by
      rcases t with ⟨h, _⟩ | ⟨k, hk, _, h0, _⟩
      · exact h
      · have := oa_cn_lt h0 V hk; omega
    subst e
    exact br_c (fun _ => hp) (fun _ => br_f (by decide) hp)
  | succ d ih =>
    intro i fu pr cu b hi hf t a hd hp
    obtain ⟨fu, rfl⟩ : ∃ f, fu = f + 1 := ⟨fu - 1, by omega⟩
    refine br_f (nI_ge (b := 16) (by omega) (by decide)) ?_
    rw [oa_tr] at hp
    by_cases e : cu = -1
    · rw [if_pos e] at hp
      rw [e]
      exact br_f (by decide) hp
    · rw [if_neg e] at hp
      have t' := t
      rcases t' with ⟨h, _⟩ | ⟨k, hk, rfl, h0, _⟩
      · exact absurd h e
      have ck : (nI k).toNatClampNeg = k := nI_clamp (by omega)
      have ik : vp_in (nI k) 16 := vp_in_nI (by omega) (by omega)
      rw [ck] at hp
      have q1 : upd b.2.2.1 k 1 k ≠ 0 := by rw [pk_us]; decide
      have q2 : ∀ x, x ≠ k → upd b.2.2.1 k 1 x = b.2.2.1 x := fun x hx => pk_un hx
      have st := oa_T_step hV g hk t q1 q2
      have sa := oa_A_step hV a hk h0 (t := 1) (by decide)
      have sc := oa_cn_up h0 q1 q2 V
      rw [if_pos hk] at sc
      have nx := ih (i + 1) fu (nI k) (oa_nt f s pr k) (oa_b1 b k) (by omega) (by omega) st.1 sa.1 (by show V ≤ d + oa_cn (upd b.2.2.1 k 1) V; omega) hp
      refine br_t (nI_pos' (by omega)) ⟨ik, nm_r (show _ = upd b.2.2.1 k 1 by rw [ck]; rfl) ⟨ik, nm_r (show _ = upd b.2.1 k (nI b.2.2.2) by rw [ck]) (nm_r (nI_1 b.2.2.2) ⟨V + 1, ?_⟩)⟩⟩
      refine ya_104 hV hk st.2.1 (fun y hy => ?_) post _ ?_ V 0 (V + 1) (-1) (by omega) (by omega) (Or.inr ⟨rfl, fun z hz => absurd hz (Nat.not_lt_zero z)⟩)
      · rw [he k y hk hy]; exact st.2.2 y hy
      · rw [nI_1]; exact nx
theorem ya_13 {V e : Nat} {x2 x3 x4 : Int32} (hV : V ≤ 16) (he : e < V) (h1 : y_comp e = x3 ∧ y_deg e < 2) (h2 : ∀ x, x < e → ¬ (y_comp x = x3 ∧ y_deg x < 2)) (post : Int32 → SY → Prop)
    (hp : ∃ f, wY_placePath_64 post (nI V) y_nR y_count y_phase y_accN f x2 (nI e) 0 y_reg y_init y_sop y_sdest y_sa y_sb y_accV y_addr y_wt y_edge y_deg y_comp y_placed y_cOp y_cReg y_cOpd y_len y_loads y_kval y_kKnown y_mem y_outs y_outN y_ar) :
    ∀ d x fu, x + d = e → d < fu → wY_placePath_13 post x2 x3 x4 (nI V) y_nR y_count y_phase y_accN y_reg y_init y_sop y_sdest y_sa y_sb y_accV y_addr y_wt y_edge y_deg y_comp y_placed y_cOp y_cReg y_cOpd y_len y_loads y_kval y_kKnown y_mem y_outs y_outN y_ar fu (nI x) := by
  intro d
  induction d with
  | zero =>
    intro x fu hx hf
    obtain ⟨fu, rfl⟩ : ∃ f, fu = f + 1 := ⟨fu - 1, by omega⟩
    have e1 : x = e := by omega
    subst e1
    have ix : vp_in (nI x) 16 := vp_in_nI (by omega) (by omega)
    refine br_f (nI_ge (by omega) (by omega)) ⟨ix, ?_⟩
    rw [nI_clamp (show x < 2 ^ 31 by omega)]
    exact br_t h1.1 ⟨ix, br_f (Int32.not_le.mpr h1.2) hp⟩
  | succ d ih =>
    intro x fu hx hf
    obtain ⟨fu, rfl⟩ : ∃ f, fu = f + 1 := ⟨fu - 1, by omega⟩
    have nx := ih (x + 1) fu (by omega) (by omega)
    have hn := h2 x (by omega)
    have ix : vp_in (nI x) 16 := vp_in_nI (by omega) (by omega)
    refine br_f (nI_ge (by omega) (by omega)) ⟨ix, ?_⟩
    rw [nI_clamp (show x < 2 ^ 31 by omega)]
    by_cases c : y_comp x = x3
    · exact br_t c ⟨ix, br_t (Int32.not_lt.mp (fun z => hn ⟨c, z⟩)) (nm_r (nI_1 x) nx)⟩
    · exact br_f c (nm_r (nI_1 x) nx)
theorem ya_pp {V v : Nat} {f s c : Nat → Int32} {b : oa_B} (hV : V ≤ 16) (hv : v < V) (g : oa_G V f s c) (jr : oa_JR V f s c y_edge y_deg y_comp) (hb : oa_BI V f s b) (h0 : b.2.2.1 v = 0) (post : Int32 → SY → Prop) (b' : oa_B)
    (eb : oa_tr f s V (-1) (oa_sm s c (c v) V 0) b = b') (hp : post (nI b'.2.2.2) (nI V, y_nR, y_count, y_phase, y_accN, y_reg, y_init, y_sop, y_sdest, y_sa, y_sb, y_accV, b'.2.1, y_wt, y_edge, y_deg, y_comp, b'.2.2.1, y_cOp, y_cReg, y_cOpd, y_len, y_loads, y_kval, y_kKnown, y_mem, y_outs, y_outN, y_ar)) : wpY_placePath post (nI V, y_nR, y_count, y_phase, y_accN, y_reg, y_init, y_sop, y_sdest, y_sa, y_sb, y_accV, b.2.1, y_wt, y_edge, y_deg, y_comp, b.2.2.1, y_cOp, y_cReg, y_cOpd, y_len, y_loads, y_kval, y_kKnown, y_mem, y_outs, y_outN, y_ar) (nI v) (nI b.2.2.2) := by
  subst eb
  obtain ⟨e, he, ⟨hc, hs⟩, hl⟩ := oa_end g hv
  rw [oa_sm_e he ⟨hc, hs⟩ hl V 0 (by omega) (by omega)] at hp
  have t := oa_T_start g hv he hc hs h0 hb.2
  have h64 := ya_64 hV g jr.2.1 post V 0 (V + 1) (-1) (nI e) b (by omega) (by omega) t hb.1 (by omega) hp
  have cc : ∀ x, x < V → ((y_comp x = y_comp v ∧ y_deg x < 2) ↔ (c x = c v ∧ s x = -1)) := by
    intro x hx
    rw [jr.2.2 x hx, jr.2.2 v hv, oa_JR_deg g jr hx]
  refine ⟨vp_in_nI (by omega) (by omega), nm_r (show _ = y_comp v by rw [nI_clamp (by omega)]) ⟨e + 1, ?_⟩⟩
  exact ya_13 hV he ((cc e he).mpr ⟨hc, hs⟩) (fun x hx z => hl x hx ((cc x (by omega)).mp z)) post ⟨V + 1, h64⟩ e 0 (e + 1) (by omega) (by omega)
theorem ya_c278 {V nR : Nat} {f s c : Nat → Int32} (hV : V ≤ 16) (hV0 : 0 < V) (hR : nR ≤ 4) (g : oa_G V f s c) (jr : oa_JR V f s c y_edge y_deg y_comp) (post : Int32 → SY → Prop) (b b' : oa_B) (hb : oa_BI V f s b) (hN : b.2.2.2 = 0)
    (eb : oa_aw y_reg f s c V nR 0 b = b')
    (hp : wY_compile_278 post 1 (nI b'.2.2.2) (nI (nR * V)) (nI V) (nI nR) y_count y_phase y_accN y_reg y_init y_sop y_sdest y_sa y_sb y_accV b'.2.1 y_wt y_edge y_deg y_comp b'.2.2.1 y_cOp y_cReg y_cOpd y_len y_loads y_kval y_kKnown y_mem y_outs y_outN y_ar) : ∃ f, wY_compile_278 post f 0 0 (nI V) (nI nR) y_count y_phase y_accN y_reg y_init y_sop y_sdest y_sa y_sb y_accV b.2.1 y_wt y_edge y_deg y_comp b.2.2.1 y_cOp y_cReg y_cOpd y_len y_loads y_kval y_kKnown y_mem y_outs y_outN y_ar := by
  subst eb
  have h := oa_Y_aw (YW := fun n t b => wY_compile_278 post n (nI b.2.2.2) (nI t) (nI V) (nI nR) y_count y_phase y_accN y_reg y_init y_sop y_sdest y_sa y_sb y_accV b.2.1 y_wt y_edge y_deg y_comp b.2.2.1 y_cOp y_cReg y_cOpd y_len y_loads y_kval y_kKnown y_mem y_outs y_outN y_ar) (reg := y_reg) (nR := nR) hV g ?_ nR 0 1 b (by omega) hb hp
  · rw [Nat.zero_mul, hN] at h
    exact ⟨_, h⟩
  · intro r v n b hr hv hb h
    have hm : (r + 1) * V ≤ nR * V := Nat.mul_le_mul_right V (by omega)
    rw [Nat.succ_mul] at hm
    have hmm : nR * V ≤ 4 * 16 := Nat.mul_le_mul hR hV
    have iv : vp_in (nI v) 16 := vp_in_nI (by omega) (by omega)
    have cv : (nI v).toNatClampNeg = v := nI_clamp (by omega)
    have dv : (r * V + v) / V = r := by rw [Nat.mul_comm, Nat.mul_add_div hV0, Nat.div_eq_of_lt hv, Nat.add_zero]
    have dm : (r * V + v) % V = v := by rw [Nat.mul_comm, Nat.mul_add_mod, Nat.mod_eq_of_lt hv]
    have d1 : nI (r * V + v) / nI V = nI r := by rw [pk_div (by omega) hV0 (by omega), dv]
    have d2 : nI (r * V + v) - nI (r * V + v) / nI V * nI V = nI v := by rw [pk_rem (by omega) hV0 (by omega), dm]
    have nV : ¬ nI V = 0 := nI_ne0 hV0 (by omega)
    have n1 := nI_1 (r * V + v)
    have un := oa_BI_un hV hb hv
    refine br_f (by rw [pk_mul]; exact nI_ge (by omega) (by omega)) ⟨nV, nm_r d1 ⟨nV, nm_r d2 ⟨iv, ?_⟩⟩⟩
    rw [cv]
    by_cases c1 : y_reg v = nI r
    · refine br_t c1 ⟨iv, ?_⟩
      by_cases c2 : b.2.2.1 v = 0
      · rw [show oa_a1 y_reg f s c V (nI r) v b = _ from if_pos ⟨c1, un.mpr c2⟩] at h
        exact br_t c2 (ya_pp hV hv g jr hb c2 _ _ rfl (nm_r n1 h))
      · rw [show oa_a1 y_reg f s c V (nI r) v b = b from if_neg (fun z => c2 (un.mp z.2))] at h
        exact br_f c2 (nm_r n1 h)
    · rw [show oa_a1 y_reg f s c V (nI r) v b = b from if_neg (fun z => c1 z.1)] at h
      exact br_f c1 (nm_r n1 h)
end
end
section
/-! Y: code -/
theorem oa_nx_cg {R a a' : Nat → Int32} {n : Nat} {r : Int32} (h : ∀ j, j < n → a' j = a j) : ∀ d i, i + d ≤ n → oa_nx R a' r d i = oa_nx R a r d i := by
  intro d
  induction d with
  | zero => intro i _; rfl
  | succ d ih => intro i hi; rw [oa_nx, oa_nx, h i (by omega), ih (i + 1) (by omega)]
theorem oa_fo_cg {R a a' : Nat → Int32} {n j : Nat} (h : ∀ j, j < n → a' j = a j) (hj : j < n) : oa_fo R a' n j = oa_fo R a n j := by
  unfold oa_fo
  rw [h j hj]
  exact oa_nx_cg h _ _ (by omega)
theorem oa_ac_cg {V nR n w j : Nat} {reg acc acc' ad ad' : Nat → Int32} {o : Int32} {k : oa_K} (e : oa_env V nR n reg acc ad) (h : ∀ j, j < n → acc' j = acc j) (ha : ∀ v, v < V → ad' v = ad v) (hj : j < n) :
    oa_ac reg acc' ad' n w o j k = oa_ac reg acc ad n w o j k := by
  have e1 := h j hj
  obtain ⟨v, r, a, hv, _, _, _, cv, _, _, _, _⟩ := oa_env_j (w := 0) e hj
  have e2 : ad' (acc j).toNatClampNeg = ad (acc j).toNatClampNeg := ha _ (by omega)
  have ep : oa_pa acc' ad' w j = oa_pa acc ad w j := by unfold oa_pa; rw [e1, e2]
  have em : oa_ms reg acc' ad' n w j = oa_ms reg acc ad n w j := by
    unfold oa_ms oa_sp
    rw [oa_fo_cg h hj, e1, e2]
    by_cases hf : oa_fo reg acc n j < n
    · obtain ⟨v', r', a', hv', _, _, _, cv', _, _, _, _⟩ := oa_env_j (w := 0) e hf
      rw [h _ hf, ha (acc (oa_fo reg acc n j)).toNatClampNeg (by omega)]
    · rw [if_neg hf, if_neg hf]
  unfold oa_ac oa_ld
  rw [ep, em, e1]
theorem oa_tt_cg {V nR n w p : Nat} {reg acc acc' ad ad' : Nat → Int32} {o d a b : Int32} {k : oa_K} (e : oa_env V nR n reg acc ad) (h : ∀ j, j < n → acc' j = acc j) (ha : ∀ v, v < V → ad' v = ad v) (st : oa_ST V o d a b acc p) (hn : p + oa_na o ≤ n) :
    oa_tt reg acc' ad' n w o a p k = oa_tt reg acc ad n w o a p k := by
  unfold oa_tt
  rcases st with ⟨z, hz, rfl, -⟩ | ⟨rfl, -⟩ | ⟨rfl, -⟩ | ⟨rfl, -⟩
  · rw [oa_na5 hz] at hn
    have c : nI z ≤ 5 := nI_le (b := 5) hz (by decide)
    rw [if_pos c, if_pos c, oa_ac_cg e h ha (show p < n by omega), oa_ac_cg e h ha (show p + 1 < n by omega), oa_ac_cg e h ha (show p + 2 < n by omega)]
  · rw [oa_na6] at hn
    rw [if_neg (by decide), if_pos rfl, if_neg (by decide), if_pos rfl, oa_ac_cg e h ha (show p < n by omega), oa_ac_cg e h ha (show p + 1 < n by omega)]
  · rw [oa_na7] at hn
    rw [if_neg (by decide), if_neg (by decide), if_pos rfl, if_neg (by decide), if_neg (by decide), if_pos rfl, oa_ac_cg e h ha (show p < n by omega)]
  · rw [oa_na8] at hn
    rw [if_neg (by decide), if_neg (by decide), if_neg (by decide), if_neg (by decide), if_neg (by decide), if_neg (by decide), oa_ac_cg e h ha (show p < n by omega)]
theorem oa_tb_cg {V nR w cnt : Nat} {reg acc acc' ad ad' sop sd sa sb : Nat → Int32} {k : oa_K} (e : oa_env V nR (oa_ps sop cnt) reg acc ad) (h : ∀ j, j < oa_ps sop cnt → acc' j = acc j) (ha : ∀ v, v < V → ad' v = ad v) (ss : oa_SS V cnt sop sd sa sb acc) :
    ∀ i, i ≤ cnt → oa_tb reg acc' ad' sop sa (oa_ps sop cnt) w i k = oa_tb reg acc ad sop sa (oa_ps sop cnt) w i k := by
  intro i
  induction i with
  | zero => intro _; rfl
  | succ i ih =>
    intro hi
    rw [oa_tb, oa_tb, ih (by omega)]
    exact oa_tt_cg e h ha (ss i (by omega)) (oa_ps_mono sop cnt (i + 1) hi)
/-- Y's marks are wiped -/
def oa_kz (k : oa_K) : oa_K := (k.1, k.2.1, k.2.2.1, k.2.2.2.1, k.2.2.2.2.1, k.2.2.2.2.2.1, k.2.2.2.2.2.2.1, oa_fill k.2.2.2.2.2.2.2 (fun _ => 0) 4)
theorem oa_kz_0 {nR : Nat} (hR : nR ≤ 4) (k : oa_K) : ∀ r, r < nR → (oa_kz k).2.2.2.2.2.2.2 r = 0 := fun r hr => (oa_fill_lt (by omega) : oa_fill k.2.2.2.2.2.2.2 (fun _ => 0) 4 r = 0)
section
variable {y_nV y_nR y_count y_phase y_accN : Int32} {y_reg y_init y_sop y_sdest y_sa y_sb y_accV y_addr y_wt y_edge y_deg y_comp y_placed y_cOp y_cReg y_cOpd y_len y_loads y_kval y_kKnown y_mem y_outs y_outN y_ar : Nat → Int32}
theorem ya_em {w L : Nat} {o r x : Int32} {k : oa_K} (hw : w < 2) (hL : k.2.2.2.1 w = nI L) (hL2 : L < 192) (post : SY → Prop) (hp : post (y_nV, y_nR, y_count, y_phase, y_accN, y_reg, y_init, y_sop, y_sdest, y_sa, y_sb, y_accV, y_addr, y_wt, y_edge, y_deg, y_comp, y_placed, ((oa_em w o r x k).1), ((oa_em w o r x k).2.1), ((oa_em w o r x k).2.2.1), ((oa_em w o r x k).2.2.2.1), ((oa_em w o r x k).2.2.2.2.1), ((oa_em w o r x k).2.2.2.2.2.2.1), ((oa_em w o r x k).2.2.2.2.2.2.2), y_mem, y_outs, y_outN, y_ar)) : wpY_emit post (y_nV, y_nR, y_count, y_phase, y_accN, y_reg, y_init, y_sop, y_sdest, y_sa, y_sb, y_accV, y_addr, y_wt, y_edge, y_deg, y_comp, y_placed, k.1, k.2.1, k.2.2.1, k.2.2.2.1, k.2.2.2.2.1, k.2.2.2.2.2.2.1, k.2.2.2.2.2.2.2, y_mem, y_outs, y_outN, y_ar) (nI w) o r x := by
  have iw : vp_in (nI w) 2 := vp_in_nI hw (by omega)
  have ii : vp_in (nI (192 * w + L)) 384 := vp_in_nI (by omega) (by omega)
  have eL : (k.2.2.2.1 w).toNatClampNeg = L := by rw [hL]; exact nI_clamp (by omega)
  have ci : (nI (192 * w + L)).toNatClampNeg = 192 * w + L := nI_clamp (by omega)
  have e1 : nI w * 192 + k.2.2.2.1 w = nI (192 * w + L) := by rw [hL, oa_ix192]
  have nl : ¬ (192 : Int32) ≤ k.2.2.2.1 w := by rw [hL]; exact nI_ge (b := 192) hL2 (by decide)
  dsimp only [oa_em] at hp
  rw [eL] at hp
  unfold wpY_emit
  dsimp only
  rw [nI_clamp (show w < 2 ^ 31 by omega)]
  refine ⟨iw, br_f nl ⟨iw, nm_r e1 ⟨ii, nm_r (by rw [ci]) ⟨ii, nm_r (by rw [ci]) ⟨ii, nm_r (by rw [ci]) ⟨iw, iw, nm_e ?_⟩⟩⟩⟩⟩⟩
  by_cases c : o = 0
  · rw [if_pos c] at hp
    exact br_t c ⟨iw, iw, nm_e hp⟩
  · rw [if_neg c] at hp
    exact br_f c hp
theorem ya_175 {L r : Nat} {o p m : Int32} {k : oa_K} {KV : Nat → Int32} (hr : r < 4) (hL : k.2.2.2.1 1 = nI L) (hL2 : L < 192) (hK : upd k.2.2.2.2.2.2.1 r (p + m) = KV) (post : SY → Prop) (hp : post (y_nV, y_nR, y_count, y_phase, y_accN, y_reg, y_init, y_sop, y_sdest, y_sa, y_sb, y_accV, y_addr, y_wt, y_edge, y_deg, y_comp, y_placed, ((oa_em 1 o (nI r) m k).1), ((oa_em 1 o (nI r) m k).2.1), ((oa_em 1 o (nI r) m k).2.2.1), ((oa_em 1 o (nI r) m k).2.2.2.1), ((oa_em 1 o (nI r) m k).2.2.2.2.1), KV, ((oa_em 1 o (nI r) m k).2.2.2.2.2.2.2), y_mem, y_outs, y_outN, y_ar)) :
    wY_access_175 post o (nI r) p m y_nV y_nR y_count y_phase y_accN y_reg y_init y_sop y_sdest y_sa y_sb y_accV y_addr y_wt y_edge y_deg y_comp y_placed k.1 k.2.1 k.2.2.1 k.2.2.2.1 k.2.2.2.2.1 k.2.2.2.2.2.2.1 k.2.2.2.2.2.2.2 y_mem y_outs y_outN y_ar := by
  unfold wY_access_175
  exact ya_em (w := 1) (by omega) hL hL2 _ ⟨vp_in_nI hr (by omega), nm_r (by rw [nI_clamp (show r < 2 ^ 31 by omega)]; exact hK) hp⟩
theorem ya_107 {n r : Nat} {o p : Int32} (hn : n ≤ 96) (ha : ∀ i, i < n → ∃ k, k < 16 ∧ y_accV i = nI k) (post : SY → Prop) :
    ∀ d i fu, i + d = n → d < fu →
      wY_access_175 post o (nI r) p (if oa_nx y_reg y_accV (nI r) d i < n then (if -1 ≤ y_addr (y_accV (oa_nx y_reg y_accV (nI r) d i)).toNatClampNeg - p ∧ y_addr (y_accV (oa_nx y_reg y_accV (nI r) d i)).toNatClampNeg - p ≤ 1 then y_addr (y_accV (oa_nx y_reg y_accV (nI r) d i)).toNatClampNeg - p else 0) else 0) y_nV y_nR y_count y_phase (nI n) y_reg y_init y_sop y_sdest y_sa y_sb y_accV y_addr y_wt y_edge y_deg y_comp y_placed y_cOp y_cReg y_cOpd y_len y_loads y_kval y_kKnown y_mem y_outs y_outN y_ar →
      wY_access_107 post o (nI r) p 0 y_nV y_nR y_count y_phase (nI n) y_reg y_init y_sop y_sdest y_sa y_sb y_accV y_addr y_wt y_edge y_deg y_comp y_placed y_cOp y_cReg y_cOpd y_len y_loads y_kval y_kKnown y_mem y_outs y_outN y_ar fu (nI i) := by
  intro d
  induction d with
  | zero =>
    intro i fu hi hf hp
    obtain ⟨fu, rfl⟩ : ∃ f, fu = f + 1 := ⟨fu - 1, by omega⟩
    rw [oa_nx, if_neg (by omega)] at hp
    exact br_t (nI_le (by omega) (by omega)) hp
  | succ d ih =>
    intro i fu hi hf hp
    obtain ⟨fu, rfl⟩ : ∃ f, fu = f + 1 := ⟨fu - 1, by omega⟩
    obtain ⟨k, hk, ek⟩ := ha i (by omega)
    have vi : vp_in (nI i) 96 := vp_in_nI (by omega) (by omega)
    have va : vp_in (y_accV i) 16 := by rw [ek]; exact vp_in_nI hk (by omega)
    refine br_f (nI_ge (by omega) (by omega)) ?_
    rw [nI_clamp (show i < 2 ^ 31 by omega)]
    refine ⟨vi, va, ?_⟩
    rw [oa_nx] at hp
    by_cases c : y_reg (y_accV i).toNatClampNeg = nI r
    · rw [if_pos c, if_pos (show i < n by omega)] at hp
      refine br_t c ⟨vi, va, nm_e ?_⟩
      generalize y_addr (y_accV i).toNatClampNeg - p = D at hp ⊢
      by_cases c1 : D < -1
      · rw [if_neg (fun z => Int32.not_lt.mpr z.1 c1)] at hp
        exact br_t c1 hp
      · refine br_f c1 ?_
        by_cases c2 : 1 < D
        · rw [if_neg (fun z => Int32.not_lt.mpr z.2 c2)] at hp
          exact br_t c2 hp
        · rw [if_pos ⟨Int32.not_lt.mp c1, Int32.not_lt.mp c2⟩] at hp
          exact br_f c2 hp
    · rw [if_neg c] at hp
      exact br_f c (nm_r (nI_1 i) (ih (i + 1) fu (by omega) (by omega) hp))
theorem ya_ac {V nR n w L j : Nat} {o x : Int32} {k : oa_K} (e : oa_env V nR n y_reg y_accV y_addr) (hj : j < n) (hx : x = nI j) (hw : w < 2) (hL : k.2.2.2.1 w = nI L) (hL2 : L + 2 ≤ 192) (kr : oa_KR nR w k)
    (post : SY → Prop) (hp : post (y_nV, y_nR, y_count, y_phase, nI n, y_reg, y_init, y_sop, y_sdest, y_sa, y_sb, y_accV, y_addr, y_wt, y_edge, y_deg, y_comp, y_placed, ((oa_ac y_reg y_accV y_addr n w o j k).1), ((oa_ac y_reg y_accV y_addr n w o j k).2.1), ((oa_ac y_reg y_accV y_addr n w o j k).2.2.1), ((oa_ac y_reg y_accV y_addr n w o j k).2.2.2.1), ((oa_ac y_reg y_accV y_addr n w o j k).2.2.2.2.1), ((oa_ac y_reg y_accV y_addr n w o j k).2.2.2.2.2.2.1), ((oa_ac y_reg y_accV y_addr n w o j k).2.2.2.2.2.2.2), y_mem, y_outs, y_outN, y_ar)) : wpY_access post (y_nV, y_nR, y_count, y_phase, nI n, y_reg, y_init, y_sop, y_sdest, y_sa, y_sb, y_accV, y_addr, y_wt, y_edge, y_deg, y_comp, y_placed, k.1, k.2.1, k.2.2.1, k.2.2.2.1, k.2.2.2.2.1, k.2.2.2.2.2.2.1, k.2.2.2.2.2.2.2, y_mem, y_outs, y_outN, y_ar) (nI w) x o := by
  subst hx
  obtain ⟨v, r, a, hv, hr, haV, e1, e2, e3, e4, e5, e6⟩ := oa_env_j (w := w) e hj
  have hV := e.1
  have hR := e.2.1
  have hn := e.2.2.1
  have ha : ∀ i, i < n → ∃ k, k < 16 ∧ y_accV i = nI k := by
    intro i hi
    obtain ⟨k, hk, ek⟩ := e.2.2.2.2.1 i hi
    exact ⟨k, by omega, ek⟩
  have cj : (nI j).toNatClampNeg = j := nI_clamp (by omega)
  have cv : (nI v).toNatClampNeg = v := nI_clamp (by omega)
  have cr : (nI r).toNatClampNeg = r := nI_clamp (by omega)
  have ir : vp_in (nI r) 4 := vp_in_nI (by omega) (by omega)
  have iv : vp_in (nI v) 16 := vp_in_nI (by omega) (by omega)
  have er : y_reg v = nI r := by rw [← e2]; exact e3
  unfold oa_ac oa_ld at hp
  rw [e4, e3] at hp
  refine ⟨vp_in_nI (by omega) (by omega), nm_r (show _ = nI v by rw [cj, e1]) ⟨iv, nm_r (show _ = nI r by rw [cv, er]) ?_⟩⟩
  have w01 : w = 0 ∨ w = 1 := by omega
  rcases w01 with rfl | rfl
  · rw [if_pos (Or.inl rfl), show oa_pa y_accV y_addr 0 j = nI v from e1, show oa_ms y_reg y_accV y_addr n 0 j = 0 from rfl] at hp
    refine br_t rfl (ya_em (w := 0) (by omega) hL (by omega) _ (ya_em (w := 0) (L := L + 1) (by omega) ?_ (by omega) _ hp))
    show upd k.2.2.2.1 0 (k.2.2.2.1 0 + 1) 0 = _
    rw [pk_us, hL, nI_1]
  · have ep : oa_pa y_accV y_addr 1 j = y_addr v := by unfold oa_pa; rw [if_neg (by omega), e2]
    have em : oa_ms y_reg y_accV y_addr n 1 j = oa_sp y_reg y_accV y_addr n j := if_neg (by omega)
    rw [ep, em] at hp
    rw [ep] at e6
    have kr' := (kr.resolve_left (by omega)) r hr
    have hsp : oa_sp y_reg y_accV y_addr n j = (if oa_nx y_reg y_accV (nI r) (n - (j + 1)) (j + 1) < n then (if -1 ≤ y_addr (y_accV (oa_nx y_reg y_accV (nI r) (n - (j + 1)) (j + 1))).toNatClampNeg - y_addr v ∧ y_addr (y_accV (oa_nx y_reg y_accV (nI r) (n - (j + 1)) (j + 1))).toNatClampNeg - y_addr v ≤ 1 then y_addr (y_accV (oa_nx y_reg y_accV (nI r) (n - (j + 1)) (j + 1))).toNatClampNeg - y_addr v else 0) else 0) := by
      unfold oa_sp oa_fo
      rw [e3, e2]
    refine br_f (by decide) ⟨iv, nm_r (show _ = y_addr v by rw [cv]) ⟨ir, ?_⟩⟩
    rw [cr]
    by_cases c : (1 : Nat) = 0 ∨ k.2.2.2.2.2.1 r ≠ y_addr v
    · have c' : k.2.2.2.2.2.1 r ≠ y_addr v := c.resolve_left (by omega)
      rw [if_pos c] at hp
      have h72 : wY_access_72 post (nI j) o (nI r) (y_addr v) y_nV y_nR y_count y_phase (nI n) y_reg y_init y_sop y_sdest y_sa y_sb y_accV y_addr y_wt y_edge y_deg y_comp y_placed k.1 k.2.1 k.2.2.1 k.2.2.2.1 k.2.2.2.2.1 k.2.2.2.2.2.2.1 k.2.2.2.2.2.2.2 y_mem y_outs y_outN y_ar := by
        unfold wY_access_72
        refine ya_em (w := 1) (by omega) hL (by omega) _ ⟨ir, nm_r (show _ = upd k.2.2.2.2.2.2.2 r 1 by rw [cr]; rfl) ⟨ir, nm_r (show _ = upd k.2.2.2.2.2.2.1 r (y_addr v) by rw [cr]; rfl) (nm_r (nI_1 j) ⟨n + 1, ya_107 hn ha post (n - (j + 1)) (j + 1) (n + 1) (by omega) (by omega) ?_⟩)⟩⟩
        rw [← hsp]
        refine ya_175 (L := L + 1) (k := ((oa_em 1 0 (nI r) (y_addr v) k).1, (oa_em 1 0 (nI r) (y_addr v) k).2.1, (oa_em 1 0 (nI r) (y_addr v) k).2.2.1, (oa_em 1 0 (nI r) (y_addr v) k).2.2.2.1, (oa_em 1 0 (nI r) (y_addr v) k).2.2.2.2.1, k.2.2.2.2.2.1, upd k.2.2.2.2.2.2.1 r (y_addr v), upd k.2.2.2.2.2.2.2 r 1)) (show r < 4 by omega) ?_ (by omega) oa_uu post hp
        show upd k.2.2.2.1 1 (k.2.2.2.1 1 + 1) 1 = _
        rw [pk_us, hL, nI_1]
      by_cases kk : k.2.2.2.2.2.2.2 r = 0
      · exact br_t kk h72
      · refine br_f kk ⟨ir, br_f (fun z => c' ?_) h72⟩
        rw [kr'.2 kk]; exact z
    · have cp : k.2.2.2.2.2.1 r = y_addr v := by
        by_cases z : k.2.2.2.2.2.1 r = y_addr v
        · exact z
        · exact absurd (Or.inr z) c
      rw [if_neg c] at hp
      have kk : ¬ k.2.2.2.2.2.2.2 r = 0 := fun z => e6 (by rw [← cp]; exact kr'.1 z)
      refine br_f kk ⟨ir, br_t (by rw [← kr'.2 kk]; exact cp) (nm_r (nI_1 j) ⟨n + 1, ya_107 hn ha post (n - (j + 1)) (j + 1) (n + 1) (by omega) (by omega) ?_⟩)⟩
      rw [← hsp]
      exact ya_175 (show r < 4 by omega) hL (by omega) rfl post hp
theorem ya_gn_l {V nR w cnt : Nat} {k0 k : oa_K} (hw : w < 2) (hR : 0 < nR) (hc : cnt ≤ 32) (ss : oa_SS V cnt y_sop y_sdest y_sa y_sb y_accV) (e : oa_env V nR (oa_ps y_sop cnt) y_reg y_accV y_addr) (h : oa_KI nR w 0 0 k0 k) (post : SY → Prop)
    (hp : post (y_nV, y_nR, nI cnt, y_phase, (nI (oa_ps y_sop cnt)), y_reg, y_init, y_sop, y_sdest, y_sa, y_sb, y_accV, y_addr, y_wt, y_edge, y_deg, y_comp, y_placed, ((oa_tb y_reg y_accV y_addr y_sop y_sa (oa_ps y_sop cnt) w cnt k).1), ((oa_tb y_reg y_accV y_addr y_sop y_sa (oa_ps y_sop cnt) w cnt k).2.1), ((oa_tb y_reg y_accV y_addr y_sop y_sa (oa_ps y_sop cnt) w cnt k).2.2.1), ((oa_tb y_reg y_accV y_addr y_sop y_sa (oa_ps y_sop cnt) w cnt k).2.2.2.1), ((oa_tb y_reg y_accV y_addr y_sop y_sa (oa_ps y_sop cnt) w cnt k).2.2.2.2.1), ((oa_tb y_reg y_accV y_addr y_sop y_sa (oa_ps y_sop cnt) w cnt k).2.2.2.2.2.2.1), ((oa_tb y_reg y_accV y_addr y_sop y_sa (oa_ps y_sop cnt) w cnt k).2.2.2.2.2.2.2), y_mem, y_outs, y_outN, y_ar)) :
    ∀ d i fu, i + d = cnt → d < fu → wY_gen_38 post (nI w) fu (nI (oa_ps y_sop i)) (nI i) y_nV y_nR (nI cnt) y_phase (nI (oa_ps y_sop cnt)) y_reg y_init y_sop y_sdest y_sa y_sb y_accV y_addr y_wt y_edge y_deg y_comp y_placed ((oa_tb y_reg y_accV y_addr y_sop y_sa (oa_ps y_sop cnt) w i k).1) ((oa_tb y_reg y_accV y_addr y_sop y_sa (oa_ps y_sop cnt) w i k).2.1) ((oa_tb y_reg y_accV y_addr y_sop y_sa (oa_ps y_sop cnt) w i k).2.2.1) ((oa_tb y_reg y_accV y_addr y_sop y_sa (oa_ps y_sop cnt) w i k).2.2.2.1) ((oa_tb y_reg y_accV y_addr y_sop y_sa (oa_ps y_sop cnt) w i k).2.2.2.2.1) ((oa_tb y_reg y_accV y_addr y_sop y_sa (oa_ps y_sop cnt) w i k).2.2.2.2.2.2.1) ((oa_tb y_reg y_accV y_addr y_sop y_sa (oa_ps y_sop cnt) w i k).2.2.2.2.2.2.2) y_mem y_outs y_outN y_ar := by
  intro d
  induction d with
  | zero =>
    intro i fu hi hf
    obtain ⟨fu, rfl⟩ : ∃ f, fu = f + 1 := ⟨fu - 1, by omega⟩
    have ei : i = cnt := by omega
    subst ei
    exact br_t (nI_le (by omega) (by omega)) hp
  | succ d ih =>
    intro i fu hi hf
    obtain ⟨fu, rfl⟩ : ∃ f, fu = f + 1 := ⟨fu - 1, by omega⟩
    obtain ⟨L, hL, hk⟩ := oa_tb_I hR hc ss e h i (by omega)
    have hn : oa_ps y_sop i + oa_na (y_sop i) ≤ oa_ps y_sop cnt := oa_ps_mono y_sop cnt (i + 1) (by omega)
    have nx := ih (i + 1) fu (by omega) (by omega)
    have st := ss i (by omega)
    have vi : vp_in (nI i) 32 := vp_in_nI (by omega) (by omega)
    have ci : (nI i).toNatClampNeg = i := nI_clamp (by omega)
    rw [show oa_ps y_sop (i + 1) = oa_ps y_sop i + oa_na (y_sop i) from rfl, oa_tb, oa_tt] at nx
    revert nx hk
    generalize oa_tb y_reg y_accV y_addr y_sop y_sa (oa_ps y_sop cnt) w i k = K
    revert st hn
    generalize oa_ps y_sop i = p
    intro hn st hk nx
    refine br_f (nI_ge (by omega) (by omega)) ⟨vi, ?_⟩
    rw [ci]
    rcases st with ⟨z, hz, eo, -⟩ | ⟨eo, -⟩ | ⟨eo, -⟩ | ⟨eo, -⟩
    · rw [eo, oa_na5 hz] at hn
      rw [eo, oa_na5 hz, if_pos (show nI z ≤ 5 from nI_le (b := 5) hz (by decide))] at nx
      obtain ⟨L1, l1, h1⟩ := oa_ac_I (o := 1) e (show p < _ by omega) hk (by omega) (by omega)
      obtain ⟨L2, l2, h2⟩ := oa_ac_I (o := 2 + z) e (show p + 1 < _ by omega) h1 (by omega) (by omega)
      rw [← nI_add 2 z] at h2
      exact nm_r eo (br_f (nI_nlt (a := 5) (by omega) (by decide)) (ya_ac e (show p < _ by omega) rfl hw hk.1.1.1 (by omega) hk.2 _
        (ya_ac e (show p + 1 < _ by omega) (nI_1 p) hw h1.1.1.1 (by omega) h1.2 _
          (ya_ac e (show p + 2 < _ by omega) (nI_add p 2) hw h2.1.1.1 (by omega) h2.2 _ (nm_r (nI_add p 3) (nm_r (nI_1 i) nx))))))
    · rw [eo, oa_na6] at hn
      rw [eo, oa_na6, if_neg (by decide), if_pos rfl] at nx
      obtain ⟨L1, l1, h1⟩ := oa_ac_I (o := 1) e (show p < _ by omega) hk (by omega) (by omega)
      exact nm_r eo (br_t (by decide) (br_t rfl (ya_ac e (show p < _ by omega) rfl hw hk.1.1.1 (by omega) hk.2 _
        (ya_ac e (show p + 1 < _ by omega) (nI_1 p) hw h1.1.1.1 (by omega) h1.2 _ (nm_r (nI_add p 2) (nm_r (nI_1 i) nx))))))
    · rw [eo, oa_na7] at hn
      rw [eo, oa_na7, if_neg (by decide), if_neg (by decide), if_pos rfl] at nx
      have h1 := oa_em_I (x := y_sa i) (o := 9) (r := 0) hk (by omega) (by omega) hR
      exact nm_r eo (br_t (by decide) (br_f (by decide) (br_t rfl ⟨vi, ya_em hw hk.1.1.1 (by omega) _
        (ya_ac e (show p < _ by omega) rfl hw h1.1.1.1 (by omega) h1.2 _ (nm_r (nI_1 p) (nm_r (nI_1 i) nx)))⟩)))
    · rw [eo, oa_na8] at hn
      rw [eo, oa_na8, if_neg (by decide), if_neg (by decide), if_neg (by decide)] at nx
      obtain ⟨L1, l1, h1⟩ := oa_ac_I (o := 1) e (show p < _ by omega) hk (by omega) (by omega)
      exact nm_r eo (br_t (by decide) (br_f (by decide) (br_f (by decide) (ya_ac e (show p < _ by omega) rfl hw hk.1.1.1 (by omega) hk.2 _
        (ya_em hw h1.1.1.1 (by omega) _ (nm_r (nI_1 p) (nm_r (nI_1 i) nx)))))))
theorem ya_gk_l {w : Nat} (post : SY → Prop) (hp : ∃ f, wY_gen_38 post (nI w) f 0 0 y_nV y_nR y_count y_phase y_accN y_reg y_init y_sop y_sdest y_sa y_sb y_accV y_addr y_wt y_edge y_deg y_comp y_placed y_cOp y_cReg y_cOpd y_len y_loads y_kval (oa_fill y_kKnown (fun _ => 0) 4) y_mem y_outs y_outN y_ar) :
    ∀ d i fu, i + d = 4 → d < fu → wY_gen_16 post (nI w) y_nV y_nR y_count y_phase y_accN fu (nI i) y_reg y_init y_sop y_sdest y_sa y_sb y_accV y_addr y_wt y_edge y_deg y_comp y_placed y_cOp y_cReg y_cOpd y_len y_loads y_kval (oa_fill y_kKnown (fun _ => 0) i) y_mem y_outs y_outN y_ar := by
  intro d
  induction d with
  | zero =>
    intro i fu hi hf
    obtain ⟨fu, rfl⟩ : ∃ f, fu = f + 1 := ⟨fu - 1, by omega⟩
    have e : i = 4 := by omega
    subst e
    exact br_t (by decide) hp
  | succ d ih =>
    intro i fu hi hf
    obtain ⟨fu, rfl⟩ : ∃ f, fu = f + 1 := ⟨fu - 1, by omega⟩
    have vi : vp_in (nI i) 4 := vp_in_nI (by omega) (by omega)
    refine br_f (nI_ge (b := 4) (by omega) (by decide)) ⟨vi, nm_r ?_ (nm_r (nI_1 i) (ih (i + 1) fu (by omega) (by omega)))⟩
    rw [nI_clamp (show i < 2 ^ 31 by omega)]
    exact oa_fill_s rfl
theorem ya_gn {V nR w cnt : Nat} {k K : oa_K} (hw : w < 2) (hR : 0 < nR) (hR4 : nR ≤ 4) (hc : cnt ≤ 32) (ss : oa_SS V cnt y_sop y_sdest y_sa y_sb y_accV) (e : oa_env V nR (oa_ps y_sop cnt) y_reg y_accV y_addr) (post : SY → Prop)
    (eK : oa_tb y_reg y_accV y_addr y_sop y_sa (oa_ps y_sop cnt) w cnt (oa_k0 nR w k (oa_kz k)) = K)
    (hp : post (y_nV, y_nR, nI cnt, y_phase, (nI (oa_ps y_sop cnt)), y_reg, y_init, y_sop, y_sdest, y_sa, y_sb, y_accV, y_addr, y_wt, y_edge, y_deg, y_comp, y_placed, K.1, K.2.1, K.2.2.1, K.2.2.2.1, K.2.2.2.2.1, K.2.2.2.2.2.2.1, K.2.2.2.2.2.2.2, y_mem, y_outs, y_outN, y_ar)) : wpY_gen post (y_nV, y_nR, nI cnt, y_phase, (nI (oa_ps y_sop cnt)), y_reg, y_init, y_sop, y_sdest, y_sa, y_sb, y_accV, y_addr, y_wt, y_edge, y_deg, y_comp, y_placed, k.1, k.2.1, k.2.2.1, k.2.2.2.1, k.2.2.2.2.1, k.2.2.2.2.2.2.1, k.2.2.2.2.2.2.2, y_mem, y_outs, y_outN, y_ar) (nI w) := by
  subst eK
  have iw : vp_in (nI w) 2 := vp_in_nI hw (by omega)
  have cw : (nI w).toNatClampNeg = w := nI_clamp (by omega)
  have h := ya_gk_l (w := w) (y_kKnown := k.2.2.2.2.2.2.2) (y_kval := k.2.2.2.2.2.2.1) (y_cOp := k.1) (y_cReg := k.2.1) (y_cOpd := k.2.2.1) (y_len := upd k.2.2.2.1 w 0) (y_loads := upd k.2.2.2.2.1 w 0) (y_count := nI cnt) (y_accN := nI (oa_ps y_sop cnt)) post
    ⟨cnt + 1, ya_gn_l hw hR hc ss e (oa_k0_I (k := k) (oa_kz_0 hR4 k)) post hp cnt 0 (cnt + 1) (by omega) (by omega)⟩ 4 0 5 (by omega) (by omega)
  rw [oa_fill_0] at h
  exact ⟨iw, nm_r (by rw [cw]) ⟨iw, nm_r (by rw [cw]) ⟨5, h⟩⟩⟩
end
end
section
/-! Y: the machine -/
abbrev oa_JY2 : Type := Int32 → Int32 → (Nat → Int32) → (Nat → Int32) → (Nat → Int32) → (Nat → Int32) → (Nat → Int32) → (Nat → Int32) → (Nat → Int32) → (Nat → Int32) → (Nat → Int32) → (Nat → Int32) → (Nat → Int32) → (Nat → Int32) → (Nat → Int32) → (Nat → Int32) → (Nat → Int32) → (Nat → Int32) → (Nat → Int32) → (Nat → Int32) → (Nat → Int32) → (Nat → Int32) → (Nat → Int32) → (Nat → Int32) → (Nat → Int32) → (Nat → Int32) → Prop
section
variable {y_nV y_nR y_count y_phase y_accN : Int32} {y_reg y_init y_sop y_sdest y_sa y_sb y_accV y_addr y_wt y_edge y_deg y_comp y_placed y_cOp y_cReg y_cOpd y_len y_loads y_kval y_kKnown y_mem y_outs y_outN y_ar : Nat → Int32}
theorem ya_ap {o : Nat} {l r : Int32} (h2 : 2 ≤ o) (h7 : o ≤ 7) (post : Int32 → Prop) (hp : post (oa_cb (nI o) l r)) : wpY_apply post (y_nV, y_nR, y_count, y_phase, y_accN, y_reg, y_init, y_sop, y_sdest, y_sa, y_sb, y_accV, y_addr, y_wt, y_edge, y_deg, y_comp, y_placed, y_cOp, y_cReg, y_cOpd, y_len, y_loads, y_kval, y_kKnown, y_mem, y_outs, y_outN, y_ar) (nI o - 2) l r := by
  have c : o = 2 ∨ o = 3 ∨ o = 4 ∨ o = 5 ∨ o = 6 ∨ o = 7 := by omega
  unfold oa_cb at hp
  rcases c with rfl | rfl | rfl | rfl | rfl | rfl
  · rw [if_pos (by decide)] at hp
    exact br_t (by decide) hp
  · rw [if_neg (by decide), if_pos (by decide)] at hp
    exact br_f (by decide) (br_t (by decide) hp)
  · rw [if_neg (by decide), if_neg (by decide), if_pos (by decide)] at hp
    exact br_f (by decide) (br_f (by decide) (br_t (by decide) hp))
  · rw [if_neg (by decide), if_neg (by decide), if_neg (by decide), if_pos (by decide)] at hp
    exact br_f (by decide) (br_f (by decide) (br_f (by decide) (br_t (by decide) hp)))
  · rw [if_neg (by decide), if_neg (by decide), if_neg (by decide), if_neg (by decide), if_pos (by decide)] at hp
    exact br_f (by decide) (br_f (by decide) (br_f (by decide) (br_f (by decide) (br_t (by decide) hp))))
  · rw [if_neg (by decide), if_neg (by decide), if_neg (by decide), if_neg (by decide), if_neg (by decide), if_pos (by decide)] at hp
    exact br_f (by decide) (br_f (by decide) (br_f (by decide) (br_f (by decide) (br_f (by decide) hp))))
theorem ya_331 {i : Nat} {x1 x2 x3 x7 x8 x9 : Int32} (i7 : vp_in x7 4) (post : SY → Prop) (J : oa_JY2) (hp : J x3 (nI (i + 1)) y_reg y_init y_sop y_sdest y_sa y_sb y_accV y_addr y_wt y_edge y_deg y_comp y_placed y_cOp y_cReg y_cOpd y_len y_loads y_kval y_kKnown y_mem y_outs y_outN (upd y_ar x7.toNatClampNeg (x9 + x8))) : wY_exec_331 post J x1 x2 x3 (nI i) x7 x8 x9 y_nV y_nR y_count y_phase y_accN y_reg y_init y_sop y_sdest y_sa y_sb y_accV y_addr y_wt y_edge y_deg y_comp y_placed y_cOp y_cReg y_cOpd y_len y_loads y_kval y_kKnown y_mem y_outs y_outN y_ar :=
  ⟨i7, nm_e (nm_r (nI_1 i) hp)⟩
theorem ya_306 {i o : Nat} {x1 x2 x3 x7 x8 x9 z0 : Int32} (i7 : vp_in x7 4) (h1 : 1 ≤ o) (h7 : o ≤ 7) (post : SY → Prop) (J : oa_JY2) (hp : J (oa_cb (nI o) x3 z0) (nI (i + 1)) y_reg y_init y_sop y_sdest y_sa y_sb y_accV y_addr y_wt y_edge y_deg y_comp y_placed y_cOp y_cReg y_cOpd y_len y_loads y_kval y_kKnown y_mem y_outs y_outN (upd y_ar x7.toNatClampNeg (x9 + x8))) :
    wY_exec_306 post J x1 x2 x3 (nI i) (nI o) x7 x8 x9 z0 y_nV y_nR y_count y_phase y_accN y_reg y_init y_sop y_sdest y_sa y_sb y_accV y_addr y_wt y_edge y_deg y_comp y_placed y_cOp y_cReg y_cOpd y_len y_loads y_kval y_kKnown y_mem y_outs y_outN y_ar := by
  by_cases c : o = 1
  · subst c
    have e : oa_cb (nI 1) x3 z0 = z0 := by
      unfold oa_cb
      rw [if_neg (by decide), if_neg (by decide), if_neg (by decide), if_neg (by decide), if_neg (by decide), if_neg (by decide)]
    rw [e] at hp
    exact br_t rfl (ya_331 i7 post J hp)
  · refine br_f (fun z => c (oa_inj (b := 1) (by omega) (by omega) z)) (ya_ap (by omega) h7 _ ?_)
    exact ya_331 i7 post J hp
theorem ya_xs {V nR w L : Nat} {m0 m : oa_M} (hV : V ≤ 16) (hR : nR ≤ 4) (hw : w < 2) (hL : L ≤ 192) (ci : oa_CI nR w L 32 y_cOp y_cReg y_len) (mi : oa_MI V nR w 0 y_cOp m0 m) (post : SY → Prop)
    (hp : post (nI V, y_nR, y_count, y_phase, y_accN, y_reg, y_init, y_sop, y_sdest, y_sa, y_sb, y_accV, y_addr, y_wt, y_edge, y_deg, y_comp, y_placed, y_cOp, y_cReg, y_cOpd, y_len, y_loads, y_kval, y_kKnown, ((oa_xs V w y_cOp y_cReg y_cOpd L m).2.2.2.2.2.1), ((oa_xs V w y_cOp y_cReg y_cOpd L m).2.2.2.1), ((oa_xs V w y_cOp y_cReg y_cOpd L m).2.2.2.2.2.2.2), ((oa_xs V w y_cOp y_cReg y_cOpd L m).2.2.2.2.2.2.1))) :
    ∀ d i fu, i + d = L → d < fu → wY_exec_107 post (nI w) (nI (16 * w)) (nI V) y_nR y_count y_phase y_accN fu (oa_xs V w y_cOp y_cReg y_cOpd i m).2.2.1 (nI i) y_reg y_init y_sop y_sdest y_sa y_sb y_accV y_addr y_wt y_edge y_deg y_comp y_placed y_cOp y_cReg y_cOpd y_len y_loads y_kval y_kKnown ((oa_xs V w y_cOp y_cReg y_cOpd i m).2.2.2.2.2.1) ((oa_xs V w y_cOp y_cReg y_cOpd i m).2.2.2.1) ((oa_xs V w y_cOp y_cReg y_cOpd i m).2.2.2.2.2.2.2) ((oa_xs V w y_cOp y_cReg y_cOpd i m).2.2.2.2.2.2.1) := by
  have iw : vp_in (nI w) 2 := vp_in_nI hw (by omega)
  have cw : (nI w).toNatClampNeg = w := nI_clamp (by omega)
  have eL : y_len (nI w).toNatClampNeg = nI L := by rw [cw]; exact ci.1
  intro d
  induction d with
  | zero =>
    intro i fu hi hf
    obtain ⟨fu, rfl⟩ : ∃ f, fu = f + 1 := ⟨fu - 1, by omega⟩
    have e : i = L := by omega
    subst e
    exact ⟨iw, br_t (by rw [eL]; exact nI_le (by omega) (by omega)) hp⟩
  | succ d ih =>
    intro i fu hi hf
    obtain ⟨fu, rfl⟩ : ∃ f, fu = f + 1 := ⟨fu - 1, by omega⟩
    have nx := ih (i + 1) fu (by omega) (by omega)
    have mi2 := oa_xs_I (rg := y_cReg) (od := y_cOpd) mi i
    obtain ⟨⟨o, ho, eo⟩, r, hr, er⟩ := ci.2.1 i (by omega)
    have hoc : y_cOp (192 * w + i) = 10 → oa_oc y_cOp (192 * w) i < 32 := by
      intro h10
      have := oa_oc_lt h10 (show i < L by omega)
      have := ci.2.2
      omega
    have iA : vp_in (nI (192 * w + i)) 384 := vp_in_nI (by omega) (by omega)
    have cA : (nI (192 * w + i)).toNatClampNeg = 192 * w + i := nI_clamp (by omega)
    have ir : vp_in (nI r) 4 := vp_in_nI (by omega) (by omega)
    have cr : (nI r).toNatClampNeg = r := nI_clamp (by omega)
    rw [oa_xs, eo, er, oa_x1, cr] at nx
    generalize oa_xs V w y_cOp y_cReg y_cOpd i m = M at nx mi2 ⊢
    obtain ⟨m1, m2, m3, m4, m5⟩ := mi2
    refine ⟨iw, br_f (by rw [eL]; exact nI_ge (by omega) (by omega)) ?_⟩
    rw [cw]
    refine nm_r (oa_ix192 w i) ⟨iA, nm_r (show _ = nI o by rw [cA, eo]) ⟨iA, nm_r (show _ = nI r by rw [cA, er]) ⟨iA, nm_r (show _ = y_cOpd (192 * w + i) by rw [cA]) ?_⟩⟩⟩
    rw [cr]
    by_cases c0 : nI o = 0
    · rw [if_pos c0] at nx
      exact br_t c0 ⟨ir, nm_e (nm_r (nI_1 i) nx)⟩
    refine br_f c0 ?_
    rw [if_neg c0] at nx
    by_cases c9 : nI o = 9
    · rw [if_pos c9] at nx
      exact br_t c9 (nm_r (nI_1 i) nx)
    refine br_f c9 ?_
    rw [if_neg c9] at nx
    by_cases c10 : nI o = 10
    · rw [if_pos c10] at nx
      have hq := hoc (by rw [eo]; exact c10)
      refine br_t c10 ⟨iw, ?_⟩
      rw [m4, oa_ix32, nI_clamp (show 32 * w + oa_oc y_cOp (192 * w) i < 2 ^ 31 by omega)]
      rw [m3, m4, nI_clamp (show oa_oc y_cOp (192 * w) i < 2 ^ 31 by omega)] at nx
      exact br_f (nI_ge (b := 32) hq (by decide)) ⟨iw, vp_in_nI (by omega) (by omega), nm_e ⟨iw, iw, nm_e (nm_r (nI_1 i) nx)⟩⟩
    refine br_f c10 ⟨ir, nm_r (m1 r hr) ?_⟩
    rw [if_neg c10] at nx
    have n0 : o ≠ 0 := fun z => c0 (by rw [z]; rfl)
    have n9 : o ≠ 9 := fun z => c9 (by rw [z]; rfl)
    have n10 : o ≠ 10 := fun z => c10 (by rw [z]; rfl)
    by_cases cin : oa_in V (M.2.1 r)
    · obtain ⟨c, hc, ec⟩ := oa_in_c hV cin
      have ex : nI (16 * w) + M.2.1 r = nI (16 * w + c) := by rw [ec, nI_add]
      have ix : vp_in (nI (16 * w + c)) 32 := vp_in_nI (by omega) (by omega)
      have cx : (nI (16 * w + c)).toNatClampNeg = 16 * w + c := nI_clamp (by omega)
      have cc : (M.2.1 r).toNatClampNeg = c := by rw [ec]; exact nI_clamp (by omega)
      refine br_f (Int32.not_lt.mpr cin.1) (br_f (Int32.not_le.mpr cin.2) ?_)
      unfold wY_exec_261
      rw [ex, cx]
      by_cases c8 : nI o = 8
      · rw [if_pos c8, if_pos cin, if_pos cin, cc] at nx
        exact br_t c8 (br_f (by decide) ⟨ix, nm_e (ya_331 ir post _ (by rw [cr]; exact nx))⟩)
      · rw [if_neg c8, if_pos cin, cc, ← m2 w c hw hc] at nx
        have n8 : o ≠ 8 := fun z => c8 (by rw [z]; rfl)
        exact br_f c8 (br_f (by decide) ⟨ix, ya_306 ir (by omega) (by omega) post _ (by rw [cr]; exact nx)⟩)
    · have h260 : wY_exec_260 post (wY_exec_107 post (nI w) (nI (16 * w)) (nI V) y_nR y_count y_phase y_accN fu) (nI w) (nI (16 * w)) M.2.2.1 (nI i) (nI o) (nI r) (y_cOpd (192 * w + i)) (M.2.1 r) (nI V) y_nR y_count y_phase y_accN y_reg y_init y_sop y_sdest y_sa y_sb y_accV y_addr y_wt y_edge y_deg y_comp y_placed y_cOp y_cReg y_cOpd y_len y_loads y_kval y_kKnown M.2.2.2.2.2.1 M.2.2.2.1 M.2.2.2.2.2.2.2 M.2.2.2.2.2.2.1 := by
        unfold wY_exec_260 wY_exec_261
        by_cases c8 : nI o = 8
        · rw [if_pos c8, if_neg cin, if_neg cin] at nx
          exact br_t c8 (br_t rfl (ya_331 ir post _ (by rw [cr]; exact nx)))
        · rw [if_neg c8, if_neg cin] at nx
          have n8 : o ≠ 8 := fun z => c8 (by rw [z]; rfl)
          exact br_f c8 (br_t rfl (ya_306 ir (by omega) (by omega) post _ (by rw [cr]; exact nx)))
      exact br_c (fun _ => h260) (fun h1 => br_c (fun _ => h260) (fun h2 => absurd ⟨Int32.not_lt.mp h1, Int32.not_le.mp h2⟩ cin))
theorem ya_e77 {w : Nat} {x2 : Int32} (hw : w < 2) (post : SY → Prop) (hp : ∃ f, wY_exec_107 post (nI w) x2 y_nV y_nR y_count y_phase y_accN f 0 0 y_reg y_init y_sop y_sdest y_sa y_sb y_accV y_addr y_wt y_edge y_deg y_comp y_placed y_cOp y_cReg y_cOpd y_len y_loads y_kval y_kKnown y_mem y_outs (upd y_outN w 0) (oa_fill y_ar (fun _ => 0) 4)) :
    ∀ d i fu, i + d = 4 → d < fu → wY_exec_77 post (nI w) x2 y_nV y_nR y_count y_phase y_accN fu (nI i) y_reg y_init y_sop y_sdest y_sa y_sb y_accV y_addr y_wt y_edge y_deg y_comp y_placed y_cOp y_cReg y_cOpd y_len y_loads y_kval y_kKnown y_mem y_outs y_outN (oa_fill y_ar (fun _ => 0) i) := by
  intro d
  induction d with
  | zero =>
    intro i fu hi hf
    obtain ⟨fu, rfl⟩ : ∃ f, fu = f + 1 := ⟨fu - 1, by omega⟩
    have e : i = 4 := by omega
    subst e
    exact br_t (by decide) ⟨vp_in_nI hw (by omega), nm_r (by rw [nI_clamp (show w < 2 ^ 31 by omega)]) hp⟩
  | succ d ih =>
    intro i fu hi hf
    obtain ⟨fu, rfl⟩ : ∃ f, fu = f + 1 := ⟨fu - 1, by omega⟩
    have vi : vp_in (nI i) 4 := vp_in_nI (by omega) (by omega)
    refine br_f (nI_ge (b := 4) (by omega) (by decide)) ⟨vi, nm_r ?_ (nm_r (nI_1 i) (ih (i + 1) fu (by omega) (by omega)))⟩
    rw [nI_clamp (show i < 2 ^ 31 by omega)]
    exact oa_fill_s rfl
theorem ya_e30 {V w : Nat} {cell : Nat → Nat} (hV : V ≤ 16) (hw : w < 2) (hc : ∀ v, v < V → cell v < V ∧ (if w = 0 then nI v else y_addr v) = nI (cell v)) (post : SY → Prop)
    (hp : ∃ f, wY_exec_77 post (nI w) (nI (16 * w)) (nI V) y_nR y_count y_phase y_accN f 0 y_reg y_init y_sop y_sdest y_sa y_sb y_accV y_addr y_wt y_edge y_deg y_comp y_placed y_cOp y_cReg y_cOpd y_len y_loads y_kval y_kKnown (oa_mi y_mem (16 * w) cell y_init V) y_outs y_outN y_ar) :
    ∀ d i fu, i + d = V → d < fu → wY_exec_30 post (nI w) (nI (16 * w)) (nI V) y_nR y_count y_phase y_accN fu (nI i) y_reg y_init y_sop y_sdest y_sa y_sb y_accV y_addr y_wt y_edge y_deg y_comp y_placed y_cOp y_cReg y_cOpd y_len y_loads y_kval y_kKnown (oa_mi y_mem (16 * w) cell y_init i) y_outs y_outN y_ar := by
  intro d
  induction d with
  | zero =>
    intro i fu hi hf
    obtain ⟨fu, rfl⟩ : ∃ f, fu = f + 1 := ⟨fu - 1, by omega⟩
    have e : i = V := by omega
    subst e
    exact br_t (nI_le (by omega) (by omega)) hp
  | succ d ih =>
    intro i fu hi hf
    obtain ⟨fu, rfl⟩ : ∃ f, fu = f + 1 := ⟨fu - 1, by omega⟩
    have h1 := hc i (by omega)
    have nx := ih (i + 1) fu (by omega) (by omega)
    have vi : vp_in (nI i) 16 := vp_in_nI (by omega) (by omega)
    have ci : (nI i).toNatClampNeg = i := nI_clamp (by omega)
    have h52 : ∀ z0, z0 = nI (cell i) → wY_exec_52 post (wY_exec_30 post (nI w) (nI (16 * w)) (nI V) y_nR y_count y_phase y_accN fu) (nI w) (nI (16 * w)) (nI i) z0 (nI V) y_nR y_count y_phase y_accN y_reg y_init y_sop y_sdest y_sa y_sb y_accV y_addr y_wt y_edge y_deg y_comp y_placed y_cOp y_cReg y_cOpd y_len y_loads y_kval y_kKnown (oa_mi y_mem (16 * w) cell y_init i) y_outs y_outN y_ar := by
      rintro z0 rfl
      unfold wY_exec_52
      rw [nI_add, ci, nI_clamp (show 16 * w + cell i < 2 ^ 31 by omega)]
      exact ⟨vi, vp_in_nI (by omega) (by omega), nm_e (nm_r (nI_1 i) nx)⟩
    refine br_f (nI_ge (by omega) (by omega)) ?_
    by_cases c : w = 0
    · rw [if_pos c] at h1
      exact br_t ((oa_w0 hw).mpr c) (h52 _ h1.2)
    · rw [if_neg c] at h1
      exact br_f (fun z => c ((oa_w0 hw).mp z)) ⟨vi, h52 _ (by rw [ci]; exact h1.2)⟩
theorem ya_e7 {w : Nat} (hw : w < 2) (post : SY → Prop) (hp : ∃ f, wY_exec_30 post (nI w) (nI (16 * w)) y_nV y_nR y_count y_phase y_accN f 0 y_reg y_init y_sop y_sdest y_sa y_sb y_accV y_addr y_wt y_edge y_deg y_comp y_placed y_cOp y_cReg y_cOpd y_len y_loads y_kval y_kKnown (oa_mi y_mem (16 * w) (fun c => c) (fun _ => 0) 16) y_outs y_outN y_ar) :
    ∀ d i fu, i + d = 16 → d < fu → wY_exec_7 post (nI w) (nI (16 * w)) y_nV y_nR y_count y_phase y_accN fu (nI i) y_reg y_init y_sop y_sdest y_sa y_sb y_accV y_addr y_wt y_edge y_deg y_comp y_placed y_cOp y_cReg y_cOpd y_len y_loads y_kval y_kKnown (oa_mi y_mem (16 * w) (fun c => c) (fun _ => 0) i) y_outs y_outN y_ar := by
  intro d
  induction d with
  | zero =>
    intro i fu hi hf
    obtain ⟨fu, rfl⟩ : ∃ f, fu = f + 1 := ⟨fu - 1, by omega⟩
    have e : i = 16 := by omega
    subst e
    exact br_t (by decide) hp
  | succ d ih =>
    intro i fu hi hf
    obtain ⟨fu, rfl⟩ : ∃ f, fu = f + 1 := ⟨fu - 1, by omega⟩
    have nx := ih (i + 1) fu (by omega) (by omega)
    refine br_f (nI_ge (b := 16) (by omega) (by decide)) ?_
    rw [nI_add, nI_clamp (show 16 * w + i < 2 ^ 31 by omega)]
    exact ⟨vp_in_nI (by omega) (by omega), nm_e (nm_r (nI_1 i) nx)⟩
theorem ya_rp {V nR w L : Nat} {cell : Nat → Nat} {m M : oa_M} (hV : V ≤ 16) (hR : nR ≤ 4) (hw : w < 2) (hL : L ≤ 192) (ci : oa_CI nR w L 32 y_cOp y_cReg y_len)
    (hc : ∀ v, v < V → cell v < V ∧ (if w = 0 then nI v else y_addr v) = nI (cell v)) (mi : oa_MI V nR w 0 y_cOp m (oa_m0 nR w V cell y_init m)) (post : SY → Prop)
    (eM : oa_xs V w y_cOp y_cReg y_cOpd L (oa_m0 nR w V cell y_init m) = M)
    (hp : post (nI V, y_nR, y_count, y_phase, y_accN, y_reg, y_init, y_sop, y_sdest, y_sa, y_sb, y_accV, y_addr, y_wt, y_edge, y_deg, y_comp, y_placed, y_cOp, y_cReg, y_cOpd, y_len, y_loads, y_kval, y_kKnown, M.2.2.2.2.2.1, M.2.2.2.1, M.2.2.2.2.2.2.2, M.2.2.2.2.2.2.1)) : wpY_exec post (nI V, y_nR, y_count, y_phase, y_accN, y_reg, y_init, y_sop, y_sdest, y_sa, y_sb, y_accV, y_addr, y_wt, y_edge, y_deg, y_comp, y_placed, y_cOp, y_cReg, y_cOpd, y_len, y_loads, y_kval, y_kKnown, m.2.2.2.2.2.1, m.2.2.2.1, m.2.2.2.2.2.2.2, m.2.2.2.2.2.2.1) (nI w) := by
  subst eM
  have h1 := ya_e77 (y_nV := nI V) (x2 := nI (16 * w)) (y_mem := oa_mi (oa_mi m.2.2.2.2.2.1 (16 * w) (fun c => c) (fun _ => 0) 16) (16 * w) cell y_init V) (y_ar := m.2.2.2.2.2.2.1) (y_outs := m.2.2.2.1) (y_outN := m.2.2.2.2.2.2.2) hw post
    ⟨L + 1, ya_xs hV hR hw hL ci mi post hp L 0 (L + 1) (by omega) (by omega)⟩ 4 0 5 (by omega) (by omega)
  rw [oa_fill_0] at h1
  have h2 := ya_e30 (y_mem := oa_mi m.2.2.2.2.2.1 (16 * w) (fun c => c) (fun _ => 0) 16) (y_ar := m.2.2.2.2.2.2.1) (y_outs := m.2.2.2.1) (y_outN := m.2.2.2.2.2.2.2) hV hw hc post ⟨5, h1⟩ V 0 (V + 1) (by omega) (by omega)
  have h3 := ya_e7 (y_nV := nI V) (y_mem := m.2.2.2.2.2.1) (y_ar := m.2.2.2.2.2.2.1) (y_outs := m.2.2.2.1) (y_outN := m.2.2.2.2.2.2.2) hw post ⟨V + 1, h2⟩ 16 0 17 (by omega) (by omega)
  exact nm_r (show _ = nI (16 * w) by rw [show (16 : Int32) = nI 16 from rfl, pk_mul, Nat.mul_comm]) ⟨17, h3⟩
end
end
section
/-! the relation, and the small methods -/
def i_Rel (_ : Nat) (u : SX) (v : SY) : Prop :=
  ∃ (V nR ph cnt : Nat) (na ac aN : Int32) (reg ini st acc fol wt fl sl ch ad op rg od len ld kn mx arx out ocx sop sd sa sb accY ady wtY ed dg cp pl kv kk my ocy ary : Nat → Int32),
    u = (nI V, nI nR, nI ph, nI cnt, nI (oa_ps sop cnt), na, ac, reg, ini, st, acc, fol, wt, fl, sl, ch, ad, op, rg, od, len, ld, kn, mx, arx, out, ocx) ∧
    v = (nI V, nI nR, nI cnt, nI ph, aN, reg, ini, sop, sd, sa, sb, accY, ady, wtY, ed, dg, cp, pl, op, rg, od, len, ld, kv, kk, my, out, ocy, ary) ∧
    oa_I V nR ph cnt reg st acc ad ady op rg len mx my ocx ocy sop sd sa sb
theorem oa_R {k V nR ph cnt : Nat} {na ac aN : Int32} {reg ini st acc fol wt fl sl ch ad op rg od len ld kn mx arx out ocx sop sd sa sb accY ady wtY ed dg cp pl kv kk my ocy ary : Nat → Int32}
    (h : oa_I V nR ph cnt reg st acc ad ady op rg len mx my ocx ocy sop sd sa sb) :
    i_Rel k (nI V, nI nR, nI ph, nI cnt, nI (oa_ps sop cnt), na, ac, reg, ini, st, acc, fol, wt, fl, sl, ch, ad, op, rg, od, len, ld, kn, mx, arx, out, ocx) (nI V, nI nR, nI cnt, nI ph, aN, reg, ini, sop, sd, sa, sb, accY, ady, wtY, ed, dg, cp, pl, op, rg, od, len, ld, kv, kk, my, out, ocy, ary) :=
  ⟨V, nR, ph, cnt, na, ac, aN, reg, ini, st, acc, fol, wt, fl, sl, ch, ad, op, rg, od, len, ld, kn, mx, arx, out, ocx, sop, sd, sa, sb, accY, ady, wtY, ed, dg, cp, pl, kv, kk, my, ocy, ary, rfl, rfl, h⟩
theorem i_up {k : Nat} {u : SX} {v : SY} (h : i_Rel k u v) : i_Rel (k + 5) u v := h
theorem oa_clamp (x : Int32) {a b : Nat} (hab : a ≤ b) (hb : b < 2 ^ 31) : ∃ V, a ≤ V ∧ V ≤ b ∧ ((nI a ≤ x ∧ x ≤ nI b ∧ x = nI V) ∨ (nI a ≤ x ∧ ¬ x ≤ nI b ∧ V = b) ∨ (¬ nI a ≤ x ∧ V = a)) := by
  by_cases h1 : nI a ≤ x
  · by_cases h2 : x ≤ nI b
    · have h0 : ¬ x < 0 := Int32.not_lt.mpr (Int32.le_trans (nI_pos' (by omega)) h1)
      obtain ⟨j, hj, rfl⟩ := nI_of h0
      rw [nI_leI (by omega) hj] at h1
      rw [nI_leI hj hb] at h2
      exact ⟨j, h1, h2, Or.inl ⟨nI_le h1 hj, nI_le h2 hb, rfl⟩⟩
    · exact ⟨b, hab, Nat.le_refl _, Or.inr (Or.inl ⟨h1, h2, rfl⟩)⟩
  · exact ⟨a, Nat.le_refl _, hab, Or.inr (Or.inr ⟨h1, rfl⟩)⟩
theorem xa_cl {x : Int32} {a b V : Nat} (h : (nI a ≤ x ∧ x ≤ nI b ∧ x = nI V) ∨ (nI a ≤ x ∧ ¬ x ≤ nI b ∧ V = b) ∨ (¬ nI a ≤ x ∧ V = a)) (post : Int32 → Prop) (hp : post (nI V)) : wpX_clamp post x (nI a) (nI b) := by
  rcases h with ⟨h1, h2, rfl⟩ | ⟨h1, h2, rfl⟩ | ⟨h1, rfl⟩
  · exact br_t h1 (br_t h2 hp)
  · exact br_t h1 (br_f h2 hp)
  · exact br_f h1 hp
theorem i_vc0 (k0 : Int32) (k1 : Int32) : wpX_init (fun u => wpY_init (fun v => i_Rel 2 u v) k0 k1) k0 k1 := by
  obtain ⟨V, v1, v2, hV⟩ := oa_clamp k0 (a := 2) (b := 16) (by omega) (by omega)
  obtain ⟨R, r1, r2, hR⟩ := oa_clamp k1 (a := 1) (b := 4) (by omega) (by omega)
  have H : i_Rel 2 (nI V, nI R, 0, 0, 0, 0, 0, (fun _ => 0), (fun _ => 0), (fun _ => 0), (fun _ => 0), (fun _ => 0), (fun _ => 0), (fun _ => 0), (fun _ => 0), (fun _ => 0), (fun _ => 0), (fun _ => 0), (fun _ => 0), (fun _ => 0), (fun _ => 0), (fun _ => 0), (fun _ => 0), (fun _ => 0), (fun _ => 0), (fun _ => 0), (fun _ => 0))
      (nI V, nI R, 0, 0, 0, (fun _ => 0), (fun _ => 0), (fun _ => 0), (fun _ => 0), (fun _ => 0), (fun _ => 0), (fun _ => 0), (fun _ => 0), (fun _ => 0), (fun _ => 0), (fun _ => 0), (fun _ => 0), (fun _ => 0), (fun _ => 0), (fun _ => 0), (fun _ => 0), (fun _ => 0), (fun _ => 0), (fun _ => 0), (fun _ => 0), (fun _ => 0), (fun _ => 0), (fun _ => 0), (fun _ => 0)) :=
    oa_R (ph := 0) (cnt := 0) (nR := R) ⟨⟨v1, v2⟩, ⟨r1, r2⟩, by omega, by omega, fun v _ => ⟨0, by omega, rfl⟩, fun i _ => ⟨rfl, rfl, rfl, rfl⟩, fun i hi => absurd hi (Nat.not_lt_zero i), fun w c _ _ => rfl, fun h => absurd rfl h, fun h => by omega⟩
  unfold wpX_init
  refine xa_cl hV _ (xa_cl hR _ ?_)
  rcases hV with ⟨h1, h2, rfl⟩ | ⟨h1, h2, rfl⟩ | ⟨h1, rfl⟩
  · rcases hR with ⟨g1, g2, rfl⟩ | ⟨g1, g2, rfl⟩ | ⟨g1, rfl⟩
    · exact br_t h1 (br_t h2 (br_t g1 (br_t g2 H)))
    · exact br_t h1 (br_t h2 (br_t g1 (br_f g2 H)))
    · exact br_t h1 (br_t h2 (br_f g1 H))
  · rcases hR with ⟨g1, g2, rfl⟩ | ⟨g1, g2, rfl⟩ | ⟨g1, rfl⟩
    · exact br_t h1 (br_f h2 (br_t g1 (br_t g2 H)))
    · exact br_t h1 (br_f h2 (br_t g1 (br_f g2 H)))
    · exact br_t h1 (br_f h2 (br_f g1 H))
  · rcases hR with ⟨g1, g2, rfl⟩ | ⟨g1, g2, rfl⟩ | ⟨g1, rfl⟩
    · exact br_f h1 (br_t g1 (br_t g2 H))
    · exact br_f h1 (br_t g1 (br_f g2 H))
    · exact br_f h1 (br_f g1 H)
theorem i_vc_clear {k : Nat} {u : SX} {v : SY} (I : i_Rel k u v) (hk : k + 5 ≤ 2562) : wpX_clear (fun u' => wpY_clear (fun v' => i_Rel (k + 5) u' v') v) u := by
  obtain ⟨V, nR, ph, cnt, na, ac, aN, reg, ini, st, acc, fol, wt, fl, sl, ch, ad, op, rg, od, len, ld, kn, mx, arx, out, ocx, sop, sd, sa, sb, accY, ady, wtY, ed, dg, cp, pl, kv, kk, my, ocy, ary, rfl, rfl, i1, i2, i3, i4, i5, i6, i7, i8, i9, i10⟩ := I
  unfold wpX_clear wpY_clear
  exact oa_R (ph := 0) (cnt := 0) ⟨i1, i2, by omega, by omega, i5, i6, fun i hi => absurd hi (Nat.not_lt_zero i), i8, fun h => absurd rfl h, fun h => by omega⟩
section
variable {y_nV y_nR y_count y_phase y_accN : Int32} {y_reg y_init y_sop y_sdest y_sa y_sb y_accV y_addr y_wt y_edge y_deg y_comp y_placed y_cOp y_cReg y_cOpd y_len y_loads y_kval y_kKnown y_mem y_outs y_outN y_ar : Nat → Int32}
theorem ya_bv {V : Nat} {x : Int32} (post : Int32 → Prop) (h1 : oa_in V x → post 0) (h0 : ¬ oa_in V x → post 1) : wpY_badVar post (nI V, y_nR, y_count, y_phase, y_accN, y_reg, y_init, y_sop, y_sdest, y_sa, y_sb, y_accV, y_addr, y_wt, y_edge, y_deg, y_comp, y_placed, y_cOp, y_cReg, y_cOpd, y_len, y_loads, y_kval, y_kKnown, y_mem, y_outs, y_outN, y_ar) x :=
  br_c (fun c => h0 (fun z => Int32.not_lt.mpr z.1 c)) (fun c => br_c (fun d => h1 ⟨Int32.not_lt.mp c, d⟩) (fun d => h0 (fun z => d z.2)))
end
theorem oa_upr {V nR v r : Nat} {reg : Nat → Int32} (hr : r < nR) (h : ∀ v, v < V → ∃ r, r < nR ∧ reg v = nI r) : ∀ x, x < V → ∃ r', r' < nR ∧ upd reg v (nI r) x = nI r' := by
  intro x hx
  by_cases e : x = v
  · rw [e, pk_us]; exact ⟨r, hr, rfl⟩
  · rw [pk_un e]; exact h x hx
theorem i_vc_setRegister {k : Nat} {u : SX} {v : SY} (I : i_Rel k u v) (hk : k + 5 ≤ 2562) (v1 : Int32) (v2 : Int32) : wpX_setRegister (fun r u' => wpY_setRegister (fun r' v' => r' = r ∧ i_Rel (k + 5) u' v') v v1 v2) u v1 v2 := by
  obtain ⟨V, nR, ph, cnt, na, ac, aN, reg, ini, st, acc, fol, wt, fl, sl, ch, ad, op, rg, od, len, ld, kn, mx, arx, out, ocx, sop, sd, sa, sb, accY, ady, wtY, ed, dg, cp, pl, kv, kk, my, ocy, ary, rfl, rfl, I⟩ := I
  have I' := I
  obtain ⟨i1, i2, i3, i4, i5, i6, i7, i8, i9, i10⟩ := I'
  unfold wpX_setRegister wpY_setRegister
  dsimp only
  refine xa_iv _ (fun c => br_f (by decide) ?_) (fun c => br_t rfl (ya_bv _ (fun z => absurd z c) (fun _ => br_f (by decide) ⟨rfl, oa_R I⟩)))
  obtain ⟨j, hj, rfl⟩ := oa_in_c i1.2 c
  have ij : vp_in (nI j) 16 := vp_in_nI (by omega) (by omega)
  have cj : (nI j).toNatClampNeg = j := nI_clamp (by omega)
  by_cases c1 : v2 < 0
  · exact br_t c1 (ya_bv _ (fun _ => br_t rfl (br_t c1 ⟨rfl, oa_R I⟩)) (fun z => absurd c z))
  · by_cases c2 : v2 < nI nR
    · obtain ⟨r, hr, rfl⟩ := nI_of c1
      have hr2 := (nI_ltI hr (by omega)).mp c2
      refine br_f c1 (br_t c2 ⟨ij, nm_r (by rw [cj]) (ya_bv _ (fun _ => br_t rfl (br_f c1 (br_t c2 ⟨ij, nm_r (by rw [cj]) ⟨rfl, ?_⟩⟩))) (fun z => absurd c z))⟩)
      exact oa_R (ph := 0) ⟨i1, i2, by omega, i4, oa_upr hr2 i5, i6, i7, i8, fun h => absurd rfl h, fun h => by omega⟩
    · exact br_f c1 (br_f c2 (ya_bv _ (fun _ => br_t rfl (br_f c1 (br_f c2 ⟨rfl, oa_R I⟩))) (fun z => absurd c z)))
theorem i_vc_setInit {k : Nat} {u : SX} {v : SY} (I : i_Rel k u v) (hk : k + 5 ≤ 2562) (v1 : Int32) (v2 : Int32) : wpX_setInit (fun r u' => wpY_setInit (fun r' v' => r' = r ∧ i_Rel (k + 5) u' v') v v1 v2) u v1 v2 := by
  obtain ⟨V, nR, ph, cnt, na, ac, aN, reg, ini, st, acc, fol, wt, fl, sl, ch, ad, op, rg, od, len, ld, kn, mx, arx, out, ocx, sop, sd, sa, sb, accY, ady, wtY, ed, dg, cp, pl, kv, kk, my, ocy, ary, rfl, rfl, I⟩ := I
  have I' := I
  obtain ⟨i1, i2, i3, i4, i5, i6, i7, i8, i9, i10⟩ := I'
  unfold wpX_setInit wpY_setInit
  dsimp only
  refine xa_iv _ (fun c => br_f (by decide) ?_) (fun c => br_t rfl (ya_bv _ (fun z => absurd z c) (fun _ => br_f (by decide) ⟨rfl, oa_R I⟩)))
  obtain ⟨j, hj, rfl⟩ := oa_in_c i1.2 c
  have ij : vp_in (nI j) 16 := vp_in_nI (by omega) (by omega)
  have cj : (nI j).toNatClampNeg = j := nI_clamp (by omega)
  by_cases c2 : nI ph = 2
  · have p2 : ph = 2 := oa_inj (b := 2) (by omega) (by omega) c2
    refine ⟨ij, nm_e (br_t c2 (ya_bv _ (fun _ => br_t rfl ⟨ij, nm_e (br_t c2 ⟨rfl, ?_⟩)⟩) (fun z => absurd c z)))⟩
    exact oa_R (ph := 1) ⟨i1, i2, by omega, i4, i5, i6, i7, i8, fun _ => i9 (by omega), fun h => by omega⟩
  · exact ⟨ij, nm_e (br_f c2 (ya_bv _ (fun _ => br_t rfl ⟨ij, nm_e (br_f c2 ⟨rfl, oa_R I⟩)⟩) (fun z => absurd c z)))⟩
theorem i_vc_getStatement {k : Nat} {u : SX} {v : SY} (I : i_Rel k u v) (hk : k + 5 ≤ 2562) (v1 : Int32) (v2 : Int32) : wpX_getStatement (fun r => wpY_getStatement (fun r' => r' = r ∧ i_Rel (k + 5) u v) v v1 v2) u v1 v2 := by
  obtain ⟨V, nR, ph, cnt, na, ac, aN, reg, ini, st, acc, fol, wt, fl, sl, ch, ad, op, rg, od, len, ld, kn, mx, arx, out, ocx, sop, sd, sa, sb, accY, ady, wtY, ed, dg, cp, pl, kv, kk, my, ocy, ary, rfl, rfl, I⟩ := I
  have I' := I
  obtain ⟨i1, i2, i3, i4, i5, i6, i7, i8, i9, i10⟩ := I'
  unfold wpX_getStatement wpY_getStatement
  dsimp only
  by_cases c1 : v1 = -1
  · exact br_t c1 (br_t c1 ⟨rfl, oa_R I⟩)
  by_cases c2 : v1 < 0
  · exact br_f c1 (br_t c2 (br_f c1 (br_t c2 ⟨rfl, oa_R I⟩)))
  by_cases c3 : nI cnt ≤ v1
  · exact br_f c1 (br_f c2 (br_t c3 (br_f c1 (br_f c2 (br_t c3 ⟨rfl, oa_R I⟩)))))
  by_cases c4 : v2 < 0
  · exact br_f c1 (br_f c2 (br_f c3 (br_t c4 (br_f c1 (br_f c2 (br_f c3 (br_t c4 ⟨rfl, oa_R I⟩)))))))
  obtain ⟨i, hi, rfl⟩ := nI_of c2
  obtain ⟨f, hf, rfl⟩ := nI_of c4
  rw [nI_leI (by omega) hi] at c3
  have c3' : ¬ nI cnt ≤ nI i := nI_ge (by omega) (by omega)
  have s4 := i6 i (by omega)
  have ii : vp_in (nI i) 32 := vp_in_nI (by omega) (by omega)
  have ci : (nI i).toNatClampNeg = i := nI_clamp hi
  by_cases c5 : f < 4
  · have x5 : nI f < 4 := nI_lt (b := 4) c5 (by decide)
    have y5 : nI f ≤ 3 := nI_le (b := 3) (by omega) (by decide)
    have ex : nI i * 4 + nI f = nI (i * 4 + f) := by rw [show (4 : Int32) = nI 4 from rfl, pk_mul, nI_add]
    rw [ex, ci, nI_clamp (show i * 4 + f < 2 ^ 31 by omega)]
    refine br_f c1 (br_f c2 (br_f c3' (br_f c4 (br_t x5 ⟨vp_in_nI (by omega) (by omega), br_f c1 (br_f c2 (br_f c3' (br_f c4 (br_t y5 ?_))))⟩))))
    have f4 : f = 0 ∨ f = 1 ∨ f = 2 ∨ f = 3 := by omega
    rcases f4 with rfl | rfl | rfl | rfl
    · exact br_t rfl ⟨ii, s4.1.symm, oa_R I⟩
    · exact br_f (by decide) (br_t rfl ⟨ii, s4.2.1.symm, oa_R I⟩)
    · exact br_f (by decide) (br_f (by decide) (br_t rfl ⟨ii, s4.2.2.1.symm, oa_R I⟩))
    · exact br_f (by decide) (br_f (by decide) (br_f (by decide) ⟨ii, s4.2.2.2.symm, oa_R I⟩))
  · have x5 : ¬ nI f < 4 := nI_nlt (b := 4) (by omega) hf
    have y5 : ¬ nI f ≤ 3 := nI_ge (a := 3) (by omega) hf
    exact br_f c1 (br_f c2 (br_f c3' (br_f c4 (br_f x5 (br_f c1 (br_f c2 (br_f c3' (br_f c4 (br_f y5 ⟨rfl, oa_R I⟩)))))))))
theorem i_vc_getVariable {k : Nat} {u : SX} {v : SY} (I : i_Rel k u v) (hk : k + 5 ≤ 2562) (v1 : Int32) (v2 : Int32) : wpX_getVariable (fun r => wpY_getVariable (fun r' => r' = r ∧ i_Rel (k + 5) u v) v v1 v2) u v1 v2 := by
  obtain ⟨V, nR, ph, cnt, na, ac, aN, reg, ini, st, acc, fol, wt, fl, sl, ch, ad, op, rg, od, len, ld, kn, mx, arx, out, ocx, sop, sd, sa, sb, accY, ady, wtY, ed, dg, cp, pl, kv, kk, my, ocy, ary, rfl, rfl, I⟩ := I
  unfold wpX_getVariable wpY_getVariable
  dsimp only
  refine xa_iv _ (fun c => br_f (by decide) ?_) (fun c => br_t rfl (ya_bv _ (fun z => absurd z c) (fun _ => br_f (by decide) ⟨rfl, oa_R I⟩)))
  obtain ⟨j, hj, rfl⟩ := oa_in_c I.1.2 c
  have ij : vp_in (nI j) 16 := vp_in_nI (by have := I.1.2; omega) (by omega)
  refine br_c (fun c0 => ⟨ij, ya_bv _ (fun _ => br_t rfl (br_t c0 ⟨ij, rfl, oa_R I⟩)) (fun z => absurd c z)⟩) (fun c0 => br_c (fun c1 => ⟨ij, ya_bv _ (fun _ => br_t rfl (br_f c0 (br_t c1 ⟨ij, rfl, oa_R I⟩))) (fun z => absurd c z)⟩) (fun c1 => ya_bv _ (fun _ => br_t rfl (br_f c0 (br_f c1 ⟨rfl, oa_R I⟩))) (fun z => absurd c z)))
end
section
/-! the other methods that read -/
theorem oa_pg (p : Int32) : (∃ w, w < 2 ∧ p = nI w) ∨ (¬ p = 0 ∧ ¬ p = 1 ∧ (p < 0 ∨ (¬ p < 0 ∧ ¬ p ≤ 1))) := by
  rcases pk_ix p (n := 2) (by omega) with h | h | ⟨j, hj, e⟩
  · refine Or.inr ⟨fun z => ?_, fun z => ?_, Or.inl h⟩
    · rw [z] at h; exact absurd h (by decide)
    · rw [z] at h; exact absurd h (by decide)
  · refine Or.inr ⟨fun z => ?_, fun z => ?_, Or.inr ⟨fun z => ?_, fun z => ?_⟩⟩
    · rw [z] at h; exact absurd h (by decide)
    · rw [z] at h; exact absurd h (by decide)
    · exact absurd (Int32.lt_of_le_of_lt h z) (by decide)
    · exact absurd (Int32.le_trans h z) (by decide)
  · exact Or.inl ⟨j, hj, e⟩
theorem oa_w1 {w : Nat} (hw : w < 2) : nI w ≤ 1 := nI_le (b := 1) (by omega) (by decide)
theorem oa_w1' {w : Nat} (hw : w < 2) : ¬ 1 < nI w := nI_nlt (a := 1) (by omega) (by decide)
theorem oa_wn {w : Nat} (hw : w < 2) : ¬ nI w < 0 := nI_pos (by omega)
section
variable {x_varCount x_regCount x_phase x_statementCount x_accessCount x_nextAddress x_accumulator : Int32} {x_register x_init x_statements x_accessVar x_follower x_weight x_firstLink x_secondLink x_chain x_address x_opcode x_instrRegister x_operand x_codeLength x_addrLoads x_knownAddress x_memory x_addressRegister x_output x_outputCount : Nat → Int32}
theorem xa_ip1 {w : Nat} (hw : w < 2) (post : Int32 → Prop) (hp : post 1) : wpX_isProgram post (x_varCount, x_regCount, x_phase, x_statementCount, x_accessCount, x_nextAddress, x_accumulator, x_register, x_init, x_statements, x_accessVar, x_follower, x_weight, x_firstLink, x_secondLink, x_chain, x_address, x_opcode, x_instrRegister, x_operand, x_codeLength, x_addrLoads, x_knownAddress, x_memory, x_addressRegister, x_output, x_outputCount) (nI w) := by
  have c : w = 0 ∨ w = 1 := by omega
  rcases c with rfl | rfl
  · exact br_t rfl hp
  · exact br_f (by decide) (br_t rfl hp)
theorem xa_ip0 {p : Int32} (h0 : ¬ p = 0) (h1 : ¬ p = 1) (post : Int32 → Prop) (hp : post 0) : wpX_isProgram post (x_varCount, x_regCount, x_phase, x_statementCount, x_accessCount, x_nextAddress, x_accumulator, x_register, x_init, x_statements, x_accessVar, x_follower, x_weight, x_firstLink, x_secondLink, x_chain, x_address, x_opcode, x_instrRegister, x_operand, x_codeLength, x_addrLoads, x_knownAddress, x_memory, x_addressRegister, x_output, x_outputCount) p := br_f h0 (br_f h1 hp)
theorem xa_92 {u v p x c i : Int32} (post : Int32 → Prop) (J : Int32 → Int32 → Int32 → Prop) (h1 : (p = v ∧ x = u) → J (c + 1) x (i + 1)) (h0 : ¬ (p = v ∧ x = u) → J c x (i + 1)) : wX_getWeight_92 post J u v c p i x x_varCount x_regCount x_phase x_statementCount x_accessCount x_nextAddress x_accumulator x_register x_init x_statements x_accessVar x_follower x_weight x_firstLink x_secondLink x_chain x_address x_opcode x_instrRegister x_operand x_codeLength x_addrLoads x_knownAddress x_memory x_addressRegister x_output x_outputCount :=
  br_c (fun a => br_c (fun b => nm_e (nm_e (h1 ⟨a, b⟩))) (fun b => nm_e (h0 (fun z => b z.2)))) (fun a => nm_e (h0 (fun z => a z.1)))
theorem xa_gw {n u : Nat} {v : Int32} (hn : n ≤ 96) (hu : u < 16) (ha : ∀ i, i < n → ∃ k, k < 16 ∧ x_accessVar i = nI k) (post : Int32 → Prop) (hp : post (oa_ct x_register x_accessVar (x_register u) (nI u) v n)) :
    ∀ d i fu, i + d = n → d < fu → wX_getWeight_46 post (nI u) v x_varCount x_regCount x_phase x_statementCount (nI n) x_nextAddress x_accumulator x_register x_init x_statements x_accessVar x_follower x_weight x_firstLink x_secondLink x_chain x_address x_opcode x_instrRegister x_operand x_codeLength x_addrLoads x_knownAddress x_memory x_addressRegister x_output x_outputCount fu (oa_ct x_register x_accessVar (x_register u) (nI u) v i) (oa_pv x_register x_accessVar (x_register u) i) (nI i) := by
  intro d
  induction d with
  | zero =>
    intro i fu hi hf
    obtain ⟨fu, rfl⟩ : ∃ f, fu = f + 1 := ⟨fu - 1, by omega⟩
    have e : i = n := by omega
    subst e
    exact br_t (nI_le (by omega) (by omega)) hp
  | succ d ih =>
    intro i fu hi hf
    obtain ⟨fu, rfl⟩ : ∃ f, fu = f + 1 := ⟨fu - 1, by omega⟩
    have nx := ih (i + 1) fu (by omega) (by omega)
    obtain ⟨k, hk, ek⟩ := ha i (by omega)
    refine br_f (nI_ge (by omega) (by omega)) ⟨vp_in_nI (by omega) (by omega), ?_⟩
    rw [nI_clamp (show i < 2 ^ 31 by omega), nI_clamp (show u < 2 ^ 31 by omega)]
    refine nm_e ⟨by rw [ek]; exact vp_in_nI hk (by omega), vp_in_nI hu (by omega), ?_⟩
    rw [oa_pv, oa_ct] at nx
    by_cases c : x_register (x_accessVar i).toNatClampNeg = x_register u
    · rw [if_pos c, if_pos c] at nx
      refine br_t c ?_
      by_cases a1 : oa_pv x_register x_accessVar (x_register u) i = nI u
      · refine br_t a1 ?_
        by_cases a2 : x_accessVar i = v
        · rw [if_pos (Or.inl ⟨a1, a2⟩)] at nx
          exact br_t a2 (nm_e (nm_r (nI_1 i) nx))
        · refine br_f a2 (xa_92 post _ (fun z => ?_) (fun z => ?_))
          · rw [if_pos (Or.inr z)] at nx; rw [nI_1]; exact nx
          · rw [if_neg (fun y => y.elim (fun y => a2 y.2) z)] at nx; rw [nI_1]; exact nx
      · refine br_f a1 (xa_92 post _ (fun z => ?_) (fun z => ?_))
        · rw [if_pos (Or.inr z)] at nx; rw [nI_1]; exact nx
        · rw [if_neg (fun y => y.elim (fun y => a1 y.1) z)] at nx; rw [nI_1]; exact nx
    · rw [if_neg c, if_neg c] at nx
      exact br_f c (nm_r (nI_1 i) nx)
end
theorem i_vc_getWeight {k : Nat} {u : SX} {v : SY} (I : i_Rel k u v) (hk : k + 5 ≤ 2562) (v1 : Int32) (v2 : Int32) : wpX_getWeight (fun r => wpY_getWeight (fun r' v' => r' = r ∧ i_Rel (k + 5) u v') v v1 v2) u v1 v2 := by
  obtain ⟨V, nR, ph, cnt, na, ac, aN, reg, ini, st, acc, fol, wt, fl, sl, ch, ad, op, rg, od, len, ld, kn, mx, arx, out, ocx, sop, sd, sa, sb, accY, ady, wtY, ed, dg, cp, pl, kv, kk, my, ocy, ary, rfl, rfl, I⟩ := I
  have I' := I
  obtain ⟨i1, i2, i3, i4, i5, i6, i7, i8, i9, i10⟩ := I'
  have hn : oa_ps sop cnt ≤ 96 := by have := oa_ps_le sop cnt; omega
  have ha : ∀ i, i < oa_ps sop cnt → ∃ k, k < 16 ∧ acc i = nI k := by
    intro i hi
    obtain ⟨k, hk, ek⟩ := oa_SS_vr cnt i7 i hi
    exact ⟨k, by omega, ek⟩
  unfold wpX_getWeight wpY_getWeight
  dsimp only
  refine xa_iv _ (fun c1 => br_f (by decide) ?_) (fun c1 => br_t rfl (ya_bv _ (fun z => absurd z c1) (fun _ => br_f (by decide) ⟨rfl, oa_R I⟩)))
  refine xa_iv _ (fun c2 => br_f (by decide) ?_) (fun c2 => br_t rfl (ya_bv _ (fun _ => br_t rfl (ya_bv _ (fun z => absurd z c2) (fun _ => br_f (by decide) ⟨rfl, oa_R I⟩))) (fun z => absurd c1 z)))
  by_cases c3 : v1 = v2
  · exact br_t c3 (ya_bv _ (fun _ => br_t rfl (ya_bv _ (fun _ => br_t rfl (br_t c3 ⟨rfl, oa_R I⟩)) (fun z => absurd c2 z))) (fun z => absurd c1 z))
  obtain ⟨a, ha1, rfl⟩ := oa_in_c i1.2 c1
  obtain ⟨b, hb1, rfl⟩ := oa_in_c i1.2 c2
  have ia : vp_in (nI a) 16 := vp_in_nI (by omega) (by omega)
  have ib : vp_in (nI b) 16 := vp_in_nI (by omega) (by omega)
  have ca : (nI a).toNatClampNeg = a := nI_clamp (by omega)
  have cb : (nI b).toNatClampNeg = b := nI_clamp (by omega)
  rw [ca, cb]
  refine br_f c3 ⟨ia, ib, ?_⟩
  by_cases c4 : reg a = reg b
  · refine br_t c4 ⟨oa_ps sop cnt + 1, xa_gw hn (by omega) ha _ ?_ (oa_ps sop cnt) 0 (oa_ps sop cnt + 1) (by omega) (by omega)⟩
    refine ya_bv _ (fun _ => br_t rfl (ya_bv _ (fun _ => br_t rfl (br_f c3 ⟨ia, ib, br_t c4 (ya_ba i4 i7 _ (fun A hA => ?_))⟩)) (fun z => absurd c2 z))) (fun z => absurd c1 z)
    refine ya_wt hn (by omega) (fun i hi => ?_) _ ⟨?_, oa_R I⟩
    · show ∃ k, k < 16 ∧ A i = nI k
      rw [hA i hi]; exact ha i hi
    · exact (oa_ct_cg (oa_ps sop cnt) hA).2
  · exact br_f c4 (ya_bv _ (fun _ => br_t rfl (ya_bv _ (fun _ => br_t rfl (br_f c3 ⟨ia, ib, br_f c4 ⟨rfl, oa_R I⟩⟩)) (fun z => absurd c2 z))) (fun z => absurd c1 z))
theorem i_vc_getAddress {k : Nat} {u : SX} {v : SY} (I : i_Rel k u v) (hk : k + 5 ≤ 2562) (v1 : Int32) : wpX_getAddress (fun r => wpY_getAddress (fun r' => r' = r ∧ i_Rel (k + 5) u v) v v1) u v1 := by
  obtain ⟨V, nR, ph, cnt, na, ac, aN, reg, ini, st, acc, fol, wt, fl, sl, ch, ad, op, rg, od, len, ld, kn, mx, arx, out, ocx, sop, sd, sa, sb, accY, ady, wtY, ed, dg, cp, pl, kv, kk, my, ocy, ary, rfl, rfl, I⟩ := I
  have I' := I
  obtain ⟨i1, i2, i3, i4, i5, i6, i7, i8, i9, i10⟩ := I'
  unfold wpX_getAddress wpY_getAddress
  dsimp only
  by_cases c0 : nI ph = 0
  · exact br_t c0 (br_t c0 ⟨rfl, oa_R I⟩)
  have p0 : ph ≠ 0 := fun z => c0 (by rw [z]; rfl)
  refine br_f c0 (xa_iv _ (fun c => br_f (by decide) ?_) (fun c => br_t rfl (br_f c0 (ya_bv _ (fun z => absurd z c) (fun _ => br_f (by decide) ⟨rfl, oa_R I⟩)))))
  obtain ⟨j, hj, rfl⟩ := oa_in_c i1.2 c
  have ij : vp_in (nI j) 16 := vp_in_nI (by omega) (by omega)
  refine ⟨ij, br_f c0 (ya_bv _ (fun _ => br_t rfl ⟨ij, ?_, oa_R I⟩) (fun z => absurd c z))⟩
  rw [nI_clamp (show j < 2 ^ 31 by omega)]
  exact ((i9 p0).1 j hj).1
theorem i_vc_getCodeLength {k : Nat} {u : SX} {v : SY} (I : i_Rel k u v) (hk : k + 5 ≤ 2562) (v1 : Int32) : wpX_getCodeLength (fun r => wpY_getCodeLength (fun r' => r' = r ∧ i_Rel (k + 5) u v) v v1) u v1 := by
  obtain ⟨V, nR, ph, cnt, na, ac, aN, reg, ini, st, acc, fol, wt, fl, sl, ch, ad, op, rg, od, len, ld, kn, mx, arx, out, ocx, sop, sd, sa, sb, accY, ady, wtY, ed, dg, cp, pl, kv, kk, my, ocy, ary, rfl, rfl, I⟩ := I
  unfold wpX_getCodeLength wpY_getCodeLength
  dsimp only
  by_cases c0 : nI ph = 0
  · exact br_t c0 (br_t c0 ⟨rfl, oa_R I⟩)
  rcases oa_pg v1 with ⟨w, hw, rfl⟩ | ⟨n0, n1, h⟩
  · have iw : vp_in (nI w) 2 := vp_in_nI hw (by omega)
    exact br_f c0 (xa_ip1 hw _ (br_f (by decide) ⟨iw, br_f c0 (br_f (oa_wn hw) (br_t (oa_w1 hw) ⟨iw, rfl, oa_R I⟩))⟩))
  · rcases h with h | ⟨h, h'⟩
    · exact br_f c0 (xa_ip0 n0 n1 _ (br_t rfl (br_f c0 (br_t h ⟨rfl, oa_R I⟩))))
    · exact br_f c0 (xa_ip0 n0 n1 _ (br_t rfl (br_f c0 (br_f h (br_f h' ⟨rfl, oa_R I⟩)))))
theorem i_vc_getAddrLoads {k : Nat} {u : SX} {v : SY} (I : i_Rel k u v) (hk : k + 5 ≤ 2562) (v1 : Int32) : wpX_getAddrLoads (fun r => wpY_getAddrLoads (fun r' => r' = r ∧ i_Rel (k + 5) u v) v v1) u v1 := by
  obtain ⟨V, nR, ph, cnt, na, ac, aN, reg, ini, st, acc, fol, wt, fl, sl, ch, ad, op, rg, od, len, ld, kn, mx, arx, out, ocx, sop, sd, sa, sb, accY, ady, wtY, ed, dg, cp, pl, kv, kk, my, ocy, ary, rfl, rfl, I⟩ := I
  unfold wpX_getAddrLoads wpY_getAddrLoads
  dsimp only
  by_cases c0 : nI ph = 0
  · exact br_t c0 (br_t c0 ⟨rfl, oa_R I⟩)
  rcases oa_pg v1 with ⟨w, hw, rfl⟩ | ⟨n0, n1, h⟩
  · have iw : vp_in (nI w) 2 := vp_in_nI hw (by omega)
    exact br_f c0 (xa_ip1 hw _ (br_f (by decide) ⟨iw, br_f c0 (br_f (oa_wn hw) (br_t (oa_w1 hw) ⟨iw, rfl, oa_R I⟩))⟩))
  · rcases h with h | ⟨h, h'⟩
    · exact br_f c0 (xa_ip0 n0 n1 _ (br_t rfl (br_f c0 (br_t h ⟨rfl, oa_R I⟩))))
    · exact br_f c0 (xa_ip0 n0 n1 _ (br_t rfl (br_f c0 (br_f h (br_f h' ⟨rfl, oa_R I⟩)))))
theorem i_vc_getOutputCount {k : Nat} {u : SX} {v : SY} (I : i_Rel k u v) (hk : k + 5 ≤ 2562) (v1 : Int32) : wpX_getOutputCount (fun r => wpY_getOutputCount (fun r' => r' = r ∧ i_Rel (k + 5) u v) v v1) u v1 := by
  obtain ⟨V, nR, ph, cnt, na, ac, aN, reg, ini, st, acc, fol, wt, fl, sl, ch, ad, op, rg, od, len, ld, kn, mx, arx, out, ocx, sop, sd, sa, sb, accY, ady, wtY, ed, dg, cp, pl, kv, kk, my, ocy, ary, rfl, rfl, I⟩ := I
  have I' := I
  obtain ⟨i1, i2, i3, i4, i5, i6, i7, i8, i9, i10⟩ := I'
  unfold wpX_getOutputCount wpY_getOutputCount
  dsimp only
  by_cases c2 : nI ph = 2
  · have p2 : ph = 2 := oa_inj (b := 2) (by omega) (by omega) c2
    rcases oa_pg v1 with ⟨w, hw, rfl⟩ | ⟨n0, n1, h⟩
    · have iw : vp_in (nI w) 2 := vp_in_nI hw (by omega)
      refine br_t c2 (xa_ip1 hw _ (br_f (by decide) ⟨iw, br_t c2 (br_f (oa_wn hw) (br_t (oa_w1 hw) ⟨iw, ?_, oa_R I⟩))⟩))
      rw [nI_clamp (show w < 2 ^ 31 by omega)]
      exact (i10 p2 w hw).1
    · rcases h with h | ⟨h, h'⟩
      · exact br_t c2 (xa_ip0 n0 n1 _ (br_t rfl (br_t c2 (br_t h ⟨rfl, oa_R I⟩))))
      · exact br_t c2 (xa_ip0 n0 n1 _ (br_t rfl (br_t c2 (br_f h (br_f h' ⟨rfl, oa_R I⟩)))))
  · exact br_f c2 (br_f c2 ⟨rfl, oa_R I⟩)
theorem i_vc_getOutput {k : Nat} {u : SX} {v : SY} (I : i_Rel k u v) (hk : k + 5 ≤ 2562) (v1 : Int32) (v2 : Int32) : wpX_getOutput (fun r => wpY_getOutput (fun r' => r' = r ∧ i_Rel (k + 5) u v) v v1 v2) u v1 v2 := by
  obtain ⟨V, nR, ph, cnt, na, ac, aN, reg, ini, st, acc, fol, wt, fl, sl, ch, ad, op, rg, od, len, ld, kn, mx, arx, out, ocx, sop, sd, sa, sb, accY, ady, wtY, ed, dg, cp, pl, kv, kk, my, ocy, ary, rfl, rfl, I⟩ := I
  have I' := I
  obtain ⟨i1, i2, i3, i4, i5, i6, i7, i8, i9, i10⟩ := I'
  unfold wpX_getOutput wpY_getOutput
  dsimp only
  by_cases c2 : nI ph = 2
  · have p2 : ph = 2 := oa_inj (b := 2) (by omega) (by omega) c2
    rcases oa_pg v1 with ⟨w, hw, rfl⟩ | ⟨n0, n1, h⟩
    · have iw : vp_in (nI w) 2 := vp_in_nI hw (by omega)
      obtain ⟨e1, q, hq, e2⟩ := i10 p2 w hw
      rw [nI_clamp (show w < 2 ^ 31 by omega), e1, e2]
      refine br_t c2 (xa_ip1 hw _ (br_f (by decide) ?_))
      by_cases c3 : v2 < 0
      · exact br_t c3 (br_t c2 (br_f (oa_wn hw) (br_f (oa_w1' hw) (br_t c3 ⟨rfl, oa_R I⟩))))
      · obtain ⟨j, hj, rfl⟩ := nI_of c3
        by_cases c4 : nI j < nI q
        · have c5 := (nI_ltI hj (by omega)).mp c4
          have ij : vp_in (nI w * 32 + nI j) 64 := by rw [oa_ix32]; exact vp_in_nI (by omega) (by omega)
          exact br_f c3 ⟨iw, br_t c4 ⟨ij, br_t c2 (br_f (oa_wn hw) (br_f (oa_w1' hw) (br_f c3 ⟨iw, br_t c4 ⟨ij, rfl, oa_R I⟩⟩)))⟩⟩
        · exact br_f c3 ⟨iw, br_f c4 (br_t c2 (br_f (oa_wn hw) (br_f (oa_w1' hw) (br_f c3 ⟨iw, br_f c4 ⟨rfl, oa_R I⟩⟩))))⟩
    · rcases h with h | ⟨h, h'⟩
      · exact br_t c2 (xa_ip0 n0 n1 _ (br_t rfl (br_t c2 (br_t h ⟨rfl, oa_R I⟩))))
      · exact br_t c2 (xa_ip0 n0 n1 _ (br_t rfl (br_t c2 (br_f h (br_t (Int32.not_le.mp h') ⟨rfl, oa_R I⟩)))))
  · exact br_f c2 (br_f c2 ⟨rfl, oa_R I⟩)
theorem i_vc_getVar {k : Nat} {u : SX} {v : SY} (I : i_Rel k u v) (hk : k + 5 ≤ 2562) (v1 : Int32) (v2 : Int32) : wpX_getVar (fun r => wpY_getVar (fun r' => r' = r ∧ i_Rel (k + 5) u v) v v1 v2) u v1 v2 := by
  obtain ⟨V, nR, ph, cnt, na, ac, aN, reg, ini, st, acc, fol, wt, fl, sl, ch, ad, op, rg, od, len, ld, kn, mx, arx, out, ocx, sop, sd, sa, sb, accY, ady, wtY, ed, dg, cp, pl, kv, kk, my, ocy, ary, rfl, rfl, I⟩ := I
  have I' := I
  obtain ⟨i1, i2, i3, i4, i5, i6, i7, i8, i9, i10⟩ := I'
  unfold wpX_getVar wpY_getVar
  dsimp only
  by_cases c2 : nI ph = 2
  · have p2 : ph = 2 := oa_inj (b := 2) (by omega) (by omega) c2
    rcases oa_pg v1 with ⟨w, hw, rfl⟩ | ⟨n0, n1, h⟩
    · refine br_t c2 (xa_ip1 hw _ (br_f (by decide) (xa_iv _ (fun c => br_f (by decide) ?_) (fun c => br_t rfl (br_t c2 (br_f (oa_wn hw) (br_f (oa_w1' hw) (ya_bv _ (fun z => absurd z c) (fun _ => br_f (by decide) ⟨rfl, oa_R I⟩)))))))))
      obtain ⟨j, hj, rfl⟩ := oa_in_c i1.2 c
      obtain ⟨e1, a, ha, e2⟩ := (i9 (by omega)).1 j hj
      have cj : (nI j).toNatClampNeg = j := nI_clamp (by omega)
      have ij : vp_in (nI j) 16 := vp_in_nI (by omega) (by omega)
      have fin : ∀ c, c < V → (if w = 0 then nI j else ad j) = nI c → wpX_addressIn (fun r_60 => vp_in (nI w * 16 + r_60) 32 ∧ wpY_getVar (fun r' => r' = mx (nI w * 16 + r_60).toNatClampNeg ∧ i_Rel (k + 5) (nI V, nI nR, nI ph, nI cnt, nI (oa_ps sop cnt), na, ac, reg, ini, st, acc, fol, wt, fl, sl, ch, ad, op, rg, od, len, ld, kn, mx, arx, out, ocx) (nI V, nI nR, nI cnt, nI ph, aN, reg, ini, sop, sd, sa, sb, accY, ady, wtY, ed, dg, cp, pl, op, rg, od, len, ld, kv, kk, my, out, ocy, ary)) (nI V, nI nR, nI cnt, nI ph, aN, reg, ini, sop, sd, sa, sb, accY, ady, wtY, ed, dg, cp, pl, op, rg, od, len, ld, kv, kk, my, out, ocy, ary) (nI w) (nI j)) (nI V, nI nR, nI ph, nI cnt, nI (oa_ps sop cnt), na, ac, reg, ini, st, acc, fol, wt, fl, sl, ch, ad, op, rg, od, len, ld, kn, mx, arx, out, ocx) (nI w) (nI j) := by
        intro c' hc' ec
        have ix : vp_in (nI w * 16 + nI c') 32 := by rw [oa_ix16w]; exact vp_in_nI (by omega) (by omega)
        have cx : (nI w * 16 + nI c').toNatClampNeg = 16 * w + c' := by rw [oa_ix16w]; exact nI_clamp (by omega)
        refine xa_ai hw (by omega) ec _ ⟨ix, ?_⟩
        have fy : ∀ z0, z0 = nI c' → wY_getVar_41 (fun r' => r' = mx (nI w * 16 + nI c').toNatClampNeg ∧ i_Rel (k + 5) (nI V, nI nR, nI ph, nI cnt, nI (oa_ps sop cnt), na, ac, reg, ini, st, acc, fol, wt, fl, sl, ch, ad, op, rg, od, len, ld, kn, mx, arx, out, ocx) (nI V, nI nR, nI cnt, nI ph, aN, reg, ini, sop, sd, sa, sb, accY, ady, wtY, ed, dg, cp, pl, op, rg, od, len, ld, kv, kk, my, out, ocy, ary)) (nI w) z0 (nI V) (nI nR) (nI cnt) (nI ph) aN reg ini sop sd sa sb accY ady wtY ed dg cp pl op rg od len ld kv kk my out ocy ary := by
          rintro z0 rfl
          refine ⟨ix, ?_, oa_R I⟩
          rw [cx]
          exact i8 w c' hw hc'
        refine br_t c2 (br_f (oa_wn hw) (br_f (oa_w1' hw) (ya_bv _ (fun _ => br_t rfl ?_) (fun z => absurd c z))))
        by_cases c0 : w = 0
        · rw [if_pos c0] at ec
          exact br_t ((oa_w0 hw).mpr c0) (fy _ ec)
        · rw [if_neg c0] at ec
          exact br_f (fun z => c0 ((oa_w0 hw).mp z)) ⟨ij, fy _ (by rw [cj, e1]; exact ec)⟩
      by_cases c0 : w = 0
      · exact fin j hj (if_pos c0)
      · exact fin a ha (by rw [if_neg c0]; exact e2)
    · rcases h with h | ⟨h, h'⟩
      · exact br_t c2 (xa_ip0 n0 n1 _ (br_t rfl (br_t c2 (br_t h ⟨rfl, oa_R I⟩))))
      · exact br_t c2 (xa_ip0 n0 n1 _ (br_t rfl (br_t c2 (br_f h (br_t (Int32.not_le.mp h') ⟨rfl, oa_R I⟩)))))
  · exact br_f c2 (br_f c2 ⟨rfl, oa_R I⟩)
theorem i_vc_getInstr {k : Nat} {u : SX} {v : SY} (I : i_Rel k u v) (hk : k + 5 ≤ 2562) (v1 : Int32) (v2 : Int32) (v3 : Int32) : wpX_getInstr (fun r => wpY_getInstr (fun r' => r' = r ∧ i_Rel (k + 5) u v) v v1 v2 v3) u v1 v2 v3 := by
  obtain ⟨V, nR, ph, cnt, na, ac, aN, reg, ini, st, acc, fol, wt, fl, sl, ch, ad, op, rg, od, len, ld, kn, mx, arx, out, ocx, sop, sd, sa, sb, accY, ady, wtY, ed, dg, cp, pl, kv, kk, my, ocy, ary, rfl, rfl, I⟩ := I
  have I' := I
  obtain ⟨i1, i2, i3, i4, i5, i6, i7, i8, i9, i10⟩ := I'
  unfold wpX_getInstr wpY_getInstr
  dsimp only
  by_cases c0 : nI ph = 0
  · exact br_t c0 (br_t c0 ⟨rfl, oa_R I⟩)
  have p0 : ph ≠ 0 := fun z => c0 (by rw [z]; rfl)
  rcases oa_pg v1 with ⟨w, hw, rfl⟩ | ⟨n0, n1, h⟩
  · have iw : vp_in (nI w) 2 := vp_in_nI hw (by omega)
    obtain ⟨L, hL, ci⟩ := (i9 p0).2.2 w hw
    have cw : (nI w).toNatClampNeg = w := nI_clamp (by omega)
    rw [cw, ci.1]
    refine br_f c0 (xa_ip1 hw _ (br_f (by decide) ?_))
    have Yp : ∀ {A B C : Prop}, C → ((nI ph = 0 → A) ∧ (¬ nI ph = 0 → ((nI w < 0 → B) ∧ (¬ nI w < 0 → ((nI w ≤ 1 → C) ∧ (¬ nI w ≤ 1 → B)))))) := fun h => br_f c0 (br_f (oa_wn hw) (br_t (oa_w1 hw) h))
    by_cases c1 : v2 < 0
    · exact br_t c1 (Yp (br_t c1 ⟨rfl, oa_R I⟩))
    obtain ⟨i, hi, rfl⟩ := nI_of c1
    by_cases c2 : i < L
    · have x2 : nI i < nI L := nI_lt c2 (by omega)
      have y2 : ¬ nI L ≤ nI i := nI_ge c2 (by omega)
      have iA : vp_in (nI w * 192 + nI i) 384 := by rw [oa_ix192]; exact vp_in_nI (by omega) (by omega)
      refine br_f c1 ⟨iw, br_t x2 (nm_e ?_)⟩
      by_cases c3 : v3 < 0
      · exact br_t c3 (Yp (br_f c1 ⟨iw, br_f y2 (br_t c3 ⟨rfl, oa_R I⟩)⟩))
      refine br_f c3 ?_
      by_cases c4 : 2 < v3
      · exact br_t c4 (Yp (br_f c1 ⟨iw, br_f y2 (br_f c3 (br_f (Int32.not_le.mpr c4) ⟨rfl, oa_R I⟩))⟩))
      have y4 := Int32.not_lt.mp c4
      refine br_f c4 ?_
      by_cases f0 : v3 = 0
      · exact br_t f0 ⟨iA, Yp (br_f c1 ⟨iw, br_f y2 (br_f c3 (br_t y4 (nm_e (br_t f0 ⟨iA, rfl, oa_R I⟩))))⟩)⟩
      refine br_f f0 ?_
      by_cases f1 : v3 = 1
      · exact br_t f1 ⟨iA, Yp (br_f c1 ⟨iw, br_f y2 (br_f c3 (br_t y4 (nm_e (br_f f0 (br_t f1 ⟨iA, rfl, oa_R I⟩)))))⟩)⟩
      refine br_f f1 (br_c (fun f2 => ?_) (fun _ => trivial))
      exact ⟨iA, Yp (br_f c1 ⟨iw, br_f y2 (br_f c3 (br_t y4 (nm_e (br_f f0 (br_f f1 ⟨iA, rfl, oa_R I⟩)))))⟩)⟩
    · have x2 : ¬ nI i < nI L := nI_nlt (by omega) hi
      have y2 : nI L ≤ nI i := nI_le (by omega) hi
      exact br_f c1 ⟨iw, br_f x2 (Yp (br_f c1 ⟨iw, br_t y2 ⟨rfl, oa_R I⟩⟩))⟩
  · rcases h with h | ⟨h, h'⟩
    · exact br_f c0 (xa_ip0 n0 n1 _ (br_t rfl (br_f c0 (br_t h ⟨rfl, oa_R I⟩))))
    · exact br_f c0 (xa_ip0 n0 n1 _ (br_t rfl (br_f c0 (br_f h (br_f h' ⟨rfl, oa_R I⟩)))))
end
section
/-! addStatement -/
def oa_ok (V o : Nat) (d a b : Int32) : Prop := (o ≤ 5 → oa_in V d ∧ oa_in V a ∧ oa_in V b) ∧ (o = 6 → oa_in V d ∧ oa_in V a) ∧ (o = 7 → oa_in V d) ∧ (o = 8 → oa_in V a)
theorem oa_8 {o : Nat} (h : o ≤ 8) : o ≤ 5 ∨ o = 6 ∨ o = 7 ∨ o = 8 := by omega
section
variable {x_varCount x_regCount x_phase x_statementCount x_accessCount x_nextAddress x_accumulator : Int32} {x_register x_init x_statements x_accessVar x_follower x_weight x_firstLink x_secondLink x_chain x_address x_opcode x_instrRegister x_operand x_codeLength x_addrLoads x_knownAddress x_memory x_addressRegister x_output x_outputCount : Nat → Int32}
theorem xa_uo {V o : Nat} {d a b : Int32} (h8 : o ≤ 8) (post : Int32 → Prop) (h1 : oa_ok V o d a b → post 1) (h0 : ¬ oa_ok V o d a b → post 0) : wpX_usesOnlyVariables post (nI V, x_regCount, x_phase, x_statementCount, x_accessCount, x_nextAddress, x_accumulator, x_register, x_init, x_statements, x_accessVar, x_follower, x_weight, x_firstLink, x_secondLink, x_chain, x_address, x_opcode, x_instrRegister, x_operand, x_codeLength, x_addrLoads, x_knownAddress, x_memory, x_addressRegister, x_output, x_outputCount) (nI o) d a b := by
  unfold wpX_usesOnlyVariables
  dsimp only
  rcases oa_8 h8 with h | rfl | rfl | rfl
  · refine br_t (nI_lt (b := 6) (by omega) (by decide)) (xa_iv _ (fun c1 => br_f (by decide) (xa_iv _ (fun c2 => br_f (by decide) (xa_iv _ (fun c3 => br_f (by decide) (h1 ?_)) (fun c3 => br_t rfl (h0 ?_)))) (fun c2 => br_t rfl (h0 ?_)))) (fun c1 => br_t rfl (h0 ?_)))
    · exact ⟨fun _ => ⟨c1, c2, c3⟩, fun z => by omega, fun z => by omega, fun z => by omega⟩
    · exact fun z => c3 (z.1 h).2.2
    · exact fun z => c2 (z.1 h).2.1
    · exact fun z => c1 (z.1 h).1
  · refine br_f (by decide) (br_f (by decide) (br_t rfl (xa_iv _ (fun c1 => br_f (by decide) (xa_iv _ (fun c2 => br_f (by decide) (h1 ?_)) (fun c2 => br_t rfl (h0 ?_)))) (fun c1 => br_t rfl (h0 ?_)))))
    · exact ⟨fun z => by omega, fun _ => ⟨c1, c2⟩, fun z => by omega, fun z => by omega⟩
    · exact fun z => c2 (z.2.1 rfl).2
    · exact fun z => c1 (z.2.1 rfl).1
  · refine br_f (by decide) (br_f (by decide) (br_f (by decide) (br_t rfl (xa_iv _ (fun c1 => ⟨rfl, h1 ?_⟩) (fun c1 => ⟨rfl, h0 ?_⟩)))))
    · exact ⟨fun z => by omega, fun z => by omega, fun _ => c1, fun z => by omega⟩
    · exact fun z => c1 (z.2.2.1 rfl)
  · refine br_f (by decide) (br_f (by decide) (br_f (by decide) (br_f (by decide) (br_t rfl (xa_iv _ (fun c1 => ⟨rfl, h1 ?_⟩) (fun c1 => ⟨rfl, h0 ?_⟩))))))
    · exact ⟨fun z => by omega, fun z => by omega, fun z => by omega, fun _ => c1⟩
    · exact fun z => c1 (z.2.2.2 rfl)
theorem xa_st {c : Nat} {o d a b : Int32} (hc : c < 32) (post : SX → Prop) (hp : post (x_varCount, x_regCount, x_phase, x_statementCount, x_accessCount, x_nextAddress, x_accumulator, x_register, x_init, (upd (upd (upd (upd x_statements (c * 4) o) (c * 4 + 1) d) (c * 4 + 2) a) (c * 4 + 3) b), x_accessVar, x_follower, x_weight, x_firstLink, x_secondLink, x_chain, x_address, x_opcode, x_instrRegister, x_operand, x_codeLength, x_addrLoads, x_knownAddress, x_memory, x_addressRegister, x_output, x_outputCount)) : wpX_storeStatement post (x_varCount, x_regCount, x_phase, x_statementCount, x_accessCount, x_nextAddress, x_accumulator, x_register, x_init, x_statements, x_accessVar, x_follower, x_weight, x_firstLink, x_secondLink, x_chain, x_address, x_opcode, x_instrRegister, x_operand, x_codeLength, x_addrLoads, x_knownAddress, x_memory, x_addressRegister, x_output, x_outputCount) (nI c) o d a b := by
  have e0 : nI (c * 4) + 0 = nI (c * 4) := Int32.add_zero _
  have e1 : nI (c * 4) + 1 = nI (c * 4 + 1) := nI_1 _
  have e2 : nI (c * 4) + 2 = nI (c * 4 + 2) := nI_add (c * 4) 2
  have e3 : nI (c * 4) + 3 = nI (c * 4 + 3) := nI_add (c * 4) 3
  refine nm_r (show _ = nI (c * 4) by rw [show (4 : Int32) = nI 4 from rfl, pk_mul]) ?_
  rw [e0, e1, e2, e3, nI_clamp (show c * 4 < 2 ^ 31 by omega), nI_clamp (show c * 4 + 1 < 2 ^ 31 by omega), nI_clamp (show c * 4 + 2 < 2 ^ 31 by omega), nI_clamp (show c * 4 + 3 < 2 ^ 31 by omega)]
  exact ⟨vp_in_nI (by omega) (by omega), nm_e ⟨vp_in_nI (by omega) (by omega), nm_e ⟨vp_in_nI (by omega) (by omega), nm_e ⟨vp_in_nI (by omega) (by omega), nm_e hp⟩⟩⟩⟩
theorem xa_a1 {n : Nat} {x : Int32} (hn : n < 96) (post : SX → Prop) (hp : post (x_varCount, x_regCount, x_phase, x_statementCount, (nI (n + 1)), x_nextAddress, x_accumulator, x_register, x_init, x_statements, upd x_accessVar n x, x_follower, x_weight, x_firstLink, x_secondLink, x_chain, x_address, x_opcode, x_instrRegister, x_operand, x_codeLength, x_addrLoads, x_knownAddress, x_memory, x_addressRegister, x_output, x_outputCount)) : wpX_appendAccess post (x_varCount, x_regCount, x_phase, x_statementCount, nI n, x_nextAddress, x_accumulator, x_register, x_init, x_statements, x_accessVar, x_follower, x_weight, x_firstLink, x_secondLink, x_chain, x_address, x_opcode, x_instrRegister, x_operand, x_codeLength, x_addrLoads, x_knownAddress, x_memory, x_addressRegister, x_output, x_outputCount) x :=
  ⟨vp_in_nI hn (by omega), nm_r (show _ = upd x_accessVar n x by rw [nI_clamp (by omega)]) (nm_r (nI_1 n) hp)⟩
theorem oa_vin {V : Nat} {x : Int32} (hV : V ≤ 16) (h : oa_in V x) : oa_vr V x := oa_in_c hV h
theorem xa_as {V o n : Nat} {d a b : Int32} (hV : V ≤ 16) (h8 : o ≤ 8) (hn : n + 3 ≤ 96) (ok : oa_ok V o d a b) (post : SX → Prop)
    (hp : ∀ P, (∀ j, j < n → P j = x_accessVar j) → oa_ST V (nI o) d a b P n → post (x_varCount, x_regCount, x_phase, x_statementCount, (nI (n + oa_na (nI o))), x_nextAddress, x_accumulator, x_register, x_init, x_statements, P, x_follower, x_weight, x_firstLink, x_secondLink, x_chain, x_address, x_opcode, x_instrRegister, x_operand, x_codeLength, x_addrLoads, x_knownAddress, x_memory, x_addressRegister, x_output, x_outputCount)) : wpX_appendAccesses post (x_varCount, x_regCount, x_phase, x_statementCount, nI n, x_nextAddress, x_accumulator, x_register, x_init, x_statements, x_accessVar, x_follower, x_weight, x_firstLink, x_secondLink, x_chain, x_address, x_opcode, x_instrRegister, x_operand, x_codeLength, x_addrLoads, x_knownAddress, x_memory, x_addressRegister, x_output, x_outputCount) (nI o) d a b := by
  unfold wpX_appendAccesses
  dsimp only
  obtain ⟨k5, k6, k7, k8⟩ := ok
  rcases oa_8 h8 with h | rfl | rfl | rfl
  · obtain ⟨c1, c2, c3⟩ := k5 h
    have n7 : ¬ nI o = 7 := fun z => by have := oa_inj (b := 7) (by omega) (by omega) z; omega
    have n8 : ¬ nI o = 8 := fun z => by have := oa_inj (b := 8) (by omega) (by omega) z; omega
    rw [oa_na5 h] at hp
    refine br_f n7 (xa_a1 (by omega) _ ?_)
    refine br_f (nI_nlt (a := 5) h (by decide)) (xa_a1 (by omega) _ ?_)
    refine br_f n8 (xa_a1 (by omega) _ (hp (upd (upd (upd x_accessVar n a) (n + 1) b) (n + 2) d) ?_ ?_))
    · intro j hj
      rw [pk_un (by omega), pk_un (by omega), pk_un (by omega)]
    · refine Or.inl ⟨o, h, rfl, oa_vin hV c1, oa_vin hV c2, oa_vin hV c3, ?_, ?_, ?_⟩
      · rw [pk_un (by omega), pk_un (by omega), pk_us]
      · rw [pk_un (by omega), pk_us]
      · exact pk_us
  · obtain ⟨c1, c2⟩ := k6 rfl
    refine br_f (by decide) (xa_a1 (by omega) _ ?_)
    refine br_t (by decide) ?_
    refine br_f (by decide) (xa_a1 (by omega) _ (hp (upd (upd x_accessVar n a) (n + 1) d) ?_ ?_))
    · intro j hj
      rw [pk_un (by omega), pk_un (by omega)]
    · refine Or.inr (Or.inl ⟨rfl, oa_vin hV c1, oa_vin hV c2, ?_, ?_⟩)
      · rw [pk_un (by omega), pk_us]
      · exact pk_us
  · have c1 := k7 rfl
    refine br_t rfl ?_
    refine br_t (by decide) ?_
    refine br_f (by decide) (xa_a1 (by omega) _ (hp (upd x_accessVar n d) ?_ ?_))
    · intro j hj
      rw [pk_un (by omega)]
    · exact Or.inr (Or.inr (Or.inl ⟨rfl, oa_vin hV c1, pk_us⟩))
  · have c1 := k8 rfl
    refine br_f (by decide) (xa_a1 (by omega) _ ?_)
    refine br_t (by decide) ?_
    refine br_t rfl (hp (upd x_accessVar n a) ?_ ?_)
    · intro j hj
      rw [pk_un (by omega)]
    · exact Or.inr (Or.inr (Or.inr ⟨rfl, oa_vin hV c1, pk_us⟩))
end
section
variable {y_nV y_nR y_count y_phase y_accN : Int32} {y_reg y_init y_sop y_sdest y_sa y_sb y_accV y_addr y_wt y_edge y_deg y_comp y_placed y_cOp y_cReg y_cOpd y_len y_loads y_kval y_kKnown y_mem y_outs y_outN y_ar : Nat → Int32}
theorem ya_as {V o cnt : Nat} {d a b : Int32} (h8 : o ≤ 8) (hc : cnt < 32) (post : Int32 → SY → Prop)
    (h1 : oa_ok V o d a b → post (nI cnt) (nI V, y_nR, (nI (cnt + 1)), 0, y_accN, y_reg, y_init, (upd y_sop cnt (nI o)), upd y_sdest cnt d, upd y_sa cnt a, upd y_sb cnt b, y_accV, y_addr, y_wt, y_edge, y_deg, y_comp, y_placed, y_cOp, y_cReg, y_cOpd, y_len, y_loads, y_kval, y_kKnown, y_mem, y_outs, y_outN, y_ar)) (h0 : ¬ oa_ok V o d a b → post (-3) (nI V, y_nR, nI cnt, y_phase, y_accN, y_reg, y_init, y_sop, y_sdest, y_sa, y_sb, y_accV, y_addr, y_wt, y_edge, y_deg, y_comp, y_placed, y_cOp, y_cReg, y_cOpd, y_len, y_loads, y_kval, y_kKnown, y_mem, y_outs, y_outN, y_ar)) :
    wpY_addStatement post (nI V, y_nR, nI cnt, y_phase, y_accN, y_reg, y_init, y_sop, y_sdest, y_sa, y_sb, y_accV, y_addr, y_wt, y_edge, y_deg, y_comp, y_placed, y_cOp, y_cReg, y_cOpd, y_len, y_loads, y_kval, y_kKnown, y_mem, y_outs, y_outN, y_ar) (nI o) d a b := by
  have ic : vp_in (nI cnt) 32 := vp_in_nI hc (by omega)
  have cc : (nI cnt).toNatClampNeg = cnt := nI_clamp (by omega)
  have h116 : oa_ok V o d a b → wY_addStatement_116 post (nI o) d a b (nI V) y_nR (nI cnt) y_phase y_accN y_reg y_init y_sop y_sdest y_sa y_sb y_accV y_addr y_wt y_edge y_deg y_comp y_placed y_cOp y_cReg y_cOpd y_len y_loads y_kval y_kKnown y_mem y_outs y_outN y_ar := by
    intro ok
    refine ⟨ic, ?_⟩
    rw [cc]
    refine nm_e ⟨ic, nm_e ⟨ic, nm_e ⟨ic, nm_e (nm_r (nI_1 cnt) ?_)⟩⟩⟩
    rw [nI_pred]
    exact h1 ok
  refine br_t (nI_lt (b := 32) hc (by decide)) (br_f (nI_pos (by omega)) (br_t (nI_le (b := 8) h8 (by decide)) ?_))
  rcases oa_8 h8 with h | rfl | rfl | rfl
  · have n6 : ¬ nI o = 6 := fun z => by have := oa_inj (b := 6) (by omega) (by omega) z; omega
    have n7 : ¬ nI o = 7 := fun z => by have := oa_inj (b := 7) (by omega) (by omega) z; omega
    have n8 : ¬ nI o = 8 := fun z => by have := oa_inj (b := 8) (by omega) (by omega) z; omega
    refine br_f (nI_nlt (a := 5) h (by decide)) (ya_bv _ (fun c1 => br_t rfl (ya_bv _ (fun c2 => br_t rfl (ya_bv _ (fun c3 => br_t rfl (br_f n6 (br_f n7 (br_f n8 (h116 ?_))))) (fun c3 => br_f (by decide) (h0 ?_)))) (fun c2 => br_f (by decide) (h0 ?_)))) (fun c1 => br_f (by decide) (h0 ?_)))
    · exact ⟨fun _ => ⟨c1, c2, c3⟩, fun z => by omega, fun z => by omega, fun z => by omega⟩
    · exact fun z => c3 (z.1 h).2.2
    · exact fun z => c2 (z.1 h).2.1
    · exact fun z => c1 (z.1 h).1
  · refine br_t (by decide) (br_t rfl (ya_bv _ (fun c1 => br_t rfl (ya_bv _ (fun c2 => br_t rfl (br_f (by decide) (br_f (by decide) (h116 ?_)))) (fun c2 => br_f (by decide) (h0 ?_)))) (fun c1 => br_f (by decide) (h0 ?_))))
    · exact ⟨fun z => by omega, fun _ => ⟨c1, c2⟩, fun z => by omega, fun z => by omega⟩
    · exact fun z => c2 (z.2.1 rfl).2
    · exact fun z => c1 (z.2.1 rfl).1
  · refine br_t (by decide) (br_f (by decide) (br_t rfl (ya_bv _ (fun c1 => br_t rfl (br_f (by decide) (h116 ?_))) (fun c1 => br_f (by decide) (h0 ?_)))))
    · exact ⟨fun z => by omega, fun z => by omega, fun _ => c1, fun z => by omega⟩
    · exact fun z => c1 (z.2.2.1 rfl)
  · refine br_t (by decide) (br_f (by decide) (br_f (by decide) (br_t rfl (ya_bv _ (fun c1 => br_t rfl (h116 ?_)) (fun c1 => br_f (by decide) (h0 ?_))))))
    · exact ⟨fun z => by omega, fun z => by omega, fun z => by omega, fun _ => c1⟩
    · exact fun z => c1 (z.2.2.2 rfl)
end
theorem i_vc_addStatement {k : Nat} {u : SX} {v : SY} (I : i_Rel k u v) (hk : k + 5 ≤ 2562) (v1 : Int32) (v2 : Int32) (v3 : Int32) (v4 : Int32) : wpX_addStatement (fun r u' => wpY_addStatement (fun r' v' => r' = r ∧ i_Rel (k + 5) u' v') v v1 v2 v3 v4) u v1 v2 v3 v4 := by
  obtain ⟨V, nR, ph, cnt, na, ac, aN, reg, ini, st, acc, fol, wt, fl, sl, ch, ad, op, rg, od, len, ld, kn, mx, arx, out, ocx, sop, sd, sa, sb, accY, ady, wtY, ed, dg, cp, pl, kv, kk, my, ocy, ary, rfl, rfl, I⟩ := I
  have I' := I
  obtain ⟨i1, i2, i3, i4, i5, i6, i7, i8, i9, i10⟩ := I'
  by_cases c0 : cnt < 32
  · have x0 : nI cnt < 32 := nI_lt (b := 32) c0 (by decide)
    by_cases c1 : v1 < 0
    · exact br_t x0 (br_t c1 (br_t x0 (br_t c1 ⟨rfl, oa_R I⟩)))
    · by_cases c2 : v1 ≤ 8
      · obtain ⟨o, ho, rfl⟩ := nI_of c1
        have h8 : o ≤ 8 := (nI_leI ho (by omega : 8 < 2 ^ 31)).mp c2
        have hn := oa_ps_le sop cnt
        refine br_t x0 (br_f c1 (br_t c2 (xa_uo h8 _ (fun ok => br_f (by decide) (xa_st c0 _ (xa_as i1.2 h8 (by omega) ok _ (fun P hP hst => nm_r (nI_1 cnt) (ya_as h8 c0 _ (fun _ => ⟨rfl, ?_⟩) (fun z => absurd ok z)))))) (fun ok => br_t rfl (ya_as h8 c0 _ (fun z => absurd z ok) (fun _ => ⟨rfl, oa_R I⟩))))))
        have ha := oa_SS_add i7 hP hst
        rw [← ha.2]
        exact oa_R (ph := 0) ⟨i1, i2, by omega, by omega, i5, oa_SR_add i6, ha.1, i8, fun h => absurd rfl h, fun h => by omega⟩
      · exact br_t x0 (br_f c1 (br_f c2 (br_t x0 (br_f c1 (br_f c2 ⟨rfl, oa_R I⟩)))))
  · have x0 : ¬ nI cnt < 32 := nI_nlt (b := 32) (by omega) (by omega)
    exact br_f x0 (br_f x0 ⟨rfl, oa_R I⟩)
end
section
/-! compile, on each side -/
section
variable {x_varCount x_regCount x_phase x_statementCount x_accessCount x_nextAddress x_accumulator : Int32} {x_register x_init x_statements x_accessVar x_follower x_weight x_firstLink x_secondLink x_chain x_address x_opcode x_instrRegister x_operand x_codeLength x_addrLoads x_knownAddress x_memory x_addressRegister x_output x_outputCount : Nat → Int32}
theorem xa_compile {V nR cnt : Nat} {sop sd sa sb e g p ay pl : Nat → Int32} {Q : oa_Q} {B : oa_B} {k K1 K2 : oa_K} (hV : V ≤ 16) (hR : 0 < nR) (hR4 : nR ≤ 4) (hc : cnt ≤ 32) (ss : oa_SS V cnt sop sd sa sb x_accessVar) (sr : oa_SR x_statements sop sd sa sb)
    (hQ : Q = oa_jw (oa_wA (oa_fill x_weight (fun _ => 0) 256) x_register x_accessVar (oa_ps sop cnt) (oa_ps sop cnt)) V 95 (oa_fill x_firstLink (fun _ => -1) V, oa_fill x_secondLink (fun _ => -1) V, oa_fill x_chain nI V, e, g, p))
    (hl : oa_LR V Q.1 Q.2.1) (hB : oa_aw x_register Q.1 Q.2.1 Q.2.2.1 V nR 0 (oa_fill x_address (fun _ => -1) V, ay, pl, 0) = B) (env : oa_env V nR (oa_ps sop cnt) x_register x_accessVar B.1)
    (hK1 : oa_tb x_register x_accessVar B.1 sop sa (oa_ps sop cnt) 0 cnt (oa_k0 nR 0 k (oa_kz k)) = K1) (hK2 : oa_tb x_register x_accessVar B.1 sop sa (oa_ps sop cnt) 1 cnt (oa_k0 nR 1 K1 (oa_kz K1)) = K2) (post : Int32 → SX → Prop)
    (hp : post (K2.2.2.2.2.1 1) (nI V, nI nR, 1, nI cnt, (nI (oa_ps sop cnt)), nI B.2.2.2, x_accumulator, x_register, x_init, x_statements, x_accessVar, (oa_fill x_follower (oa_fv x_register x_accessVar (oa_ps sop cnt)) (oa_ps sop cnt)), (oa_wA (oa_fill x_weight (fun _ => 0) 256) x_register x_accessVar (oa_ps sop cnt) (oa_ps sop cnt)), Q.1, Q.2.1, Q.2.2.1, B.1, K2.1, K2.2.1, K2.2.2.1, K2.2.2.2.1, K2.2.2.2.2.1, K2.2.2.2.2.2.1, x_memory, x_addressRegister, x_output, x_outputCount)) :
    wpX_compile post (nI V, nI nR, x_phase, nI cnt, (nI (oa_ps sop cnt)), x_nextAddress, x_accumulator, x_register, x_init, x_statements, x_accessVar, x_follower, x_weight, x_firstLink, x_secondLink, x_chain, x_address, k.1, k.2.1, k.2.2.1, k.2.2.2.1, k.2.2.2.2.1, k.2.2.2.2.2.1, x_memory, x_addressRegister, x_output, x_outputCount) := by
  have hn : oa_ps sop cnt ≤ 96 := by have := oa_ps_le sop cnt; omega
  have ha : ∀ i, i < oa_ps sop cnt → ∃ k, k < 16 ∧ x_accessVar i = nI k := by
    intro i hi
    obtain ⟨k, hk, ek⟩ := oa_SS_vr cnt ss i hi
    exact ⟨k, by omega, ek⟩
  have hF : ∀ j, j < oa_ps sop cnt → oa_fill x_follower (oa_fv x_register x_accessVar (oa_ps sop cnt)) (oa_ps sop cnt) j = oa_fv x_register x_accessVar (oa_ps sop cnt) j := fun j hj => oa_fill_lt hj
  unfold wpX_compile
  refine xa_ff hn ha _ ?_
  refine xa_cw hn ha hF _ ?_
  refine xa_jc hV e g p _ Q hQ ?_
  refine xa_aa hV hR4 hl ay pl _ B hB ?_
  refine xa_tb (w := 0) (k := k) (kk' := oa_kz k) (by omega) hR hR4 hc ss sr env hF (oa_kz_0 hR4 k) _ hK1 ?_
  refine xa_tb (w := 1) (k := K1) (kk' := oa_kz K1) (by omega) hR hR4 hc ss sr env hF (oa_kz_0 hR4 K1) _ hK2 ?_
  exact hp
end
section
variable {y_nV y_nR y_count y_phase y_accN : Int32} {y_reg y_init y_sop y_sdest y_sa y_sb y_accV y_addr y_wt y_edge y_deg y_comp y_placed y_cOp y_cReg y_cOpd y_len y_loads y_kval y_kKnown y_mem y_outs y_outN y_ar : Nat → Int32}
theorem ya_compile {V nR cnt : Nat} {f s c acc W : Nat → Int32} {q0 Q : oa_Q} {b0 B : oa_B} {k K1 K2 : oa_K} (hV : V ≤ 16) (hV0 : 0 < V) (hR : 0 < nR) (hR4 : nR ≤ 4) (hc : cnt ≤ 32) (ss : oa_SS V cnt y_sop y_sdest y_sa y_sb acc)
    (hq0 : q0 = (f, s, c, oa_fill y_edge (fun _ => 0) 256, oa_fill y_deg (fun _ => 0) 16, oa_fill y_comp nI 16)) (hqi : oa_QI V q0) (hW : ∀ u v, u < v → v < V → W (u * 16 + v) = oa_wY y_reg acc V (oa_ps y_sop cnt) (u * 16 + v))
    (hQ : Q = oa_jw W V 95 q0) (hb0 : b0.2.1 = y_addr ∧ b0.2.2.1 = oa_fill y_placed (fun _ => 0) 16 ∧ b0.2.2.2 = 0) (hbi : oa_BI V Q.1 Q.2.1 b0) (hB : oa_aw y_reg Q.1 Q.2.1 Q.2.2.1 V nR 0 b0 = B)
    (env : oa_env V nR (oa_ps y_sop cnt) y_reg acc B.1) (hay : ∀ v, v < V → B.2.1 v = B.1 v)
    (hK1 : oa_tb y_reg acc B.1 y_sop y_sa (oa_ps y_sop cnt) 0 cnt (oa_k0 nR 0 k (oa_kz k)) = K1) (hK2 : oa_tb y_reg acc B.1 y_sop y_sa (oa_ps y_sop cnt) 1 cnt (oa_k0 nR 1 K1 (oa_kz K1)) = K2) (post : Int32 → SY → Prop)
    (hp : ∀ A, post (K2.2.2.2.2.1 1) (nI V, nI nR, nI cnt, 1, (nI (oa_ps y_sop cnt)), y_reg, y_init, y_sop, y_sdest, y_sa, y_sb, A, B.2.1, (oa_fill y_wt (oa_wY y_reg A V (oa_ps y_sop cnt)) 256), Q.2.2.2.1, Q.2.2.2.2.1, Q.2.2.2.2.2, B.2.2.1, K2.1, K2.2.1, K2.2.2.1, K2.2.2.2.1, K2.2.2.2.2.1, K2.2.2.2.2.2.2.1, K2.2.2.2.2.2.2.2, y_mem, y_outs, (upd (upd y_outN 0 0) 1 0), y_ar)) :
    wpY_compile post (nI V, nI nR, nI cnt, y_phase, y_accN, y_reg, y_init, y_sop, y_sdest, y_sa, y_sb, y_accV, y_addr, y_wt, y_edge, y_deg, y_comp, y_placed, k.1, k.2.1, k.2.2.1, k.2.2.2.1, k.2.2.2.2.1, k.2.2.2.2.2.2.1, k.2.2.2.2.2.2.2, y_mem, y_outs, y_outN, y_ar) := by
  have hn : oa_ps y_sop cnt ≤ 96 := by have := oa_ps_le y_sop cnt; omega
  have ha : ∀ i, i < oa_ps y_sop cnt → ∃ k, k < 16 ∧ acc i = nI k := by
    intro i hi
    obtain ⟨k, hk, ek⟩ := oa_SS_vr cnt ss i hi
    exact ⟨k, by omega, ek⟩
  unfold wpY_compile
  refine ya_ba hc ss _ (fun A hA => ?_)
  have haA : ∀ i, i < oa_ps y_sop cnt → ∃ k, k < 16 ∧ A i = nI k := by
    intro i hi
    rw [hA i hi]; exact ha i hi
  have ssA : oa_SS V cnt y_sop y_sdest y_sa y_sb A := by
    intro i hi
    refine oa_ST_cg (ss i hi) (fun j _ hj => hA j ?_)
    have : oa_ps y_sop i + oa_na (y_sop i) ≤ oa_ps y_sop cnt := oa_ps_mono y_sop cnt (i + 1) hi
    omega
  have envA : oa_env V nR (oa_ps y_sop cnt) y_reg A B.2.1 := by
    obtain ⟨g1, g2, g3, g4, g5, g6⟩ := env
    refine ⟨g1, g2, g3, g4, fun j hj => ?_, fun v hv => ?_⟩
    · rw [hA j hj]; exact g5 j hj
    · rw [hay v hv]; exact g6 v hv
  have eA : ∀ u v, u < v → v < V → oa_wY y_reg A V (oa_ps y_sop cnt) (u * 16 + v) = oa_wY y_reg acc V (oa_ps y_sop cnt) (u * 16 + v) := by
    intro u v huv hv
    unfold oa_wY
    rw [(oa_ct_cg (oa_ps y_sop cnt) hA).2]
  have hW2 : ∀ u v, u < v → v < V → W (u * 16 + v) = oa_fill y_wt (oa_wY y_reg A V (oa_ps y_sop cnt)) 256 (u * 16 + v) := by
    intro u v huv hv
    rw [oa_fill_lt (by omega), eA u v huv hv]
    exact hW u v huv hv
  have h02 : ∀ u v, u < 16 → v < 16 → ¬ (u < v ∧ v < V) → oa_fill y_wt (oa_wY y_reg A V (oa_ps y_sop cnt)) 256 (u * 16 + v) = 0 := by
    intro u v hu hv hn
    rw [oa_fill_lt (by omega)]
    exact oa_wY_0 hv hn
  have hqQ : oa_QI V Q := by rw [hQ]; exact oa_jw_I hV 95 q0 hqi
  have eK1 : oa_tb y_reg A B.2.1 y_sop y_sa (oa_ps y_sop cnt) 0 cnt (oa_k0 nR 0 k (oa_kz k)) = K1 := by
    rw [oa_tb_cg env hA hay ss cnt (Nat.le_refl cnt)]; exact hK1
  have eK2 : oa_tb y_reg A B.2.1 y_sop y_sa (oa_ps y_sop cnt) 1 cnt (oa_k0 nR 1 K1 (oa_kz K1)) = K2 := by
    rw [oa_tb_cg env hA hay ss cnt (Nat.le_refl cnt)]; exact hK2
  have hgen : wY_compile_278 post 1 (nI B.2.2.2) (nI (nR * V)) (nI V) (nI nR) (nI cnt) y_phase (nI (oa_ps y_sop cnt)) y_reg y_init y_sop y_sdest y_sa y_sb A B.2.1 (oa_fill y_wt (oa_wY y_reg A V (oa_ps y_sop cnt)) 256) Q.2.2.2.1 Q.2.2.2.2.1 Q.2.2.2.2.2 B.2.2.1 k.1 k.2.1 k.2.2.1 k.2.2.2.1 k.2.2.2.2.1 k.2.2.2.2.2.2.1 k.2.2.2.2.2.2.2 y_mem y_outs y_outN y_ar := by
    have hmm : nR * V ≤ 4 * 16 := Nat.mul_le_mul hR4 hV
    refine br_t (by rw [pk_mul]; exact nI_le (Nat.le_refl _) (by omega)) ?_
    refine ya_gn (w := 0) (k := k) (by omega) hR hR4 hc ssA envA _ eK1 ?_
    refine ya_gn (w := 1) (k := K1) (by omega) hR hR4 hc ssA envA _ eK2 ?_
    exact nm_e (nm_e (hp A))
  have h278 := ya_c278 (y_count := nI cnt) hV hV0 hR4 hqQ.1 hqQ.2 post b0 B hbi hb0.2.2 hB hgen
  rw [hb0.1, hb0.2.1, hQ] at h278
  have h120 := ya_c120 hV hW2 h02 post q0 hqi h278
  rw [hq0] at h120
  have h85 := ya_c85 post h120 16 0 17 (by omega) (by omega)
  rw [oa_fill_0, oa_fill_0, oa_fill_0] at h85
  have h6 := ya_c6 hV hn haA post ⟨17, h85⟩ 256 0 257 (by omega) (by omega)
  rw [oa_fill_0, oa_fill_0] at h6
  exact ⟨257, h6⟩
end
end
section
/-! compile and run -/
theorem oa_q0_I {V : Nat} {fl sl ch ed dg cp : Nat → Int32} (hV : V ≤ 16) : oa_QI V (oa_fill fl (fun _ => -1) V, oa_fill sl (fun _ => -1) V, oa_fill ch nI V, oa_fill ed (fun _ => 0) 256, oa_fill dg (fun _ => 0) 16, oa_fill cp nI 16) := by
  refine ⟨oa_G0 hV (fun x hx => show oa_fill fl (fun _ => -1) V x = -1 from oa_fill_lt hx) (fun x hx => show oa_fill sl (fun _ => -1) V x = -1 from oa_fill_lt hx) (fun x hx => show oa_fill ch nI V x = nI x from oa_fill_lt hx), fun x hx => Or.inl ⟨show oa_fill fl (fun _ => -1) V x = -1 from oa_fill_lt hx, show oa_fill dg (fun _ => 0) 16 x = 0 from oa_fill_lt (by omega)⟩, fun x y hx hy => ⟨fun h => absurd (show oa_fill ed (fun _ => 0) 256 (x * 16 + y) = 0 from oa_fill_lt (by omega)) h, fun h => ?_⟩, fun x hx => ?_⟩
  · rcases h with h | h
    · have h' : oa_fill fl (fun _ => -1) V x = nI y := h
      rw [oa_fill_lt hx] at h'; exact absurd h'.symm (oa_ne (by omega))
    · have h' : oa_fill sl (fun _ => -1) V x = nI y := h
      rw [oa_fill_lt hx] at h'; exact absurd h'.symm (oa_ne (by omega))
  · show oa_fill cp nI 16 x = oa_fill ch nI V x
    rw [oa_fill_lt (by omega), oa_fill_lt hx]
theorem oa_b0_I {V : Nat} {f s ad ay pl : Nat → Int32} (hV : V ≤ 16) : oa_BI V f s (oa_fill ad (fun _ => -1) V, ay, oa_fill pl (fun _ => 0) 16, 0) := by
  have z : ∀ x, x < V → oa_fill pl (fun _ => 0) 16 x = 0 := fun x hx => oa_fill_lt (by omega)
  exact ⟨⟨(oa_cn_0 V z).symm, fun x hx _ => (oa_fill_lt hx : oa_fill ad (fun _ => -1) V x = -1), fun x hx h => absurd (z x hx) h, fun a ha => absurd ha (Nat.not_lt_zero a)⟩, fun x y hx _ h => absurd (z x hx) h⟩
theorem i_vc_compile {k : Nat} {u : SX} {v : SY} (I : i_Rel k u v) (hk : k + 5 ≤ 2562) : wpX_compile (fun r u' => wpY_compile (fun r' v' => r' = r ∧ i_Rel (k + 5) u' v') v) u := by
  obtain ⟨V, nR, ph, cnt, na, ac, aN, reg, ini, st, acc, fol, wt, fl, sl, ch, ad, op, rg, od, len, ld, kn, mx, arx, out, ocx, sop, sd, sa, sb, accY, ady, wtY, ed, dg, cp, pl, kv, kk, my, ocy, ary, rfl, rfl, i1, i2, i3, i4, i5, i6, i7, i8, i9, i10⟩ := I
  have hV : V ≤ 16 := i1.2
  have hn : oa_ps sop cnt ≤ 96 := by have := oa_ps_le sop cnt; omega
  have ha : ∀ i, i < oa_ps sop cnt → ∃ k, k < 16 ∧ acc i = nI k := by
    intro i hi
    obtain ⟨k, hk, ek⟩ := oa_SS_vr cnt i7 i hi
    exact ⟨k, by omega, ek⟩
  have hqi := oa_q0_I (fl := fl) (sl := sl) (ch := ch) (ed := ed) (dg := dg) (cp := cp) hV
  have hw0 : ∀ p, p < 256 → oa_fill wt (fun _ => 0) 256 p = 0 := fun p hp => oa_fill_lt hp
  have hW : ∀ u v, u < v → v < V → oa_wA (oa_fill wt (fun _ => 0) 256) reg acc (oa_ps sop cnt) (oa_ps sop cnt) (u * 16 + v) = oa_wY reg acc V (oa_ps sop cnt) (u * 16 + v) := fun u v huv hv => oa_wA_wY hV hw0 ha huv hv
  obtain ⟨Q, hQ⟩ : ∃ Q, Q = oa_jw (oa_wA (oa_fill wt (fun _ => 0) 256) reg acc (oa_ps sop cnt) (oa_ps sop cnt)) V 95 (oa_fill fl (fun _ => -1) V, oa_fill sl (fun _ => -1) V, oa_fill ch nI V, oa_fill ed (fun _ => 0) 256, oa_fill dg (fun _ => 0) 16, oa_fill cp nI 16) := ⟨_, rfl⟩
  have hqQ : oa_QI V Q := by rw [hQ]; exact oa_jw_I hV 95 _ hqi
  have hbi := oa_b0_I (f := Q.1) (s := Q.2.1) (ad := ad) (ay := ady) (pl := pl) hV
  obtain ⟨B, hB⟩ : ∃ B, oa_aw reg Q.1 Q.2.1 Q.2.2.1 V nR 0 (oa_fill ad (fun _ => -1) V, ady, oa_fill pl (fun _ => 0) 16, 0) = B := ⟨_, rfl⟩
  obtain ⟨bi, _, ball⟩ := oa_aw_I (reg := reg) hV hqQ.1 nR 0 _ hbi
  rw [hB] at bi ball
  have hall : ∀ x, x < V → B.2.2.1 x ≠ 0 := by
    intro x hx
    obtain ⟨r, hr, er⟩ := i5 x hx
    exact ball x r hx (by omega) (by omega) er
  obtain ⟨p1, p2⟩ := oa_A_all bi.1 hall
  have env : oa_env V nR (oa_ps sop cnt) reg acc B.1 := ⟨hV, i2.2, hn, i5, fun j hj => oa_SS_vr cnt i7 j hj, fun v hv => (p1 v hv).2⟩
  obtain ⟨K1, hK1⟩ : ∃ K1, oa_tb reg acc B.1 sop sa (oa_ps sop cnt) 0 cnt (oa_k0 nR 0 (op, rg, od, len, ld, kn, kv, kk) (oa_kz (op, rg, od, len, ld, kn, kv, kk))) = K1 := ⟨_, rfl⟩
  obtain ⟨K2, hK2⟩ : ∃ K2, oa_tb reg acc B.1 sop sa (oa_ps sop cnt) 1 cnt (oa_k0 nR 1 K1 (oa_kz K1)) = K2 := ⟨_, rfl⟩
  obtain ⟨L1, l1, k1⟩ := oa_tb_I (w := 0) i2.1 i4 i7 env (oa_k0_I (k := (op, rg, od, len, ld, kn, kv, kk)) (oa_kz_0 i2.2 (op, rg, od, len, ld, kn, kv, kk))) cnt (Nat.le_refl cnt)
  rw [hK1] at k1
  obtain ⟨L2, l2, k2⟩ := oa_tb_I (w := 1) i2.1 i4 i7 env (oa_k0_I (k := K1) (oa_kz_0 i2.2 K1)) cnt (Nat.le_refl cnt)
  rw [hK2] at k2
  have hC : ∀ w, w < 2 → ∃ L, L ≤ 192 ∧ oa_CI nR w L 32 K2.1 K2.2.1 K2.2.2.2.1 := by
    intro w hw
    have c : w = 0 ∨ w = 1 := by omega
    rcases c with rfl | rfl
    · exact ⟨L1, by omega, k2.1.2 0 L1 32 (by omega) (by omega) (oa_CI_up k1.1.1 i4)⟩
    · exact ⟨L2, by omega, oa_CI_up k2.1.1 i4⟩
  refine xa_compile (k := (op, rg, od, len, ld, kn, kv, kk)) hV i2.1 i2.2 i4 i7 i6 hQ (oa_G_LR hqQ.1) hB env hK1 hK2 _ ?_
  refine ya_compile (k := (op, rg, od, len, ld, kn, kv, kk)) hV (by omega) i2.1 i2.2 i4 i7 rfl hqi hW hQ ⟨rfl, rfl, rfl⟩ hbi hB env (fun v hv => (p1 v hv).1) hK1 hK2 _ (fun A => ⟨rfl, ?_⟩)
  exact oa_R (ph := 1) ⟨i1, i2, by omega, i4, i5, i6, i7, i8, fun _ => ⟨p1, p2, hC⟩, fun h => by omega⟩
theorem i_vc_run {k : Nat} {u : SX} {v : SY} (I : i_Rel k u v) (hk : k + 5 ≤ 2562) : wpX_run (fun r u' => wpY_run (fun r' v' => r' = r ∧ i_Rel (k + 5) u' v') v) u := by
  obtain ⟨V, nR, ph, cnt, na, ac, aN, reg, ini, st, acc, fol, wt, fl, sl, ch, ad, op, rg, od, len, ld, kn, mx, arx, out, ocx, sop, sd, sa, sb, accY, ady, wtY, ed, dg, cp, pl, kv, kk, my, ocy, ary, rfl, rfl, I⟩ := I
  have I' := I
  obtain ⟨i1, i2, i3, i4, i5, i6, i7, i8, i9, i10⟩ := I'
  have hV : V ≤ 16 := i1.2
  unfold wpX_run wpY_run
  dsimp only
  by_cases c0 : nI ph = 0
  · exact br_t c0 (br_t c0 ⟨rfl, oa_R I⟩)
  have p0 : ph ≠ 0 := fun z => c0 (by rw [z]; rfl)
  obtain ⟨p1, p2, hC⟩ := i9 p0
  obtain ⟨L0, l0, ci0⟩ := hC 0 (by omega)
  obtain ⟨L1, l1, ci1⟩ := hC 1 (by omega)
  have cell1 : ∀ v, v < V → (ad v).toNatClampNeg < V ∧ ad v = nI (ad v).toNatClampNeg := by
    intro v hv
    obtain ⟨_, a, ha, ea⟩ := p1 v hv
    have : (ad v).toNatClampNeg = a := by rw [ea]; exact nI_clamp (by omega)
    rw [this]; exact ⟨ha, ea⟩
  have mi0 := oa_m0_I (w := 0) (nR := nR) (ini := ini) (op := op) (cell := fun v => v) (m := (mx, arx, ac, out, ocx, my, ary, ocy)) hV i2.2 i8 (fun v hv => hv) (fun a ha => ⟨a, ha, rfl⟩)
  obtain ⟨M0, hM0⟩ : ∃ M0, oa_xs V 0 op rg od L0 (oa_m0 nR 0 V (fun v => v) ini (mx, arx, ac, out, ocx, my, ary, ocy)) = M0 := ⟨_, rfl⟩
  have me0 := oa_xs_I (rg := rg) (od := od) mi0 L0
  rw [hM0] at me0
  have mi1 := oa_m0_I (w := 1) (nR := nR) (ini := ini) (op := op) (cell := fun v => (ad v).toNatClampNeg) (m := M0) hV i2.2 me0.2.1 (fun v hv => (cell1 v hv).1) (fun a ha => by
    obtain ⟨v, hv, ev⟩ := p2 a ha
    exact ⟨v, hv, by show (ad v).toNatClampNeg = a; rw [ev]; exact nI_clamp (by omega)⟩)
  obtain ⟨M1, hM1⟩ : ∃ M1, oa_xs V 1 op rg od L1 (oa_m0 nR 1 V (fun v => (ad v).toNatClampNeg) ini M0) = M1 := ⟨_, rfl⟩
  have me1 := oa_xs_I (rg := rg) (od := od) mi1 L1
  rw [hM1] at me1
  have eo : ∀ w, w < 2 → M1.2.2.2.2.2.2.2 w = M1.2.2.2.2.1 w := by
    intro w hw
    have c : w = 0 ∨ w = 1 := by omega
    rcases c with rfl | rfl
    · have h := me1.2.2.2.2 0 (by omega)
      rw [h.1, h.2, me0.2.2.1, me0.2.2.2.1]
    · rw [me1.2.2.1, me1.2.2.2.1]
  have eq : ∀ w, w < 2 → ∃ q, q ≤ 32 ∧ M1.2.2.2.2.1 w = nI q := by
    intro w hw
    have c : w = 0 ∨ w = 1 := by omega
    rcases c with rfl | rfl
    · have h := me1.2.2.2.2 0 (by omega)
      exact ⟨_, ci0.2.2, by rw [h.1, me0.2.2.1]⟩
    · exact ⟨_, ci1.2.2, me1.2.2.1⟩
  refine br_f c0 ?_
  refine xa_rp (w := 0) (m := (mx, arx, ac, out, ocx, my, ary, ocy)) hV i2.2 (by omega) l0 ci0 (fun v hv => ⟨hv, if_pos rfl⟩) mi0 _ hM0 ?_
  refine xa_rp (w := 1) (m := M0) hV i2.2 (by omega) l1 ci1 (fun v hv => ⟨(cell1 v hv).1, (if_neg (by omega)).trans (cell1 v hv).2⟩) mi1 _ hM1 ?_
  refine br_f c0 ?_
  refine ya_rp (w := 0) (m := (mx, arx, ac, out, ocx, my, ary, ocy)) hV i2.2 (by omega) l0 ci0 (fun v hv => ⟨hv, if_pos rfl⟩) mi0 _ hM0 ?_
  refine ya_rp (w := 1) (m := M0) hV i2.2 (by omega) l1 ci1 (fun v hv => ⟨(cell1 v hv).1, (if_neg (by omega)).trans ((p1 v hv).1.trans (cell1 v hv).2)⟩) mi1 _ hM1 ?_
  exact ⟨eo 1 (by omega), oa_R (ph := 2) (ocx := M1.2.2.2.2.1) (ocy := M1.2.2.2.2.2.2.2) (mx := M1.1) (my := M1.2.2.2.2.2.1) (out := M1.2.2.2.1) (ac := M1.2.2.1) (arx := M1.2.1) (ary := M1.2.2.2.2.2.2.1) ⟨i1, i2, by omega, i4, i5, i6, i7, me1.2.1, fun _ => ⟨p1, p2, hC⟩, fun _ w hw => ⟨eo w hw, eq w hw⟩⟩⟩
end
