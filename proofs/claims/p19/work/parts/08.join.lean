/-! joining two variables, on both sides -/
def oa_lf (f : Nat → Int32) (x y : Nat) : Nat → Int32 := if f x = -1 then upd f x (nI y) else f
def oa_ls (f s : Nat → Int32) (x y : Nat) : Nat → Int32 := if f x = -1 then s else upd s x (nI y)
theorem oa_lf_n {f : Nat → Int32} {x y z : Nat} (h : z ≠ x) : oa_lf f x y z = f z := by
  unfold oa_lf
  split
  · exact pk_un h
  · rfl
theorem oa_ls_n {f s : Nat → Int32} {x y z : Nat} (h : z ≠ x) : oa_ls f s x y z = s z := by
  unfold oa_ls
  split
  · rfl
  · exact pk_un h
theorem oa_l_t {f s : Nat → Int32} {x y : Nat} (h : f x = -1) : oa_lf f x y x = nI y ∧ oa_ls f s x y x = s x := by
  unfold oa_lf oa_ls
  rw [if_pos h, if_pos h]
  exact ⟨pk_us, rfl⟩
theorem oa_l_f {f s : Nat → Int32} {x y : Nat} (h : f x ≠ -1) : oa_lf f x y x = f x ∧ oa_ls f s x y x = nI y := by
  unfold oa_lf oa_ls
  rw [if_neg h, if_neg h]
  exact ⟨rfl, pk_us⟩
theorem oa_J_mk {V u v : Nat} {f s c : Nat → Int32} (huv : u ≠ v) :
    oa_J V u v f s c (oa_lf (oa_lf f u v) v u) (oa_ls (oa_lf f u v) (oa_ls f s u v) v u) (oa_rn c (c v) (c u) V) := by
  have fv : oa_lf f u v v = f v := oa_lf_n (fun z => huv z.symm)
  have sv : oa_ls f s u v v = s v := oa_ls_n (fun z => huv z.symm)
  refine ⟨?_, ?_, ?_, ?_, ?_, ?_⟩
  · intro x _ h1 h2
    rw [oa_lf_n h2, oa_lf_n h1, oa_ls_n h2, oa_ls_n h1]
    exact ⟨rfl, rfl⟩
  · intro h
    rw [oa_lf_n huv, oa_ls_n huv]
    exact oa_l_t h
  · intro h
    rw [oa_lf_n huv, oa_ls_n huv]
    exact oa_l_f h
  · intro h
    have := oa_l_t (f := oa_lf f u v) (s := oa_ls f s u v) (x := v) (y := u) (by rw [fv]; exact h)
    rw [sv] at this
    exact this
  · intro h
    have := oa_l_f (f := oa_lf f u v) (s := oa_ls f s u v) (x := v) (y := u) (by rw [fv]; exact h)
    rw [fv] at this
    exact this
  · intro x hx
    unfold oa_rn
    by_cases e : c x = c v
    · rw [if_pos ⟨hx, e⟩, if_pos e]
    · rw [if_neg (fun z => e z.2), if_neg e]
/-- X's links against Y's edges, degrees, components -/
def oa_JR (V : Nat) (f s c ed dg cp : Nat → Int32) : Prop :=
  (∀ x, x < V → (f x = -1 ∧ dg x = 0) ∨ (f x ≠ -1 ∧ s x = -1 ∧ dg x = 1) ∨ (s x ≠ -1 ∧ dg x = 2)) ∧
  (∀ x y, x < V → y < V → (ed (x * 16 + y) ≠ 0 ↔ oa_lk f s x y)) ∧ (∀ x, x < V → cp x = c x)
theorem oa_JR_deg {V : Nat} {f s c ed dg cp : Nat → Int32} (g : oa_G V f s c) (r : oa_JR V f s c ed dg cp) {x : Nat} (hx : x < V) : dg x < 2 ↔ s x = -1 := by
  have g3 := g.2.2.1
  rcases r.1 x hx with ⟨h1, h2⟩ | ⟨h1, h2, h3⟩ | ⟨h1, h2⟩
  · rw [h2]
    constructor
    · intro _
      by_cases z : s x = -1
      · exact z
      · exact absurd h1 (g3 x hx z).1
    · intro _; decide
  · rw [h3]
    exact ⟨fun _ => h2, fun _ => by decide⟩
  · rw [h2]
    exact ⟨fun z => absurd z (by decide), fun z => absurd z h1⟩
theorem oa_JR_step {V u v : Nat} {f s c f' s' c' ed dg cp cp' : Nat → Int32} (hV : V ≤ 16) (hu : u < V) (hv : v < V) (g : oa_G V f s c) (su : s u = -1) (sv : s v = -1) (cc : c u ≠ c v) (j : oa_J V u v f s c f' s' c')
    (r : oa_JR V f s c ed dg cp) (hcp : ∀ x, x < V → cp' x = if cp x = cp v then cp u else cp x) :
    oa_JR V f' s' c' (upd (upd ed (u * 16 + v) 1) (v * 16 + u) 1) (upd (upd dg u (dg u + 1)) v (dg v + 1)) cp' := by
  have huv : u ≠ v := fun h => cc (by rw [h])
  have lk := oa_J_lk hV hu hv huv su sv j
  obtain ⟨j1, ju1, ju2, jv1, jv2, jc⟩ := j
  obtain ⟨r1, r2, r3⟩ := r
  have nv : nI v ≠ -1 := oa_ne (by omega)
  have nu : nI u ≠ -1 := oa_ne (by omega)
  refine ⟨?_, ?_, ?_⟩
  · intro x hx
    by_cases h1 : x = u
    · subst h1
      rw [pk_un huv, pk_us]
      rcases r1 x hx with ⟨h1, h2⟩ | ⟨h1, h2, h3⟩ | ⟨h1, h2⟩
      · exact Or.inr (Or.inl ⟨by rw [(ju1 h1).1]; exact nv, by rw [(ju1 h1).2]; exact su, by rw [h2]; decide⟩)
      · exact Or.inr (Or.inr ⟨by rw [(ju2 h1).2]; exact nv, by rw [h3]; decide⟩)
      · exact absurd su h1
    · by_cases h2 : x = v
      · subst h2
        rw [pk_us]
        rcases r1 x hx with ⟨h1, h2⟩ | ⟨h1, h2, h3⟩ | ⟨h1, h2⟩
        · exact Or.inr (Or.inl ⟨by rw [(jv1 h1).1]; exact nu, by rw [(jv1 h1).2]; exact sv, by rw [h2]; decide⟩)
        · exact Or.inr (Or.inr ⟨by rw [(jv2 h1).2]; exact nu, by rw [h3]; decide⟩)
        · exact absurd sv h1
      · rw [pk_un h2, pk_un h1, (j1 x hx h1 h2).1, (j1 x hx h1 h2).2]
        exact r1 x hx
  · intro x y hx hy
    rw [lk x y hx hy]
    by_cases h2 : x = v ∧ y = u
    · rw [h2.1, h2.2, pk_us]
      exact ⟨fun _ => Or.inr (Or.inr ⟨rfl, rfl⟩), fun _ => by decide⟩
    · rw [pk_un (fun z => h2 ((oa_cell (by omega) (by omega)).mp z))]
      by_cases h1 : x = u ∧ y = v
      · rw [h1.1, h1.2, pk_us]
        exact ⟨fun _ => Or.inr (Or.inl ⟨rfl, rfl⟩), fun _ => by decide⟩
      · rw [pk_un (fun z => h1 ((oa_cell (by omega) (by omega)).mp z)), r2 x y hx hy]
        constructor
        · exact Or.inl
        · rintro (h | h | h)
          · exact h
          · exact absurd h h1
          · exact absurd h h2
  · intro x hx
    rw [hcp x hx, jc x hx, r3 x hx, r3 u hu, r3 v hv]
