/-! all paths are placed: X's loops as a function. A state: addresses of X, of Y, the placed ones, the next address -/
abbrev oa_B : Type := (Nat → Int32) × (Nat → Int32) × (Nat → Int32) × Nat
def oa_b1 (b : oa_B) (k : Nat) : oa_B := (upd b.1 k (nI b.2.2.2), upd b.2.1 k (nI b.2.2.2), upd b.2.2.1 k 1, b.2.2.2 + 1)
def oa_tr (f s : Nat → Int32) : Nat → Int32 → Int32 → oa_B → oa_B
  | 0, _, _, b => b
  | d + 1, pr, cu, b => if cu = -1 then b else oa_tr f s d cu (oa_nt f s pr cu.toNatClampNeg) (oa_b1 b cu.toNatClampNeg)
theorem oa_tr_I {V : Nat} {f s c : Nat → Int32} (hV : V ≤ 16) (g : oa_G V f s c) : ∀ d pr cu (b : oa_B), oa_T V f s b.2.2.1 pr cu → oa_A V b.2.2.2 b.1 b.2.1 b.2.2.1 → V ≤ d + oa_cn b.2.2.1 V →
    (∃ pr', oa_T V f s (oa_tr f s d pr cu b).2.2.1 pr' (-1)) ∧ oa_A V (oa_tr f s d pr cu b).2.2.2 (oa_tr f s d pr cu b).1 (oa_tr f s d pr cu b).2.1 (oa_tr f s d pr cu b).2.2.1 ∧
    (∀ x, b.2.2.1 x ≠ 0 → (oa_tr f s d pr cu b).2.2.1 x ≠ 0) ∧ (∀ k, k < V → cu = nI k → (oa_tr f s d pr cu b).2.2.1 k ≠ 0) := by
  intro d
  induction d with
  | zero =>
    intro pr cu b t a hd
    have e : cu = -1 := by
      rcases t with ⟨h, _⟩ | ⟨k, hk, _, h0, _⟩
      · exact h
      · have := oa_cn_lt h0 V hk; omega
    subst e
    exact ⟨⟨pr, t⟩, a, fun x h => h, fun k hk h => absurd h.symm (oa_ne (by omega))⟩
  | succ d ih =>
    intro pr cu b t a hd
    rw [oa_tr]
    by_cases e : cu = -1
    · rw [if_pos e]
      subst e
      exact ⟨⟨pr, t⟩, a, fun x h => h, fun k hk h => absurd h.symm (oa_ne (by omega))⟩
    · rw [if_neg e]
      rcases t with ⟨h, _⟩ | ⟨k, hk, rfl, h0, h1, h2⟩
      · exact absurd h e
      · rw [nI_clamp (by omega)]
        have t : oa_T V f s b.2.2.1 pr (nI k) := Or.inr ⟨k, hk, rfl, h0, h1, h2⟩
        have q1 : upd b.2.2.1 k 1 k ≠ 0 := by rw [pk_us]; decide
        have q2 : ∀ x, x ≠ k → upd b.2.2.1 k 1 x = b.2.2.1 x := fun x hx => pk_un hx
        have st := oa_T_step hV g hk t q1 q2
        have sa := oa_A_step hV a hk h0 (t := 1) (by decide)
        have sc := oa_cn_up h0 q1 q2 V
        rw [if_pos hk] at sc
        obtain ⟨i1, i2, i3, i4⟩ := ih (nI k) (oa_nt f s pr k) (oa_b1 b k) st.1 sa.1 (by show V ≤ d + oa_cn (upd b.2.2.1 k 1) V; omega)
        have mono : ∀ x, b.2.2.1 x ≠ 0 → (oa_b1 b k).2.2.1 x ≠ 0 := by
          intro x hx
          show upd b.2.2.1 k 1 x ≠ 0
          by_cases z : x = k
          · rw [z]; exact q1
          · rw [q2 x z]; exact hx
        refine ⟨i1, i2, fun x hx => i3 x (mono x hx), fun k' hk' e' => ?_⟩
        have : k = k' := oa_inj (by omega) (by omega) e'
        subst this
        exact i3 k q1
/-- the smaller end, as both sides look for it -/
def oa_sm (s c : Nat → Int32) (x : Int32) : Nat → Nat → Int32
  | 0, _ => -1
  | d + 1, v => if c v = x ∧ s v = -1 then nI v else oa_sm s c x d (v + 1)
theorem oa_sm_e {V e : Nat} {s c : Nat → Int32} {x : Int32} (he : e < V) (h1 : c e = x ∧ s e = -1) (h2 : ∀ y, y < e → ¬ (c y = x ∧ s y = -1)) : ∀ d v, v + d = V → v ≤ e → oa_sm s c x d v = nI e := by
  intro d
  induction d with
  | zero => intro v hv hve; omega
  | succ d ih =>
    intro v hv hve
    rw [oa_sm]
    by_cases z : v = e
    · rw [z, if_pos h1]
    · rw [if_neg (h2 v (by omega))]; exact ih (v + 1) (by omega) (by omega)
def oa_a1 (reg f s c : Nat → Int32) (V : Nat) (r : Int32) (v : Nat) (b : oa_B) : oa_B :=
  if reg v = r ∧ b.1 v = -1 then oa_tr f s V (-1) (oa_sm s c (c v) V 0) b else b
def oa_av (reg f s c : Nat → Int32) (V : Nat) (r : Int32) : Nat → Nat → oa_B → oa_B
  | 0, _, b => b
  | d + 1, v, b => oa_av reg f s c V r d (v + 1) (oa_a1 reg f s c V r v b)
def oa_aw (reg f s c : Nat → Int32) (V : Nat) : Nat → Nat → oa_B → oa_B
  | 0, _, b => b
  | d + 1, r, b => oa_aw reg f s c V d (r + 1) (oa_av reg f s c V (nI r) V 0 b)
def oa_BI (V : Nat) (f s : Nat → Int32) (b : oa_B) : Prop := oa_A V b.2.2.2 b.1 b.2.1 b.2.2.1 ∧ oa_Cl V f s b.2.2.1
theorem oa_BI_un {V : Nat} {f s : Nat → Int32} {b : oa_B} (hV : V ≤ 16) (h : oa_BI V f s b) {v : Nat} (hv : v < V) : b.1 v = -1 ↔ b.2.2.1 v = 0 := by
  obtain ⟨⟨h1, h2, h3, h4⟩, _⟩ := h
  constructor
  · intro e
    by_cases z : b.2.2.1 v = 0
    · exact z
    · obtain ⟨_, a, ha, ea⟩ := h3 v hv z
      rw [e] at ea
      have := oa_cn_le b.2.2.1 V
      exact absurd ea.symm (oa_ne (by omega))
  · exact h2 v hv
theorem oa_a1_I {V v : Nat} {reg f s c : Nat → Int32} {r : Int32} {b : oa_B} (hV : V ≤ 16) (g : oa_G V f s c) (hv : v < V) (h : oa_BI V f s b) :
    oa_BI V f s (oa_a1 reg f s c V r v b) ∧ (∀ x, b.2.2.1 x ≠ 0 → (oa_a1 reg f s c V r v b).2.2.1 x ≠ 0) ∧ (reg v = r → (oa_a1 reg f s c V r v b).2.2.1 v ≠ 0) := by
  have un := oa_BI_un hV h hv
  unfold oa_a1
  by_cases z : reg v = r ∧ b.1 v = -1
  · rw [if_pos z]
    obtain ⟨e, he, ⟨hc, hs⟩, hl⟩ := oa_end g hv
    rw [oa_sm_e he ⟨hc, hs⟩ hl V 0 (by omega) (by omega)]
    have t := oa_T_start g hv he hc hs (un.mp z.2) h.2
    obtain ⟨⟨pr, i1⟩, i2, i3, i4⟩ := oa_tr_I hV g V (-1) (nI e) b t h.1 (by omega)
    have en := oa_T_end hV g hv he hc i1 (i4 e he rfl)
    exact ⟨⟨i2, en.1⟩, i3, fun _ => en.2⟩
  · rw [if_neg z]
    exact ⟨h, fun x hx => hx, fun hr => fun h0 => z ⟨hr, un.mpr h0⟩⟩
theorem oa_av_I {V : Nat} {reg f s c : Nat → Int32} {r : Int32} (hV : V ≤ 16) (g : oa_G V f s c) : ∀ d v b, v + d ≤ V → oa_BI V f s b →
    oa_BI V f s (oa_av reg f s c V r d v b) ∧ (∀ x, b.2.2.1 x ≠ 0 → (oa_av reg f s c V r d v b).2.2.1 x ≠ 0) ∧ (∀ x, v ≤ x → x < v + d → reg x = r → (oa_av reg f s c V r d v b).2.2.1 x ≠ 0) := by
  intro d
  induction d with
  | zero => intro v b _ h; exact ⟨h, fun x hx => hx, fun x h1 h2 => by omega⟩
  | succ d ih =>
    intro v b hv h
    obtain ⟨a1, a2, a3⟩ := oa_a1_I (reg := reg) (r := r) hV g (show v < V by omega) h
    obtain ⟨i1, i2, i3⟩ := ih (v + 1) _ (by omega) a1
    refine ⟨i1, fun x hx => i2 x (a2 x hx), fun x h1 h2 hr => ?_⟩
    by_cases z : x = v
    · rw [z] at hr ⊢; exact i2 v (a3 hr)
    · exact i3 x (by omega) (by omega) hr
theorem oa_aw_I {V : Nat} {reg f s c : Nat → Int32} (hV : V ≤ 16) (g : oa_G V f s c) : ∀ d r b, oa_BI V f s b →
    oa_BI V f s (oa_aw reg f s c V d r b) ∧ (∀ x, b.2.2.1 x ≠ 0 → (oa_aw reg f s c V d r b).2.2.1 x ≠ 0) ∧ (∀ x r', x < V → r ≤ r' → r' < r + d → reg x = nI r' → (oa_aw reg f s c V d r b).2.2.1 x ≠ 0) := by
  intro d
  induction d with
  | zero => intro r b h; exact ⟨h, fun x hx => hx, fun x r' _ h1 h2 => by omega⟩
  | succ d ih =>
    intro r b h
    obtain ⟨a1, a2, a3⟩ := oa_av_I (reg := reg) (r := nI r) hV g V 0 b (by omega) h
    obtain ⟨i1, i2, i3⟩ := ih (r + 1) _ a1
    refine ⟨i1, fun x hx => i2 x (a2 x hx), fun x r' hx h1 h2 hr => ?_⟩
    by_cases z : r' = r
    · rw [z] at hr; exact i2 x (a3 x (by omega) (by omega) hr)
    · exact i3 x r' hx (by omega) (by omega) hr
/-- Y's loop over t = r * V + v -/
theorem oa_Y_av {V : Nat} {reg f s c : Nat → Int32} {YW : Nat → Nat → oa_B → Prop} (hV : V ≤ 16) (g : oa_G V f s c) {r : Nat}
    (hY : ∀ v n b, v < V → oa_BI V f s b → YW n (r * V + v + 1) (oa_a1 reg f s c V (nI r) v b) → YW (n + 1) (r * V + v) b) :
    ∀ d v n b, v + d = V → oa_BI V f s b → YW n (r * V + V) (oa_av reg f s c V (nI r) d v b) → YW (n + d) (r * V + v) b := by
  intro d
  induction d with
  | zero =>
    intro v n b hv _ h
    have e : r * V + V = r * V + v := by omega
    rw [e] at h
    exact h
  | succ d ih =>
    intro v n b hv hb h
    exact hY v (n + d) b (by omega) hb (ih (v + 1) n _ (by omega) (oa_a1_I hV g (by omega) hb).1 h)
theorem oa_Y_aw {V nR : Nat} {reg f s c : Nat → Int32} {YW : Nat → Nat → oa_B → Prop} (hV : V ≤ 16) (g : oa_G V f s c)
    (hY : ∀ r v n b, r < nR → v < V → oa_BI V f s b → YW n (r * V + v + 1) (oa_a1 reg f s c V (nI r) v b) → YW (n + 1) (r * V + v) b) :
    ∀ d r n b, r + d = nR → oa_BI V f s b → YW n (nR * V) (oa_aw reg f s c V d r b) → YW (n + d * V) (r * V) b := by
  intro d
  induction d with
  | zero => intro r n b hr _ h; rw [← show r = nR by omega] at h; rw [Nat.zero_mul]; exact h
  | succ d ih =>
    intro r n b hr hb h
    have h2 := ih (r + 1) n _ (by omega) (oa_av_I (reg := reg) (r := nI r) hV g V 0 b (by omega) hb).1 h
    rw [Nat.succ_mul] at h2
    have h3 := oa_Y_av hV g (fun v n b hv hb h => hY r v n b (by omega) hv hb h) V 0 (n + d * V) b (by omega) hb h2
    rw [Nat.succ_mul, ← Nat.add_assoc]
    exact h3
