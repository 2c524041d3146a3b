/-! a machine that knows variables alone: their values, the accumulator, the outputs, their number; each program is that machine, seen through its cells -/
abbrev oa_S : Type := (Nat → Int32) × Int32 × (Nat → Int32) × Nat
def oa_sa (o : Int32) (v : Nat) (s : oa_S) : oa_S := if o = 8 then (upd s.1 v s.2.1, s.2) else (s.1, oa_cb o s.2.1 (s.1 v), s.2.2)
def oa_so (s : oa_S) : oa_S := (s.1, s.2.1, upd s.2.2.1 s.2.2.2 s.2.1, s.2.2.2 + 1)
def oa_sc (x : Int32) (s : oa_S) : oa_S := (s.1, x, s.2.2)
def oa_sv (acc : Nat → Int32) (o : Int32) (j : Nat) (s : oa_S) : oa_S := oa_sa o (acc j).toNatClampNeg s
def oa_s1 (acc : Nat → Int32) (o a : Int32) (p : Nat) (s : oa_S) : oa_S :=
  if o ≤ 5 then oa_sv acc 8 (p + 2) (oa_sv acc (2 + o) (p + 1) (oa_sv acc 1 p s))
  else if o = 6 then oa_sv acc 8 (p + 1) (oa_sv acc 1 p s)
  else if o = 7 then oa_sv acc 8 p (oa_sc a s)
  else oa_so (oa_sv acc 1 p s)
def oa_sn (acc sop sa : Nat → Int32) : Nat → oa_S → oa_S
  | 0, s => s
  | i + 1, s => oa_s1 acc (sop i) (sa i) (oa_ps sop i) (oa_sn acc sop sa i s)
theorem oa_sv_n (acc : Nat → Int32) (o : Int32) (j : Nat) (s : oa_S) : (oa_sv acc o j s).2.2.2 = s.2.2.2 := by
  unfold oa_sv oa_sa
  split <;> rfl
theorem oa_s1_5 {acc : Nat → Int32} {z p : Nat} {a : Int32} {s : oa_S} (h : z ≤ 5) : oa_s1 acc (nI z) a p s = oa_sv acc (nI 8) (p + 2) (oa_sv acc (nI (2 + z)) (p + 1) (oa_sv acc (nI 1) p s)) := by
  unfold oa_s1
  rw [if_pos (show nI z ≤ 5 from nI_le (b := 5) h (by decide)), ← nI_add 2 z]
  rfl
theorem oa_s1_6 {acc : Nat → Int32} {p : Nat} {a : Int32} {s : oa_S} : oa_s1 acc 6 a p s = oa_sv acc (nI 8) (p + 1) (oa_sv acc (nI 1) p s) := by
  unfold oa_s1
  rw [if_neg (by decide), if_pos rfl]
  rfl
theorem oa_s1_7 {acc : Nat → Int32} {p : Nat} {a : Int32} {s : oa_S} : oa_s1 acc 7 a p s = oa_sv acc (nI 8) p (oa_sc a s) := by
  unfold oa_s1
  rw [if_neg (by decide), if_neg (by decide), if_pos rfl]
  rfl
theorem oa_s1_8 {acc : Nat → Int32} {p : Nat} {a : Int32} {s : oa_S} : oa_s1 acc 8 a p s = oa_so (oa_sv acc (nI 1) p s) := by
  unfold oa_s1
  rw [if_neg (by decide), if_neg (by decide), if_neg (by decide)]
  rfl
theorem oa_tt_5 {reg acc ad : Nat → Int32} {n w z p : Nat} {a : Int32} {k : oa_K} (h : z ≤ 5) : oa_tt reg acc ad n w (nI z) a p k = oa_ac reg acc ad n w (nI 8) (p + 2) (oa_ac reg acc ad n w (nI (2 + z)) (p + 1) (oa_ac reg acc ad n w (nI 1) p k)) := by
  unfold oa_tt
  rw [if_pos (show nI z ≤ 5 from nI_le (b := 5) h (by decide)), ← nI_add 2 z]
  rfl
theorem oa_tt_6 {reg acc ad : Nat → Int32} {n w p : Nat} {a : Int32} {k : oa_K} : oa_tt reg acc ad n w 6 a p k = oa_ac reg acc ad n w (nI 8) (p + 1) (oa_ac reg acc ad n w (nI 1) p k) := by
  unfold oa_tt
  rw [if_neg (by decide), if_pos rfl]
  rfl
theorem oa_tt_7 {reg acc ad : Nat → Int32} {n w p : Nat} {a : Int32} {k : oa_K} : oa_tt reg acc ad n w 7 a p k = oa_ac reg acc ad n w (nI 8) p (oa_em w (nI 9) (nI 0) a k) := by
  unfold oa_tt
  rw [if_neg (by decide), if_neg (by decide), if_pos rfl]
  rfl
theorem oa_tt_8 {reg acc ad : Nat → Int32} {n w p : Nat} {a : Int32} {k : oa_K} : oa_tt reg acc ad n w 8 a p k = oa_em w (nI 10) (nI 0) 0 (oa_ac reg acc ad n w (nI 1) p k) := by
  unfold oa_tt
  rw [if_neg (by decide), if_neg (by decide), if_neg (by decide)]
  rfl
theorem oa_em_kn {w : Nat} {o r x : Int32} {k : oa_K} : (oa_em w o r x k).2.2.2.2.2.1 = k.2.2.2.2.2.1 := rfl
theorem oa_s1_n {V p : Nat} {acc : Nat → Int32} {o d a b : Int32} {s : oa_S} (st : oa_ST V o d a b acc p) : (oa_s1 acc o a p s).2.2.2 ≤ s.2.2.2 + 1 := by
  rcases st with ⟨z, hz, rfl, -⟩ | ⟨rfl, -⟩ | ⟨rfl, -⟩ | ⟨rfl, -⟩
  · rw [oa_s1_5 hz, oa_sv_n, oa_sv_n, oa_sv_n]; omega
  · rw [oa_s1_6, oa_sv_n, oa_sv_n]; omega
  · rw [oa_s1_7, oa_sv_n]
    show s.2.2.2 ≤ s.2.2.2 + 1
    omega
  · rw [oa_s1_8]
    show (oa_sv acc (nI 1) p s).2.2.2 + 1 ≤ s.2.2.2 + 1
    rw [oa_sv_n]
    omega
/-- program w at m stands where s stands; kn: what is known of the address registers -/
def oa_RP (V nR w : Nat) (cell : Nat → Nat) (kn : Nat → Int32) (m : oa_M) (s : oa_S) : Prop :=
  (∀ v, v < V → m.1 (16 * w + cell v) = s.1 v) ∧ m.2.2.1 = s.2.1 ∧ m.2.2.2.2.1 w = nI s.2.2.2 ∧ (∀ j, j < s.2.2.2 → m.2.2.2.1 (32 * w + j) = s.2.2.1 j) ∧ (∀ r, r < nR → kn r ≠ -1 → m.2.1 r = kn r)
theorem oa_RP_l {V nR w r : Nat} {cell : Nat → Nat} {kn : Nat → Int32} {p : Int32} {m : oa_M} {s : oa_S} (hr : r < 2 ^ 31) (h : oa_RP V nR w cell kn m s) : oa_RP V nR w cell (upd kn r p) (oa_x1 V w 0 (nI r) p m) s := by
  obtain ⟨h1, h2, h3, h4, h5⟩ := h
  unfold oa_x1
  rw [if_pos (show (0 : Int32) = 0 from rfl), nI_clamp hr]
  refine ⟨h1, h2, h3, h4, fun r' hr' hn => ?_⟩
  show upd m.2.1 r p r' = upd kn r p r'
  by_cases e : r' = r
  · rw [e, pk_us, pk_us]
  · rw [pk_un e] at hn
    rw [pk_un e, pk_un e]
    exact h5 r' hr' hn
theorem oa_RP_x {V nR w v r : Nat} {cell : Nat → Nat} {kn : Nat → Int32} {o x : Int32} {m : oa_M} {s : oa_S} (hV : V ≤ 16) (hv : v < V) (hc : cell v < V) (hi : ∀ y, y < V → cell y = cell v → y = v) (n0 : ¬ o = 0) (n9 : ¬ o = 9) (n10 : ¬ o = 10)
    (ha : m.2.1 r = nI (cell v)) (hr : r < 2 ^ 31) (h : oa_RP V nR w cell kn m s) : oa_RP V nR w cell (upd kn r (nI (cell v) + x)) (oa_x1 V w o (nI r) x m) (oa_sa o v s) := by
  obtain ⟨h1, h2, h3, h4, h5⟩ := h
  have ci : oa_in V (m.2.1 r) := by
    rw [ha]
    exact ⟨nI_pos' (by omega), nI_lt hc (by omega)⟩
  have cc : (m.2.1 r).toNatClampNeg = cell v := by
    rw [ha]
    exact nI_clamp (by omega)
  have hk : ∀ r', r' < nR → upd kn r (nI (cell v) + x) r' ≠ -1 → upd m.2.1 r (m.2.1 r + x) r' = upd kn r (nI (cell v) + x) r' := by
    intro r' hr' hn
    by_cases e : r' = r
    · rw [e, pk_us, pk_us, ha]
    · rw [pk_un e] at hn
      rw [pk_un e, pk_un e]
      exact h5 r' hr' hn
  unfold oa_x1
  rw [if_neg n0, if_neg n9, if_neg n10, nI_clamp hr]
  unfold oa_sa
  by_cases c8 : o = 8
  · rw [if_pos c8, if_pos c8, if_pos ci, if_pos ci, cc]
    refine ⟨fun y hy => ?_, h2, h3, h4, hk⟩
    show upd m.1 (16 * w + cell v) m.2.2.1 (16 * w + cell y) = upd s.1 v s.2.1 y
    by_cases e : y = v
    · rw [e, pk_us, pk_us, h2]
    · rw [pk_un (show 16 * w + cell y ≠ 16 * w + cell v from fun z => e (hi y hy (by omega))), pk_un e]
      exact h1 y hy
  · rw [if_neg c8, if_neg c8, if_pos ci, cc]
    refine ⟨h1, ?_, h3, h4, hk⟩
    show oa_cb o m.2.2.1 (m.1 (16 * w + cell v)) = oa_cb o s.2.1 (s.1 v)
    rw [h1 v hv, h2]
theorem oa_RP_9 {V nR w : Nat} {cell : Nat → Nat} {kn : Nat → Int32} {r a : Int32} {m : oa_M} {s : oa_S} (h : oa_RP V nR w cell kn m s) : oa_RP V nR w cell kn (oa_x1 V w (nI 9) r a m) (oa_sc a s) := by
  rw [show nI 9 = 9 from rfl]
  obtain ⟨h1, h2, h3, h4, h5⟩ := h
  unfold oa_x1
  rw [if_neg (show ¬ (9 : Int32) = 0 by decide), if_pos (show (9 : Int32) = 9 from rfl)]
  exact ⟨h1, rfl, h3, h4, h5⟩
theorem oa_RP_10 {V nR w : Nat} {cell : Nat → Nat} {kn : Nat → Int32} {r x : Int32} {m : oa_M} {s : oa_S} (hq : s.2.2.2 < 2 ^ 31) (h : oa_RP V nR w cell kn m s) : oa_RP V nR w cell kn (oa_x1 V w (nI 10) r x m) (oa_so s) := by
  rw [show nI 10 = 10 from rfl]
  obtain ⟨h1, h2, h3, h4, h5⟩ := h
  have cq : (m.2.2.2.2.1 w).toNatClampNeg = s.2.2.2 := by
    rw [h3]
    exact nI_clamp hq
  unfold oa_x1
  rw [if_neg (show ¬ (10 : Int32) = 0 by decide), if_neg (show ¬ (10 : Int32) = 9 by decide), if_pos (show (10 : Int32) = 10 from rfl), cq]
  refine ⟨h1, h2, ?_, fun j hj => ?_, h5⟩
  · show upd m.2.2.2.2.1 w (m.2.2.2.2.1 w + 1) w = nI (s.2.2.2 + 1)
    rw [pk_us, h3, nI_1]
  · show upd m.2.2.2.1 (32 * w + s.2.2.2) m.2.2.1 (32 * w + j) = upd s.2.2.1 s.2.2.2 s.2.1 j
    have hj' : j < s.2.2.2 + 1 := hj
    by_cases e : j = s.2.2.2
    · rw [e, pk_us, pk_us, h2]
    · rw [pk_un (show 32 * w + j ≠ 32 * w + s.2.2.2 by omega), pk_un e]
      exact h4 j (by omega)
/-! the machine while the code is made -/
theorem oa_xs_cg {V w : Nat} {op op' rg rg' od od' : Nat → Int32} {m : oa_M} : ∀ n, (∀ i, i < n → op' (192 * w + i) = op (192 * w + i) ∧ rg' (192 * w + i) = rg (192 * w + i) ∧ od' (192 * w + i) = od (192 * w + i)) →
    oa_xs V w op' rg' od' n m = oa_xs V w op rg od n m := by
  intro n
  induction n with
  | zero => intro _; rfl
  | succ n ih =>
    intro h
    obtain ⟨h1, h2, h3⟩ := h n (by omega)
    rw [oa_xs, oa_xs, ih (fun i hi => h i (by omega)), h1, h2, h3]
/-- program w as it stands in k, run from m -/
def oa_E (V w : Nat) (m : oa_M) (k : oa_K) : oa_M := oa_xs V w k.1 k.2.1 k.2.2.1 (k.2.2.2.1 w).toNatClampNeg m
theorem oa_E_em {V w L : Nat} {o r x : Int32} {k : oa_K} {m : oa_M} (hL : k.2.2.2.1 w = nI L) (hL2 : L < 192) : oa_E V w m (oa_em w o r x k) = oa_x1 V w o r x (oa_E V w m k) := by
  have eL : (k.2.2.2.1 w).toNatClampNeg = L := by
    rw [hL]
    exact nI_clamp (by omega)
  have eN : (upd k.2.2.2.1 w (k.2.2.2.1 w + 1) w).toNatClampNeg = L + 1 := by
    rw [pk_us, hL, nI_1]
    exact nI_clamp (by omega)
  have cg := oa_xs_cg (V := V) (w := w) (m := m) (op := k.1) (op' := upd k.1 (192 * w + L) o) (rg := k.2.1) (rg' := upd k.2.1 (192 * w + L) r) (od := k.2.2.1) (od' := upd k.2.2.1 (192 * w + L) x) L (fun i hi => ⟨pk_un (by omega), pk_un (by omega), pk_un (by omega)⟩)
  show oa_xs V w (upd k.1 (192 * w + (k.2.2.2.1 w).toNatClampNeg) o) (upd k.2.1 (192 * w + (k.2.2.2.1 w).toNatClampNeg) r) (upd k.2.2.1 (192 * w + (k.2.2.2.1 w).toNatClampNeg) x) (upd k.2.2.2.1 w (k.2.2.2.1 w + 1) w).toNatClampNeg m = oa_x1 V w o r x (oa_xs V w k.1 k.2.1 k.2.2.1 (k.2.2.2.1 w).toNatClampNeg m)
  rw [eN, eL, oa_xs, pk_us, pk_us, pk_us, cg]
theorem oa_E_mk {V w w' R : Nat} {k : oa_K} {m : oa_M} : oa_E V w m (oa_mk w' R k) = oa_E V w m k := rfl
theorem oa_E_st {V w w' R : Nat} {x : Int32} {k : oa_K} {m : oa_M} : oa_E V w m (oa_st w' R x k) = oa_E V w m k := rfl
section
variable {V nR w n : Nat} {reg acc ad : Nat → Int32} {cell : Nat → Nat} {k0 : oa_K} {m : oa_M}
theorem oa_RP_ac {L q j o : Nat} {k : oa_K} {s : oa_S} (e : oa_env V nR n reg acc ad) (hj : j < n) (h : oa_KI nR w L q k0 k) (hL : L + 2 ≤ 192) (ho : 0 < o) (ho2 : o < 9)
    (hc : ∀ v, v < V → cell v < V ∧ (if w = 0 then nI v else ad v) = nI (cell v)) (hi : ∀ x y, x < V → y < V → cell x = cell y → x = y)
    (hp : oa_RP V nR w cell k.2.2.2.2.2.1 (oa_E V w m k) s) : oa_RP V nR w cell (oa_ac reg acc ad n w (nI o) j k).2.2.2.2.2.1 (oa_E V w m (oa_ac reg acc ad n w (nI o) j k)) (oa_sv acc (nI o) j s) := by
  obtain ⟨v, r, a, hv, hr, ha, e1, e2, e3, e4, e5, e6⟩ := oa_env_j (w := w) e hj
  have hV := e.1
  have hR := e.2.1
  have cv := hc v hv
  have hr31 : r < 2 ^ 31 := by omega
  have ep : oa_pa acc ad w j = nI (cell v) := by
    unfold oa_pa
    rw [e2, e1]
    exact cv.2
  have n0 : ¬ nI o = 0 := fun z => by have := oa_inj (b := 0) (by omega) (by omega) z; omega
  have n9 : ¬ nI o = 9 := fun z => by have := oa_inj (b := 9) (by omega) (by omega) z; omega
  have n10 : ¬ nI o = 10 := fun z => by have := oa_inj (b := 10) (by omega) (by omega) z; omega
  have nc : nI (cell v) ≠ -1 := oa_ne (by omega)
  obtain ⟨L1, hL1, h1⟩ := oa_ld_C (ad := ad) e3 hr h.1 (by omega)
  have H : oa_RP V nR w cell (upd k.2.2.2.2.2.1 r (nI (cell v))) (oa_E V w m (oa_ld reg acc ad w j k)) s := by
    by_cases c : w = 0 ∨ k.2.2.2.2.2.1 (reg (acc j).toNatClampNeg).toNatClampNeg ≠ oa_pa acc ad w j
    · have el : oa_ld reg acc ad w j k = oa_mk w (reg (acc j).toNatClampNeg).toNatClampNeg (oa_em w 0 (reg (acc j).toNatClampNeg) (oa_pa acc ad w j) k) := if_pos c
      rw [el, oa_E_mk, oa_E_em h.1.1.1 (by omega), e3, ep]
      exact oa_RP_l hr31 hp
    · have el : oa_ld reg acc ad w j k = k := if_neg c
      rw [el]
      rw [e4, ep] at c
      have cp : k.2.2.2.2.2.1 r = nI (cell v) := by
        by_cases z : k.2.2.2.2.2.1 r = nI (cell v)
        · exact z
        · exact absurd (Or.inr z) c
      obtain ⟨a1, a2, a3, a4, a5⟩ := hp
      refine ⟨a1, a2, a3, a4, fun r' hr' hn => ?_⟩
      by_cases e' : r' = r
      · rw [e', pk_us, ← cp]
        exact a5 r hr (by rw [cp]; exact nc)
      · rw [pk_un e'] at hn ⊢
        exact a5 r' hr' hn
  have ax : (oa_E V w m (oa_ld reg acc ad w j k)).2.1 r = nI (cell v) := by
    have := H.2.2.2.2 r hr (by rw [pk_us]; exact nc)
    rw [pk_us] at this
    exact this
  have eE : oa_E V w m (oa_ac reg acc ad n w (nI o) j k) = oa_x1 V w (nI o) (nI r) (oa_ms reg acc ad n w j) (oa_E V w m (oa_ld reg acc ad w j k)) := by
    unfold oa_ac
    rw [oa_E_st, oa_E_em h1.1.1 (by omega), e3]
  have ek : (oa_ac reg acc ad n w (nI o) j k).2.2.2.2.2.1 = upd k.2.2.2.2.2.1 r (nI (cell v) + oa_ms reg acc ad n w j) := by
    have l2 := (oa_ld_kn reg acc ad w j k).1
    rw [← l2, ← e4, ← ep]
    rfl
  rw [ek, eE]
  have X := oa_RP_x (o := nI o) (x := oa_ms reg acc ad n w j) hV hv cv.1 (fun y hy z => hi y v hy hv z) n0 n9 n10 ax hr31 H
  rw [oa_uu] at X
  unfold oa_sv
  rw [e2]
  exact X
theorem oa_RP_tt {L q p : Nat} {o d a b : Int32} {k : oa_K} {s : oa_S} (e : oa_env V nR n reg acc ad) (hR : 0 < nR) (st : oa_ST V o d a b acc p) (hp : p + oa_na o ≤ n) (h : oa_KI nR w L q k0 k) (hL : L + 6 ≤ 192)
    (hc : ∀ v, v < V → cell v < V ∧ (if w = 0 then nI v else ad v) = nI (cell v)) (hi : ∀ x y, x < V → y < V → cell x = cell y → x = y) (hq : s.2.2.2 < 2 ^ 31)
    (hs : oa_RP V nR w cell k.2.2.2.2.2.1 (oa_E V w m k) s) : oa_RP V nR w cell (oa_tt reg acc ad n w o a p k).2.2.2.2.2.1 (oa_E V w m (oa_tt reg acc ad n w o a p k)) (oa_s1 acc o a p s) := by
  rcases st with ⟨z, hz, rfl, -⟩ | ⟨rfl, -⟩ | ⟨rfl, -⟩ | ⟨rfl, -⟩
  · rw [oa_na5 hz] at hp
    rw [oa_tt_5 hz, oa_s1_5 hz]
    obtain ⟨L1, l1, h1⟩ := oa_ac_I (o := 1) e (show p < n by omega) h (by omega) (by omega)
    obtain ⟨L2, l2, h2⟩ := oa_ac_I (o := 2 + z) e (show p + 1 < n by omega) h1 (by omega) (by omega)
    have r1 := oa_RP_ac (o := 1) e (show p < n by omega) h (by omega) (by omega) (by omega) hc hi hs
    have r2 := oa_RP_ac (o := 2 + z) e (show p + 1 < n by omega) h1 (by omega) (by omega) (by omega) hc hi r1
    have r3 := oa_RP_ac (o := 8) e (show p + 2 < n by omega) h2 (by omega) (by omega) (by omega) hc hi r2
    exact r3
  · rw [oa_na6] at hp
    rw [oa_tt_6, oa_s1_6]
    obtain ⟨L1, l1, h1⟩ := oa_ac_I (o := 1) e (show p < n by omega) h (by omega) (by omega)
    have r1 := oa_RP_ac (o := 1) e (show p < n by omega) h (by omega) (by omega) (by omega) hc hi hs
    have r2 := oa_RP_ac (o := 8) e (show p + 1 < n by omega) h1 (by omega) (by omega) (by omega) hc hi r1
    exact r2
  · rw [oa_na7] at hp
    rw [oa_tt_7, oa_s1_7]
    have h1 := oa_em_I (x := a) (o := 9) (r := 0) h (by omega) (by omega) hR
    have E1 := oa_E_em (V := V) (m := m) (o := nI 9) (r := nI 0) (x := a) h.1.1.1 (show L < 192 by omega)
    have r1 : oa_RP V nR w cell (oa_em w (nI 9) (nI 0) a k).2.2.2.2.2.1 (oa_E V w m (oa_em w (nI 9) (nI 0) a k)) (oa_sc a s) := by
      rw [E1, oa_em_kn]
      exact oa_RP_9 hs
    have r2 := oa_RP_ac (o := 8) e (show p < n by omega) h1 (by omega) (by omega) (by omega) hc hi r1
    exact r2
  · rw [oa_na8] at hp
    rw [oa_tt_8, oa_s1_8]
    obtain ⟨L1, l1, h1⟩ := oa_ac_I (o := 1) e (show p < n by omega) h (by omega) (by omega)
    have r1 := oa_RP_ac (o := 1) e (show p < n by omega) h (by omega) (by omega) (by omega) hc hi hs
    have E1 := oa_E_em (V := V) (m := m) (o := nI 10) (r := nI 0) (x := 0) h1.1.1.1 (show L1 < 192 by omega)
    rw [E1, oa_em_kn]
    exact oa_RP_10 (by rw [oa_sv_n]; exact hq) r1
theorem oa_RP_tb {cnt : Nat} {sop sd sa sb : Nat → Int32} {k : oa_K} {s : oa_S} (hR : 0 < nR) (hn : cnt ≤ 32) (ss : oa_SS V cnt sop sd sa sb acc) (e : oa_env V nR (oa_ps sop cnt) reg acc ad) (h : oa_KI nR w 0 0 k0 k)
    (hc : ∀ v, v < V → cell v < V ∧ (if w = 0 then nI v else ad v) = nI (cell v)) (hi : ∀ x y, x < V → y < V → cell x = cell y → x = y) (hq : s.2.2.2 = 0)
    (hs : oa_RP V nR w cell k.2.2.2.2.2.1 (oa_E V w m k) s) :
    ∀ i, i ≤ cnt → oa_RP V nR w cell (oa_tb reg acc ad sop sa (oa_ps sop cnt) w i k).2.2.2.2.2.1 (oa_E V w m (oa_tb reg acc ad sop sa (oa_ps sop cnt) w i k)) (oa_sn acc sop sa i s) ∧ (oa_sn acc sop sa i s).2.2.2 ≤ i := by
  intro i
  induction i with
  | zero => intro _; exact ⟨hs, Nat.le_of_eq hq⟩
  | succ i ih =>
    intro hi'
    obtain ⟨r1, r2⟩ := ih (by omega)
    obtain ⟨L, hL, h1⟩ := oa_tb_I hR hn ss e h i (by omega)
    have hp : oa_ps sop i + oa_na (sop i) ≤ oa_ps sop cnt := oa_ps_mono sop cnt (i + 1) hi'
    refine ⟨oa_RP_tt e hR (ss i (by omega)) hp h1 (by omega) hc hi (by omega) r1, ?_⟩
    have := oa_s1_n (s := oa_sn acc sop sa i s) (ss i (by omega))
    rw [oa_sn]
    omega
end
/-- program w of a compiled block: from any start with the values f it comes where the variables' machine comes -/
def oa_CR (V nR w cnt : Nat) (cell : Nat → Nat) (acc sop sa op rg od len : Nat → Int32) : Prop :=
  ∀ (m : oa_M) (f : Nat → Int32), (∀ v, v < V → m.1 (16 * w + cell v) = f v) → m.2.2.1 = 0 → m.2.2.2.2.1 w = 0 →
    ∃ kn, oa_RP V nR w cell kn (oa_xs V w op rg od (len w).toNatClampNeg m) (oa_sn acc sop sa cnt (f, 0, (fun _ => 0), 0))
theorem oa_CR_mk {V nR w cnt : Nat} {cell : Nat → Nat} {reg acc ad sop sd sa sb : Nat → Int32} {k kk' K : oa_K} (hR : 0 < nR) (hn : cnt ≤ 32) (ss : oa_SS V cnt sop sd sa sb acc) (e : oa_env V nR (oa_ps sop cnt) reg acc ad)
    (hc : ∀ v, v < V → cell v < V ∧ (if w = 0 then nI v else ad v) = nI (cell v)) (hi : ∀ x y, x < V → y < V → cell x = cell y → x = y) (hz : ∀ r, r < nR → kk'.2.2.2.2.2.2.2 r = 0)
    (hK : oa_tb reg acc ad sop sa (oa_ps sop cnt) w cnt (oa_k0 nR w k kk') = K) : oa_CR V nR w cnt cell acc sop sa K.1 K.2.1 K.2.2.1 K.2.2.2.1 := by
  intro m f h1 h2 h3
  have e0 : oa_E V w m (oa_k0 nR w k kk') = m := by
    show oa_xs V w k.1 k.2.1 k.2.2.1 (upd k.2.2.2.1 w 0 w).toNatClampNeg m = m
    rw [pk_us, show (0 : Int32).toNatClampNeg = 0 from by decide]
    rfl
  have hs : oa_RP V nR w cell (oa_k0 nR w k kk').2.2.2.2.2.1 (oa_E V w m (oa_k0 nR w k kk')) (f, 0, (fun _ => 0), 0) := by
    rw [e0]
    exact ⟨h1, h2, h3, fun j hj => absurd hj (Nat.not_lt_zero j), fun r hr hn => absurd (oa_fill_lt hr : oa_fill k.2.2.2.2.2.1 (fun _ => -1) nR r = -1) hn⟩
  have t := (oa_RP_tb (m := m) (s := (f, 0, (fun _ => 0), 0)) hR hn ss e (oa_k0_I (w := w) (k := k) hz) hc hi rfl hs cnt (Nat.le_refl cnt)).1
  rw [hK] at t
  exact ⟨_, t⟩
theorem oa_CR_fr {V nR w cnt L : Nat} {cell : Nat → Nat} {acc sop sa : Nat → Int32} {k0 k : oa_K} (hL : k0.2.2.2.1 w = nI L) (hL2 : L ≤ 192) (h : oa_FK w k0 k) (c : oa_CR V nR w cnt cell acc sop sa k0.1 k0.2.1 k0.2.2.1 k0.2.2.2.1) :
    oa_CR V nR w cnt cell acc sop sa k.1 k.2.1 k.2.2.1 k.2.2.2.1 := by
  intro m f h1 h2 h3
  obtain ⟨kn, hk⟩ := c m f h1 h2 h3
  refine ⟨kn, ?_⟩
  have eL : (nI L).toNatClampNeg = L := nI_clamp (by omega)
  rw [hL, eL] at hk
  have cg := oa_xs_cg (V := V) (w := w) (m := m) (op := k0.1) (op' := k.1) (rg := k0.2.1) (rg' := k.2.1) (od := k0.2.2.1) (od' := k.2.2.1) L (fun i hi => h.2 i (by omega))
  rw [h.1, hL, eL, cg]
  exact hk
/-! program 1 leaves what program 0 did -/
theorem oa_x1_f {V : Nat} {o r x : Int32} {m : oa_M} : (∀ c, c < 16 → (oa_x1 V 1 o r x m).1 c = m.1 c) ∧ (∀ j, j < 32 → (oa_x1 V 1 o r x m).2.2.2.1 j = m.2.2.2.1 j) := by
  unfold oa_x1
  by_cases c0 : o = 0
  · rw [if_pos c0]; exact ⟨fun _ _ => rfl, fun _ _ => rfl⟩
  · rw [if_neg c0]
    by_cases c9 : o = 9
    · rw [if_pos c9]; exact ⟨fun _ _ => rfl, fun _ _ => rfl⟩
    · rw [if_neg c9]
      by_cases c10 : o = 10
      · rw [if_pos c10]
        refine ⟨fun _ _ => rfl, fun j hj => ?_⟩
        show upd m.2.2.2.1 (32 * 1 + (m.2.2.2.2.1 1).toNatClampNeg) m.2.2.1 j = m.2.2.2.1 j
        exact pk_un (by omega)
      · rw [if_neg c10]
        by_cases c8 : o = 8
        · rw [if_pos c8]
          refine ⟨fun c hc => ?_, fun _ _ => rfl⟩
          show (if oa_in V (m.2.1 r.toNatClampNeg) then upd m.1 (16 * 1 + (m.2.1 r.toNatClampNeg).toNatClampNeg) m.2.2.1 else m.1) c = m.1 c
          by_cases ci : oa_in V (m.2.1 r.toNatClampNeg)
          · rw [if_pos ci]; exact pk_un (by omega)
          · rw [if_neg ci]
        · rw [if_neg c8]; exact ⟨fun _ _ => rfl, fun _ _ => rfl⟩
theorem oa_xs_f {V : Nat} {op rg od : Nat → Int32} {m : oa_M} : ∀ n, (∀ c, c < 16 → (oa_xs V 1 op rg od n m).1 c = m.1 c) ∧ (∀ j, j < 32 → (oa_xs V 1 op rg od n m).2.2.2.1 j = m.2.2.2.1 j) := by
  intro n
  induction n with
  | zero => exact ⟨fun _ _ => rfl, fun _ _ => rfl⟩
  | succ n ih =>
    rw [oa_xs]
    refine ⟨fun c hc => ?_, fun j hj => ?_⟩
    · rw [oa_x1_f.1 c hc]; exact ih.1 c hc
    · rw [oa_x1_f.2 j hj]; exact ih.2 j hj
/-- a variable's cell holds its initial value at the start -/
theorem oa_mi_at {mm ini : Nat → Int32} {b : Nat} {cell : Nat → Nat} : ∀ n, (∀ x y, x < n → y < n → cell x = cell y → x = y) → ∀ v, v < n → oa_mi mm b cell ini n (b + cell v) = ini v := by
  intro n
  induction n with
  | zero => intro _ v hv; exact absurd hv (Nat.not_lt_zero v)
  | succ n ih =>
    intro hi v hv
    rw [oa_mi]
    by_cases e : v = n
    · rw [e, pk_us]
    · rw [pk_un (show b + cell v ≠ b + cell n from fun z => e (hi v n (by omega) (by omega) (by omega)))]
      exact ih (fun x y hx hy => hi x y (by omega) (by omega)) v (by omega)
