/-! the loads of program 1, counted by accesses and by registers -/
def oa_ds (a b : Nat) : Nat := (a - b) + (b - a)
/-- access j wants a load: it is its register's first, or far from the one before -/
abbrev oa_lj (reg acc ad : Nat → Int32) (j : Nat) : Prop :=
  oa_pv reg acc (reg (acc j).toNatClampNeg) j = -1 ∨ 1 < oa_ds (ad (oa_pv reg acc (reg (acc j).toNatClampNeg) j).toNatClampNeg).toNatClampNeg (ad (acc j).toNatClampNeg).toNatClampNeg
def oa_lt (reg acc ad : Nat → Int32) : Nat → Nat
  | 0 => 0
  | j + 1 => oa_lt reg acc ad j + if oa_lj reg acc ad j then 1 else 0
def oa_lr (reg acc ad : Nat → Int32) (r : Int32) : Nat → Nat
  | 0 => 0
  | j + 1 => oa_lr reg acc ad r j + if reg (acc j).toNatClampNeg = r ∧ oa_lj reg acc ad j then 1 else 0
def oa_sr (reg acc ad : Nat → Int32) (n : Nat) : Nat → Nat
  | 0 => 0
  | r + 1 => oa_sr reg acc ad n r + oa_lr reg acc ad (nI r) n
theorem oa_lt_le (reg acc ad : Nat → Int32) : ∀ n, oa_lt reg acc ad n ≤ n := by
  intro n
  induction n with
  | zero => exact Nat.le_refl _
  | succ n ih => rw [oa_lt]; split <;> omega
theorem oa_lr_le (reg acc ad : Nat → Int32) (r : Int32) : ∀ n, oa_lr reg acc ad r n ≤ n := by
  intro n
  induction n with
  | zero => exact Nat.le_refl _
  | succ n ih => rw [oa_lr]; split <;> omega
theorem oa_sr_le (reg acc ad : Nat → Int32) (n : Nat) : ∀ r, oa_sr reg acc ad n r ≤ r * n := by
  intro r
  induction r with
  | zero => rw [Nat.zero_mul]; exact Nat.le_refl _
  | succ r ih => have := oa_lr_le reg acc ad (nI r) n; rw [oa_sr, Nat.succ_mul]; omega
theorem oa_sr_0 (reg acc ad : Nat → Int32) : ∀ r, oa_sr reg acc ad 0 r = 0 := by
  intro r
  induction r with
  | zero => rfl
  | succ r ih => rw [oa_sr, ih]; rfl
theorem oa_sr_s {reg acc ad : Nat → Int32} {n r0 : Nat} (hr : reg (acc n).toNatClampNeg = nI r0) (h0 : r0 < 2 ^ 31) : ∀ R, R < 2 ^ 31 → oa_sr reg acc ad (n + 1) R = oa_sr reg acc ad n R + if r0 < R ∧ oa_lj reg acc ad n then 1 else 0 := by
  intro R
  induction R with
  | zero =>
    intro _
    have n1 : ¬ (r0 < 0 ∧ oa_lj reg acc ad n) := fun z => absurd z.1 (Nat.not_lt_zero r0)
    rw [if_neg n1]
    rfl
  | succ R ih =>
    intro hR
    have e : reg (acc n).toNatClampNeg = nI R ↔ r0 = R := by
      rw [hr]
      exact nI_eq h0 (by omega)
    have e1 : ((if r0 < R ∧ oa_lj reg acc ad n then 1 else 0) + (if reg (acc n).toNatClampNeg = nI R ∧ oa_lj reg acc ad n then 1 else 0) : Nat) = if r0 < R + 1 ∧ oa_lj reg acc ad n then 1 else 0 := by
      by_cases l : oa_lj reg acc ad n
      · by_cases c : r0 < R
        · have n2 : ¬ (reg (acc n).toNatClampNeg = nI R ∧ oa_lj reg acc ad n) := fun z => by
            have := e.mp z.1
            omega
          have p3 : r0 < R + 1 ∧ oa_lj reg acc ad n := ⟨by omega, l⟩
          rw [if_pos ⟨c, l⟩, if_neg n2, if_pos p3]
        · have n1 : ¬ (r0 < R ∧ oa_lj reg acc ad n) := fun z => c z.1
          by_cases c2 : r0 = R
          · have p2 : reg (acc n).toNatClampNeg = nI R ∧ oa_lj reg acc ad n := ⟨e.mpr c2, l⟩
            have p3 : r0 < R + 1 ∧ oa_lj reg acc ad n := ⟨by omega, l⟩
            rw [if_neg n1, if_pos p2, if_pos p3]
          · have n2 : ¬ (reg (acc n).toNatClampNeg = nI R ∧ oa_lj reg acc ad n) := fun z => c2 (e.mp z.1)
            have n3 : ¬ (r0 < R + 1 ∧ oa_lj reg acc ad n) := fun z => by
              have := z.1
              omega
            rw [if_neg n1, if_neg n2, if_neg n3]
      · have n1 : ¬ (r0 < R ∧ oa_lj reg acc ad n) := fun z => l z.2
        have n2 : ¬ (reg (acc n).toNatClampNeg = nI R ∧ oa_lj reg acc ad n) := fun z => l z.2
        have n3 : ¬ (r0 < R + 1 ∧ oa_lj reg acc ad n) := fun z => l z.2
        rw [if_neg n1, if_neg n2, if_neg n3]
    rw [oa_sr, oa_sr, ih (by omega), oa_lr, ← e1]
    exact Nat.add_add_add_comm _ _ _ _
theorem oa_sr_lt {reg acc ad : Nat → Int32} {n nR : Nat} (hR : nR < 2 ^ 31) (h : ∀ j, j < n → ∃ r, r < nR ∧ reg (acc j).toNatClampNeg = nI r) : ∀ i, i ≤ n → oa_sr reg acc ad i nR = oa_lt reg acc ad i := by
  intro i
  induction i with
  | zero => intro _; exact oa_sr_0 reg acc ad nR
  | succ i ih =>
    intro hi
    obtain ⟨r, hr, er⟩ := h i (by omega)
    rw [oa_sr_s er (by omega) nR hR, ih (by omega), oa_lt]
    by_cases l : oa_lj reg acc ad i
    · have p1 : r < nR ∧ oa_lj reg acc ad i := ⟨hr, l⟩
      rw [if_pos p1, if_pos l]
    · have n1 : ¬ (r < nR ∧ oa_lj reg acc ad i) := fun z => l z.2
      rw [if_neg n1, if_neg l]
/-- what program 1's generation knows of register r behind j accesses -/
def oa_kv (reg acc ad : Nat → Int32) (n : Nat) (r : Int32) : Nat → Int32
  | 0 => -1
  | j + 1 => if reg (acc j).toNatClampNeg = r then ad (acc j).toNatClampNeg + oa_sp reg acc ad n j else oa_kv reg acc ad n r j
theorem oa_kv_pv {reg acc ad : Nat → Int32} {n : Nat} {r : Int32} : ∀ j, j ≤ n → (oa_pv reg acc r j = -1 ∧ oa_kv reg acc ad n r j = -1) ∨
    ∃ i, i < j ∧ oa_pv reg acc r j = acc i ∧ oa_kv reg acc ad n r j = ad (acc i).toNatClampNeg + oa_sp reg acc ad n i ∧ oa_fo reg acc n i = oa_nx reg acc r (n - j) j := by
  intro j
  induction j with
  | zero => intro _; exact Or.inl ⟨rfl, rfl⟩
  | succ j ih =>
    intro hj
    by_cases hr : reg (acc j).toNatClampNeg = r
    · refine Or.inr ⟨j, Nat.lt_succ_self j, ?_, ?_, ?_⟩
      · rw [oa_pv, if_pos hr]
      · rw [oa_kv, if_pos hr]
      · unfold oa_fo
        rw [hr]
    · have ep : oa_pv reg acc r (j + 1) = oa_pv reg acc r j := by rw [oa_pv, if_neg hr]
      have ek : oa_kv reg acc ad n r (j + 1) = oa_kv reg acc ad n r j := by rw [oa_kv, if_neg hr]
      rw [ep, ek]
      rcases ih (by omega) with h | ⟨i, hi, h1, h2, h3⟩
      · exact Or.inl h
      · refine Or.inr ⟨i, by omega, h1, h2, ?_⟩
        have en : n - j = (n - (j + 1)) + 1 := by omega
        rw [h3, en, oa_nx, if_neg hr]
theorem oa_ld_lj {V nR n j : Nat} {reg acc ad : Nat → Int32} (e : oa_env V nR n reg acc ad) (hj : j < n) : oa_kv reg acc ad n (reg (acc j).toNatClampNeg) j ≠ ad (acc j).toNatClampNeg ↔ oa_lj reg acc ad j := by
  obtain ⟨v, r, a, hv, hr, ha, e1, e2, e3, e4, e5, e6⟩ := oa_env_j (w := 1) e hj
  have hV := e.1
  rcases oa_kv_pv (reg := reg) (acc := acc) (ad := ad) (n := n) (r := reg (acc j).toNatClampNeg) j (by omega) with ⟨p1, p2⟩ | ⟨i, hi, p1, p2, p3⟩
  · constructor
    · intro _
      exact Or.inl p1
    · intro _
      rw [p2, e5]
      exact fun z => oa_ne (by omega) z.symm
  · obtain ⟨v', r', b, hv', hr', hb, f1, f2, f3, f4, f5, f6⟩ := oa_env_j (w := 1) e (show i < n by omega)
    have en : n - j = (n - (j + 1)) + 1 := by omega
    have ef : oa_fo reg acc n i = j := by rw [p3, en, oa_nx, if_pos rfl]
    have sp : oa_sp reg acc ad n i = if -1 ≤ nI a - nI b ∧ nI a - nI b ≤ 1 then nI a - nI b else 0 := by
      unfold oa_sp
      rw [ef, if_pos hj, e5, f5]
    have t : (nI a - nI b).toInt = (a : Int) - b := pk_sub_toInt (by omega) (by omega)
    have t1 : (-1 ≤ nI a - nI b) ↔ (-1 : Int) ≤ (a : Int) - b := by
      rw [Int32.le_iff_toInt_le, t, show (-1 : Int32).toInt = -1 from by decide]
    have t2 : (nI a - nI b ≤ 1) ↔ (a : Int) - b ≤ 1 := by
      rw [Int32.le_iff_toInt_le, t, show (1 : Int32).toInt = 1 from by decide]
    have l : oa_lj reg acc ad j ↔ 1 < oa_ds b a := by
      unfold oa_lj
      rw [p1, f5, e5, nI_clamp (show b < 2 ^ 31 by omega), nI_clamp (show a < 2 ^ 31 by omega)]
      constructor
      · rintro (h | h)
        · rw [f1] at h
          exact absurd h (oa_ne (by omega))
        · exact h
      · exact Or.inr
    rw [l, p2, f5, sp, e5]
    by_cases c : -1 ≤ nI a - nI b ∧ nI a - nI b ≤ 1
    · have c1 := t1.mp c.1
      have c2 := t2.mp c.2
      rw [if_pos c, Int32.add_comm, Int32.sub_add_cancel]
      constructor
      · intro z
        exact absurd rfl z
      · intro z
        unfold oa_ds at z
        omega
    · have c' : ¬ ((-1 : Int) ≤ (a : Int) - b ∧ (a : Int) - b ≤ 1) := fun z => c ⟨t1.mpr z.1, t2.mpr z.2⟩
      have d : 1 < oa_ds b a := by
        unfold oa_ds
        omega
      rw [if_neg c, Int32.add_zero]
      constructor
      · intro _
        exact d
      · intro _ z
        have := oa_inj (by omega) (by omega) z
        unfold oa_ds at d
        omega
def oa_LI (nR n j : Nat) (reg acc ad : Nat → Int32) (k : oa_K) : Prop := (∀ r, r < nR → k.2.2.2.2.2.1 r = oa_kv reg acc ad n (nI r) j) ∧ k.2.2.2.2.1 1 = nI (oa_lt reg acc ad j)
theorem oa_LI_em {nR n j : Nat} {reg acc ad : Nat → Int32} {k : oa_K} {o r x : Int32} (n0 : ¬ o = 0) (h : oa_LI nR n j reg acc ad k) : oa_LI nR n j reg acc ad (oa_em 1 o r x k) := by
  refine ⟨h.1, ?_⟩
  show (if o = 0 then upd k.2.2.2.2.1 1 (k.2.2.2.2.1 1 + 1) else k.2.2.2.2.1) 1 = _
  rw [if_neg n0]
  exact h.2
theorem oa_LI_ac {V nR n j o : Nat} {reg acc ad : Nat → Int32} {k : oa_K} (e : oa_env V nR n reg acc ad) (hj : j < n) (ho : 0 < o) (ho2 : o < 2 ^ 31) (h : oa_LI nR n j reg acc ad k) : oa_LI nR n (j + 1) reg acc ad (oa_ac reg acc ad n 1 (nI o) j k) := by
  obtain ⟨v, r, a, hv, hr, ha, e1, e2, e3, e4, e5, e6⟩ := oa_env_j (w := 1) e hj
  have hR := e.2.1
  have n0 : ¬ nI o = 0 := nI_ne0 ho ho2
  have n1 : ¬ (1 : Nat) = 0 := by omega
  have hk := h.1 r hr
  have ij := oa_ld_lj e hj
  rw [e3, ← hk] at ij
  have ep : oa_pa acc ad 1 j = ad (acc j).toNatClampNeg := if_neg n1
  have em : oa_ms reg acc ad n 1 j = oa_sp reg acc ad n j := if_neg n1
  have ek : (oa_ac reg acc ad n 1 (nI o) j k).2.2.2.2.2.1 = upd k.2.2.2.2.2.1 r (ad (acc j).toNatClampNeg + oa_sp reg acc ad n j) := by
    have l2 := (oa_ld_kn reg acc ad 1 j k).1
    rw [← l2, ← e4, ← ep, ← em]
    rfl
  have el : (oa_ac reg acc ad n 1 (nI o) j k).2.2.2.2.1 = (oa_ld reg acc ad 1 j k).2.2.2.2.1 := if_neg n0
  refine ⟨fun r' hr' => ?_, ?_⟩
  · rw [ek]
    by_cases c : r' = r
    · rw [c, pk_us, oa_kv, if_pos e3]
    · have c2 : ¬ reg (acc j).toNatClampNeg = nI r' := fun z => c (oa_inj (by omega) (by omega) (by rw [← z, e3]))
      rw [pk_un c, oa_kv, if_neg c2]
      exact h.1 r' hr'
  · rw [el]
    by_cases l : oa_lj reg acc ad j
    · have c : (1 : Nat) = 0 ∨ k.2.2.2.2.2.1 (reg (acc j).toNatClampNeg).toNatClampNeg ≠ oa_pa acc ad 1 j := Or.inr (by rw [e4, ep]; exact ij.mpr l)
      have ed : oa_ld reg acc ad 1 j k = oa_mk 1 (reg (acc j).toNatClampNeg).toNatClampNeg (oa_em 1 0 (reg (acc j).toNatClampNeg) (oa_pa acc ad 1 j) k) := if_pos c
      rw [ed]
      show (if (0 : Int32) = 0 then upd k.2.2.2.2.1 1 (k.2.2.2.2.1 1 + 1) else k.2.2.2.2.1) 1 = _
      rw [if_pos (show (0 : Int32) = 0 from rfl), pk_us, h.2, nI_1, oa_lt, if_pos l]
    · have c : ¬ ((1 : Nat) = 0 ∨ k.2.2.2.2.2.1 (reg (acc j).toNatClampNeg).toNatClampNeg ≠ oa_pa acc ad 1 j) := by
        rintro (z | z)
        · exact n1 z
        · rw [e4, ep] at z
          exact l (ij.mp z)
      have ed : oa_ld reg acc ad 1 j k = k := if_neg c
      rw [ed, h.2, oa_lt, if_neg l, Nat.add_zero]
theorem oa_LI_tt {V nR n p : Nat} {reg acc ad : Nat → Int32} {o d a b : Int32} {k : oa_K} (e : oa_env V nR n reg acc ad) (st : oa_ST V o d a b acc p) (hp : p + oa_na o ≤ n) (h : oa_LI nR n p reg acc ad k) : oa_LI nR n (p + oa_na o) reg acc ad (oa_tt reg acc ad n 1 o a p k) := by
  rcases st with ⟨z, hz, rfl, -⟩ | ⟨rfl, -⟩ | ⟨rfl, -⟩ | ⟨rfl, -⟩
  · rw [oa_na5 hz] at hp
    rw [oa_na5 hz, oa_tt_5 hz]
    have r1 := oa_LI_ac (o := 1) e (show p < n by omega) (by omega) (by omega) h
    have r2 := oa_LI_ac (o := 2 + z) e (show p + 1 < n by omega) (by omega) (by omega) r1
    have r3 := oa_LI_ac (o := 8) e (show p + 1 + 1 < n by omega) (by omega) (by omega) r2
    exact r3
  · rw [oa_na6] at hp
    rw [oa_na6, oa_tt_6]
    have r1 := oa_LI_ac (o := 1) e (show p < n by omega) (by omega) (by omega) h
    have r2 := oa_LI_ac (o := 8) e (show p + 1 < n by omega) (by omega) (by omega) r1
    exact r2
  · rw [oa_na7] at hp
    rw [oa_na7, oa_tt_7]
    exact oa_LI_ac (o := 8) e (show p < n by omega) (by omega) (by omega) (oa_LI_em (by decide) h)
  · rw [oa_na8] at hp
    rw [oa_na8, oa_tt_8]
    exact oa_LI_em (by decide) (oa_LI_ac (o := 1) e (show p < n by omega) (by omega) (by omega) h)
theorem oa_LI_tb {V nR cnt : Nat} {reg acc ad sop sd sa sb : Nat → Int32} {k : oa_K} (ss : oa_SS V cnt sop sd sa sb acc) (e : oa_env V nR (oa_ps sop cnt) reg acc ad) (h : oa_LI nR (oa_ps sop cnt) 0 reg acc ad k) :
    ∀ i, i ≤ cnt → oa_LI nR (oa_ps sop cnt) (oa_ps sop i) reg acc ad (oa_tb reg acc ad sop sa (oa_ps sop cnt) 1 i k) := by
  intro i
  induction i with
  | zero => intro _; exact h
  | succ i ih =>
    intro hi
    exact oa_LI_tt e (ss i (by omega)) (oa_ps_mono sop cnt (i + 1) hi) (ih (by omega))
theorem oa_LI_0 {nR n : Nat} {reg acc ad : Nat → Int32} {k kk' : oa_K} : oa_LI nR n 0 reg acc ad (oa_k0 nR 1 k kk') :=
  ⟨fun r hr => (oa_fill_lt hr : oa_fill k.2.2.2.2.2.1 (fun _ => -1) nR r = -1), (pk_us : upd k.2.2.2.2.1 1 0 1 = 0)⟩
