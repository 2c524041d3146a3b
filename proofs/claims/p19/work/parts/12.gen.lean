/-! the code is made: X's methods as functions. A state: opcodes, registers, operands, lengths, loads, X's known addresses, Y's known values, Y's marks -/
abbrev oa_K : Type := (Nat → Int32) × (Nat → Int32) × (Nat → Int32) × (Nat → Int32) × (Nat → Int32) × (Nat → Int32) × (Nat → Int32) × (Nat → Int32)
def oa_em (w : Nat) (o r x : Int32) (k : oa_K) : oa_K :=
  (upd k.1 (192 * w + (k.2.2.2.1 w).toNatClampNeg) o, upd k.2.1 (192 * w + (k.2.2.2.1 w).toNatClampNeg) r, upd k.2.2.1 (192 * w + (k.2.2.2.1 w).toNatClampNeg) x,
   upd k.2.2.2.1 w (k.2.2.2.1 w + 1), if o = 0 then upd k.2.2.2.2.1 w (k.2.2.2.2.1 w + 1) else k.2.2.2.2.1, k.2.2.2.2.2)
def oa_mk (w R : Nat) (k : oa_K) : oa_K :=
  (k.1, k.2.1, k.2.2.1, k.2.2.2.1, k.2.2.2.2.1, k.2.2.2.2.2.1, k.2.2.2.2.2.2.1, if w = 0 then k.2.2.2.2.2.2.2 else upd k.2.2.2.2.2.2.2 R 1)
def oa_st (w R : Nat) (x : Int32) (k : oa_K) : oa_K :=
  (k.1, k.2.1, k.2.2.1, k.2.2.2.1, k.2.2.2.2.1, upd k.2.2.2.2.2.1 R x, if w = 0 then k.2.2.2.2.2.2.1 else upd k.2.2.2.2.2.2.1 R x, k.2.2.2.2.2.2.2)
/-- the step behind access j -/
def oa_sp (reg acc ad : Nat → Int32) (n j : Nat) : Int32 :=
  if oa_fo reg acc n j < n then (if -1 ≤ ad (acc (oa_fo reg acc n j)).toNatClampNeg - ad (acc j).toNatClampNeg ∧ ad (acc (oa_fo reg acc n j)).toNatClampNeg - ad (acc j).toNatClampNeg ≤ 1
    then ad (acc (oa_fo reg acc n j)).toNatClampNeg - ad (acc j).toNatClampNeg else 0) else 0
def oa_pa (acc ad : Nat → Int32) (w j : Nat) : Int32 := if w = 0 then acc j else ad (acc j).toNatClampNeg
def oa_ms (reg acc ad : Nat → Int32) (n w j : Nat) : Int32 := if w = 0 then 0 else oa_sp reg acc ad n j
/-- the load of an address, where it is wanted -/
def oa_ld (reg acc ad : Nat → Int32) (w j : Nat) (k : oa_K) : oa_K :=
  if w = 0 ∨ k.2.2.2.2.2.1 (reg (acc j).toNatClampNeg).toNatClampNeg ≠ oa_pa acc ad w j
  then oa_mk w (reg (acc j).toNatClampNeg).toNatClampNeg (oa_em w 0 (reg (acc j).toNatClampNeg) (oa_pa acc ad w j) k) else k
def oa_ac (reg acc ad : Nat → Int32) (n w : Nat) (code : Int32) (j : Nat) (k : oa_K) : oa_K :=
  oa_st w (reg (acc j).toNatClampNeg).toNatClampNeg (oa_pa acc ad w j + oa_ms reg acc ad n w j)
    (oa_em w code (reg (acc j).toNatClampNeg) (oa_ms reg acc ad n w j) (oa_ld reg acc ad w j k))
/-- a statement -/
def oa_tt (reg acc ad : Nat → Int32) (n w : Nat) (o a : Int32) (p : Nat) (k : oa_K) : oa_K :=
  if o ≤ 5 then oa_ac reg acc ad n w 8 (p + 2) (oa_ac reg acc ad n w (2 + o) (p + 1) (oa_ac reg acc ad n w 1 p k))
  else if o = 6 then oa_ac reg acc ad n w 8 (p + 1) (oa_ac reg acc ad n w 1 p k)
  else if o = 7 then oa_ac reg acc ad n w 8 p (oa_em w 9 0 a k)
  else oa_em w 10 0 0 (oa_ac reg acc ad n w 1 p k)
def oa_tb (reg acc ad sop sa : Nat → Int32) (n w : Nat) : Nat → oa_K → oa_K
  | 0, k => k
  | i + 1, k => oa_tt reg acc ad n w (sop i) (sa i) (oa_ps sop i) (oa_tb reg acc ad sop sa n w i k)
/-- the two kinds of knowledge agree -/
def oa_KR (nR w : Nat) (k : oa_K) : Prop := w = 0 ∨ ∀ r, r < nR → (k.2.2.2.2.2.2.2 r = 0 → k.2.2.2.2.2.1 r = -1) ∧ (k.2.2.2.2.2.2.2 r ≠ 0 → k.2.2.2.2.2.1 r = k.2.2.2.2.2.2.1 r)
/-- the code of program w' is as in k0 -/
def oa_FK (w' : Nat) (k0 k : oa_K) : Prop := k.2.2.2.1 w' = k0.2.2.2.1 w' ∧ ∀ i, i < 192 → k.1 (192 * w' + i) = k0.1 (192 * w' + i) ∧ k.2.1 (192 * w' + i) = k0.2.1 (192 * w' + i) ∧ k.2.2.1 (192 * w' + i) = k0.2.2.1 (192 * w' + i)
theorem oa_FK_up {w w' L : Nat} {o r x l : Int32} {t : (Nat → Int32) × (Nat → Int32) × (Nat → Int32) × (Nat → Int32)} {k0 k : oa_K} (h : oa_FK w' k0 k) (hL : L < 192) (hw : w' ≠ w) :
    oa_FK w' k0 (upd k.1 (192 * w + L) o, upd k.2.1 (192 * w + L) r, upd k.2.2.1 (192 * w + L) x, upd k.2.2.2.1 w l, t) := by
  refine ⟨?_, fun i hi => ?_⟩
  · show upd k.2.2.2.1 w l w' = _
    rw [pk_un hw]
    exact h.1
  · show upd k.1 (192 * w + L) o (192 * w' + i) = _ ∧ upd k.2.1 (192 * w + L) r (192 * w' + i) = _ ∧ upd k.2.2.1 (192 * w + L) x (192 * w' + i) = _
    rw [pk_un (by omega), pk_un (by omega), pk_un (by omega)]
    exact h.2 i hi
/-- length L, at most q OUT; the other program is as in k0 -/
def oa_KC (nR w L q : Nat) (k0 k : oa_K) : Prop :=
  oa_CI nR w L q k.1 k.2.1 k.2.2.2.1 ∧ (∀ w' L' q', w' ≠ w → L' ≤ 192 → oa_CI nR w' L' q' k0.1 k0.2.1 k0.2.2.2.1 → oa_CI nR w' L' q' k.1 k.2.1 k.2.2.2.1) ∧ (∀ w', w' ≠ w → oa_FK w' k0 k)
theorem oa_em_C {nR w L q o r : Nat} {x : Int32} {k0 k : oa_K} (h : oa_KC nR w L q k0 k) (hL : L < 192) (ho : o ≤ 10) (hr : r < nR) : oa_KC nR w (L + 1) (q + if o = 10 then 1 else 0) k0 (oa_em w (nI o) (nI r) x k) := by
  obtain ⟨h1, h3, h4⟩ := h
  have eL : (k.2.2.2.1 w).toNatClampNeg = L := by rw [h1.1]; exact nI_clamp (by omega)
  have eN : k.2.2.2.1 w + 1 = nI (L + 1) := by rw [h1.1]; exact nI_1 L
  unfold oa_em
  rw [eL, eN]
  exact ⟨oa_CI_emit h1 ho hr, fun w' L' q' hw hl hc => oa_CI_other (h3 w' L' q' hw hl hc) hL hl hw, fun w' hw => oa_FK_up (h4 w' hw) hL hw⟩
theorem oa_em_C' {nR w L q o r : Nat} {x : Int32} {k0 k : oa_K} (h : oa_KC nR w L q k0 k) (hL : L < 192) (ho : o < 10) (hr : r < nR) : oa_KC nR w (L + 1) q k0 (oa_em w (nI o) (nI r) x k) := by
  have := oa_em_C (x := x) h hL (show o ≤ 10 by omega) hr
  rw [if_neg (by omega), Nat.add_zero] at this
  exact this
theorem oa_ld_C {nR w L q j r : Nat} {reg acc ad : Nat → Int32} {k0 k : oa_K} (er : reg (acc j).toNatClampNeg = nI r) (hr : r < nR) (h : oa_KC nR w L q k0 k) (hL : L < 192) :
    ∃ L', L' ≤ L + 1 ∧ oa_KC nR w L' q k0 (oa_ld reg acc ad w j k) := by
  unfold oa_ld
  split
  · refine ⟨L + 1, Nat.le_refl _, ?_⟩
    rw [er]
    exact oa_em_C' (o := 0) (x := oa_pa acc ad w j) h hL (by omega) hr
  · exact ⟨L, by omega, h⟩
theorem oa_ac_C {nR w L q j n o r : Nat} {reg acc ad : Nat → Int32} {k0 k : oa_K} (er : reg (acc j).toNatClampNeg = nI r) (hr : r < nR) (h : oa_KC nR w L q k0 k) (hL : L + 2 ≤ 192) (ho : o < 10) :
    ∃ L', L' ≤ L + 2 ∧ oa_KC nR w L' q k0 (oa_ac reg acc ad n w (nI o) j k) := by
  obtain ⟨L1, hL1, h1⟩ := oa_ld_C (ad := ad) er hr h (by omega)
  refine ⟨L1 + 1, by omega, ?_⟩
  unfold oa_ac
  rw [er]
  exact oa_em_C' (x := oa_ms reg acc ad n w j) h1 (by omega) ho hr
theorem oa_ld_kn (reg acc ad : Nat → Int32) (w j : Nat) (k : oa_K) : (oa_ld reg acc ad w j k).2.2.2.2.2.1 = k.2.2.2.2.2.1 ∧ (oa_ld reg acc ad w j k).2.2.2.2.2.2.1 = k.2.2.2.2.2.2.1 := by
  unfold oa_ld
  split
  · exact ⟨rfl, rfl⟩
  · exact ⟨rfl, rfl⟩
theorem oa_ld_kk {reg acc ad : Nat → Int32} {w j r : Nat} {k : oa_K} (hw : w ≠ 0) (er : (reg (acc j).toNatClampNeg).toNatClampNeg = r) (hp : oa_pa acc ad w j ≠ -1) (h : k.2.2.2.2.2.2.2 r = 0 → k.2.2.2.2.2.1 r = -1) :
    (oa_ld reg acc ad w j k).2.2.2.2.2.2.2 r ≠ 0 ∧ ∀ x, x ≠ r → (oa_ld reg acc ad w j k).2.2.2.2.2.2.2 x = k.2.2.2.2.2.2.2 x := by
  unfold oa_ld
  rw [er]
  by_cases c : w = 0 ∨ k.2.2.2.2.2.1 r ≠ oa_pa acc ad w j
  · rw [if_pos c]
    have e : ∀ x, (oa_mk w r (oa_em w 0 (reg (acc j).toNatClampNeg) (oa_pa acc ad w j) k)).2.2.2.2.2.2.2 x = upd k.2.2.2.2.2.2.2 r 1 x := by
      intro x
      show (if w = 0 then k.2.2.2.2.2.2.2 else upd k.2.2.2.2.2.2.2 r 1) x = _
      rw [if_neg hw]
    refine ⟨?_, fun x hx => ?_⟩
    · rw [e, pk_us]; decide
    · rw [e, pk_un hx]
  · rw [if_neg c]
    refine ⟨fun z => c (Or.inr ?_), fun x _ => rfl⟩
    rw [h z]
    exact fun y => hp y.symm
theorem oa_ac_R {nR w j n r : Nat} {o : Int32} {reg acc ad : Nat → Int32} {k : oa_K} (er : (reg (acc j).toNatClampNeg).toNatClampNeg = r) (hr : r < nR) (hp : w ≠ 0 → oa_pa acc ad w j ≠ -1) (h : oa_KR nR w k) :
    oa_KR nR w (oa_ac reg acc ad n w o j k) := by
  rcases h with h | h
  · exact Or.inl h
  · by_cases hw : w = 0
    · exact Or.inl hw
    · refine Or.inr fun x hx => ?_
      have l1 := oa_ld_kk hw er (hp hw) (h r hr).1
      have l2 := oa_ld_kn reg acc ad w j k
      have e1 : (oa_ac reg acc ad n w o j k).2.2.2.2.2.1 = upd k.2.2.2.2.2.1 r (oa_pa acc ad w j + oa_ms reg acc ad n w j) := by
        rw [← l2.1, ← er]; rfl
      have e2 : (oa_ac reg acc ad n w o j k).2.2.2.2.2.2.1 = upd k.2.2.2.2.2.2.1 r (oa_pa acc ad w j + oa_ms reg acc ad n w j) := by
        rw [← l2.2, ← er]; exact if_neg hw
      have e3 : (oa_ac reg acc ad n w o j k).2.2.2.2.2.2.2 = (oa_ld reg acc ad w j k).2.2.2.2.2.2.2 := rfl
      rw [e1, e2, e3]
      by_cases z : x = r
      · subst z
        rw [pk_us, pk_us]
        exact ⟨fun y => absurd y l1.1, fun _ => rfl⟩
      · rw [pk_un z, pk_un z, l1.2 x z]
        exact h x hx
/-- what the accesses of the block are -/
def oa_env (V nR n : Nat) (reg acc ad : Nat → Int32) : Prop :=
  V ≤ 16 ∧ nR ≤ 4 ∧ n ≤ 96 ∧ (∀ v, v < V → ∃ r, r < nR ∧ reg v = nI r) ∧ (∀ j, j < n → oa_vr V (acc j)) ∧ (∀ v, v < V → ∃ a, a < V ∧ ad v = nI a)
theorem oa_env_j {V nR n j w : Nat} {reg acc ad : Nat → Int32} (e : oa_env V nR n reg acc ad) (hj : j < n) :
    ∃ v r a, v < V ∧ r < nR ∧ a < V ∧ acc j = nI v ∧ (acc j).toNatClampNeg = v ∧ reg (acc j).toNatClampNeg = nI r ∧ (reg (acc j).toNatClampNeg).toNatClampNeg = r ∧ ad (acc j).toNatClampNeg = nI a ∧ oa_pa acc ad w j ≠ -1 := by
  obtain ⟨hV, hR, _, h1, h2, h3⟩ := e
  obtain ⟨v, hv, ev⟩ := h2 j hj
  have cv : (acc j).toNatClampNeg = v := by rw [ev]; exact nI_clamp (by omega)
  obtain ⟨r, hr, er⟩ := h1 v hv
  obtain ⟨a, ha, ea⟩ := h3 v hv
  refine ⟨v, r, a, hv, hr, ha, ev, cv, by rw [cv, er], by rw [cv, er]; exact nI_clamp (by omega), by rw [cv, ea], ?_⟩
  unfold oa_pa
  split
  · rw [ev]; exact oa_ne (by omega)
  · rw [cv, ea]; exact oa_ne (by omega)
def oa_KI (nR w L q : Nat) (k0 k : oa_K) : Prop := oa_KC nR w L q k0 k ∧ oa_KR nR w k
theorem oa_ac_I {V nR w L q j n o : Nat} {reg acc ad : Nat → Int32} {k0 k : oa_K} (e : oa_env V nR n reg acc ad) (hj : j < n) (h : oa_KI nR w L q k0 k) (hL : L + 2 ≤ 192) (ho : o < 10) :
    ∃ L', L' ≤ L + 2 ∧ oa_KI nR w L' q k0 (oa_ac reg acc ad n w (nI o) j k) := by
  obtain ⟨v, r, a, hv, hr, ha, e1, e2, e3, e4, e5, e6⟩ := oa_env_j (w := w) e hj
  obtain ⟨L', h1, h2⟩ := oa_ac_C (n := n) (ad := ad) e3 hr h.1 hL ho
  exact ⟨L', h1, h2, oa_ac_R e4 hr (fun _ => e6) h.2⟩
theorem oa_em_I {nR w L q o r : Nat} {x : Int32} {k0 k : oa_K} (h : oa_KI nR w L q k0 k) (hL : L < 192) (ho : o ≤ 10) (hr : r < nR) : oa_KI nR w (L + 1) (q + if o = 10 then 1 else 0) k0 (oa_em w (nI o) (nI r) x k) :=
  ⟨oa_em_C h.1 hL ho hr, h.2⟩
theorem oa_KI_up {nR w L q q' : Nat} {k0 k : oa_K} (h : oa_KI nR w L q k0 k) (hq : q ≤ q') : oa_KI nR w L q' k0 k := ⟨⟨oa_CI_up h.1.1 hq, h.1.2⟩, h.2⟩
theorem oa_tt_I {V nR w L q p n : Nat} {reg acc ad : Nat → Int32} {o d a b : Int32} {k0 k : oa_K} (e : oa_env V nR n reg acc ad) (hR : 0 < nR) (st : oa_ST V o d a b acc p) (hp : p + oa_na o ≤ n) (h : oa_KI nR w L q k0 k) (hL : L + 6 ≤ 192) :
    ∃ L', L' ≤ L + 6 ∧ oa_KI nR w L' (q + 1) k0 (oa_tt reg acc ad n w o a p k) := by
  rcases st with ⟨z, hz, rfl, -⟩ | ⟨rfl, -⟩ | ⟨rfl, -⟩ | ⟨rfl, -⟩
  · rw [oa_na5 hz] at hp
    unfold oa_tt
    rw [if_pos (show nI z ≤ 5 from nI_le (b := 5) hz (by decide))]
    obtain ⟨L1, l1, h1⟩ := oa_ac_I (o := 1) e (show p < n by omega) h (by omega) (by omega)
    obtain ⟨L2, l2, h2⟩ := oa_ac_I (o := 2 + z) e (show p + 1 < n by omega) h1 (by omega) (by omega)
    obtain ⟨L3, l3, h3⟩ := oa_ac_I (o := 8) e (show p + 2 < n by omega) h2 (by omega) (by omega)
    rw [← nI_add 2 z] at h3
    exact ⟨L3, by omega, oa_KI_up h3 (by omega)⟩
  · rw [oa_na6] at hp
    unfold oa_tt
    rw [if_neg (by decide), if_pos rfl]
    obtain ⟨L1, l1, h1⟩ := oa_ac_I (o := 1) e (show p < n by omega) h (by omega) (by omega)
    obtain ⟨L2, l2, h2⟩ := oa_ac_I (o := 8) e (show p + 1 < n by omega) h1 (by omega) (by omega)
    exact ⟨L2, by omega, oa_KI_up h2 (by omega)⟩
  · rw [oa_na7] at hp
    unfold oa_tt
    rw [if_neg (by decide), if_neg (by decide), if_pos rfl]
    have h1 := oa_em_I (x := a) (o := 9) (r := 0) h (by omega) (by omega) hR
    rw [if_neg (by omega), Nat.add_zero] at h1
    obtain ⟨L2, l2, h2⟩ := oa_ac_I (o := 8) e (show p < n by omega) h1 (by omega) (by omega)
    exact ⟨L2, by omega, oa_KI_up h2 (by omega)⟩
  · rw [oa_na8] at hp
    unfold oa_tt
    rw [if_neg (by decide), if_neg (by decide), if_neg (by decide)]
    obtain ⟨L1, l1, h1⟩ := oa_ac_I (o := 1) e (show p < n by omega) h (by omega) (by omega)
    have h2 := oa_em_I (x := 0) (o := 10) (r := 0) h1 (by omega) (by omega) hR
    rw [if_pos rfl] at h2
    exact ⟨L1 + 1, by omega, h2⟩
theorem oa_tb_I {V nR w cnt : Nat} {reg acc ad sop sd sa sb : Nat → Int32} {k0 k : oa_K} (hR : 0 < nR) (hc : cnt ≤ 32) (ss : oa_SS V cnt sop sd sa sb acc) (e : oa_env V nR (oa_ps sop cnt) reg acc ad) (h : oa_KI nR w 0 0 k0 k) :
    ∀ i, i ≤ cnt → ∃ L, L ≤ 6 * i ∧ oa_KI nR w L i k0 (oa_tb reg acc ad sop sa (oa_ps sop cnt) w i k) := by
  intro i
  induction i with
  | zero => intro _; exact ⟨0, by omega, h⟩
  | succ i ih =>
    intro hi
    obtain ⟨L, hL, h1⟩ := ih (by omega)
    have hp : oa_ps sop i + oa_na (sop i) ≤ oa_ps sop cnt := oa_ps_mono sop cnt (i + 1) hi
    obtain ⟨L', hL', h2⟩ := oa_tt_I e hR (ss i (by omega)) hp h1 (by omega)
    exact ⟨L', by omega, h2⟩
