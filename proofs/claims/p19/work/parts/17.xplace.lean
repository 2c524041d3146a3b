/-! X: addresses -/
theorem oa_sm_r (s c : Nat → Int32) (x : Int32) {V : Nat} : ∀ d v, v + d = V → oa_sm s c x d v = -1 ∨ ∃ e, e < V ∧ oa_sm s c x d v = nI e := by
  intro d
  induction d with
  | zero => intro v _; exact Or.inl rfl
  | succ d ih =>
    intro v hv
    rw [oa_sm]
    split
    · exact Or.inr ⟨v, by omega, rfl⟩
    · exact ih (v + 1) (by omega)
def oa_LR (V : Nat) (f s : Nat → Int32) : Prop := ∀ k, k < V → (f k = -1 ∨ ∃ y, y < V ∧ f k = nI y) ∧ (s k = -1 ∨ ∃ y, y < V ∧ s k = nI y)
theorem oa_G_LR {V : Nat} {f s c : Nat → Int32} (g : oa_G V f s c) : oa_LR V f s := by
  intro k hk
  refine ⟨?_, ?_⟩
  · rcases g.1 k hk with h | ⟨y, hy, _, h⟩
    · exact Or.inl h
    · exact Or.inr ⟨y, hy, h⟩
  · rcases g.2.1 k hk with h | ⟨y, hy, _, h⟩
    · exact Or.inl h
    · exact Or.inr ⟨y, hy, h⟩
section
variable {x_varCount x_regCount x_phase x_statementCount x_accessCount x_nextAddress x_accumulator : Int32} {x_register x_init x_statements x_accessVar x_follower x_weight x_firstLink x_secondLink x_chain x_address x_opcode x_instrRegister x_operand x_codeLength x_addrLoads x_knownAddress x_memory x_addressRegister x_output x_outputCount : Nat → Int32}
theorem xa_se {V k : Nat} (hV : V ≤ 16) (hk : k < V) (post : Int32 → Prop) :
    ∀ d v fu, v + d = V → d < fu → post (oa_sm x_secondLink x_chain (x_chain k) d v) → wX_smallerEnd_2 post (nI k) (nI V) x_regCount x_phase x_statementCount x_accessCount x_nextAddress x_accumulator x_register x_init x_statements x_accessVar x_follower x_weight x_firstLink x_secondLink x_chain x_address x_opcode x_instrRegister x_operand x_codeLength x_addrLoads x_knownAddress x_memory x_addressRegister x_output x_outputCount fu (nI v) := by
  have ik : vp_in (nI k) 16 := vp_in_nI (by omega) (by omega)
  intro d
  induction d with
  | zero =>
    intro v fu hv hf hp
    obtain ⟨fu, rfl⟩ : ∃ f, fu = f + 1 := ⟨fu - 1, by omega⟩
    exact br_t (nI_le (by omega) (by omega)) hp
  | succ d ih =>
    intro v fu hv hf hp
    obtain ⟨fu, rfl⟩ : ∃ f, fu = f + 1 := ⟨fu - 1, by omega⟩
    have iv : vp_in (nI v) 16 := vp_in_nI (by omega) (by omega)
    rw [oa_sm] at hp
    refine br_f (nI_ge (by omega) (by omega)) ⟨iv, ik, ?_⟩
    rw [nI_clamp (show v < 2 ^ 31 by omega), nI_clamp (show k < 2 ^ 31 by omega)]
    by_cases c : x_chain v = x_chain k
    · refine br_t c ⟨iv, ?_⟩
      by_cases s : x_secondLink v = -1
      · rw [if_pos ⟨c, s⟩] at hp
        exact br_t s hp
      · rw [if_neg (fun z => s z.2)] at hp
        exact br_f s (nm_r (nI_1 v) (ih (v + 1) fu (by omega) (by omega) hp))
    · rw [if_neg (fun z => c z.1)] at hp
      exact br_f c (nm_r (nI_1 v) (ih (v + 1) fu (by omega) (by omega) hp))
theorem xa_pp_l {V : Nat} (hV : V ≤ 16) (hl : oa_LR V x_firstLink x_secondLink) (post : St2 → Prop) :
    ∀ d i fu pr cu (b : oa_B), i + d = V → d < fu → (cu = -1 ∨ ∃ k, k < V ∧ cu = nI k) →
      post (nI V, x_regCount, x_phase, x_statementCount, x_accessCount, (nI (oa_tr x_firstLink x_secondLink d pr cu b).2.2.2), x_accumulator, x_register, x_init, x_statements, x_accessVar, x_follower, x_weight, x_firstLink, x_secondLink, x_chain, ((oa_tr x_firstLink x_secondLink d pr cu b).1), x_opcode, x_instrRegister, x_operand, x_codeLength, x_addrLoads, x_knownAddress, x_memory, x_addressRegister, x_output, x_outputCount) →
      wX_placePath_11 post (nI V) x_regCount x_phase x_statementCount x_accessCount x_accumulator fu pr cu (nI i) (nI b.2.2.2) x_register x_init x_statements x_accessVar x_follower x_weight x_firstLink x_secondLink x_chain b.1 x_opcode x_instrRegister x_operand x_codeLength x_addrLoads x_knownAddress x_memory x_addressRegister x_output x_outputCount := by
  intro d
  induction d with
  | zero =>
    intro i fu pr cu b hi hf _ hp
    obtain ⟨fu, rfl⟩ : ∃ f, fu = f + 1 := ⟨fu - 1, by omega⟩
    exact br_t (nI_le (by omega) (by omega)) hp
  | succ d ih =>
    intro i fu pr cu b hi hf hc hp
    obtain ⟨fu, rfl⟩ : ∃ f, fu = f + 1 := ⟨fu - 1, by omega⟩
    refine br_f (nI_ge (by omega) (by omega)) ?_
    rw [oa_tr] at hp
    by_cases c : cu = -1
    · rw [if_pos c] at hp
      exact br_t c hp
    · rcases hc with hc | ⟨k, hk, rfl⟩
      · exact absurd hc c
      rw [if_neg c, nI_clamp (show k < 2 ^ 31 by omega)] at hp
      have ik : vp_in (nI k) 16 := vp_in_nI (by omega) (by omega)
      refine br_f c ⟨ik, nm_r (show _ = upd b.1 k (nI b.2.2.2) by rw [nI_clamp (show k < 2 ^ 31 by omega)]) (nm_r (nI_1 b.2.2.2) ⟨ik, ?_⟩)⟩
      rw [nI_clamp (show k < 2 ^ 31 by omega)]
      by_cases e : x_firstLink k = pr
      · refine br_t e ⟨ik, nm_r (show _ = oa_nt x_firstLink x_secondLink pr k by unfold oa_nt; rw [if_pos e]) (nm_r (nI_1 i) (ih (i + 1) fu (nI k) _ (oa_b1 b k) (by omega) (by omega) ?_ hp))⟩
        unfold oa_nt; rw [if_pos e]; exact (hl k hk).2
      · refine br_f e ⟨ik, nm_r (show _ = oa_nt x_firstLink x_secondLink pr k by unfold oa_nt; rw [if_neg e]) (nm_r (nI_1 i) (ih (i + 1) fu (nI k) _ (oa_b1 b k) (by omega) (by omega) ?_ hp))⟩
        unfold oa_nt; rw [if_neg e]; exact (hl k hk).1
theorem xa_pp {V k : Nat} (hV : V ≤ 16) (hk : k < V) (hl : oa_LR V x_firstLink x_secondLink) (post : St2 → Prop) (b b' : oa_B) (eb : oa_tr x_firstLink x_secondLink V (-1) (oa_sm x_secondLink x_chain (x_chain k) V 0) b = b')
    (hp : post (nI V, x_regCount, x_phase, x_statementCount, x_accessCount, nI b'.2.2.2, x_accumulator, x_register, x_init, x_statements, x_accessVar, x_follower, x_weight, x_firstLink, x_secondLink, x_chain, b'.1, x_opcode, x_instrRegister, x_operand, x_codeLength, x_addrLoads, x_knownAddress, x_memory, x_addressRegister, x_output, x_outputCount)) : wpX_placePath post (nI V, x_regCount, x_phase, x_statementCount, x_accessCount, nI b.2.2.2, x_accumulator, x_register, x_init, x_statements, x_accessVar, x_follower, x_weight, x_firstLink, x_secondLink, x_chain, b.1, x_opcode, x_instrRegister, x_operand, x_codeLength, x_addrLoads, x_knownAddress, x_memory, x_addressRegister, x_output, x_outputCount) (nI k) := by
  subst eb
  exact ⟨V + 1, xa_se hV hk _ V 0 (V + 1) (by omega) (by omega) ⟨V + 1, xa_pp_l hV hl post V 0 (V + 1) (-1) _ b (by omega) (by omega) (oa_sm_r x_secondLink x_chain (x_chain k) V 0 (by omega)) hp⟩⟩
theorem xa_a40 {V r : Nat} (hV : V ≤ 16) (hl : oa_LR V x_firstLink x_secondLink) (post : St2 → Prop) (J30 : oa_JX) :
    ∀ d v fu (b : oa_B), v + d = V → d < fu →
      J30 (nI (r + 1)) (nI V) x_regCount x_phase x_statementCount x_accessCount (nI (oa_av x_register x_firstLink x_secondLink x_chain V (nI r) d v b).2.2.2) x_accumulator x_register x_init x_statements x_accessVar x_follower x_weight x_firstLink x_secondLink x_chain ((oa_av x_register x_firstLink x_secondLink x_chain V (nI r) d v b).1) x_opcode x_instrRegister x_operand x_codeLength x_addrLoads x_knownAddress x_memory x_addressRegister x_output x_outputCount →
      wX_assignAddresses_40 post J30 (nI r) fu (nI v) (nI V) x_regCount x_phase x_statementCount x_accessCount (nI b.2.2.2) x_accumulator x_register x_init x_statements x_accessVar x_follower x_weight x_firstLink x_secondLink x_chain b.1 x_opcode x_instrRegister x_operand x_codeLength x_addrLoads x_knownAddress x_memory x_addressRegister x_output x_outputCount := by
  intro d
  induction d with
  | zero =>
    intro v fu b hv hf hp
    obtain ⟨fu, rfl⟩ : ∃ f, fu = f + 1 := ⟨fu - 1, by omega⟩
    exact br_t (nI_le (by omega) (by omega)) (nm_r (nI_1 r) hp)
  | succ d ih =>
    intro v fu b hv hf hp
    obtain ⟨fu, rfl⟩ : ∃ f, fu = f + 1 := ⟨fu - 1, by omega⟩
    have nx := ih (v + 1) fu (oa_a1 x_register x_firstLink x_secondLink x_chain V (nI r) v b) (by omega) (by omega) hp
    have iv : vp_in (nI v) 16 := vp_in_nI (by omega) (by omega)
    refine br_f (nI_ge (by omega) (by omega)) ⟨iv, ?_⟩
    rw [nI_clamp (show v < 2 ^ 31 by omega)]
    by_cases c : x_register v = nI r
    · refine br_t c ⟨iv, ?_⟩
      by_cases a : b.1 v = -1
      · refine br_t a (xa_pp hV (by omega) hl _ b _ rfl (nm_r (nI_1 v) ?_))
        rw [show oa_a1 x_register x_firstLink x_secondLink x_chain V (nI r) v b = _ from if_pos ⟨c, a⟩] at nx
        exact nx
      · rw [show oa_a1 x_register x_firstLink x_secondLink x_chain V (nI r) v b = b from if_neg (fun z => a z.2)] at nx
        exact br_f a (nm_r (nI_1 v) nx)
    · rw [show oa_a1 x_register x_firstLink x_secondLink x_chain V (nI r) v b = b from if_neg (fun z => c z.1)] at nx
      exact br_f c (nm_r (nI_1 v) nx)
theorem xa_a30 {V nR : Nat} (hV : V ≤ 16) (hR : nR ≤ 4) (hl : oa_LR V x_firstLink x_secondLink) (post : St2 → Prop) :
    ∀ d r fu (b : oa_B), r + d = nR → d < fu →
      post (nI V, nI nR, x_phase, x_statementCount, x_accessCount, (nI (oa_aw x_register x_firstLink x_secondLink x_chain V d r b).2.2.2), x_accumulator, x_register, x_init, x_statements, x_accessVar, x_follower, x_weight, x_firstLink, x_secondLink, x_chain, ((oa_aw x_register x_firstLink x_secondLink x_chain V d r b).1), x_opcode, x_instrRegister, x_operand, x_codeLength, x_addrLoads, x_knownAddress, x_memory, x_addressRegister, x_output, x_outputCount) →
      wX_assignAddresses_30 post fu (nI r) (nI V) (nI nR) x_phase x_statementCount x_accessCount (nI b.2.2.2) x_accumulator x_register x_init x_statements x_accessVar x_follower x_weight x_firstLink x_secondLink x_chain b.1 x_opcode x_instrRegister x_operand x_codeLength x_addrLoads x_knownAddress x_memory x_addressRegister x_output x_outputCount := by
  intro d
  induction d with
  | zero =>
    intro r fu b hr hf hp
    obtain ⟨fu, rfl⟩ : ∃ f, fu = f + 1 := ⟨fu - 1, by omega⟩
    exact br_t (nI_le (by omega) (by omega)) hp
  | succ d ih =>
    intro r fu b hr hf hp
    obtain ⟨fu, rfl⟩ : ∃ f, fu = f + 1 := ⟨fu - 1, by omega⟩
    exact br_f (nI_ge (by omega) (by omega)) ⟨V + 1, xa_a40 hV hl post _ V 0 (V + 1) b (by omega) (by omega) (ih (r + 1) fu _ (by omega) (by omega) hp)⟩
theorem xa_aa_l {V : Nat} (hV : V ≤ 16) (post : St2 → Prop) (hp : ∃ f, wX_assignAddresses_30 post f 0 (nI V) x_regCount x_phase x_statementCount x_accessCount 0 x_accumulator x_register x_init x_statements x_accessVar x_follower x_weight x_firstLink x_secondLink x_chain (oa_fill x_address (fun _ => -1) V) x_opcode x_instrRegister x_operand x_codeLength x_addrLoads x_knownAddress x_memory x_addressRegister x_output x_outputCount) :
    ∀ d i fu, i + d = V → d < fu → wX_assignAddresses_2 post (nI V) x_regCount x_phase x_statementCount x_accessCount x_nextAddress x_accumulator fu (nI i) x_register x_init x_statements x_accessVar x_follower x_weight x_firstLink x_secondLink x_chain (oa_fill x_address (fun _ => -1) i) x_opcode x_instrRegister x_operand x_codeLength x_addrLoads x_knownAddress x_memory x_addressRegister x_output x_outputCount := by
  intro d
  induction d with
  | zero =>
    intro i fu hi hf
    obtain ⟨fu, rfl⟩ : ∃ f, fu = f + 1 := ⟨fu - 1, by omega⟩
    have e : i = V := by omega
    subst e
    exact br_t (nI_le (by omega) (by omega)) hp
  | succ d ih =>
    intro i fu hi hf
    obtain ⟨fu, rfl⟩ : ∃ f, fu = f + 1 := ⟨fu - 1, by omega⟩
    have vi : vp_in (nI i) 16 := vp_in_nI (by omega) (by omega)
    refine br_f (nI_ge (by omega) (by omega)) ⟨vi, nm_r ?_ (nm_r (nI_1 i) (ih (i + 1) fu (by omega) (by omega)))⟩
    rw [nI_clamp (show i < 2 ^ 31 by omega)]
    exact oa_fill_s rfl
theorem xa_aa {V nR : Nat} (hV : V ≤ 16) (hR : nR ≤ 4) (hl : oa_LR V x_firstLink x_secondLink) (ay pl : Nat → Int32) (post : St2 → Prop) (b : oa_B)
    (eb : oa_aw x_register x_firstLink x_secondLink x_chain V nR 0 (oa_fill x_address (fun _ => -1) V, ay, pl, 0) = b)
    (hp : post (nI V, nI nR, x_phase, x_statementCount, x_accessCount, nI b.2.2.2, x_accumulator, x_register, x_init, x_statements, x_accessVar, x_follower, x_weight, x_firstLink, x_secondLink, x_chain, b.1, x_opcode, x_instrRegister, x_operand, x_codeLength, x_addrLoads, x_knownAddress, x_memory, x_addressRegister, x_output, x_outputCount)) : wpX_assignAddresses post (nI V, nI nR, x_phase, x_statementCount, x_accessCount, x_nextAddress, x_accumulator, x_register, x_init, x_statements, x_accessVar, x_follower, x_weight, x_firstLink, x_secondLink, x_chain, x_address, x_opcode, x_instrRegister, x_operand, x_codeLength, x_addrLoads, x_knownAddress, x_memory, x_addressRegister, x_output, x_outputCount) := by
  subst eb
  have h := xa_aa_l (x_regCount := nI nR) (x_nextAddress := x_nextAddress) hV post ⟨nR + 1, xa_a30 hV hR hl post nR 0 (nR + 1) (oa_fill x_address (fun _ => -1) V, ay, pl, 0) (by omega) (by omega) hp⟩ V 0 (V + 1) (by omega) (by omega)
  rw [oa_fill_0] at h
  exact ⟨V + 1, h⟩
end
