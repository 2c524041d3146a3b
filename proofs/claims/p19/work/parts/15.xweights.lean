/-! X: followers and weights -/
theorem oa_ix16 (u v : Nat) : nI u * 16 + nI v = nI (u * 16 + v) := by
  rw [show (16 : Int32) = nI 16 from rfl, pk_mul, nI_add]
section
variable {x_varCount x_regCount x_phase x_statementCount x_accessCount x_nextAddress x_accumulator : Int32} {x_register x_init x_statements x_accessVar x_follower x_weight x_firstLink x_secondLink x_chain x_address x_opcode x_instrRegister x_operand x_codeLength x_addrLoads x_knownAddress x_memory x_addressRegister x_output x_outputCount : Nat → Int32}
theorem xa_nos {n : Nat} (hn : n ≤ 96) (ha : ∀ i, i < n → ∃ k, k < 16 ∧ x_accessVar i = nI k) (r : Int32) (post : Int32 → Prop) :
    ∀ d i fu, i + d = n → d < fu → post (if oa_nx x_register x_accessVar r d i < n then nI (oa_nx x_register x_accessVar r d i) else -1) → wX_nextOfSameRegister_16 post r x_varCount x_regCount x_phase x_statementCount (nI n) x_nextAddress x_accumulator x_register x_init x_statements x_accessVar x_follower x_weight x_firstLink x_secondLink x_chain x_address x_opcode x_instrRegister x_operand x_codeLength x_addrLoads x_knownAddress x_memory x_addressRegister x_output x_outputCount fu (nI i) := by
  intro d
  induction d with
  | zero =>
    intro i fu hi hf hp
    obtain ⟨fu, rfl⟩ : ∃ f, fu = f + 1 := ⟨fu - 1, by omega⟩
    rw [oa_nx, if_neg (by omega)] at hp
    exact br_t (nI_le (by omega) (by omega)) hp
  | succ d ih =>
    intro i fu hi hf hp
    obtain ⟨fu, rfl⟩ : ∃ f, fu = f + 1 := ⟨fu - 1, by omega⟩
    obtain ⟨k, hk, ek⟩ := ha i (by omega)
    refine br_f (nI_ge (by omega) (by omega)) ⟨vp_in_nI (by omega) (by omega), ?_, ?_⟩
    · rw [nI_clamp (by omega), ek]; exact vp_in_nI hk (by omega)
    · rw [nI_clamp (by omega)]
      by_cases c : x_register (x_accessVar i).toNatClampNeg = r
      · rw [oa_nx, if_pos c, if_pos (by omega)] at hp
        exact br_t c hp
      · rw [oa_nx, if_neg c] at hp
        exact br_f c (nm_r (nI_1 i) (ih (i + 1) fu (by omega) (by omega) hp))
theorem xa_fo {n j : Nat} (hn : n ≤ 96) (ha : ∀ i, i < n → ∃ k, k < 16 ∧ x_accessVar i = nI k) (hj : j < n) (post : Int32 → Prop) (hp : post (oa_fv x_register x_accessVar n j)) :
    wpX_nextOfSameRegister post (x_varCount, x_regCount, x_phase, x_statementCount, nI n, x_nextAddress, x_accumulator, x_register, x_init, x_statements, x_accessVar, x_follower, x_weight, x_firstLink, x_secondLink, x_chain, x_address, x_opcode, x_instrRegister, x_operand, x_codeLength, x_addrLoads, x_knownAddress, x_memory, x_addressRegister, x_output, x_outputCount) (nI j) := by
  obtain ⟨k, hk, ek⟩ := ha j hj
  refine ⟨vp_in_nI (by omega) (by omega), ?_, fun r er y ey => ?_⟩
  · rw [nI_clamp (by omega), ek]; exact vp_in_nI hk (by omega)
  · rw [nI_clamp (by omega)] at er
    subst er
    rw [ey, nI_1]
    exact ⟨n + 1, xa_nos hn ha _ post (n - (j + 1)) (j + 1) (n + 1) (by omega) (by omega) hp⟩
theorem xa_ff_l {n : Nat} (hn : n ≤ 96) (ha : ∀ i, i < n → ∃ k, k < 16 ∧ x_accessVar i = nI k) (post : St2 → Prop) (hp : post (x_varCount, x_regCount, x_phase, x_statementCount, nI n, x_nextAddress, x_accumulator, x_register, x_init, x_statements, x_accessVar, (oa_fill x_follower (oa_fv x_register x_accessVar n) n), x_weight, x_firstLink, x_secondLink, x_chain, x_address, x_opcode, x_instrRegister, x_operand, x_codeLength, x_addrLoads, x_knownAddress, x_memory, x_addressRegister, x_output, x_outputCount)) :
    ∀ d i fu, i + d = n → d < fu → wX_findFollowers_2 post x_varCount x_regCount x_phase x_statementCount (nI n) x_nextAddress x_accumulator fu (nI i) x_register x_init x_statements x_accessVar (oa_fill x_follower (oa_fv x_register x_accessVar n) i) x_weight x_firstLink x_secondLink x_chain x_address x_opcode x_instrRegister x_operand x_codeLength x_addrLoads x_knownAddress x_memory x_addressRegister x_output x_outputCount := by
  intro d
  induction d with
  | zero =>
    intro i fu hi hf
    obtain ⟨fu, rfl⟩ : ∃ f, fu = f + 1 := ⟨fu - 1, by omega⟩
    have e : i = n := by omega
    subst e
    exact br_t (nI_le (by omega) (by omega)) hp
  | succ d ih =>
    intro i fu hi hf
    obtain ⟨fu, rfl⟩ : ∃ f, fu = f + 1 := ⟨fu - 1, by omega⟩
    refine br_f (nI_ge (by omega) (by omega)) (xa_fo hn ha (show i < n by omega) _ ⟨vp_in_nI (by omega) (by omega), nm_r ?_ (nm_r (nI_1 i) (ih (i + 1) fu (by omega) (by omega)))⟩)
    rw [nI_clamp (by omega)]
    exact oa_fill_s rfl
theorem xa_ff {n : Nat} (hn : n ≤ 96) (ha : ∀ i, i < n → ∃ k, k < 16 ∧ x_accessVar i = nI k) (post : St2 → Prop) (hp : post (x_varCount, x_regCount, x_phase, x_statementCount, nI n, x_nextAddress, x_accumulator, x_register, x_init, x_statements, x_accessVar, (oa_fill x_follower (oa_fv x_register x_accessVar n) n), x_weight, x_firstLink, x_secondLink, x_chain, x_address, x_opcode, x_instrRegister, x_operand, x_codeLength, x_addrLoads, x_knownAddress, x_memory, x_addressRegister, x_output, x_outputCount)) :
    wpX_findFollowers post (x_varCount, x_regCount, x_phase, x_statementCount, nI n, x_nextAddress, x_accumulator, x_register, x_init, x_statements, x_accessVar, x_follower, x_weight, x_firstLink, x_secondLink, x_chain, x_address, x_opcode, x_instrRegister, x_operand, x_codeLength, x_addrLoads, x_knownAddress, x_memory, x_addressRegister, x_output, x_outputCount) := by
  have h := xa_ff_l hn ha post hp n 0 (n + 1) (by omega) (by omega)
  rw [oa_fill_0] at h
  exact ⟨n + 1, h⟩
theorem xa_cp {u v : Nat} (hu : u < 16) (hv : v < 16) (post : St2 → Prop) (h1 : nI u = nI v → post (x_varCount, x_regCount, x_phase, x_statementCount, x_accessCount, x_nextAddress, x_accumulator, x_register, x_init, x_statements, x_accessVar, x_follower, x_weight, x_firstLink, x_secondLink, x_chain, x_address, x_opcode, x_instrRegister, x_operand, x_codeLength, x_addrLoads, x_knownAddress, x_memory, x_addressRegister, x_output, x_outputCount))
    (h2 : ¬ nI u = nI v → post (x_varCount, x_regCount, x_phase, x_statementCount, x_accessCount, x_nextAddress, x_accumulator, x_register, x_init, x_statements, x_accessVar, x_follower, (upd (upd x_weight (u * 16 + v) (x_weight (u * 16 + v) + 1)) (v * 16 + u) (upd x_weight (u * 16 + v) (x_weight (u * 16 + v) + 1) (v * 16 + u) + 1)), x_firstLink, x_secondLink, x_chain, x_address, x_opcode, x_instrRegister, x_operand, x_codeLength, x_addrLoads, x_knownAddress, x_memory, x_addressRegister, x_output, x_outputCount)) :
    wpX_countPair post (x_varCount, x_regCount, x_phase, x_statementCount, x_accessCount, x_nextAddress, x_accumulator, x_register, x_init, x_statements, x_accessVar, x_follower, x_weight, x_firstLink, x_secondLink, x_chain, x_address, x_opcode, x_instrRegister, x_operand, x_codeLength, x_addrLoads, x_knownAddress, x_memory, x_addressRegister, x_output, x_outputCount) (nI u) (nI v) := by
  unfold wpX_countPair
  dsimp only
  rw [oa_ix16, oa_ix16]
  have i1 : vp_in (nI (u * 16 + v)) 256 := vp_in_nI (by omega) (by omega)
  have i2 : vp_in (nI (v * 16 + u)) 256 := vp_in_nI (by omega) (by omega)
  rw [nI_clamp (show u * 16 + v < 2 ^ 31 by omega), nI_clamp (show v * 16 + u < 2 ^ 31 by omega)]
  exact br_c h1 fun hn => ⟨i1, i1, nm_e ⟨i2, i2, nm_e (h2 hn)⟩⟩
theorem xa_cw_l {n : Nat} (hn : n ≤ 96) (ha : ∀ i, i < n → ∃ k, k < 16 ∧ x_accessVar i = nI k) (hF : ∀ j, j < n → x_follower j = oa_fv x_register x_accessVar n j) (w0 : Nat → Int32) (post : St2 → Prop)
    (hp : post (x_varCount, x_regCount, x_phase, x_statementCount, nI n, x_nextAddress, x_accumulator, x_register, x_init, x_statements, x_accessVar, x_follower, oa_wA w0 x_register x_accessVar n n, x_firstLink, x_secondLink, x_chain, x_address, x_opcode, x_instrRegister, x_operand, x_codeLength, x_addrLoads, x_knownAddress, x_memory, x_addressRegister, x_output, x_outputCount)) :
    ∀ d i fu, i + d = n → d < fu → wX_countWeights_24 post fu (nI i) x_varCount x_regCount x_phase x_statementCount (nI n) x_nextAddress x_accumulator x_register x_init x_statements x_accessVar x_follower (oa_wA w0 x_register x_accessVar n i) x_firstLink x_secondLink x_chain x_address x_opcode x_instrRegister x_operand x_codeLength x_addrLoads x_knownAddress x_memory x_addressRegister x_output x_outputCount := by
  intro d
  induction d with
  | zero =>
    intro i fu hi hf
    obtain ⟨fu, rfl⟩ : ∃ f, fu = f + 1 := ⟨fu - 1, by omega⟩
    have e : i = n := by omega
    subst e
    exact br_t (nI_le (by omega) (by omega)) hp
  | succ d ih =>
    intro i fu hi hf
    obtain ⟨fu, rfl⟩ : ∃ f, fu = f + 1 := ⟨fu - 1, by omega⟩
    have nx := ih (i + 1) fu (by omega) (by omega)
    have vi : vp_in (nI i) 96 := vp_in_nI (by omega) (by omega)
    refine br_f (nI_ge (by omega) (by omega)) ⟨vi, ?_⟩
    rw [nI_clamp (show i < 2 ^ 31 by omega), hF i (by omega)]
    unfold oa_fv
    by_cases hf2 : oa_fo x_register x_accessVar n i < n
    · rw [if_pos hf2]
      obtain ⟨u, hu, eu⟩ := ha i (by omega)
      obtain ⟨v, hv, ev⟩ := ha (oa_fo x_register x_accessVar n i) hf2
      refine br_f (oa_ne (by omega)) ⟨vi, vi, vp_in_nI (show oa_fo x_register x_accessVar n i < 96 by omega) (by omega), ?_⟩
      rw [nI_clamp (show oa_fo x_register x_accessVar n i < 2 ^ 31 by omega), eu, ev]
      refine xa_cp hu hv _ (fun he => nm_r (nI_1 i) ?_) (fun he => nm_r (nI_1 i) ?_)
      · rw [oa_wA, if_pos hf2, if_pos (by rw [eu, ev]; exact he)] at nx
        exact nx
      · rw [oa_wA, if_pos hf2, if_neg (by rw [eu, ev]; exact he), eu, ev, nI_clamp (show u < 2 ^ 31 by omega), nI_clamp (show v < 2 ^ 31 by omega)] at nx
        exact nx
    · rw [if_neg hf2]
      rw [oa_wA, if_neg hf2] at nx
      exact br_t rfl (nm_r (nI_1 i) nx)
theorem xa_cw_z (post : St2 → Prop) (hp : ∃ f, wX_countWeights_24 post f 0 x_varCount x_regCount x_phase x_statementCount x_accessCount x_nextAddress x_accumulator x_register x_init x_statements x_accessVar x_follower (oa_fill x_weight (fun _ => 0) 256) x_firstLink x_secondLink x_chain x_address x_opcode x_instrRegister x_operand x_codeLength x_addrLoads x_knownAddress x_memory x_addressRegister x_output x_outputCount) :
    ∀ d i fu, i + d = 256 → d < fu → wX_countWeights_2 post x_varCount x_regCount x_phase x_statementCount x_accessCount x_nextAddress x_accumulator fu (nI i) x_register x_init x_statements x_accessVar x_follower (oa_fill x_weight (fun _ => 0) i) x_firstLink x_secondLink x_chain x_address x_opcode x_instrRegister x_operand x_codeLength x_addrLoads x_knownAddress x_memory x_addressRegister x_output x_outputCount := by
  intro d
  induction d with
  | zero =>
    intro i fu hi hf
    obtain ⟨fu, rfl⟩ : ∃ f, fu = f + 1 := ⟨fu - 1, by omega⟩
    have e : i = 256 := by omega
    subst e
    exact br_t (by decide) hp
  | succ d ih =>
    intro i fu hi hf
    obtain ⟨fu, rfl⟩ : ∃ f, fu = f + 1 := ⟨fu - 1, by omega⟩
    refine br_f (nI_ge (b := 256) (by omega) (by decide)) ⟨vp_in_nI (by omega) (by omega), nm_r ?_ (nm_r (nI_1 i) (ih (i + 1) fu (by omega) (by omega)))⟩
    rw [nI_clamp (by omega)]
    exact oa_fill_s rfl
theorem xa_cw {n : Nat} (hn : n ≤ 96) (ha : ∀ i, i < n → ∃ k, k < 16 ∧ x_accessVar i = nI k) (hF : ∀ j, j < n → x_follower j = oa_fv x_register x_accessVar n j) (post : St2 → Prop)
    (hp : post (x_varCount, x_regCount, x_phase, x_statementCount, nI n, x_nextAddress, x_accumulator, x_register, x_init, x_statements, x_accessVar, x_follower, (oa_wA (oa_fill x_weight (fun _ => 0) 256) x_register x_accessVar n n), x_firstLink, x_secondLink, x_chain, x_address, x_opcode, x_instrRegister, x_operand, x_codeLength, x_addrLoads, x_knownAddress, x_memory, x_addressRegister, x_output, x_outputCount)) : wpX_countWeights post (x_varCount, x_regCount, x_phase, x_statementCount, nI n, x_nextAddress, x_accumulator, x_register, x_init, x_statements, x_accessVar, x_follower, x_weight, x_firstLink, x_secondLink, x_chain, x_address, x_opcode, x_instrRegister, x_operand, x_codeLength, x_addrLoads, x_knownAddress, x_memory, x_addressRegister, x_output, x_outputCount) := by
  have h := xa_cw_z (x_accessCount := nI n) post ⟨n + 1, xa_cw_l hn ha hF (oa_fill x_weight (fun _ => 0) 256) post hp n 0 (n + 1) (by omega) (by omega)⟩ 256 0 257 (by omega) (by omega)
  rw [oa_fill_0] at h
  exact ⟨257, h⟩
end
