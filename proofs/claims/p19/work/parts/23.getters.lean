/-! X: the methods that read -/
section
variable {x_varCount x_regCount x_phase x_statementCount x_accessCount x_nextAddress x_accumulator : Int32} {x_register x_init x_statements x_accessVar x_follower x_weight x_firstLink x_secondLink x_chain x_address x_opcode x_instrRegister x_operand x_codeLength x_addrLoads x_knownAddress x_memory x_addressRegister x_output x_outputCount : Nat → Int32}
theorem xg_oc2 {w : Nat} {y : Int32} (hw : w < 2) (h : x_phase = 2) (ey : x_outputCount w = y) (post : Int32 → Prop) (hp : post y) : wpX_getOutputCount post (x_varCount, x_regCount, x_phase, x_statementCount, x_accessCount, x_nextAddress, x_accumulator, x_register, x_init, x_statements, x_accessVar, x_follower, x_weight, x_firstLink, x_secondLink, x_chain, x_address, x_opcode, x_instrRegister, x_operand, x_codeLength, x_addrLoads, x_knownAddress, x_memory, x_addressRegister, x_output, x_outputCount) (nI w) := by
  subst ey
  unfold wpX_getOutputCount
  dsimp only
  refine br_t h (xa_ip1 hw _ (br_f (by decide) ⟨vp_in_nI hw (by omega), ?_⟩))
  rw [nI_clamp (show w < 2 ^ 31 by omega)]
  exact hp
theorem xg_oc0 {p : Int32} (h : ¬ x_phase = 2) (post : Int32 → Prop) (hp : post (-1)) : wpX_getOutputCount post (x_varCount, x_regCount, x_phase, x_statementCount, x_accessCount, x_nextAddress, x_accumulator, x_register, x_init, x_statements, x_accessVar, x_follower, x_weight, x_firstLink, x_secondLink, x_chain, x_address, x_opcode, x_instrRegister, x_operand, x_codeLength, x_addrLoads, x_knownAddress, x_memory, x_addressRegister, x_output, x_outputCount) p := by
  unfold wpX_getOutputCount
  exact br_f h hp
theorem xg_ou {w q j : Nat} (hw : w < 2) (h : x_phase = 2) (eq : x_outputCount w = nI q) (hq : q ≤ 32) (hj : j < q) {y : Int32} (ey : x_output (32 * w + j) = y) (post : Int32 → Prop) (hp : post y) : wpX_getOutput post (x_varCount, x_regCount, x_phase, x_statementCount, x_accessCount, x_nextAddress, x_accumulator, x_register, x_init, x_statements, x_accessVar, x_follower, x_weight, x_firstLink, x_secondLink, x_chain, x_address, x_opcode, x_instrRegister, x_operand, x_codeLength, x_addrLoads, x_knownAddress, x_memory, x_addressRegister, x_output, x_outputCount) (nI w) (nI j) := by
  subst ey
  unfold wpX_getOutput
  dsimp only
  refine br_t h (xa_ip1 hw _ (br_f (by decide) (br_f (nI_pos (by omega)) ⟨vp_in_nI hw (by omega), ?_⟩)))
  rw [nI_clamp (show w < 2 ^ 31 by omega), eq]
  refine br_t (nI_lt hj (by omega)) ?_
  rw [oa_ix32, nI_clamp (show 32 * w + j < 2 ^ 31 by omega)]
  exact ⟨vp_in_nI (by omega) (by omega), hp⟩
theorem xg_va {V w v c : Nat} (hV : V ≤ 16) (hw : w < 2) (hv : v < V) (h : x_phase = 2) (ec : (if w = 0 then nI v else x_address v) = nI c) (hc : c < 16) {y : Int32} (ey : x_memory (16 * w + c) = y) (post : Int32 → Prop) (hp : post y) : wpX_getVar post (nI V, x_regCount, x_phase, x_statementCount, x_accessCount, x_nextAddress, x_accumulator, x_register, x_init, x_statements, x_accessVar, x_follower, x_weight, x_firstLink, x_secondLink, x_chain, x_address, x_opcode, x_instrRegister, x_operand, x_codeLength, x_addrLoads, x_knownAddress, x_memory, x_addressRegister, x_output, x_outputCount) (nI w) (nI v) := by
  subst ey
  unfold wpX_getVar
  dsimp only
  refine br_t h (xa_ip1 hw _ (br_f (by decide) (xa_iv _ (fun _ => br_f (by decide) ?_) (fun z => absurd ⟨nI_pos' (by omega), nI_lt hv (by omega)⟩ z))))
  refine xa_ai hw (by omega) ec _ ?_
  rw [oa_ix16w, nI_clamp (show 16 * w + c < 2 ^ 31 by omega)]
  exact ⟨vp_in_nI (by omega) (by omega), hp⟩
theorem xg_al {w : Nat} {y : Int32} (hw : w < 2) (h : ¬ x_phase = 0) (ey : x_addrLoads w = y) (post : Int32 → Prop) (hp : post y) : wpX_getAddrLoads post (x_varCount, x_regCount, x_phase, x_statementCount, x_accessCount, x_nextAddress, x_accumulator, x_register, x_init, x_statements, x_accessVar, x_follower, x_weight, x_firstLink, x_secondLink, x_chain, x_address, x_opcode, x_instrRegister, x_operand, x_codeLength, x_addrLoads, x_knownAddress, x_memory, x_addressRegister, x_output, x_outputCount) (nI w) := by
  subst ey
  unfold wpX_getAddrLoads
  dsimp only
  refine br_f h (xa_ip1 hw _ (br_f (by decide) ⟨vp_in_nI hw (by omega), ?_⟩))
  rw [nI_clamp (show w < 2 ^ 31 by omega)]
  exact hp
theorem xg_al0 {p : Int32} (h : x_phase = 0) (post : Int32 → Prop) (hp : post (-1)) : wpX_getAddrLoads post (x_varCount, x_regCount, x_phase, x_statementCount, x_accessCount, x_nextAddress, x_accumulator, x_register, x_init, x_statements, x_accessVar, x_follower, x_weight, x_firstLink, x_secondLink, x_chain, x_address, x_opcode, x_instrRegister, x_operand, x_codeLength, x_addrLoads, x_knownAddress, x_memory, x_addressRegister, x_output, x_outputCount) p := by
  unfold wpX_getAddrLoads
  exact br_t h hp
theorem xg_sc {f : Int32} (post : Int32 → Prop) (hp : post x_statementCount) : wpX_getStatement post (x_varCount, x_regCount, x_phase, x_statementCount, x_accessCount, x_nextAddress, x_accumulator, x_register, x_init, x_statements, x_accessVar, x_follower, x_weight, x_firstLink, x_secondLink, x_chain, x_address, x_opcode, x_instrRegister, x_operand, x_codeLength, x_addrLoads, x_knownAddress, x_memory, x_addressRegister, x_output, x_outputCount) (-1) f := by
  unfold wpX_getStatement
  exact br_t rfl hp
theorem xg_st {cnt i f : Nat} (hn : cnt ≤ 32) (hi : i < cnt) (hf : f < 4) {y : Int32} (ey : x_statements (i * 4 + f) = y) (post : Int32 → Prop) (hp : post y) : wpX_getStatement post (x_varCount, x_regCount, x_phase, nI cnt, x_accessCount, x_nextAddress, x_accumulator, x_register, x_init, x_statements, x_accessVar, x_follower, x_weight, x_firstLink, x_secondLink, x_chain, x_address, x_opcode, x_instrRegister, x_operand, x_codeLength, x_addrLoads, x_knownAddress, x_memory, x_addressRegister, x_output, x_outputCount) (nI i) (nI f) := by
  subst ey
  have ex : nI i * 4 + nI f = nI (i * 4 + f) := by rw [show (4 : Int32) = nI 4 from rfl, pk_mul, nI_add]
  unfold wpX_getStatement
  dsimp only
  rw [ex, nI_clamp (show i * 4 + f < 2 ^ 31 by omega)]
  exact br_f (oa_ne (by omega)) (br_f (nI_pos (by omega)) (br_f (nI_ge hi (by omega)) (br_f (nI_pos (by omega)) (br_t (nI_lt (b := 4) hf (by decide)) ⟨vp_in_nI (by omega) (by omega), hp⟩))))
theorem xg_vr {V v : Nat} {y : Int32} (hV : V ≤ 16) (hv : v < V) (ey : x_register v = y) (post : Int32 → Prop) (hp : post y) : wpX_getVariable post (nI V, x_regCount, x_phase, x_statementCount, x_accessCount, x_nextAddress, x_accumulator, x_register, x_init, x_statements, x_accessVar, x_follower, x_weight, x_firstLink, x_secondLink, x_chain, x_address, x_opcode, x_instrRegister, x_operand, x_codeLength, x_addrLoads, x_knownAddress, x_memory, x_addressRegister, x_output, x_outputCount) (nI v) 0 := by
  subst ey
  unfold wpX_getVariable
  dsimp only
  refine xa_iv _ (fun _ => br_f (by decide) (br_t rfl ⟨vp_in_nI (by omega) (by omega), ?_⟩)) (fun z => absurd ⟨nI_pos' (by omega), nI_lt hv (by omega)⟩ z)
  rw [nI_clamp (show v < 2 ^ 31 by omega)]
  exact hp
theorem xg_ad {V v : Nat} (hV : V ≤ 16) (hv : v < V) (h : ¬ x_phase = 0) {y : Int32} (ey : x_address v = y) (post : Int32 → Prop) (hp : post y) : wpX_getAddress post (nI V, x_regCount, x_phase, x_statementCount, x_accessCount, x_nextAddress, x_accumulator, x_register, x_init, x_statements, x_accessVar, x_follower, x_weight, x_firstLink, x_secondLink, x_chain, x_address, x_opcode, x_instrRegister, x_operand, x_codeLength, x_addrLoads, x_knownAddress, x_memory, x_addressRegister, x_output, x_outputCount) (nI v) := by
  subst ey
  unfold wpX_getAddress
  dsimp only
  refine br_f h (xa_iv _ (fun _ => br_f (by decide) ⟨vp_in_nI (by omega) (by omega), ?_⟩) (fun z => absurd ⟨nI_pos' (by omega), nI_lt hv (by omega)⟩ z))
  rw [nI_clamp (show v < 2 ^ 31 by omega)]
  exact hp
end
