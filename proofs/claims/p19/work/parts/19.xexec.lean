/-! X: the machine -/
theorem oa_ix16w (w c : Nat) : nI w * 16 + nI c = nI (16 * w + c) := by
  rw [oa_ix16, Nat.mul_comm]
theorem oa_ix32 (w c : Nat) : nI w * 32 + nI c = nI (32 * w + c) := by
  rw [show (32 : Int32) = nI 32 from rfl, pk_mul, nI_add, Nat.mul_comm]
theorem oa_lit {x a b : Int32} (h : x = a) (n : a ≠ b) : ¬ x = b := fun z => n (by rw [← h, z])
theorem xa_cb {p0 l r : Int32} (post : Int32 → Prop) (hp : post (oa_cb p0 l r)) : wpX_combine post () p0 l r := by
  unfold oa_cb at hp
  unfold wpX_combine
  by_cases c1 : p0 < 2
  · have n : ∀ b : Int32, ¬ b < 2 → ¬ p0 = b := fun b hb z => hb (by rw [← z]; exact c1)
    rw [if_neg (n 2 (by decide)), if_neg (n 3 (by decide)), if_neg (n 4 (by decide)), if_neg (n 5 (by decide)), if_neg (n 6 (by decide)), if_neg (n 7 (by decide))] at hp
    exact br_t c1 hp
  · refine br_f c1 ?_
    by_cases c2 : 7 < p0
    · have n : ∀ b : Int32, ¬ 7 < b → ¬ p0 = b := fun b hb z => hb (by rw [← z]; exact c2)
      rw [if_neg (n 2 (by decide)), if_neg (n 3 (by decide)), if_neg (n 4 (by decide)), if_neg (n 5 (by decide)), if_neg (n 6 (by decide)), if_neg (n 7 (by decide))] at hp
      exact br_t c2 hp
    · refine br_f c2 (br_c (fun z => ?_) (fun z2 => br_c (fun z => ?_) (fun z3 => br_c (fun z => ?_) (fun z4 => br_c (fun z => ?_) (fun z5 => br_c (fun z => ?_) (fun z6 => br_c (fun z => ?_) (fun _ => trivial)))))))
      · rw [if_pos z] at hp; exact hp
      · rw [if_neg z2, if_pos z] at hp; exact hp
      · rw [if_neg z2, if_neg z3, if_pos z] at hp; exact hp
      · rw [if_neg z2, if_neg z3, if_neg z4, if_pos z] at hp; exact hp
      · rw [if_neg z2, if_neg z3, if_neg z4, if_neg z5, if_pos z] at hp; exact hp
      · rw [if_neg z2, if_neg z3, if_neg z4, if_neg z5, if_neg z6, if_pos z] at hp; exact hp
section
variable {x_varCount x_regCount x_phase x_statementCount x_accessCount x_nextAddress x_accumulator : Int32} {x_register x_init x_statements x_accessVar x_follower x_weight x_firstLink x_secondLink x_chain x_address x_opcode x_instrRegister x_operand x_codeLength x_addrLoads x_knownAddress x_memory x_addressRegister x_output x_outputCount : Nat → Int32}
theorem xa_iv {V : Nat} {x : Int32} (post : Int32 → Prop) (h1 : oa_in V x → post 1) (h0 : ¬ oa_in V x → post 0) : wpX_isVariable post (nI V, x_regCount, x_phase, x_statementCount, x_accessCount, x_nextAddress, x_accumulator, x_register, x_init, x_statements, x_accessVar, x_follower, x_weight, x_firstLink, x_secondLink, x_chain, x_address, x_opcode, x_instrRegister, x_operand, x_codeLength, x_addrLoads, x_knownAddress, x_memory, x_addressRegister, x_output, x_outputCount) x :=
  br_c (fun c => h0 (fun z => Int32.not_lt.mpr z.1 c)) (fun c => br_c (fun d => h0 (fun z => Int32.not_lt.mpr d z.2)) (fun d => h1 ⟨Int32.not_lt.mp c, Int32.not_le.mp d⟩))
theorem xa_95 {A : Nat} {x3 x4 : Int32} (hA : A < 384) (i3 : vp_in x3 4) (post : St2 → Prop) (hp : post (x_varCount, x_regCount, x_phase, x_statementCount, x_accessCount, x_nextAddress, x_accumulator, x_register, x_init, x_statements, x_accessVar, x_follower, x_weight, x_firstLink, x_secondLink, x_chain, x_address, x_opcode, x_instrRegister, x_operand, x_codeLength, x_addrLoads, x_knownAddress, x_memory, (upd x_addressRegister x3.toNatClampNeg (x4 + x_operand A)), x_output, x_outputCount)) : wX_executeAccess_95 post (nI A) x3 x4 x_varCount x_regCount x_phase x_statementCount x_accessCount x_nextAddress x_accumulator x_register x_init x_statements x_accessVar x_follower x_weight x_firstLink x_secondLink x_chain x_address x_opcode x_instrRegister x_operand x_codeLength x_addrLoads x_knownAddress x_memory x_addressRegister x_output x_outputCount := by
  have cA : (nI A).toNatClampNeg = A := nI_clamp (by omega)
  exact ⟨vp_in_nI hA (by omega), i3, nm_r (by rw [cA]) hp⟩
theorem xa_xa {V w A : Nat} {m : oa_M} (hV : V ≤ 16) (hw : w < 2) (hA : A < 384) (ir : vp_in (x_instrRegister A) 4) (n0 : ¬ x_opcode A = 0) (n9 : ¬ x_opcode A = 9) (n10 : ¬ x_opcode A = 10) (post : St2 → Prop)
    (hp : post (nI V, x_regCount, x_phase, x_statementCount, x_accessCount, x_nextAddress, ((oa_x1 V w (x_opcode A) (x_instrRegister A) (x_operand A) m).2.2.1), x_register, x_init, x_statements, x_accessVar, x_follower, x_weight, x_firstLink, x_secondLink, x_chain, x_address, x_opcode, x_instrRegister, x_operand, x_codeLength, x_addrLoads, x_knownAddress, ((oa_x1 V w (x_opcode A) (x_instrRegister A) (x_operand A) m).1), ((oa_x1 V w (x_opcode A) (x_instrRegister A) (x_operand A) m).2.1), ((oa_x1 V w (x_opcode A) (x_instrRegister A) (x_operand A) m).2.2.2.1), ((oa_x1 V w (x_opcode A) (x_instrRegister A) (x_operand A) m).2.2.2.2.1))) : wpX_executeAccess post (nI V, x_regCount, x_phase, x_statementCount, x_accessCount, x_nextAddress, m.2.2.1, x_register, x_init, x_statements, x_accessVar, x_follower, x_weight, x_firstLink, x_secondLink, x_chain, x_address, x_opcode, x_instrRegister, x_operand, x_codeLength, x_addrLoads, x_knownAddress, m.1, m.2.1, m.2.2.2.1, m.2.2.2.2.1) (nI w) (nI A) := by
  have iA : vp_in (nI A) 384 := vp_in_nI hA (by omega)
  have cA : (nI A).toNatClampNeg = A := nI_clamp (by omega)
  unfold oa_x1 at hp
  rw [if_neg n0, if_neg n9, if_neg n10] at hp
  unfold wpX_executeAccess
  dsimp only
  rw [cA]
  refine ⟨iA, nm_e ⟨ir, nm_e ?_⟩⟩
  refine xa_iv _ (fun ci => ?_) (fun ci => ?_)
  · obtain ⟨c, hc, ec⟩ := oa_in_c hV ci
    have ex : nI w * 16 + m.2.1 (x_instrRegister A).toNatClampNeg = nI (16 * w + c) := by rw [ec, oa_ix16w]
    have ec2 : (m.2.1 (x_instrRegister A).toNatClampNeg).toNatClampNeg = c := by rw [ec]; exact nI_clamp (by omega)
    have ix : vp_in (nI (16 * w + c)) 32 := vp_in_nI (by omega) (by omega)
    have cx : (nI (16 * w + c)).toNatClampNeg = 16 * w + c := nI_clamp (by omega)
    refine nm_r ex ⟨iA, ?_⟩
    rw [cx]
    by_cases c8 : x_opcode A = 8
    · rw [if_pos c8, if_pos ci, if_pos ci, ec2] at hp
      exact br_t c8 (br_f (by decide) ⟨ix, nm_e (xa_95 hA ir post hp)⟩)
    · rw [if_neg c8, if_pos ci, ec2] at hp
      exact br_f c8 ⟨iA, br_f (by decide) ⟨ix, by unfold wX_executeAccess_70; exact xa_cb _ (xa_95 hA ir post hp)⟩⟩
  · refine nm_e ⟨iA, ?_⟩
    by_cases c8 : x_opcode A = 8
    · rw [if_pos c8, if_neg ci, if_neg ci] at hp
      exact br_t c8 (br_t rfl (xa_95 hA ir post hp))
    · rw [if_neg c8, if_neg ci] at hp
      exact br_f c8 ⟨iA, br_t rfl (by unfold wX_executeAccess_70; exact xa_cb _ (xa_95 hA ir post hp))⟩
theorem xa_ex {V w A : Nat} {m : oa_M} (hV : V ≤ 16) (hw : w < 2) (hA : A < 384) (ir : vp_in (x_instrRegister A) 4) (ho : x_opcode A = 10 → ∃ q, q < 32 ∧ m.2.2.2.2.1 w = nI q) (post : St2 → Prop)
    (hp : post (nI V, x_regCount, x_phase, x_statementCount, x_accessCount, x_nextAddress, ((oa_x1 V w (x_opcode A) (x_instrRegister A) (x_operand A) m).2.2.1), x_register, x_init, x_statements, x_accessVar, x_follower, x_weight, x_firstLink, x_secondLink, x_chain, x_address, x_opcode, x_instrRegister, x_operand, x_codeLength, x_addrLoads, x_knownAddress, ((oa_x1 V w (x_opcode A) (x_instrRegister A) (x_operand A) m).1), ((oa_x1 V w (x_opcode A) (x_instrRegister A) (x_operand A) m).2.1), ((oa_x1 V w (x_opcode A) (x_instrRegister A) (x_operand A) m).2.2.2.1), ((oa_x1 V w (x_opcode A) (x_instrRegister A) (x_operand A) m).2.2.2.2.1))) : wpX_execute post (nI V, x_regCount, x_phase, x_statementCount, x_accessCount, x_nextAddress, m.2.2.1, x_register, x_init, x_statements, x_accessVar, x_follower, x_weight, x_firstLink, x_secondLink, x_chain, x_address, x_opcode, x_instrRegister, x_operand, x_codeLength, x_addrLoads, x_knownAddress, m.1, m.2.1, m.2.2.2.1, m.2.2.2.2.1) (nI w) (nI A) := by
  have iA : vp_in (nI A) 384 := vp_in_nI hA (by omega)
  have cA : (nI A).toNatClampNeg = A := nI_clamp (by omega)
  have iw : vp_in (nI w) 2 := vp_in_nI hw (by omega)
  have cw : (nI w).toNatClampNeg = w := nI_clamp (by omega)
  unfold wpX_execute
  dsimp only
  rw [cA, cw]
  refine ⟨iA, nm_e ?_⟩
  by_cases c0 : x_opcode A = 0
  · unfold oa_x1 at hp
    rw [if_pos c0] at hp
    exact br_t c0 ⟨iA, iA, ir, nm_e hp⟩
  · refine br_f c0 ?_
    by_cases c9 : x_opcode A = 9
    · unfold oa_x1 at hp
      rw [if_neg c0, if_pos c9] at hp
      exact br_t c9 ⟨iA, nm_e hp⟩
    · refine br_f c9 ?_
      by_cases c10 : x_opcode A = 10
      · obtain ⟨q, hq, eq⟩ := ho c10
        unfold oa_x1 at hp
        rw [if_neg c0, if_neg c9, if_pos c10] at hp
        have cq : (m.2.2.2.2.1 w).toNatClampNeg = q := by rw [eq]; exact nI_clamp (by omega)
        rw [cq] at hp
        have ei : nI w * 32 + m.2.2.2.2.1 w = nI (32 * w + q) := by rw [eq, oa_ix32]
        rw [ei, nI_clamp (show 32 * w + q < 2 ^ 31 by omega)]
        exact br_t c10 ⟨iw, vp_in_nI (by omega) (by omega), nm_e ⟨iw, iw, nm_e hp⟩⟩
      · exact br_f c10 (xa_xa hV hw hA ir c0 c9 c10 _ hp)
theorem xa_77 {V nR w L : Nat} {m0 m : oa_M} (hV : V ≤ 16) (hR : nR ≤ 4) (hw : w < 2) (hL : L ≤ 192) (ci : oa_CI nR w L 32 x_opcode x_instrRegister x_codeLength) (mi : oa_MI V nR w 0 x_opcode m0 m) (post : St2 → Prop)
    (hp : post (nI V, x_regCount, x_phase, x_statementCount, x_accessCount, x_nextAddress, ((oa_xs V w x_opcode x_instrRegister x_operand L m).2.2.1), x_register, x_init, x_statements, x_accessVar, x_follower, x_weight, x_firstLink, x_secondLink, x_chain, x_address, x_opcode, x_instrRegister, x_operand, x_codeLength, x_addrLoads, x_knownAddress, ((oa_xs V w x_opcode x_instrRegister x_operand L m).1), ((oa_xs V w x_opcode x_instrRegister x_operand L m).2.1), ((oa_xs V w x_opcode x_instrRegister x_operand L m).2.2.2.1), ((oa_xs V w x_opcode x_instrRegister x_operand L m).2.2.2.2.1))) :
    ∀ d i fu, i + d = L → d < fu → wX_runProgram_77 post (nI w) fu (nI i) (nI V) x_regCount x_phase x_statementCount x_accessCount x_nextAddress ((oa_xs V w x_opcode x_instrRegister x_operand i m).2.2.1) x_register x_init x_statements x_accessVar x_follower x_weight x_firstLink x_secondLink x_chain x_address x_opcode x_instrRegister x_operand x_codeLength x_addrLoads x_knownAddress ((oa_xs V w x_opcode x_instrRegister x_operand i m).1) ((oa_xs V w x_opcode x_instrRegister x_operand i m).2.1) ((oa_xs V w x_opcode x_instrRegister x_operand i m).2.2.2.1) ((oa_xs V w x_opcode x_instrRegister x_operand i m).2.2.2.2.1) := by
  have iw : vp_in (nI w) 2 := vp_in_nI hw (by omega)
  have cw : (nI w).toNatClampNeg = w := nI_clamp (by omega)
  have eL : x_codeLength (nI w).toNatClampNeg = nI L := by rw [cw]; exact ci.1
  intro d
  induction d with
  | zero =>
    intro i fu hi hf
    obtain ⟨fu, rfl⟩ : ∃ f, fu = f + 1 := ⟨fu - 1, by omega⟩
    have e : i = L := by omega
    subst e
    exact ⟨iw, br_t (by rw [eL]; exact nI_le (by omega) (by omega)) hp⟩
  | succ d ih =>
    intro i fu hi hf
    obtain ⟨fu, rfl⟩ : ∃ f, fu = f + 1 := ⟨fu - 1, by omega⟩
    have mi2 := oa_xs_I (rg := x_instrRegister) (od := x_operand) mi i
    obtain ⟨_, r, hr, er⟩ := ci.2.1 i (by omega)
    refine ⟨iw, br_f (by rw [eL]; exact nI_ge (by omega) (by omega)) ?_⟩
    rw [oa_ix192]
    refine xa_ex hV hw (show 192 * w + i < 384 by omega) (by rw [er]; exact vp_in_nI (by omega) (by omega)) (fun h10 => ⟨oa_oc x_opcode (192 * w) i, ?_, mi2.2.2.1⟩) _ (nm_r (nI_1 i) (ih (i + 1) fu (by omega) (by omega)))
    have := oa_oc_lt h10 (show i < L by omega)
    have := ci.2.2
    omega
end
/-- the machine's state as a program begins -/
def oa_m0 (nR w V : Nat) (cell : Nat → Nat) (ini : Nat → Int32) (m : oa_M) : oa_M :=
  (oa_mi m.1 (16 * w) cell ini V, oa_fill m.2.1 (fun _ => 0) nR, 0, m.2.2.2.1, upd m.2.2.2.2.1 w 0,
   oa_mi (oa_mi m.2.2.2.2.2.1 (16 * w) (fun c => c) (fun _ => 0) 16) (16 * w) cell ini V, oa_fill m.2.2.2.2.2.2.1 (fun _ => 0) 4, upd m.2.2.2.2.2.2.2 w 0)
theorem oa_m0_I {V nR w : Nat} {cell : Nat → Nat} {ini op : Nat → Int32} {m : oa_M} (hV : V ≤ 16) (hR : nR ≤ 4) (h : ∀ w' c, w' < 2 → c < V → m.2.2.2.2.2.1 (16 * w' + c) = m.1 (16 * w' + c)) (hc : ∀ v, v < V → cell v < V) (hs : ∀ a, a < V → ∃ v, v < V ∧ cell v = a) :
    oa_MI V nR w 0 op m (oa_m0 nR w V cell ini m) := by
  refine ⟨fun r hr => ?_, oa_mem0 hV h hc hs, pk_us, pk_us, fun w' hw => ⟨pk_un hw, pk_un hw⟩⟩
  show oa_fill m.2.2.2.2.2.2.1 (fun _ => 0) 4 r = oa_fill m.2.1 (fun _ => 0) nR r
  rw [oa_fill_lt (by omega), oa_fill_lt hr]
section
variable {x_varCount x_regCount x_phase x_statementCount x_accessCount x_nextAddress x_accumulator : Int32} {x_register x_init x_statements x_accessVar x_follower x_weight x_firstLink x_secondLink x_chain x_address x_opcode x_instrRegister x_operand x_codeLength x_addrLoads x_knownAddress x_memory x_addressRegister x_output x_outputCount : Nat → Int32}
theorem xa_42 {nR w : Nat} (hR : nR ≤ 4) (hw : w < 2) (post : St2 → Prop) (hp : ∃ f, wX_runProgram_77 post (nI w) f 0 x_varCount (nI nR) x_phase x_statementCount x_accessCount x_nextAddress 0 x_register x_init x_statements x_accessVar x_follower x_weight x_firstLink x_secondLink x_chain x_address x_opcode x_instrRegister x_operand x_codeLength x_addrLoads x_knownAddress x_memory (oa_fill x_addressRegister (fun _ => 0) nR) x_output (upd x_outputCount w 0)) :
    ∀ d i fu, i + d = nR → d < fu → wX_runProgram_42 post (nI w) x_varCount (nI nR) x_phase x_statementCount x_accessCount x_nextAddress x_accumulator fu (nI i) x_register x_init x_statements x_accessVar x_follower x_weight x_firstLink x_secondLink x_chain x_address x_opcode x_instrRegister x_operand x_codeLength x_addrLoads x_knownAddress x_memory (oa_fill x_addressRegister (fun _ => 0) i) x_output x_outputCount := by
  intro d
  induction d with
  | zero =>
    intro i fu hi hf
    obtain ⟨fu, rfl⟩ : ∃ f, fu = f + 1 := ⟨fu - 1, by omega⟩
    have e : i = nR := by omega
    subst e
    exact br_t (nI_le (by omega) (by omega)) ⟨vp_in_nI hw (by omega), nm_r (by rw [nI_clamp (show w < 2 ^ 31 by omega)]) hp⟩
  | succ d ih =>
    intro i fu hi hf
    obtain ⟨fu, rfl⟩ : ∃ f, fu = f + 1 := ⟨fu - 1, by omega⟩
    have vi : vp_in (nI i) 4 := vp_in_nI (by omega) (by omega)
    refine br_f (nI_ge (by omega) (by omega)) ⟨vi, nm_r ?_ (nm_r (nI_1 i) (ih (i + 1) fu (by omega) (by omega)))⟩
    rw [nI_clamp (show i < 2 ^ 31 by omega)]
    exact oa_fill_s rfl
theorem xa_r2 {V w : Nat} {cell : Nat → Nat} (hV : V ≤ 16) (hw : w < 2) (hc : ∀ v, v < V → cell v < V ∧ (if w = 0 then nI v else x_address v) = nI (cell v)) (post : St2 → Prop)
    (hp : ∃ f, wX_runProgram_42 post (nI w) (nI V) x_regCount x_phase x_statementCount x_accessCount x_nextAddress x_accumulator f 0 x_register x_init x_statements x_accessVar x_follower x_weight x_firstLink x_secondLink x_chain x_address x_opcode x_instrRegister x_operand x_codeLength x_addrLoads x_knownAddress (oa_mi x_memory (16 * w) cell x_init V) x_addressRegister x_output x_outputCount) :
    ∀ d i fu, i + d = V → d < fu → wX_runProgram_2 post (nI w) (nI V) x_regCount x_phase x_statementCount x_accessCount x_nextAddress x_accumulator fu (nI i) x_register x_init x_statements x_accessVar x_follower x_weight x_firstLink x_secondLink x_chain x_address x_opcode x_instrRegister x_operand x_codeLength x_addrLoads x_knownAddress (oa_mi x_memory (16 * w) cell x_init i) x_addressRegister x_output x_outputCount := by
  intro d
  induction d with
  | zero =>
    intro i fu hi hf
    obtain ⟨fu, rfl⟩ : ∃ f, fu = f + 1 := ⟨fu - 1, by omega⟩
    have e : i = V := by omega
    subst e
    exact br_t (nI_le (by omega) (by omega)) hp
  | succ d ih =>
    intro i fu hi hf
    obtain ⟨fu, rfl⟩ : ∃ f, fu = f + 1 := ⟨fu - 1, by omega⟩
    have h1 := hc i (by omega)
    refine br_f (nI_ge (by omega) (by omega)) (xa_ai hw (by omega) h1.2 _ ⟨vp_in_nI (by omega) (by omega), ?_⟩)
    rw [oa_ix16w]
    refine ⟨vp_in_nI (by omega) (by omega), nm_r ?_ (nm_r (nI_1 i) (ih (i + 1) fu (by omega) (by omega)))⟩
    rw [nI_clamp (show i < 2 ^ 31 by omega), nI_clamp (show 16 * w + cell i < 2 ^ 31 by omega)]
    rfl
theorem xa_rp {V nR w L : Nat} {cell : Nat → Nat} {m M : oa_M} (hV : V ≤ 16) (hR : nR ≤ 4) (hw : w < 2) (hL : L ≤ 192) (ci : oa_CI nR w L 32 x_opcode x_instrRegister x_codeLength)
    (hc : ∀ v, v < V → cell v < V ∧ (if w = 0 then nI v else x_address v) = nI (cell v)) (mi : oa_MI V nR w 0 x_opcode m (oa_m0 nR w V cell x_init m)) (post : St2 → Prop)
    (eM : oa_xs V w x_opcode x_instrRegister x_operand L (oa_m0 nR w V cell x_init m) = M)
    (hp : post (nI V, nI nR, x_phase, x_statementCount, x_accessCount, x_nextAddress, M.2.2.1, x_register, x_init, x_statements, x_accessVar, x_follower, x_weight, x_firstLink, x_secondLink, x_chain, x_address, x_opcode, x_instrRegister, x_operand, x_codeLength, x_addrLoads, x_knownAddress, M.1, M.2.1, M.2.2.2.1, M.2.2.2.2.1)) : wpX_runProgram post (nI V, nI nR, x_phase, x_statementCount, x_accessCount, x_nextAddress, m.2.2.1, x_register, x_init, x_statements, x_accessVar, x_follower, x_weight, x_firstLink, x_secondLink, x_chain, x_address, x_opcode, x_instrRegister, x_operand, x_codeLength, x_addrLoads, x_knownAddress, m.1, m.2.1, m.2.2.2.1, m.2.2.2.2.1) (nI w) := by
  subst eM
  have h1 := xa_42 (x_varCount := nI V) (x_accumulator := m.2.2.1) (x_memory := oa_mi m.1 (16 * w) cell x_init V) (x_addressRegister := m.2.1) (x_output := m.2.2.2.1) (x_outputCount := m.2.2.2.2.1) hR hw post
    ⟨L + 1, xa_77 (x_regCount := nI nR) hV hR hw hL ci mi post hp L 0 (L + 1) (by omega) (by omega)⟩ nR 0 (nR + 1) (by omega) (by omega)
  rw [oa_fill_0] at h1
  have h2 := xa_r2 (x_regCount := nI nR) (x_accumulator := m.2.2.1) (x_memory := m.1) (x_addressRegister := m.2.1) (x_output := m.2.2.2.1) (x_outputCount := m.2.2.2.2.1) hV hw hc post ⟨nR + 1, h1⟩ V 0 (V + 1) (by omega) (by omega)
  exact ⟨V + 1, h2⟩
end
