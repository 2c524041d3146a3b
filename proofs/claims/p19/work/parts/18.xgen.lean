/-! X: code -/
theorem oa_ix192 (w L : Nat) : nI w * 192 + nI L = nI (192 * w + L) := by
  rw [show (192 : Int32) = nI 192 from rfl, pk_mul, nI_add, Nat.mul_comm]
theorem oa_w0 {w : Nat} (hw : w < 2) : nI w = 0 ↔ w = 0 := nI_eq (b := 0) (by omega) (by omega)
section
variable {x_varCount x_regCount x_phase x_statementCount x_accessCount x_nextAddress x_accumulator : Int32} {x_register x_init x_statements x_accessVar x_follower x_weight x_firstLink x_secondLink x_chain x_address x_opcode x_instrRegister x_operand x_codeLength x_addrLoads x_knownAddress x_memory x_addressRegister x_output x_outputCount : Nat → Int32}
theorem xa_em {w L : Nat} {o r x : Int32} {k : oa_K} (hw : w < 2) (hL : k.2.2.2.1 w = nI L) (hL2 : L < 192) (post : St2 → Prop) (hp : post (x_varCount, x_regCount, x_phase, x_statementCount, x_accessCount, x_nextAddress, x_accumulator, x_register, x_init, x_statements, x_accessVar, x_follower, x_weight, x_firstLink, x_secondLink, x_chain, x_address, ((oa_em w o r x k).1), ((oa_em w o r x k).2.1), ((oa_em w o r x k).2.2.1), ((oa_em w o r x k).2.2.2.1), ((oa_em w o r x k).2.2.2.2.1), ((oa_em w o r x k).2.2.2.2.2.1), x_memory, x_addressRegister, x_output, x_outputCount)) : wpX_emit post (x_varCount, x_regCount, x_phase, x_statementCount, x_accessCount, x_nextAddress, x_accumulator, x_register, x_init, x_statements, x_accessVar, x_follower, x_weight, x_firstLink, x_secondLink, x_chain, x_address, k.1, k.2.1, k.2.2.1, k.2.2.2.1, k.2.2.2.2.1, k.2.2.2.2.2.1, x_memory, x_addressRegister, x_output, x_outputCount) (nI w) o r x := by
  have iw : vp_in (nI w) 2 := vp_in_nI hw (by omega)
  have ii : vp_in (nI (192 * w + L)) 384 := vp_in_nI (by omega) (by omega)
  have eL : (k.2.2.2.1 w).toNatClampNeg = L := by rw [hL]; exact nI_clamp (by omega)
  have ci : (nI (192 * w + L)).toNatClampNeg = 192 * w + L := nI_clamp (by omega)
  have e1 : nI w * 192 + k.2.2.2.1 w = nI (192 * w + L) := by rw [hL, oa_ix192]
  dsimp only [oa_em] at hp
  rw [eL] at hp
  unfold wpX_emit
  dsimp only
  rw [nI_clamp (show w < 2 ^ 31 by omega)]
  refine ⟨iw, nm_r e1 ⟨ii, nm_r (by rw [ci]) ⟨ii, nm_r (by rw [ci]) ⟨ii, nm_r (by rw [ci]) ⟨iw, iw, nm_e ?_⟩⟩⟩⟩⟩
  by_cases c : o = 0
  · rw [if_pos c] at hp
    exact br_t c ⟨iw, iw, nm_e hp⟩
  · rw [if_neg c] at hp
    exact br_f c hp
theorem xa_ai {w v : Nat} {P : Int32} (hw : w < 2) (hv : v < 16) (hP : (if w = 0 then nI v else x_address v) = P) (post : Int32 → Prop) (hp : post P) : wpX_addressIn post (x_varCount, x_regCount, x_phase, x_statementCount, x_accessCount, x_nextAddress, x_accumulator, x_register, x_init, x_statements, x_accessVar, x_follower, x_weight, x_firstLink, x_secondLink, x_chain, x_address, x_opcode, x_instrRegister, x_operand, x_codeLength, x_addrLoads, x_knownAddress, x_memory, x_addressRegister, x_output, x_outputCount) (nI w) (nI v) := by
  rw [← hP] at hp
  unfold wpX_addressIn
  dsimp only
  rw [nI_clamp (show v < 2 ^ 31 by omega), oa_w0 hw]
  by_cases c : w = 0
  · rw [if_pos c] at hp
    exact br_t c hp
  · rw [if_neg c] at hp
    exact br_f c ⟨vp_in_nI hv (by omega), hp⟩
theorem xa_sa {V nR n j : Nat} (e : oa_env V nR n x_register x_accessVar x_address) (hj : j < n) (hF : x_follower j = oa_fv x_register x_accessVar n j) (post : Int32 → Prop) (hp : post (oa_sp x_register x_accessVar x_address n j)) :
    wpX_stepAfter post (x_varCount, x_regCount, x_phase, x_statementCount, x_accessCount, x_nextAddress, x_accumulator, x_register, x_init, x_statements, x_accessVar, x_follower, x_weight, x_firstLink, x_secondLink, x_chain, x_address, x_opcode, x_instrRegister, x_operand, x_codeLength, x_addrLoads, x_knownAddress, x_memory, x_addressRegister, x_output, x_outputCount) (nI j) := by
  obtain ⟨v, r, a, hv, hr, ha, e1, e2, e3, e4, e5, e6⟩ := oa_env_j (w := 0) e hj
  obtain ⟨hV, _, hn, _, _, _⟩ := e
  have ij : vp_in (nI j) 96 := vp_in_nI (by omega) (by omega)
  have cj : (nI j).toNatClampNeg = j := nI_clamp (by omega)
  unfold wpX_stepAfter
  dsimp only
  rw [cj, hF]
  refine ⟨ij, nm_e ?_⟩
  unfold oa_sp at hp
  unfold oa_fv
  by_cases hf : oa_fo x_register x_accessVar n j < n
  · rw [if_pos hf] at hp ⊢
    obtain ⟨v', r', a', hv', _, _, f1, f2, _, _, _, _⟩ := oa_env_j (w := 0) (V := V) (nR := nR) ⟨hV, by assumption, hn, by assumption, by assumption, by assumption⟩ hf
    have cf : (nI (oa_fo x_register x_accessVar n j)).toNatClampNeg = oa_fo x_register x_accessVar n j := nI_clamp (by omega)
    rw [cf]
    refine br_f (oa_ne (by omega)) ⟨vp_in_nI (show oa_fo x_register x_accessVar n j < 96 by omega) (by omega), by rw [f1]; exact vp_in_nI (by omega) (by omega), ij, by rw [e1]; exact vp_in_nI (by omega) (by omega), nm_e ?_⟩
    generalize x_address (x_accessVar (oa_fo x_register x_accessVar n j)).toNatClampNeg - x_address (x_accessVar j).toNatClampNeg = D at hp ⊢
    by_cases c1 : D < -1
    · rw [if_neg (fun z => Int32.not_lt.mpr z.1 c1)] at hp
      exact br_t c1 hp
    · refine br_f c1 ?_
      by_cases c2 : 1 < D
      · rw [if_neg (fun z => Int32.not_lt.mpr z.2 c2)] at hp
        exact br_t c2 hp
      · rw [if_pos ⟨Int32.not_lt.mp c1, Int32.not_lt.mp c2⟩] at hp
        exact br_f c2 hp
  · rw [if_neg hf] at hp ⊢
    exact br_t rfl hp
theorem xa_65 {w L r : Nat} {o p m : Int32} {k : oa_K} (hw : w < 2) (hr : r < 4) (hL : k.2.2.2.1 w = nI L) (hL2 : L < 192) (post : St2 → Prop) (hp : post (x_varCount, x_regCount, x_phase, x_statementCount, x_accessCount, x_nextAddress, x_accumulator, x_register, x_init, x_statements, x_accessVar, x_follower, x_weight, x_firstLink, x_secondLink, x_chain, x_address, ((oa_st w r (p + m) (oa_em w o (nI r) m k)).1), ((oa_st w r (p + m) (oa_em w o (nI r) m k)).2.1), ((oa_st w r (p + m) (oa_em w o (nI r) m k)).2.2.1), ((oa_st w r (p + m) (oa_em w o (nI r) m k)).2.2.2.1), ((oa_st w r (p + m) (oa_em w o (nI r) m k)).2.2.2.2.1), ((oa_st w r (p + m) (oa_em w o (nI r) m k)).2.2.2.2.2.1), x_memory, x_addressRegister, x_output, x_outputCount)) :
    wX_emitAccess_65 post (nI w) o (nI r) p m x_varCount x_regCount x_phase x_statementCount x_accessCount x_nextAddress x_accumulator x_register x_init x_statements x_accessVar x_follower x_weight x_firstLink x_secondLink x_chain x_address k.1 k.2.1 k.2.2.1 k.2.2.2.1 k.2.2.2.2.1 k.2.2.2.2.2.1 x_memory x_addressRegister x_output x_outputCount := by
  unfold wX_emitAccess_65
  refine xa_em hw hL hL2 _ ⟨vp_in_nI hr (by omega), nm_r (by rw [nI_clamp (show r < 2 ^ 31 by omega)]; rfl) hp⟩
theorem xa_52 {V nR n w L r j : Nat} {o p : Int32} {k : oa_K} (e : oa_env V nR n x_register x_accessVar x_address) (hj : j < n) (hF : x_follower j = oa_fv x_register x_accessVar n j) (hw : w < 2) (hr : r < 4) (hL : k.2.2.2.1 w = nI L) (hL2 : L < 192)
    (post : St2 → Prop) (hp : post (x_varCount, x_regCount, x_phase, x_statementCount, x_accessCount, x_nextAddress, x_accumulator, x_register, x_init, x_statements, x_accessVar, x_follower, x_weight, x_firstLink, x_secondLink, x_chain, x_address, ((oa_st w r (p + oa_ms x_register x_accessVar x_address n w j) (oa_em w o (nI r) (oa_ms x_register x_accessVar x_address n w j) k)).1), ((oa_st w r (p + oa_ms x_register x_accessVar x_address n w j) (oa_em w o (nI r) (oa_ms x_register x_accessVar x_address n w j) k)).2.1), ((oa_st w r (p + oa_ms x_register x_accessVar x_address n w j) (oa_em w o (nI r) (oa_ms x_register x_accessVar x_address n w j) k)).2.2.1), ((oa_st w r (p + oa_ms x_register x_accessVar x_address n w j) (oa_em w o (nI r) (oa_ms x_register x_accessVar x_address n w j) k)).2.2.2.1), ((oa_st w r (p + oa_ms x_register x_accessVar x_address n w j) (oa_em w o (nI r) (oa_ms x_register x_accessVar x_address n w j) k)).2.2.2.2.1), ((oa_st w r (p + oa_ms x_register x_accessVar x_address n w j) (oa_em w o (nI r) (oa_ms x_register x_accessVar x_address n w j) k)).2.2.2.2.2.1), x_memory, x_addressRegister, x_output, x_outputCount)) :
    wX_emitAccess_52 post (nI w) o (nI j) (nI r) p x_varCount x_regCount x_phase x_statementCount x_accessCount x_nextAddress x_accumulator x_register x_init x_statements x_accessVar x_follower x_weight x_firstLink x_secondLink x_chain x_address k.1 k.2.1 k.2.2.1 k.2.2.2.1 k.2.2.2.2.1 k.2.2.2.2.2.1 x_memory x_addressRegister x_output x_outputCount := by
  unfold wX_emitAccess_52
  rw [oa_w0 hw]
  unfold oa_ms at hp
  by_cases c : w = 0
  · rw [if_pos c] at hp
    exact br_t c (xa_65 hw hr hL hL2 post hp)
  · rw [if_neg c] at hp
    exact br_f c (xa_sa e hj hF _ (xa_65 hw hr hL hL2 post hp))
theorem xa_ea {V nR n w L j : Nat} {o x : Int32} {k : oa_K} (e : oa_env V nR n x_register x_accessVar x_address) (hj : j < n) (hx : x = nI j) (hF : x_follower j = oa_fv x_register x_accessVar n j) (hw : w < 2) (hL : k.2.2.2.1 w = nI L) (hL2 : L + 2 ≤ 192)
    (post : St2 → Prop) (hp : post (x_varCount, x_regCount, x_phase, x_statementCount, x_accessCount, x_nextAddress, x_accumulator, x_register, x_init, x_statements, x_accessVar, x_follower, x_weight, x_firstLink, x_secondLink, x_chain, x_address, ((oa_ac x_register x_accessVar x_address n w o j k).1), ((oa_ac x_register x_accessVar x_address n w o j k).2.1), ((oa_ac x_register x_accessVar x_address n w o j k).2.2.1), ((oa_ac x_register x_accessVar x_address n w o j k).2.2.2.1), ((oa_ac x_register x_accessVar x_address n w o j k).2.2.2.2.1), ((oa_ac x_register x_accessVar x_address n w o j k).2.2.2.2.2.1), x_memory, x_addressRegister, x_output, x_outputCount)) : wpX_emitAccess post (x_varCount, x_regCount, x_phase, x_statementCount, x_accessCount, x_nextAddress, x_accumulator, x_register, x_init, x_statements, x_accessVar, x_follower, x_weight, x_firstLink, x_secondLink, x_chain, x_address, k.1, k.2.1, k.2.2.1, k.2.2.2.1, k.2.2.2.2.1, k.2.2.2.2.2.1, x_memory, x_addressRegister, x_output, x_outputCount) (nI w) o x := by
  subst hx
  obtain ⟨v, r, a, hv, hr, ha, e1, e2, e3, e4, e5, e6⟩ := oa_env_j (w := 0) e hj
  have hV := e.1
  have hR := e.2.1
  have hn := e.2.2.1
  have cj : (nI j).toNatClampNeg = j := nI_clamp (by omega)
  have cv : (nI v).toNatClampNeg = v := nI_clamp (by omega)
  have cr : (nI r).toNatClampNeg = r := nI_clamp (by omega)
  have ir : vp_in (nI r) 4 := vp_in_nI (by omega) (by omega)
  have iv : vp_in (nI v) 16 := vp_in_nI (by omega) (by omega)
  have er : x_register v = nI r := by rw [← e2]; exact e3
  have ep : (if w = 0 then nI v else x_address v) = oa_pa x_accessVar x_address w j := by
    unfold oa_pa; rw [e2, e1]
  unfold oa_ac oa_ld at hp
  rw [e4, e3] at hp
  refine ⟨vp_in_nI (by omega) (by omega), nm_r (show _ = nI v by rw [cj, e1]) ⟨iv, nm_r (show _ = nI r by rw [cv, er]) (xa_ai hw (by omega) ep _ ?_)⟩⟩
  generalize oa_pa x_accessVar x_address w j = p at hp ⊢
  by_cases c : w = 0 ∨ k.2.2.2.2.2.1 r ≠ p
  · rw [if_pos c] at hp
    have hL' : (oa_em w 0 (nI r) p k).2.2.2.1 w = nI (L + 1) := by
      show upd k.2.2.2.1 w (k.2.2.2.1 w + 1) w = _
      rw [pk_us, hL, nI_1]
    have h42 : wX_emitAccess_42 post (nI w) o (nI j) (nI r) p x_varCount x_regCount x_phase x_statementCount x_accessCount x_nextAddress x_accumulator x_register x_init x_statements x_accessVar x_follower x_weight x_firstLink x_secondLink x_chain x_address k.1 k.2.1 k.2.2.1 k.2.2.2.1 k.2.2.2.2.1 k.2.2.2.2.2.1 x_memory x_addressRegister x_output x_outputCount := by
      unfold wX_emitAccess_42
      exact xa_em hw hL (by omega) _ (xa_52 (k := oa_mk w r (oa_em w 0 (nI r) p k)) e hj hF hw (by omega) hL' (by omega) post hp)
    by_cases c0 : w = 0
    · exact br_t ((oa_w0 hw).mpr c0) h42
    · refine br_f (fun z => c0 ((oa_w0 hw).mp z)) ⟨ir, br_f ?_ h42⟩
      rw [cr]
      exact c.resolve_left c0
  · rw [if_neg c] at hp
    have c0 : ¬ w = 0 := fun z => c (Or.inl z)
    have cp : k.2.2.2.2.2.1 r = p := by
      by_cases z : k.2.2.2.2.2.1 r = p
      · exact z
      · exact absurd (Or.inr z) c
    refine br_f (fun z => c0 ((oa_w0 hw).mp z)) ⟨ir, br_t ?_ (xa_52 e hj hF hw (by omega) hL (by omega) post hp)⟩
    rw [cr]
    exact cp
theorem xa_ts {V nR n w L q i p : Nat} {o d a b : Int32} {k0 k : oa_K} (e : oa_env V nR n x_register x_accessVar x_address) (hF : ∀ j, j < n → x_follower j = oa_fv x_register x_accessVar n j) (hw : w < 2) (hR : 0 < nR) (hi : i < 32)
    (ho : x_statements (i * 4) = o) (hA : x_statements (i * 4 + 2) = a) (st : oa_ST V o d a b x_accessVar p) (hn : p + oa_na o ≤ n) (h : oa_KI nR w L q k0 k) (hL : L + 6 ≤ 192) (post : Int32 → St2 → Prop)
    (hp : post (nI (p + oa_na o)) (x_varCount, x_regCount, x_phase, x_statementCount, x_accessCount, x_nextAddress, x_accumulator, x_register, x_init, x_statements, x_accessVar, x_follower, x_weight, x_firstLink, x_secondLink, x_chain, x_address, ((oa_tt x_register x_accessVar x_address n w o a p k).1), ((oa_tt x_register x_accessVar x_address n w o a p k).2.1), ((oa_tt x_register x_accessVar x_address n w o a p k).2.2.1), ((oa_tt x_register x_accessVar x_address n w o a p k).2.2.2.1), ((oa_tt x_register x_accessVar x_address n w o a p k).2.2.2.2.1), ((oa_tt x_register x_accessVar x_address n w o a p k).2.2.2.2.2.1), x_memory, x_addressRegister, x_output, x_outputCount)) : wpX_translateStatement post (x_varCount, x_regCount, x_phase, x_statementCount, x_accessCount, x_nextAddress, x_accumulator, x_register, x_init, x_statements, x_accessVar, x_follower, x_weight, x_firstLink, x_secondLink, x_chain, x_address, k.1, k.2.1, k.2.2.1, k.2.2.2.1, k.2.2.2.2.1, k.2.2.2.2.2.1, x_memory, x_addressRegister, x_output, x_outputCount) (nI w) (nI i) (nI p) := by
  have e4 : nI i * 4 = nI (i * 4) := by rw [show (4 : Int32) = nI 4 from rfl, pk_mul]
  have c4 : (nI (i * 4)).toNatClampNeg = i * 4 := nI_clamp (by omega)
  have eo : x_statements (nI (i * 4) + 0).toNatClampNeg = o := by rw [Int32.add_zero, c4]; exact ho
  refine nm_r e4 ⟨by rw [Int32.add_zero]; exact vp_in_nI (by omega) (by omega), nm_r eo ?_⟩
  unfold oa_tt at hp
  rcases st with ⟨z, hz, rfl, -⟩ | ⟨rfl, -⟩ | ⟨rfl, -⟩ | ⟨rfl, -⟩
  · rw [oa_na5 hz] at hn hp
    rw [if_pos (show nI z ≤ 5 from nI_le (b := 5) hz (by decide)), ← nI_add] at hp
    obtain ⟨L1, l1, h1⟩ := oa_ac_I (o := 1) e (show p < n by omega) h (by omega) (by omega)
    obtain ⟨L2, l2, h2⟩ := oa_ac_I (o := 2 + z) e (show p + 1 < n by omega) h1 (by omega) (by omega)
    rw [← nI_add 2 z] at h2
    exact br_t (nI_lt (b := 6) (by omega) (by decide)) (xa_ea e (show p < n by omega) rfl (hF _ (by omega)) hw h.1.1.1 (by omega) _
      (xa_ea e (show p + 1 < n by omega) (nI_1 p) (hF _ (by omega)) hw h1.1.1.1 (by omega) _
        (xa_ea e (show p + 2 < n by omega) (nI_add p 2) (hF _ (by omega)) hw h2.1.1.1 (by omega) _ hp)))
  · rw [oa_na6] at hn hp
    rw [if_neg (by decide), if_pos rfl, ← nI_add] at hp
    obtain ⟨L1, l1, h1⟩ := oa_ac_I (o := 1) e (show p < n by omega) h (by omega) (by omega)
    exact br_f (by decide) (br_f (by decide) (br_t rfl (xa_ea e (show p < n by omega) rfl (hF _ (by omega)) hw h.1.1.1 (by omega) _
      (xa_ea e (show p + 1 < n by omega) (nI_1 p) (hF _ (by omega)) hw h1.1.1.1 (by omega) _ hp))))
  · rw [oa_na7] at hn hp
    rw [if_neg (by decide), if_neg (by decide), if_pos rfl, ← nI_add] at hp
    have h1 := oa_em_I (x := a) (o := 9) (r := 0) h (by omega) (by omega) hR
    have ea : x_statements (nI (i * 4) + 2).toNatClampNeg = a := by
      rw [show nI (i * 4) + 2 = nI (i * 4 + 2) from nI_add (i * 4) 2, nI_clamp (by omega)]; exact hA
    refine br_f (by decide) (br_f (by decide) (br_f (by decide) (br_t rfl ⟨?_, ?_⟩)))
    · rw [show nI (i * 4) + 2 = nI (i * 4 + 2) from nI_add (i * 4) 2]; exact vp_in_nI (by omega) (by omega)
    · rw [ea]
      exact xa_em hw h.1.1.1 (by omega) _ (xa_ea e (show p < n by omega) rfl (hF _ (by omega)) hw h1.1.1.1 (by omega) _ hp)
  · rw [oa_na8] at hn hp
    rw [if_neg (by decide), if_neg (by decide), if_neg (by decide), ← nI_add] at hp
    obtain ⟨L1, l1, h1⟩ := oa_ac_I (o := 1) e (show p < n by omega) h (by omega) (by omega)
    exact br_f (by decide) (br_f (by decide) (br_f (by decide) (br_f (by decide) (br_t rfl (xa_ea e (show p < n by omega) rfl (hF _ (by omega)) hw h.1.1.1 (by omega) _
      (xa_em hw h1.1.1.1 (by omega) _ hp))))))
theorem xa_tb_l {V nR w cnt : Nat} {sop sd sa sb : Nat → Int32} {k0 k : oa_K} (hw : w < 2) (hR : 0 < nR) (hc : cnt ≤ 32) (ss : oa_SS V cnt sop sd sa sb x_accessVar) (sr : oa_SR x_statements sop sd sa sb) (e : oa_env V nR (oa_ps sop cnt) x_register x_accessVar x_address)
    (hF : ∀ j, j < oa_ps sop cnt → x_follower j = oa_fv x_register x_accessVar (oa_ps sop cnt) j) (h : oa_KI nR w 0 0 k0 k) (post : St2 → Prop)
    (hp : post (x_varCount, x_regCount, x_phase, nI cnt, x_accessCount, x_nextAddress, x_accumulator, x_register, x_init, x_statements, x_accessVar, x_follower, x_weight, x_firstLink, x_secondLink, x_chain, x_address, ((oa_tb x_register x_accessVar x_address sop sa (oa_ps sop cnt) w cnt k).1), ((oa_tb x_register x_accessVar x_address sop sa (oa_ps sop cnt) w cnt k).2.1), ((oa_tb x_register x_accessVar x_address sop sa (oa_ps sop cnt) w cnt k).2.2.1), ((oa_tb x_register x_accessVar x_address sop sa (oa_ps sop cnt) w cnt k).2.2.2.1), ((oa_tb x_register x_accessVar x_address sop sa (oa_ps sop cnt) w cnt k).2.2.2.2.1), ((oa_tb x_register x_accessVar x_address sop sa (oa_ps sop cnt) w cnt k).2.2.2.2.2.1), x_memory, x_addressRegister, x_output, x_outputCount)) :
    ∀ d i fu, i + d = cnt → d < fu → wX_translateBlock_41 post (nI w) fu (nI (oa_ps sop i)) (nI i) x_varCount x_regCount x_phase (nI cnt) x_accessCount x_nextAddress x_accumulator x_register x_init x_statements x_accessVar x_follower x_weight x_firstLink x_secondLink x_chain x_address ((oa_tb x_register x_accessVar x_address sop sa (oa_ps sop cnt) w i k).1) ((oa_tb x_register x_accessVar x_address sop sa (oa_ps sop cnt) w i k).2.1) ((oa_tb x_register x_accessVar x_address sop sa (oa_ps sop cnt) w i k).2.2.1) ((oa_tb x_register x_accessVar x_address sop sa (oa_ps sop cnt) w i k).2.2.2.1) ((oa_tb x_register x_accessVar x_address sop sa (oa_ps sop cnt) w i k).2.2.2.2.1) ((oa_tb x_register x_accessVar x_address sop sa (oa_ps sop cnt) w i k).2.2.2.2.2.1) x_memory x_addressRegister x_output x_outputCount := by
  intro d
  induction d with
  | zero =>
    intro i fu hi hf
    obtain ⟨fu, rfl⟩ : ∃ f, fu = f + 1 := ⟨fu - 1, by omega⟩
    have ei : i = cnt := by omega
    subst ei
    exact br_t (nI_le (by omega) (by omega)) hp
  | succ d ih =>
    intro i fu hi hf
    obtain ⟨fu, rfl⟩ : ∃ f, fu = f + 1 := ⟨fu - 1, by omega⟩
    obtain ⟨L, hL, hk⟩ := oa_tb_I hR hc ss e h i (by omega)
    have hn : oa_ps sop i + oa_na (sop i) ≤ oa_ps sop cnt := oa_ps_mono sop cnt (i + 1) (by omega)
    have s4 := sr i (by omega)
    exact br_f (nI_ge (by omega) (by omega)) (xa_ts e hF hw hR (by omega) s4.1 s4.2.2.1 (ss i (by omega)) hn hk (by omega) _ (nm_r (nI_1 i) (ih (i + 1) fu (by omega) (by omega))))
theorem xa_tk_l {nR w : Nat} (hR : nR ≤ 4) (post : St2 → Prop) (hp : ∃ f, wX_translateBlock_41 post (nI w) f 0 0 x_varCount (nI nR) x_phase x_statementCount x_accessCount x_nextAddress x_accumulator x_register x_init x_statements x_accessVar x_follower x_weight x_firstLink x_secondLink x_chain x_address x_opcode x_instrRegister x_operand x_codeLength x_addrLoads (oa_fill x_knownAddress (fun _ => -1) nR) x_memory x_addressRegister x_output x_outputCount) :
    ∀ d i fu, i + d = nR → d < fu → wX_translateBlock_16 post (nI w) x_varCount (nI nR) x_phase x_statementCount x_accessCount x_nextAddress x_accumulator fu (nI i) x_register x_init x_statements x_accessVar x_follower x_weight x_firstLink x_secondLink x_chain x_address x_opcode x_instrRegister x_operand x_codeLength x_addrLoads (oa_fill x_knownAddress (fun _ => -1) i) x_memory x_addressRegister x_output x_outputCount := by
  intro d
  induction d with
  | zero =>
    intro i fu hi hf
    obtain ⟨fu, rfl⟩ : ∃ f, fu = f + 1 := ⟨fu - 1, by omega⟩
    have e : i = nR := by omega
    subst e
    exact br_t (nI_le (by omega) (by omega)) hp
  | succ d ih =>
    intro i fu hi hf
    obtain ⟨fu, rfl⟩ : ∃ f, fu = f + 1 := ⟨fu - 1, by omega⟩
    have vi : vp_in (nI i) 4 := vp_in_nI (by omega) (by omega)
    refine br_f (nI_ge (by omega) (by omega)) ⟨vi, nm_r ?_ (nm_r (nI_1 i) (ih (i + 1) fu (by omega) (by omega)))⟩
    rw [nI_clamp (show i < 2 ^ 31 by omega)]
    exact oa_fill_s rfl
end
/-- the state of the code as a block's translation begins -/
def oa_k0 (nR w : Nat) (k kk' : oa_K) : oa_K := (k.1, k.2.1, k.2.2.1, upd k.2.2.2.1 w 0, upd k.2.2.2.2.1 w 0, oa_fill k.2.2.2.2.2.1 (fun _ => -1) nR, kk'.2.2.2.2.2.2.1, kk'.2.2.2.2.2.2.2)
theorem oa_k0_I {nR w : Nat} {k kk' : oa_K} (h : ∀ r, r < nR → kk'.2.2.2.2.2.2.2 r = 0) : oa_KI nR w 0 0 k (oa_k0 nR w k kk') := by
  refine ⟨⟨⟨pk_us, fun i hi => by omega, Nat.le_refl _⟩, ?_, fun w' hw => ⟨(pk_un hw : upd k.2.2.2.1 w 0 w' = k.2.2.2.1 w'), fun i _ => ⟨rfl, rfl, rfl⟩⟩⟩, Or.inr fun r hr => ⟨fun _ => (oa_fill_lt hr : oa_fill k.2.2.2.2.2.1 (fun _ => -1) nR r = -1), fun z => absurd (h r hr) z⟩⟩
  intro w' L' q' hw _ hc
  exact ⟨by show upd k.2.2.2.1 w 0 w' = _; rw [pk_un hw]; exact hc.1, hc.2⟩
section
variable {x_varCount x_regCount x_phase x_statementCount x_accessCount x_nextAddress x_accumulator : Int32} {x_register x_init x_statements x_accessVar x_follower x_weight x_firstLink x_secondLink x_chain x_address x_opcode x_instrRegister x_operand x_codeLength x_addrLoads x_knownAddress x_memory x_addressRegister x_output x_outputCount : Nat → Int32}
theorem xa_tb {V nR w cnt : Nat} {sop sd sa sb : Nat → Int32} {k kk' K : oa_K} (hw : w < 2) (hR : 0 < nR) (hR4 : nR ≤ 4) (hc : cnt ≤ 32) (ss : oa_SS V cnt sop sd sa sb x_accessVar) (sr : oa_SR x_statements sop sd sa sb) (e : oa_env V nR (oa_ps sop cnt) x_register x_accessVar x_address)
    (hF : ∀ j, j < oa_ps sop cnt → x_follower j = oa_fv x_register x_accessVar (oa_ps sop cnt) j) (hk : ∀ r, r < nR → kk'.2.2.2.2.2.2.2 r = 0) (post : St2 → Prop)
    (eK : oa_tb x_register x_accessVar x_address sop sa (oa_ps sop cnt) w cnt (oa_k0 nR w k kk') = K)
    (hp : post (x_varCount, nI nR, x_phase, nI cnt, x_accessCount, x_nextAddress, x_accumulator, x_register, x_init, x_statements, x_accessVar, x_follower, x_weight, x_firstLink, x_secondLink, x_chain, x_address, K.1, K.2.1, K.2.2.1, K.2.2.2.1, K.2.2.2.2.1, K.2.2.2.2.2.1, x_memory, x_addressRegister, x_output, x_outputCount)) : wpX_translateBlock post (x_varCount, nI nR, x_phase, nI cnt, x_accessCount, x_nextAddress, x_accumulator, x_register, x_init, x_statements, x_accessVar, x_follower, x_weight, x_firstLink, x_secondLink, x_chain, x_address, k.1, k.2.1, k.2.2.1, k.2.2.2.1, k.2.2.2.2.1, k.2.2.2.2.2.1, x_memory, x_addressRegister, x_output, x_outputCount) (nI w) := by
  subst eK
  have iw : vp_in (nI w) 2 := vp_in_nI hw (by omega)
  have cw : (nI w).toNatClampNeg = w := nI_clamp (by omega)
  have h := xa_tk_l (w := w) (x_opcode := k.1) (x_instrRegister := k.2.1) (x_operand := k.2.2.1) (x_codeLength := upd k.2.2.2.1 w 0) (x_addrLoads := upd k.2.2.2.2.1 w 0) (x_knownAddress := k.2.2.2.2.2.1) (x_statementCount := nI cnt) hR4 post
    ⟨cnt + 1, xa_tb_l (x_regCount := nI nR) hw hR hc ss sr e hF (oa_k0_I (k := k) hk) post hp cnt 0 (cnt + 1) (by omega) (by omega)⟩ nR 0 (nR + 1) (by omega) (by omega)
  rw [oa_fill_0] at h
  exact ⟨iw, nm_r (by rw [cw]) ⟨iw, nm_r (by rw [cw]) ⟨nR + 1, h⟩⟩⟩
end
