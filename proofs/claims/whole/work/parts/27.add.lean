/-! addStatement -/
def oa_ok (V o : Nat) (d a b : Int32) : Prop := (o ≤ 5 → oa_in V d ∧ oa_in V a ∧ oa_in V b) ∧ (o = 6 → oa_in V d ∧ oa_in V a) ∧ (o = 7 → oa_in V d) ∧ (o = 8 → oa_in V a)
theorem oa_8 {o : Nat} (h : o ≤ 8) : o ≤ 5 ∨ o = 6 ∨ o = 7 ∨ o = 8 := by omega
section
variable {x_varCount x_regCount x_phase x_statementCount x_accessCount x_nextAddress x_accumulator : Int32} {x_register x_init x_statements x_accessVar x_follower x_weight x_firstLink x_secondLink x_chain x_address x_opcode x_instrRegister x_operand x_codeLength x_addrLoads x_knownAddress x_memory x_addressRegister x_output x_outputCount : Nat → Int32}
theorem xa_uo {V o : Nat} {d a b : Int32} (h8 : o ≤ 8) (post : Int32 → Prop) (h1 : oa_ok V o d a b → post 1) (h0 : ¬ oa_ok V o d a b → post 0) : wpX_usesOnlyVariables post (nI V, x_regCount, x_phase, x_statementCount, x_accessCount, x_nextAddress, x_accumulator, x_register, x_init, x_statements, x_accessVar, x_follower, x_weight, x_firstLink, x_secondLink, x_chain, x_address, x_opcode, x_instrRegister, x_operand, x_codeLength, x_addrLoads, x_knownAddress, x_memory, x_addressRegister, x_output, x_outputCount) (nI o) d a b := by
  unfold wpX_usesOnlyVariables
  dsimp only
  rcases oa_8 h8 with h | rfl | rfl | rfl
  · refine br_t (nI_lt (b := 6) (by omega) (by decide)) (xa_iv _ (fun c1 => br_f (by decide) (xa_iv _ (fun c2 => br_f (by decide) (xa_iv _ (fun c3 => br_f (by decide) (h1 ?_)) (fun c3 => br_t rfl (h0 ?_)))) (fun c2 => br_t rfl (h0 ?_)))) (fun c1 => br_t rfl (h0 ?_)))
    · exact ⟨fun _ => ⟨c1, c2, c3⟩, fun z => by omega, fun z => by omega, fun z => by omega⟩
    · exact fun z => c3 (z.1 h).2.2
    · exact fun z => c2 (z.1 h).2.1
    · exact fun z => c1 (z.1 h).1
  · refine br_f (by decide) (br_f (by decide) (br_t rfl (xa_iv _ (fun c1 => br_f (by decide) (xa_iv _ (fun c2 => br_f (by decide) (h1 ?_)) (fun c2 => br_t rfl (h0 ?_)))) (fun c1 => br_t rfl (h0 ?_)))))
    · exact ⟨fun z => by omega, fun _ => ⟨c1, c2⟩, fun z => by omega, fun z => by omega⟩
    · exact fun z => c2 (z.2.1 rfl).2
    · exact fun z => c1 (z.2.1 rfl).1
  · refine br_f (by decide) (br_f (by decide) (br_f (by decide) (br_t rfl (xa_iv _ (fun c1 => ⟨rfl, h1 ?_⟩) (fun c1 => ⟨rfl, h0 ?_⟩)))))
    · exact ⟨fun z => by omega, fun z => by omega, fun _ => c1, fun z => by omega⟩
    · exact fun z => c1 (z.2.2.1 rfl)
  · refine br_f (by decide) (br_f (by decide) (br_f (by decide) (br_f (by decide) (br_t rfl (xa_iv _ (fun c1 => ⟨rfl, h1 ?_⟩) (fun c1 => ⟨rfl, h0 ?_⟩))))))
    · exact ⟨fun z => by omega, fun z => by omega, fun z => by omega, fun _ => c1⟩
    · exact fun z => c1 (z.2.2.2 rfl)
theorem xa_st {c : Nat} {o d a b : Int32} (hc : c < 32) (post : SX → Prop) (hp : post (x_varCount, x_regCount, x_phase, x_statementCount, x_accessCount, x_nextAddress, x_accumulator, x_register, x_init, (upd (upd (upd (upd x_statements (c * 4) o) (c * 4 + 1) d) (c * 4 + 2) a) (c * 4 + 3) b), x_accessVar, x_follower, x_weight, x_firstLink, x_secondLink, x_chain, x_address, x_opcode, x_instrRegister, x_operand, x_codeLength, x_addrLoads, x_knownAddress, x_memory, x_addressRegister, x_output, x_outputCount)) : wpX_storeStatement post (x_varCount, x_regCount, x_phase, x_statementCount, x_accessCount, x_nextAddress, x_accumulator, x_register, x_init, x_statements, x_accessVar, x_follower, x_weight, x_firstLink, x_secondLink, x_chain, x_address, x_opcode, x_instrRegister, x_operand, x_codeLength, x_addrLoads, x_knownAddress, x_memory, x_addressRegister, x_output, x_outputCount) (nI c) o d a b := by
  have e0 : nI (c * 4) + 0 = nI (c * 4) := Int32.add_zero _
  have e1 : nI (c * 4) + 1 = nI (c * 4 + 1) := nI_1 _
  have e2 : nI (c * 4) + 2 = nI (c * 4 + 2) := nI_add (c * 4) 2
  have e3 : nI (c * 4) + 3 = nI (c * 4 + 3) := nI_add (c * 4) 3
  refine nm_r (show _ = nI (c * 4) by rw [show (4 : Int32) = nI 4 from rfl, pk_mul]) ?_
  rw [e0, e1, e2, e3, nI_clamp (show c * 4 < 2 ^ 31 by omega), nI_clamp (show c * 4 + 1 < 2 ^ 31 by omega), nI_clamp (show c * 4 + 2 < 2 ^ 31 by omega), nI_clamp (show c * 4 + 3 < 2 ^ 31 by omega)]
  exact ⟨vp_in_nI (by omega) (by omega), nm_e ⟨vp_in_nI (by omega) (by omega), nm_e ⟨vp_in_nI (by omega) (by omega), nm_e ⟨vp_in_nI (by omega) (by omega), nm_e hp⟩⟩⟩⟩
theorem xa_a1 {n : Nat} {x : Int32} (hn : n < 96) (post : SX → Prop) (hp : post (x_varCount, x_regCount, x_phase, x_statementCount, (nI (n + 1)), x_nextAddress, x_accumulator, x_register, x_init, x_statements, upd x_accessVar n x, x_follower, x_weight, x_firstLink, x_secondLink, x_chain, x_address, x_opcode, x_instrRegister, x_operand, x_codeLength, x_addrLoads, x_knownAddress, x_memory, x_addressRegister, x_output, x_outputCount)) : wpX_appendAccess post (x_varCount, x_regCount, x_phase, x_statementCount, nI n, x_nextAddress, x_accumulator, x_register, x_init, x_statements, x_accessVar, x_follower, x_weight, x_firstLink, x_secondLink, x_chain, x_address, x_opcode, x_instrRegister, x_operand, x_codeLength, x_addrLoads, x_knownAddress, x_memory, x_addressRegister, x_output, x_outputCount) x :=
  ⟨vp_in_nI hn (by omega), nm_r (show _ = upd x_accessVar n x by rw [nI_clamp (by omega)]) (nm_r (nI_1 n) hp)⟩
theorem oa_vin {V : Nat} {x : Int32} (hV : V ≤ 16) (h : oa_in V x) : oa_vr V x := oa_in_c hV h
theorem xa_as {V o n : Nat} {d a b : Int32} (hV : V ≤ 16) (h8 : o ≤ 8) (hn : n + 3 ≤ 96) (ok : oa_ok V o d a b) (post : SX → Prop)
    (hp : ∀ P, (∀ j, j < n → P j = x_accessVar j) → oa_ST V (nI o) d a b P n → post (x_varCount, x_regCount, x_phase, x_statementCount, (nI (n + oa_na (nI o))), x_nextAddress, x_accumulator, x_register, x_init, x_statements, P, x_follower, x_weight, x_firstLink, x_secondLink, x_chain, x_address, x_opcode, x_instrRegister, x_operand, x_codeLength, x_addrLoads, x_knownAddress, x_memory, x_addressRegister, x_output, x_outputCount)) : wpX_appendAccesses post (x_varCount, x_regCount, x_phase, x_statementCount, nI n, x_nextAddress, x_accumulator, x_register, x_init, x_statements, x_accessVar, x_follower, x_weight, x_firstLink, x_secondLink, x_chain, x_address, x_opcode, x_instrRegister, x_operand, x_codeLength, x_addrLoads, x_knownAddress, x_memory, x_addressRegister, x_output, x_outputCount) (nI o) d a b := by
  unfold wpX_appendAccesses
  dsimp only
  obtain ⟨k5, k6, k7, k8⟩ := ok
  rcases oa_8 h8 with h | rfl | rfl | rfl
  · obtain ⟨c1, c2, c3⟩ := k5 h
    have n7 : ¬ nI o = 7 := fun z => by have := oa_inj (b := 7) (by omega) (by omega) z; omega
    have n8 : ¬ nI o = 8 := fun z => by have := oa_inj (b := 8) (by omega) (by omega) z; omega
    rw [oa_na5 h] at hp
    refine br_f n7 (xa_a1 (by omega) _ ?_)
    refine br_f (nI_nlt (a := 5) h (by decide)) (xa_a1 (by omega) _ ?_)
    refine br_f n8 (xa_a1 (by omega) _ (hp (upd (upd (upd x_accessVar n a) (n + 1) b) (n + 2) d) ?_ ?_))
    · intro j hj
      rw [pk_un (by omega), pk_un (by omega), pk_un (by omega)]
    · refine Or.inl ⟨o, h, rfl, oa_vin hV c1, oa_vin hV c2, oa_vin hV c3, ?_, ?_, ?_⟩
      · rw [pk_un (by omega), pk_un (by omega), pk_us]
      · rw [pk_un (by omega), pk_us]
      · exact pk_us
  · obtain ⟨c1, c2⟩ := k6 rfl
    refine br_f (by decide) (xa_a1 (by omega) _ ?_)
    refine br_t (by decide) ?_
    refine br_f (by decide) (xa_a1 (by omega) _ (hp (upd (upd x_accessVar n a) (n + 1) d) ?_ ?_))
    · intro j hj
      rw [pk_un (by omega), pk_un (by omega)]
    · refine Or.inr (Or.inl ⟨rfl, oa_vin hV c1, oa_vin hV c2, ?_, ?_⟩)
      · rw [pk_un (by omega), pk_us]
      · exact pk_us
  · have c1 := k7 rfl
    refine br_t rfl ?_
    refine br_t (by decide) ?_
    refine br_f (by decide) (xa_a1 (by omega) _ (hp (upd x_accessVar n d) ?_ ?_))
    · intro j hj
      rw [pk_un (by omega)]
    · exact Or.inr (Or.inr (Or.inl ⟨rfl, oa_vin hV c1, pk_us⟩))
  · have c1 := k8 rfl
    refine br_f (by decide) (xa_a1 (by omega) _ ?_)
    refine br_t (by decide) ?_
    refine br_t rfl (hp (upd x_accessVar n a) ?_ ?_)
    · intro j hj
      rw [pk_un (by omega)]
    · exact Or.inr (Or.inr (Or.inr ⟨rfl, oa_vin hV c1, pk_us⟩))
end
section
variable {y_nV y_nR y_count y_phase y_accN : Int32} {y_reg y_init y_sop y_sdest y_sa y_sb y_accV y_addr y_wt y_edge y_deg y_comp y_placed y_cOp y_cReg y_cOpd y_len y_loads y_kval y_kKnown y_mem y_outs y_outN y_ar : Nat → Int32}
theorem ya_as {V o cnt : Nat} {d a b : Int32} (h8 : o ≤ 8) (hc : cnt < 32) (post : Int32 → SY → Prop)
    (h1 : oa_ok V o d a b → post (nI cnt) (nI V, y_nR, (nI (cnt + 1)), 0, y_accN, y_reg, y_init, (upd y_sop cnt (nI o)), upd y_sdest cnt d, upd y_sa cnt a, upd y_sb cnt b, y_accV, y_addr, y_wt, y_edge, y_deg, y_comp, y_placed, y_cOp, y_cReg, y_cOpd, y_len, y_loads, y_kval, y_kKnown, y_mem, y_outs, y_outN, y_ar)) (h0 : ¬ oa_ok V o d a b → post (-3) (nI V, y_nR, nI cnt, y_phase, y_accN, y_reg, y_init, y_sop, y_sdest, y_sa, y_sb, y_accV, y_addr, y_wt, y_edge, y_deg, y_comp, y_placed, y_cOp, y_cReg, y_cOpd, y_len, y_loads, y_kval, y_kKnown, y_mem, y_outs, y_outN, y_ar)) :
    wpY_addStatement post (nI V, y_nR, nI cnt, y_phase, y_accN, y_reg, y_init, y_sop, y_sdest, y_sa, y_sb, y_accV, y_addr, y_wt, y_edge, y_deg, y_comp, y_placed, y_cOp, y_cReg, y_cOpd, y_len, y_loads, y_kval, y_kKnown, y_mem, y_outs, y_outN, y_ar) (nI o) d a b := by
  have ic : vp_in (nI cnt) 32 := vp_in_nI hc (by omega)
  have cc : (nI cnt).toNatClampNeg = cnt := nI_clamp (by omega)
  have h116 : oa_ok V o d a b → wY_addStatement_116 post (nI o) d a b (nI V) y_nR (nI cnt) y_phase y_accN y_reg y_init y_sop y_sdest y_sa y_sb y_accV y_addr y_wt y_edge y_deg y_comp y_placed y_cOp y_cReg y_cOpd y_len y_loads y_kval y_kKnown y_mem y_outs y_outN y_ar := by
    intro ok
    refine ⟨ic, ?_⟩
    rw [cc]
    refine nm_e ⟨ic, nm_e ⟨ic, nm_e ⟨ic, nm_e (nm_r (nI_1 cnt) ?_)⟩⟩⟩
    rw [nI_pred]
    exact h1 ok
  refine br_t (nI_lt (b := 32) hc (by decide)) (br_f (nI_pos (by omega)) (br_t (nI_le (b := 8) h8 (by decide)) ?_))
  rcases oa_8 h8 with h | rfl | rfl | rfl
  · have n6 : ¬ nI o = 6 := fun z => by have := oa_inj (b := 6) (by omega) (by omega) z; omega
    have n7 : ¬ nI o = 7 := fun z => by have := oa_inj (b := 7) (by omega) (by omega) z; omega
    have n8 : ¬ nI o = 8 := fun z => by have := oa_inj (b := 8) (by omega) (by omega) z; omega
    refine br_f (nI_nlt (a := 5) h (by decide)) (ya_bv _ (fun c1 => br_t rfl (ya_bv _ (fun c2 => br_t rfl (ya_bv _ (fun c3 => br_t rfl (br_f n6 (br_f n7 (br_f n8 (h116 ?_))))) (fun c3 => br_f (by decide) (h0 ?_)))) (fun c2 => br_f (by decide) (h0 ?_)))) (fun c1 => br_f (by decide) (h0 ?_)))
    · exact ⟨fun _ => ⟨c1, c2, c3⟩, fun z => by omega, fun z => by omega, fun z => by omega⟩
    · exact fun z => c3 (z.1 h).2.2
    · exact fun z => c2 (z.1 h).2.1
    · exact fun z => c1 (z.1 h).1
  · refine br_t (by decide) (br_t rfl (ya_bv _ (fun c1 => br_t rfl (ya_bv _ (fun c2 => br_t rfl (br_f (by decide) (br_f (by decide) (h116 ?_)))) (fun c2 => br_f (by decide) (h0 ?_)))) (fun c1 => br_f (by decide) (h0 ?_))))
    · exact ⟨fun z => by omega, fun _ => ⟨c1, c2⟩, fun z => by omega, fun z => by omega⟩
    · exact fun z => c2 (z.2.1 rfl).2
    · exact fun z => c1 (z.2.1 rfl).1
  · refine br_t (by decide) (br_f (by decide) (br_t rfl (ya_bv _ (fun c1 => br_t rfl (br_f (by decide) (h116 ?_))) (fun c1 => br_f (by decide) (h0 ?_)))))
    · exact ⟨fun z => by omega, fun z => by omega, fun _ => c1, fun z => by omega⟩
    · exact fun z => c1 (z.2.2.1 rfl)
  · refine br_t (by decide) (br_f (by decide) (br_f (by decide) (br_t rfl (ya_bv _ (fun c1 => br_t rfl (h116 ?_)) (fun c1 => br_f (by decide) (h0 ?_))))))
    · exact ⟨fun z => by omega, fun z => by omega, fun z => by omega, fun _ => c1⟩
    · exact fun z => c1 (z.2.2.2 rfl)
end
theorem i_vc_addStatement {k : Nat} {u : SX} {v : SY} (I : i_Rel k u v) (hk : k + 5 ≤ 2562) (v1 : Int32) (v2 : Int32) (v3 : Int32) (v4 : Int32) : wpX_addStatement (fun r u' => wpY_addStatement (fun r' v' => r' = r ∧ i_Rel (k + 5) u' v') v v1 v2 v3 v4) u v1 v2 v3 v4 := by
  obtain ⟨V, nR, ph, cnt, na, ac, aN, reg, ini, st, acc, fol, wt, fl, sl, ch, ad, op, rg, od, len, ld, kn, mx, arx, out, ocx, sop, sd, sa, sb, accY, ady, wtY, ed, dg, cp, pl, kv, kk, my, ocy, ary, rfl, rfl, I⟩ := I
  have I' := I
  obtain ⟨i1, i2, i3, i4, i5, i6, i7, i8, i9, i10⟩ := I'
  by_cases c0 : cnt < 32
  · have x0 : nI cnt < 32 := nI_lt (b := 32) c0 (by decide)
    by_cases c1 : v1 < 0
    · exact br_t x0 (br_t c1 (br_t x0 (br_t c1 ⟨rfl, oa_R I⟩)))
    · by_cases c2 : v1 ≤ 8
      · obtain ⟨o, ho, rfl⟩ := nI_of c1
        have h8 : o ≤ 8 := (nI_leI ho (by omega : 8 < 2 ^ 31)).mp c2
        have hn := oa_ps_le sop cnt
        refine br_t x0 (br_f c1 (br_t c2 (xa_uo h8 _ (fun ok => br_f (by decide) (xa_st c0 _ (xa_as i1.2 h8 (by omega) ok _ (fun P hP hst => nm_r (nI_1 cnt) (ya_as h8 c0 _ (fun _ => ⟨rfl, ?_⟩) (fun z => absurd ok z)))))) (fun ok => br_t rfl (ya_as h8 c0 _ (fun z => absurd z ok) (fun _ => ⟨rfl, oa_R I⟩))))))
        have ha := oa_SS_add i7 hP hst
        rw [← ha.2]
        exact oa_R (ph := 0) ⟨i1, i2, by omega, by omega, i5, oa_SR_add i6, ha.1, i8, fun h => absurd rfl h, fun h => by omega⟩
      · exact br_t x0 (br_f c1 (br_f c2 (br_t x0 (br_f c1 (br_f c2 ⟨rfl, oa_R I⟩)))))
  · have x0 : ¬ nI cnt < 32 := nI_nlt (b := 32) (by omega) (by omega)
    exact br_f x0 (br_f x0 ⟨rfl, oa_R I⟩)
