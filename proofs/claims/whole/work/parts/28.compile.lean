/-! compile, on each side -/
section
variable {x_varCount x_regCount x_phase x_statementCount x_accessCount x_nextAddress x_accumulator : Int32} {x_register x_init x_statements x_accessVar x_follower x_weight x_firstLink x_secondLink x_chain x_address x_opcode x_instrRegister x_operand x_codeLength x_addrLoads x_knownAddress x_memory x_addressRegister x_output x_outputCount : Nat → Int32}
theorem xa_compile {V nR cnt : Nat} {sop sd sa sb e g p ay pl : Nat → Int32} {Q : oa_Q} {B : oa_B} {k K1 K2 : oa_K} (hV : V ≤ 16) (hR : 0 < nR) (hR4 : nR ≤ 4) (hc : cnt ≤ 32) (ss : oa_SS V cnt sop sd sa sb x_accessVar) (sr : oa_SR x_statements sop sd sa sb)
    (hQ : Q = oa_jw (oa_wA (oa_fill x_weight (fun _ => 0) 256) x_register x_accessVar (oa_ps sop cnt) (oa_ps sop cnt)) V 95 (oa_fill x_firstLink (fun _ => -1) V, oa_fill x_secondLink (fun _ => -1) V, oa_fill x_chain nI V, e, g, p))
    (hl : oa_LR V Q.1 Q.2.1) (hB : oa_aw x_register Q.1 Q.2.1 Q.2.2.1 V nR 0 (oa_fill x_address (fun _ => -1) V, ay, pl, 0) = B) (env : oa_env V nR (oa_ps sop cnt) x_register x_accessVar B.1)
    (hK1 : oa_tb x_register x_accessVar B.1 sop sa (oa_ps sop cnt) 0 cnt (oa_k0 nR 0 k (oa_kz k)) = K1) (hK2 : oa_tb x_register x_accessVar B.1 sop sa (oa_ps sop cnt) 1 cnt (oa_k0 nR 1 K1 (oa_kz K1)) = K2) (post : Int32 → SX → Prop)
    (hp : post (K2.2.2.2.2.1 1) (nI V, nI nR, 1, nI cnt, (nI (oa_ps sop cnt)), nI B.2.2.2, x_accumulator, x_register, x_init, x_statements, x_accessVar, (oa_fill x_follower (oa_fv x_register x_accessVar (oa_ps sop cnt)) (oa_ps sop cnt)), (oa_wA (oa_fill x_weight (fun _ => 0) 256) x_register x_accessVar (oa_ps sop cnt) (oa_ps sop cnt)), Q.1, Q.2.1, Q.2.2.1, B.1, K2.1, K2.2.1, K2.2.2.1, K2.2.2.2.1, K2.2.2.2.2.1, K2.2.2.2.2.2.1, x_memory, x_addressRegister, x_output, x_outputCount)) :
    wpX_compile post (nI V, nI nR, x_phase, nI cnt, (nI (oa_ps sop cnt)), x_nextAddress, x_accumulator, x_register, x_init, x_statements, x_accessVar, x_follower, x_weight, x_firstLink, x_secondLink, x_chain, x_address, k.1, k.2.1, k.2.2.1, k.2.2.2.1, k.2.2.2.2.1, k.2.2.2.2.2.1, x_memory, x_addressRegister, x_output, x_outputCount) := by
  have hn : oa_ps sop cnt ≤ 96 := by have := oa_ps_le sop cnt; omega
  have ha : ∀ i, i < oa_ps sop cnt → ∃ k, k < 16 ∧ x_accessVar i = nI k := by
    intro i hi
    obtain ⟨k, hk, ek⟩ := oa_SS_vr cnt ss i hi
    exact ⟨k, by omega, ek⟩
  have hF : ∀ j, j < oa_ps sop cnt → oa_fill x_follower (oa_fv x_register x_accessVar (oa_ps sop cnt)) (oa_ps sop cnt) j = oa_fv x_register x_accessVar (oa_ps sop cnt) j := fun j hj => oa_fill_lt hj
  unfold wpX_compile
  refine xa_ff hn ha _ ?_
  refine xa_cw hn ha hF _ ?_
  refine xa_jc hV e g p _ Q hQ ?_
  refine xa_aa hV hR4 hl ay pl _ B hB ?_
  refine xa_tb (w := 0) (k := k) (kk' := oa_kz k) (by omega) hR hR4 hc ss sr env hF (oa_kz_0 hR4 k) _ hK1 ?_
  refine xa_tb (w := 1) (k := K1) (kk' := oa_kz K1) (by omega) hR hR4 hc ss sr env hF (oa_kz_0 hR4 K1) _ hK2 ?_
  exact hp
end
section
variable {y_nV y_nR y_count y_phase y_accN : Int32} {y_reg y_init y_sop y_sdest y_sa y_sb y_accV y_addr y_wt y_edge y_deg y_comp y_placed y_cOp y_cReg y_cOpd y_len y_loads y_kval y_kKnown y_mem y_outs y_outN y_ar : Nat → Int32}
theorem ya_compile {V nR cnt : Nat} {f s c acc W : Nat → Int32} {q0 Q : oa_Q} {b0 B : oa_B} {k K1 K2 : oa_K} (hV : V ≤ 16) (hV0 : 0 < V) (hR : 0 < nR) (hR4 : nR ≤ 4) (hc : cnt ≤ 32) (ss : oa_SS V cnt y_sop y_sdest y_sa y_sb acc)
    (hq0 : q0 = (f, s, c, oa_fill y_edge (fun _ => 0) 256, oa_fill y_deg (fun _ => 0) 16, oa_fill y_comp nI 16)) (hqi : oa_QI V q0) (hW : ∀ u v, u < v → v < V → W (u * 16 + v) = oa_wY y_reg acc V (oa_ps y_sop cnt) (u * 16 + v))
    (hQ : Q = oa_jw W V 95 q0) (hb0 : b0.2.1 = y_addr ∧ b0.2.2.1 = oa_fill y_placed (fun _ => 0) 16 ∧ b0.2.2.2 = 0) (hbi : oa_BI V Q.1 Q.2.1 b0) (hB : oa_aw y_reg Q.1 Q.2.1 Q.2.2.1 V nR 0 b0 = B)
    (env : oa_env V nR (oa_ps y_sop cnt) y_reg acc B.1) (hay : ∀ v, v < V → B.2.1 v = B.1 v)
    (hK1 : oa_tb y_reg acc B.1 y_sop y_sa (oa_ps y_sop cnt) 0 cnt (oa_k0 nR 0 k (oa_kz k)) = K1) (hK2 : oa_tb y_reg acc B.1 y_sop y_sa (oa_ps y_sop cnt) 1 cnt (oa_k0 nR 1 K1 (oa_kz K1)) = K2) (post : Int32 → SY → Prop)
    (hp : ∀ A, post (K2.2.2.2.2.1 1) (nI V, nI nR, nI cnt, 1, (nI (oa_ps y_sop cnt)), y_reg, y_init, y_sop, y_sdest, y_sa, y_sb, A, B.2.1, (oa_fill y_wt (oa_wY y_reg A V (oa_ps y_sop cnt)) 256), Q.2.2.2.1, Q.2.2.2.2.1, Q.2.2.2.2.2, B.2.2.1, K2.1, K2.2.1, K2.2.2.1, K2.2.2.2.1, K2.2.2.2.2.1, K2.2.2.2.2.2.2.1, K2.2.2.2.2.2.2.2, y_mem, y_outs, (upd (upd y_outN 0 0) 1 0), y_ar)) :
    wpY_compile post (nI V, nI nR, nI cnt, y_phase, y_accN, y_reg, y_init, y_sop, y_sdest, y_sa, y_sb, y_accV, y_addr, y_wt, y_edge, y_deg, y_comp, y_placed, k.1, k.2.1, k.2.2.1, k.2.2.2.1, k.2.2.2.2.1, k.2.2.2.2.2.2.1, k.2.2.2.2.2.2.2, y_mem, y_outs, y_outN, y_ar) := by
  have hn : oa_ps y_sop cnt ≤ 96 := by have := oa_ps_le y_sop cnt; omega
  have ha : ∀ i, i < oa_ps y_sop cnt → ∃ k, k < 16 ∧ acc i = nI k := by
    intro i hi
    obtain ⟨k, hk, ek⟩ := oa_SS_vr cnt ss i hi
    exact ⟨k, by omega, ek⟩
  unfold wpY_compile
  refine ya_ba hc ss _ (fun A hA => ?_)
  have haA : ∀ i, i < oa_ps y_sop cnt → ∃ k, k < 16 ∧ A i = nI k := by
    intro i hi
    rw [hA i hi]; exact ha i hi
  have ssA : oa_SS V cnt y_sop y_sdest y_sa y_sb A := by
    intro i hi
    refine oa_ST_cg (ss i hi) (fun j _ hj => hA j ?_)
    have : oa_ps y_sop i + oa_na (y_sop i) ≤ oa_ps y_sop cnt := oa_ps_mono y_sop cnt (i + 1) hi
    omega
  have envA : oa_env V nR (oa_ps y_sop cnt) y_reg A B.2.1 := by
    obtain ⟨g1, g2, g3, g4, g5, g6⟩ := env
    refine ⟨g1, g2, g3, g4, fun j hj => ?_, fun v hv => ?_⟩
    · rw [hA j hj]; exact g5 j hj
    · rw [hay v hv]; exact g6 v hv
  have eA : ∀ u v, u < v → v < V → oa_wY y_reg A V (oa_ps y_sop cnt) (u * 16 + v) = oa_wY y_reg acc V (oa_ps y_sop cnt) (u * 16 + v) := by
    intro u v huv hv
    unfold oa_wY
    rw [(oa_ct_cg (oa_ps y_sop cnt) hA).2]
  have hW2 : ∀ u v, u < v → v < V → W (u * 16 + v) = oa_fill y_wt (oa_wY y_reg A V (oa_ps y_sop cnt)) 256 (u * 16 + v) := by
    intro u v huv hv
    rw [oa_fill_lt (by omega), eA u v huv hv]
    exact hW u v huv hv
  have h02 : ∀ u v, u < 16 → v < 16 → ¬ (u < v ∧ v < V) → oa_fill y_wt (oa_wY y_reg A V (oa_ps y_sop cnt)) 256 (u * 16 + v) = 0 := by
    intro u v hu hv hn
    rw [oa_fill_lt (by omega)]
    exact oa_wY_0 hv hn
  have hqQ : oa_QI V Q := by rw [hQ]; exact oa_jw_I hV 95 q0 hqi
  have eK1 : oa_tb y_reg A B.2.1 y_sop y_sa (oa_ps y_sop cnt) 0 cnt (oa_k0 nR 0 k (oa_kz k)) = K1 := by
    rw [oa_tb_cg env hA hay ss cnt (Nat.le_refl cnt)]; exact hK1
  have eK2 : oa_tb y_reg A B.2.1 y_sop y_sa (oa_ps y_sop cnt) 1 cnt (oa_k0 nR 1 K1 (oa_kz K1)) = K2 := by
    rw [oa_tb_cg env hA hay ss cnt (Nat.le_refl cnt)]; exact hK2
  have hgen : wY_compile_278 post 1 (nI B.2.2.2) (nI (nR * V)) (nI V) (nI nR) (nI cnt) y_phase (nI (oa_ps y_sop cnt)) y_reg y_init y_sop y_sdest y_sa y_sb A B.2.1 (oa_fill y_wt (oa_wY y_reg A V (oa_ps y_sop cnt)) 256) Q.2.2.2.1 Q.2.2.2.2.1 Q.2.2.2.2.2 B.2.2.1 k.1 k.2.1 k.2.2.1 k.2.2.2.1 k.2.2.2.2.1 k.2.2.2.2.2.2.1 k.2.2.2.2.2.2.2 y_mem y_outs y_outN y_ar := by
    have hmm : nR * V ≤ 4 * 16 := Nat.mul_le_mul hR4 hV
    refine br_t (by rw [pk_mul]; exact nI_le (Nat.le_refl _) (by omega)) ?_
    refine ya_gn (w := 0) (k := k) (by omega) hR hR4 hc ssA envA _ eK1 ?_
    refine ya_gn (w := 1) (k := K1) (by omega) hR hR4 hc ssA envA _ eK2 ?_
    exact nm_e (nm_e (hp A))
  have h278 := ya_c278 (y_count := nI cnt) hV hV0 hR4 hqQ.1 hqQ.2 post b0 B hbi hb0.2.2 hB hgen
  rw [hb0.1, hb0.2.1, hQ] at h278
  have h120 := ya_c120 hV hW2 h02 post q0 hqi h278
  rw [hq0] at h120
  have h85 := ya_c85 post h120 16 0 17 (by omega) (by omega)
  rw [oa_fill_0, oa_fill_0, oa_fill_0] at h85
  have h6 := ya_c6 hV hn haA post ⟨17, h85⟩ 256 0 257 (by omega) (by omega)
  rw [oa_fill_0, oa_fill_0] at h6
  exact ⟨257, h6⟩
end
