/-! Y: joins -/
section
variable {y_nV y_nR y_count y_phase y_accN : Int32} {y_reg y_init y_sop y_sdest y_sa y_sb y_accV y_addr y_wt y_edge y_deg y_comp y_placed y_cOp y_cReg y_cOpd y_len y_loads y_kval y_kKnown y_mem y_outs y_outN y_ar : Nat → Int32}
theorem ya_mg_l (a b : Int32) (post : SY → Prop) (hp : post (y_nV, y_nR, y_count, y_phase, y_accN, y_reg, y_init, y_sop, y_sdest, y_sa, y_sb, y_accV, y_addr, y_wt, y_edge, y_deg, oa_rn y_comp a b 16, y_placed, y_cOp, y_cReg, y_cOpd, y_len, y_loads, y_kval, y_kKnown, y_mem, y_outs, y_outN, y_ar)) :
    ∀ d i fu, i + d = 16 → d < fu → wY_merge_2 post a b y_nV y_nR y_count y_phase y_accN fu (nI i) y_reg y_init y_sop y_sdest y_sa y_sb y_accV y_addr y_wt y_edge y_deg (oa_rn y_comp a b i) y_placed y_cOp y_cReg y_cOpd y_len y_loads y_kval y_kKnown y_mem y_outs y_outN y_ar := by
  intro d
  induction d with
  | zero =>
    intro i fu hi hf
    obtain ⟨fu, rfl⟩ : ∃ f, fu = f + 1 := ⟨fu - 1, by omega⟩
    have e : i = 16 := by omega
    subst e
    exact br_t (by decide) hp
  | succ d ih =>
    intro i fu hi hf
    obtain ⟨fu, rfl⟩ : ∃ f, fu = f + 1 := ⟨fu - 1, by omega⟩
    have nx := ih (i + 1) fu (by omega) (by omega)
    have vi : vp_in (nI i) 16 := vp_in_nI (by omega) (by omega)
    refine br_f (nI_ge (b := 16) (by omega) (by decide)) ⟨vi, ?_⟩
    rw [nI_clamp (show i < 2 ^ 31 by omega), oa_rn_self]
    by_cases c : y_comp i = a
    · exact br_t c ⟨vi, nm_r (oa_rn_t c) (nm_r (nI_1 i) nx)⟩
    · rw [oa_rn_f c]
      exact br_f c (nm_r (nI_1 i) nx)
theorem ya_mg (a b : Int32) (post : SY → Prop) (hp : post (y_nV, y_nR, y_count, y_phase, y_accN, y_reg, y_init, y_sop, y_sdest, y_sa, y_sb, y_accV, y_addr, y_wt, y_edge, y_deg, oa_rn y_comp a b 16, y_placed, y_cOp, y_cReg, y_cOpd, y_len, y_loads, y_kval, y_kKnown, y_mem, y_outs, y_outN, y_ar)) : wpY_merge post (y_nV, y_nR, y_count, y_phase, y_accN, y_reg, y_init, y_sop, y_sdest, y_sa, y_sb, y_accV, y_addr, y_wt, y_edge, y_deg, y_comp, y_placed, y_cOp, y_cReg, y_cOpd, y_len, y_loads, y_kval, y_kKnown, y_mem, y_outs, y_outN, y_ar) a b := by
  have h := ya_mg_l a b post hp 16 0 17 (by omega) (by omega)
  rw [oa_rn_0] at h
  exact ⟨17, h⟩
theorem ya_js {V : Nat} (post : Int32 → SY → Prop) : oa_YS y_wt V (fun n t q => wY_compile_120 post n (nI t) y_nV y_nR y_count y_phase y_accN y_reg y_init y_sop y_sdest y_sa y_sb y_accV y_addr y_wt q.2.2.2.1 q.2.2.2.2.1 q.2.2.2.2.2 y_placed y_cOp y_cReg y_cOpd y_len y_loads y_kval y_kKnown y_mem y_outs y_outN y_ar) := by
  intro k u v n q hk hu hv
  have ht : ¬ (24320 : Int32) ≤ nI (k * 256 + u * 16 + v) := nI_ge (b := 24320) (by omega) (by decide)
  have d1 : (95 : Int32) - nI (k * 256 + u * 16 + v) / 256 = nI (95 - k) := by
    rw [show (256 : Int32) = nI 256 from rfl, pk_div (by omega) (by omega) (by omega), show (95 : Int32) = nI 95 from rfl, show (k * 256 + u * 16 + v) / 256 = k by omega]
    exact pk_sub (by omega)
  have d2 : nI (k * 256 + u * 16 + v) - nI (k * 256 + u * 16 + v) / 256 * 256 = nI (u * 16 + v) := by
    rw [show (256 : Int32) = nI 256 from rfl, pk_rem (by omega) (by omega) (by omega), show (k * 256 + u * 16 + v) % 256 = u * 16 + v by omega]
  have d3 : nI (u * 16 + v) / 16 = nI u := by
    rw [show (16 : Int32) = nI 16 from rfl, pk_div (by omega) (by omega) (by omega), show (u * 16 + v) / 16 = u by omega]
  have d4 : nI (u * 16 + v) - nI (u * 16 + v) / 16 * 16 = nI v := by
    rw [show (16 : Int32) = nI 16 from rfl, pk_rem (by omega) (by omega) (by omega), show (u * 16 + v) % 16 = v by omega]
  have ip : vp_in (nI (u * 16 + v)) 256 := vp_in_nI (by omega) (by omega)
  have iq : vp_in (nI (v * 16 + u)) 256 := vp_in_nI (by omega) (by omega)
  have iu : vp_in (nI u) 16 := vp_in_nI hu (by omega)
  have iv : vp_in (nI v) 16 := vp_in_nI hv (by omega)
  have cp : (nI (u * 16 + v)).toNatClampNeg = u * 16 + v := nI_clamp (by omega)
  have cq : (nI (v * 16 + u)).toNatClampNeg = v * 16 + u := nI_clamp (by omega)
  have cu : (nI u).toNatClampNeg = u := nI_clamp (by omega)
  have cv : (nI v).toNatClampNeg = v := nI_clamp (by omega)
  have w0 : ¬ nI (95 - k) ≤ 0 := nI_nle (by omega) (by omega)
  have n1 := nI_1 (k * 256 + u * 16 + v)
  constructor
  · intro c h
    refine br_f ht ⟨by decide, nm_r d1 ⟨by decide, nm_r d2 ⟨by decide, nm_r d3 ⟨by decide, nm_r d4 (br_f w0 ⟨ip, ?_⟩)⟩⟩⟩⟩
    rw [cp, cu, cv, oa_ix16, cq]
    by_cases c1 : y_wt (u * 16 + v) = nI (95 - k)
    · refine br_t c1 ⟨iu, ?_⟩
      by_cases c2 : 2 ≤ q.2.2.2.2.1 u
      · exact br_t c2 (nm_r n1 h)
      · refine br_f c2 ⟨iv, ?_⟩
        by_cases c3 : 2 ≤ q.2.2.2.2.1 v
        · exact br_t c3 (nm_r n1 h)
        · refine br_f c3 ⟨iu, iv, ?_⟩
          by_cases c4 : q.2.2.2.2.2 u = q.2.2.2.2.2 v
          · exact br_t c4 (nm_r n1 h)
          · exact absurd ⟨c1, Int32.not_le.mp c2, Int32.not_le.mp c3, c4⟩ c
    · exact br_f c1 (nm_r n1 h)
  · rintro ⟨c1, c2, c3, c4⟩ h
    have uv : v ≠ u := fun z => c4 (by rw [z])
    refine br_f ht ⟨by decide, nm_r d1 ⟨by decide, nm_r d2 ⟨by decide, nm_r d3 ⟨by decide, nm_r d4 (br_f w0 ⟨ip, ?_⟩)⟩⟩⟩⟩
    rw [cp, cu, cv, oa_ix16, cq]
    refine br_t c1 ⟨iu, br_f (Int32.not_le.mpr c2) ⟨iv, br_f (Int32.not_le.mpr c3) ⟨iu, iv, br_f c4 ⟨ip, nm_e ⟨iq, nm_e ⟨iu, iu, nm_e ⟨iv, iv, nm_r (show _ = upd (upd q.2.2.2.2.1 u (q.2.2.2.2.1 u + 1)) v (q.2.2.2.2.1 v + 1) by rw [pk_un uv]) ⟨iv, iu, ?_⟩⟩⟩⟩⟩⟩⟩⟩
    exact ya_mg _ _ _ (nm_r n1 h)
theorem ya_c120 {V : Nat} {W : Nat → Int32} (hV : V ≤ 16) (hW : ∀ u v, u < v → v < V → W (u * 16 + v) = y_wt (u * 16 + v)) (h0 : ∀ u v, u < 16 → v < 16 → ¬ (u < v ∧ v < V) → y_wt (u * 16 + v) = 0) (post : Int32 → SY → Prop) (q : oa_Q) (hq : oa_QI V q)
    (hp : ∃ f, wY_compile_278 post f 0 0 y_nV y_nR y_count y_phase y_accN y_reg y_init y_sop y_sdest y_sa y_sb y_accV y_addr y_wt ((oa_jw W V 95 q).2.2.2.1) ((oa_jw W V 95 q).2.2.2.2.1) ((oa_jw W V 95 q).2.2.2.2.2) y_placed y_cOp y_cReg y_cOpd y_len y_loads y_kval y_kKnown y_mem y_outs y_outN y_ar) : ∃ f, wY_compile_120 post f 0 y_nV y_nR y_count y_phase y_accN y_reg y_init y_sop y_sdest y_sa y_sb y_accV y_addr y_wt q.2.2.2.1 q.2.2.2.2.1 q.2.2.2.2.2 y_placed y_cOp y_cReg y_cOpd y_len y_loads y_kval y_kKnown y_mem y_outs y_outN y_ar := by
  have h := oa_Y_jw hV (ya_js (V := V) post) hW h0 95 1 q (by omega) hq (br_t (by decide) hp)
  exact ⟨_, h⟩
end
