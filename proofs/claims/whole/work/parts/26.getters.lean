/-! the other methods that read -/
theorem oa_pg (p : Int32) : (∃ w, w < 2 ∧ p = nI w) ∨ (¬ p = 0 ∧ ¬ p = 1 ∧ (p < 0 ∨ (¬ p < 0 ∧ ¬ p ≤ 1))) := by
  rcases pk_ix p (n := 2) (by omega) with h | h | ⟨j, hj, e⟩
  · refine Or.inr ⟨fun z => ?_, fun z => ?_, Or.inl h⟩
    · rw [z] at h; exact absurd h (by decide)
    · rw [z] at h; exact absurd h (by decide)
  · refine Or.inr ⟨fun z => ?_, fun z => ?_, Or.inr ⟨fun z => ?_, fun z => ?_⟩⟩
    · rw [z] at h; exact absurd h (by decide)
    · rw [z] at h; exact absurd h (by decide)
    · exact absurd (Int32.lt_of_le_of_lt h z) (by decide)
    · exact absurd (Int32.le_trans h z) (by decide)
  · exact Or.inl ⟨j, hj, e⟩
theorem oa_w1 {w : Nat} (hw : w < 2) : nI w ≤ 1 := nI_le (b := 1) (by omega) (by decide)
theorem oa_w1' {w : Nat} (hw : w < 2) : ¬ 1 < nI w := nI_nlt (a := 1) (by omega) (by decide)
theorem oa_wn {w : Nat} (hw : w < 2) : ¬ nI w < 0 := nI_pos (by omega)
section
variable {x_varCount x_regCount x_phase x_statementCount x_accessCount x_nextAddress x_accumulator : Int32} {x_register x_init x_statements x_accessVar x_follower x_weight x_firstLink x_secondLink x_chain x_address x_opcode x_instrRegister x_operand x_codeLength x_addrLoads x_knownAddress x_memory x_addressRegister x_output x_outputCount : Nat → Int32}
theorem xa_ip1 {w : Nat} (hw : w < 2) (post : Int32 → Prop) (hp : post 1) : wpX_isProgram post (x_varCount, x_regCount, x_phase, x_statementCount, x_accessCount, x_nextAddress, x_accumulator, x_register, x_init, x_statements, x_accessVar, x_follower, x_weight, x_firstLink, x_secondLink, x_chain, x_address, x_opcode, x_instrRegister, x_operand, x_codeLength, x_addrLoads, x_knownAddress, x_memory, x_addressRegister, x_output, x_outputCount) (nI w) := by
  have c : w = 0 ∨ w = 1 := by omega
  rcases c with rfl | rfl
  · exact br_t rfl hp
  · exact br_f (by decide) (br_t rfl hp)
theorem xa_ip0 {p : Int32} (h0 : ¬ p = 0) (h1 : ¬ p = 1) (post : Int32 → Prop) (hp : post 0) : wpX_isProgram post (x_varCount, x_regCount, x_phase, x_statementCount, x_accessCount, x_nextAddress, x_accumulator, x_register, x_init, x_statements, x_accessVar, x_follower, x_weight, x_firstLink, x_secondLink, x_chain, x_address, x_opcode, x_instrRegister, x_operand, x_codeLength, x_addrLoads, x_knownAddress, x_memory, x_addressRegister, x_output, x_outputCount) p := br_f h0 (br_f h1 hp)
theorem xa_92 {u v p x c i : Int32} (post : Int32 → Prop) (J : Int32 → Int32 → Int32 → Prop) (h1 : (p = v ∧ x = u) → J (c + 1) x (i + 1)) (h0 : ¬ (p = v ∧ x = u) → J c x (i + 1)) : wX_getWeight_92 post J u v c p i x x_varCount x_regCount x_phase x_statementCount x_accessCount x_nextAddress x_accumulator x_register x_init x_statements x_accessVar x_follower x_weight x_firstLink x_secondLink x_chain x_address x_opcode x_instrRegister x_operand x_codeLength x_addrLoads x_knownAddress x_memory x_addressRegister x_output x_outputCount :=
  br_c (fun a => br_c (fun b => nm_e (nm_e (h1 ⟨a, b⟩))) (fun b => nm_e (h0 (fun z => b z.2)))) (fun a => nm_e (h0 (fun z => a z.1)))
theorem xa_gw {n u : Nat} {v : Int32} (hn : n ≤ 96) (hu : u < 16) (ha : ∀ i, i < n → ∃ k, k < 16 ∧ x_accessVar i = nI k) (post : Int32 → Prop) (hp : post (oa_ct x_register x_accessVar (x_register u) (nI u) v n)) :
    ∀ d i fu, i + d = n → d < fu → wX_getWeight_46 post (nI u) v x_varCount x_regCount x_phase x_statementCount (nI n) x_nextAddress x_accumulator x_register x_init x_statements x_accessVar x_follower x_weight x_firstLink x_secondLink x_chain x_address x_opcode x_instrRegister x_operand x_codeLength x_addrLoads x_knownAddress x_memory x_addressRegister x_output x_outputCount fu (oa_ct x_register x_accessVar (x_register u) (nI u) v i) (oa_pv x_register x_accessVar (x_register u) i) (nI i) := by
  intro d
  induction d with
  | zero =>
    intro i fu hi hf
    obtain ⟨fu, rfl⟩ : ∃ f, fu = f + 1 := ⟨fu - 1, by omega⟩
    have e : i = n := by omega
    subst e
    exact br_t (nI_le (by omega) (by omega)) hp
  | succ d ih =>
    intro i fu hi hf
    obtain ⟨fu, rfl⟩ : ∃ f, fu = f + 1 := ⟨fu - 1, by omega⟩
    have nx := ih (i + 1) fu (by omega) (by omega)
    obtain ⟨k, hk, ek⟩ := ha i (by omega)
    refine br_f (nI_ge (by omega) (by omega)) ⟨vp_in_nI (by omega) (by omega), ?_⟩
    rw [nI_clamp (show i < 2 ^ 31 by omega), nI_clamp (show u < 2 ^ 31 by omega)]
    refine nm_e ⟨by rw [ek]; exact vp_in_nI hk (by omega), vp_in_nI hu (by omega), ?_⟩
    rw [oa_pv, oa_ct] at nx
    by_cases c : x_register (x_accessVar i).toNatClampNeg = x_register u
    · rw [if_pos c, if_pos c] at nx
      refine br_t c ?_
      by_cases a1 : oa_pv x_register x_accessVar (x_register u) i = nI u
      · refine br_t a1 ?_
        by_cases a2 : x_accessVar i = v
        · rw [if_pos (Or.inl ⟨a1, a2⟩)] at nx
          exact br_t a2 (nm_e (nm_r (nI_1 i) nx))
        · refine br_f a2 (xa_92 post _ (fun z => ?_) (fun z => ?_))
          · rw [if_pos (Or.inr z)] at nx; rw [nI_1]; exact nx
          · rw [if_neg (fun y => y.elim (fun y => a2 y.2) z)] at nx; rw [nI_1]; exact nx
      · refine br_f a1 (xa_92 post _ (fun z => ?_) (fun z => ?_))
        · rw [if_pos (Or.inr z)] at nx; rw [nI_1]; exact nx
        · rw [if_neg (fun y => y.elim (fun y => a1 y.1) z)] at nx; rw [nI_1]; exact nx
    · rw [if_neg c, if_neg c] at nx
      exact br_f c (nm_r (nI_1 i) nx)
end
theorem i_vc_getWeight {k : Nat} {u : SX} {v : SY} (I : i_Rel k u v) (hk : k + 5 ≤ 2562) (v1 : Int32) (v2 : Int32) : wpX_getWeight (fun r => wpY_getWeight (fun r' v' => r' = r ∧ i_Rel (k + 5) u v') v v1 v2) u v1 v2 := by
  obtain ⟨V, nR, ph, cnt, na, ac, aN, reg, ini, st, acc, fol, wt, fl, sl, ch, ad, op, rg, od, len, ld, kn, mx, arx, out, ocx, sop, sd, sa, sb, accY, ady, wtY, ed, dg, cp, pl, kv, kk, my, ocy, ary, rfl, rfl, I⟩ := I
  have I' := I
  obtain ⟨i1, i2, i3, i4, i5, i6, i7, i8, i9, i10⟩ := I'
  have hn : oa_ps sop cnt ≤ 96 := by have := oa_ps_le sop cnt; omega
  have ha : ∀ i, i < oa_ps sop cnt → ∃ k, k < 16 ∧ acc i = nI k := by
    intro i hi
    obtain ⟨k, hk, ek⟩ := oa_SS_vr cnt i7 i hi
    exact ⟨k, by omega, ek⟩
  unfold wpX_getWeight wpY_getWeight
  dsimp only
  refine xa_iv _ (fun c1 => br_f (by decide) ?_) (fun c1 => br_t rfl (ya_bv _ (fun z => absurd z c1) (fun _ => br_f (by decide) ⟨rfl, oa_R I⟩)))
  refine xa_iv _ (fun c2 => br_f (by decide) ?_) (fun c2 => br_t rfl (ya_bv _ (fun _ => br_t rfl (ya_bv _ (fun z => absurd z c2) (fun _ => br_f (by decide) ⟨rfl, oa_R I⟩))) (fun z => absurd c1 z)))
  by_cases c3 : v1 = v2
  · exact br_t c3 (ya_bv _ (fun _ => br_t rfl (ya_bv _ (fun _ => br_t rfl (br_t c3 ⟨rfl, oa_R I⟩)) (fun z => absurd c2 z))) (fun z => absurd c1 z))
  obtain ⟨a, ha1, rfl⟩ := oa_in_c i1.2 c1
  obtain ⟨b, hb1, rfl⟩ := oa_in_c i1.2 c2
  have ia : vp_in (nI a) 16 := vp_in_nI (by omega) (by omega)
  have ib : vp_in (nI b) 16 := vp_in_nI (by omega) (by omega)
  have ca : (nI a).toNatClampNeg = a := nI_clamp (by omega)
  have cb : (nI b).toNatClampNeg = b := nI_clamp (by omega)
  rw [ca, cb]
  refine br_f c3 ⟨ia, ib, ?_⟩
  by_cases c4 : reg a = reg b
  · refine br_t c4 ⟨oa_ps sop cnt + 1, xa_gw hn (by omega) ha _ ?_ (oa_ps sop cnt) 0 (oa_ps sop cnt + 1) (by omega) (by omega)⟩
    refine ya_bv _ (fun _ => br_t rfl (ya_bv _ (fun _ => br_t rfl (br_f c3 ⟨ia, ib, br_t c4 (ya_ba i4 i7 _ (fun A hA => ?_))⟩)) (fun z => absurd c2 z))) (fun z => absurd c1 z)
    refine ya_wt hn (by omega) (fun i hi => ?_) _ ⟨?_, oa_R I⟩
    · show ∃ k, k < 16 ∧ A i = nI k
      rw [hA i hi]; exact ha i hi
    · exact (oa_ct_cg (oa_ps sop cnt) hA).2
  · exact br_f c4 (ya_bv _ (fun _ => br_t rfl (ya_bv _ (fun _ => br_t rfl (br_f c3 ⟨ia, ib, br_f c4 ⟨rfl, oa_R I⟩⟩)) (fun z => absurd c2 z))) (fun z => absurd c1 z))
theorem i_vc_getAddress {k : Nat} {u : SX} {v : SY} (I : i_Rel k u v) (hk : k + 5 ≤ 2562) (v1 : Int32) : wpX_getAddress (fun r => wpY_getAddress (fun r' => r' = r ∧ i_Rel (k + 5) u v) v v1) u v1 := by
  obtain ⟨V, nR, ph, cnt, na, ac, aN, reg, ini, st, acc, fol, wt, fl, sl, ch, ad, op, rg, od, len, ld, kn, mx, arx, out, ocx, sop, sd, sa, sb, accY, ady, wtY, ed, dg, cp, pl, kv, kk, my, ocy, ary, rfl, rfl, I⟩ := I
  have I' := I
  obtain ⟨i1, i2, i3, i4, i5, i6, i7, i8, i9, i10⟩ := I'
  unfold wpX_getAddress wpY_getAddress
  dsimp only
  by_cases c0 : nI ph = 0
  · exact br_t c0 (br_t c0 ⟨rfl, oa_R I⟩)
  have p0 : ph ≠ 0 := fun z => c0 (by rw [z]; rfl)
  refine br_f c0 (xa_iv _ (fun c => br_f (by decide) ?_) (fun c => br_t rfl (br_f c0 (ya_bv _ (fun z => absurd z c) (fun _ => br_f (by decide) ⟨rfl, oa_R I⟩)))))
  obtain ⟨j, hj, rfl⟩ := oa_in_c i1.2 c
  have ij : vp_in (nI j) 16 := vp_in_nI (by omega) (by omega)
  refine ⟨ij, br_f c0 (ya_bv _ (fun _ => br_t rfl ⟨ij, ?_, oa_R I⟩) (fun z => absurd c z))⟩
  rw [nI_clamp (show j < 2 ^ 31 by omega)]
  exact ((i9 p0).1 j hj).1
theorem i_vc_getCodeLength {k : Nat} {u : SX} {v : SY} (I : i_Rel k u v) (hk : k + 5 ≤ 2562) (v1 : Int32) : wpX_getCodeLength (fun r => wpY_getCodeLength (fun r' => r' = r ∧ i_Rel (k + 5) u v) v v1) u v1 := by
  obtain ⟨V, nR, ph, cnt, na, ac, aN, reg, ini, st, acc, fol, wt, fl, sl, ch, ad, op, rg, od, len, ld, kn, mx, arx, out, ocx, sop, sd, sa, sb, accY, ady, wtY, ed, dg, cp, pl, kv, kk, my, ocy, ary, rfl, rfl, I⟩ := I
  unfold wpX_getCodeLength wpY_getCodeLength
  dsimp only
  by_cases c0 : nI ph = 0
  · exact br_t c0 (br_t c0 ⟨rfl, oa_R I⟩)
  rcases oa_pg v1 with ⟨w, hw, rfl⟩ | ⟨n0, n1, h⟩
  · have iw : vp_in (nI w) 2 := vp_in_nI hw (by omega)
    exact br_f c0 (xa_ip1 hw _ (br_f (by decide) ⟨iw, br_f c0 (br_f (oa_wn hw) (br_t (oa_w1 hw) ⟨iw, rfl, oa_R I⟩))⟩))
  · rcases h with h | ⟨h, h'⟩
    · exact br_f c0 (xa_ip0 n0 n1 _ (br_t rfl (br_f c0 (br_t h ⟨rfl, oa_R I⟩))))
    · exact br_f c0 (xa_ip0 n0 n1 _ (br_t rfl (br_f c0 (br_f h (br_f h' ⟨rfl, oa_R I⟩)))))
theorem i_vc_getAddrLoads {k : Nat} {u : SX} {v : SY} (I : i_Rel k u v) (hk : k + 5 ≤ 2562) (v1 : Int32) : wpX_getAddrLoads (fun r => wpY_getAddrLoads (fun r' => r' = r ∧ i_Rel (k + 5) u v) v v1) u v1 := by
  obtain ⟨V, nR, ph, cnt, na, ac, aN, reg, ini, st, acc, fol, wt, fl, sl, ch, ad, op, rg, od, len, ld, kn, mx, arx, out, ocx, sop, sd, sa, sb, accY, ady, wtY, ed, dg, cp, pl, kv, kk, my, ocy, ary, rfl, rfl, I⟩ := I
  unfold wpX_getAddrLoads wpY_getAddrLoads
  dsimp only
  by_cases c0 : nI ph = 0
  · exact br_t c0 (br_t c0 ⟨rfl, oa_R I⟩)
  rcases oa_pg v1 with ⟨w, hw, rfl⟩ | ⟨n0, n1, h⟩
  · have iw : vp_in (nI w) 2 := vp_in_nI hw (by omega)
    exact br_f c0 (xa_ip1 hw _ (br_f (by decide) ⟨iw, br_f c0 (br_f (oa_wn hw) (br_t (oa_w1 hw) ⟨iw, rfl, oa_R I⟩))⟩))
  · rcases h with h | ⟨h, h'⟩
    · exact br_f c0 (xa_ip0 n0 n1 _ (br_t rfl (br_f c0 (br_t h ⟨rfl, oa_R I⟩))))
    · exact br_f c0 (xa_ip0 n0 n1 _ (br_t rfl (br_f c0 (br_f h (br_f h' ⟨rfl, oa_R I⟩)))))
theorem i_vc_getOutputCount {k : Nat} {u : SX} {v : SY} (I : i_Rel k u v) (hk : k + 5 ≤ 2562) (v1 : Int32) : wpX_getOutputCount (fun r => wpY_getOutputCount (fun r' => r' = r ∧ i_Rel (k + 5) u v) v v1) u v1 := by
  obtain ⟨V, nR, ph, cnt, na, ac, aN, reg, ini, st, acc, fol, wt, fl, sl, ch, ad, op, rg, od, len, ld, kn, mx, arx, out, ocx, sop, sd, sa, sb, accY, ady, wtY, ed, dg, cp, pl, kv, kk, my, ocy, ary, rfl, rfl, I⟩ := I
  have I' := I
  obtain ⟨i1, i2, i3, i4, i5, i6, i7, i8, i9, i10⟩ := I'
  unfold wpX_getOutputCount wpY_getOutputCount
  dsimp only
  by_cases c2 : nI ph = 2
  · have p2 : ph = 2 := oa_inj (b := 2) (by omega) (by omega) c2
    rcases oa_pg v1 with ⟨w, hw, rfl⟩ | ⟨n0, n1, h⟩
    · have iw : vp_in (nI w) 2 := vp_in_nI hw (by omega)
      refine br_t c2 (xa_ip1 hw _ (br_f (by decide) ⟨iw, br_t c2 (br_f (oa_wn hw) (br_t (oa_w1 hw) ⟨iw, ?_, oa_R I⟩))⟩))
      rw [nI_clamp (show w < 2 ^ 31 by omega)]
      exact (i10 p2 w hw).1
    · rcases h with h | ⟨h, h'⟩
      · exact br_t c2 (xa_ip0 n0 n1 _ (br_t rfl (br_t c2 (br_t h ⟨rfl, oa_R I⟩))))
      · exact br_t c2 (xa_ip0 n0 n1 _ (br_t rfl (br_t c2 (br_f h (br_f h' ⟨rfl, oa_R I⟩)))))
  · exact br_f c2 (br_f c2 ⟨rfl, oa_R I⟩)
theorem i_vc_getOutput {k : Nat} {u : SX} {v : SY} (I : i_Rel k u v) (hk : k + 5 ≤ 2562) (v1 : Int32) (v2 : Int32) : wpX_getOutput (fun r => wpY_getOutput (fun r' => r' = r ∧ i_Rel (k + 5) u v) v v1 v2) u v1 v2 := by
  obtain ⟨V, nR, ph, cnt, na, ac, aN, reg, ini, st, acc, fol, wt, fl, sl, ch, ad, op, rg, od, len, ld, kn, mx, arx, out, ocx, sop, sd, sa, sb, accY, ady, wtY, ed, dg, cp, pl, kv, kk, my, ocy, ary, rfl, rfl, I⟩ := I
  have I' := I
  obtain ⟨i1, i2, i3, i4, i5, i6, i7, i8, i9, i10⟩ := I'
  unfold wpX_getOutput wpY_getOutput
  dsimp only
  by_cases c2 : nI ph = 2
  · have p2 : ph = 2 := oa_inj (b := 2) (by omega) (by omega) c2
    rcases oa_pg v1 with ⟨w, hw, rfl⟩ | ⟨n0, n1, h⟩
    · have iw : vp_in (nI w) 2 := vp_in_nI hw (by omega)
      obtain ⟨e1, q, hq, e2⟩ := i10 p2 w hw
      rw [nI_clamp (show w < 2 ^ 31 by omega), e1, e2]
      refine br_t c2 (xa_ip1 hw _ (br_f (by decide) ?_))
      by_cases c3 : v2 < 0
      · exact br_t c3 (br_t c2 (br_f (oa_wn hw) (br_f (oa_w1' hw) (br_t c3 ⟨rfl, oa_R I⟩))))
      · obtain ⟨j, hj, rfl⟩ := nI_of c3
        by_cases c4 : nI j < nI q
        · have c5 := (nI_ltI hj (by omega)).mp c4
          have ij : vp_in (nI w * 32 + nI j) 64 := by rw [oa_ix32]; exact vp_in_nI (by omega) (by omega)
          exact br_f c3 ⟨iw, br_t c4 ⟨ij, br_t c2 (br_f (oa_wn hw) (br_f (oa_w1' hw) (br_f c3 ⟨iw, br_t c4 ⟨ij, rfl, oa_R I⟩⟩)))⟩⟩
        · exact br_f c3 ⟨iw, br_f c4 (br_t c2 (br_f (oa_wn hw) (br_f (oa_w1' hw) (br_f c3 ⟨iw, br_f c4 ⟨rfl, oa_R I⟩⟩))))⟩
    · rcases h with h | ⟨h, h'⟩
      · exact br_t c2 (xa_ip0 n0 n1 _ (br_t rfl (br_t c2 (br_t h ⟨rfl, oa_R I⟩))))
      · exact br_t c2 (xa_ip0 n0 n1 _ (br_t rfl (br_t c2 (br_f h (br_t (Int32.not_le.mp h') ⟨rfl, oa_R I⟩)))))
  · exact br_f c2 (br_f c2 ⟨rfl, oa_R I⟩)
theorem i_vc_getVar {k : Nat} {u : SX} {v : SY} (I : i_Rel k u v) (hk : k + 5 ≤ 2562) (v1 : Int32) (v2 : Int32) : wpX_getVar (fun r => wpY_getVar (fun r' => r' = r ∧ i_Rel (k + 5) u v) v v1 v2) u v1 v2 := by
  obtain ⟨V, nR, ph, cnt, na, ac, aN, reg, ini, st, acc, fol, wt, fl, sl, ch, ad, op, rg, od, len, ld, kn, mx, arx, out, ocx, sop, sd, sa, sb, accY, ady, wtY, ed, dg, cp, pl, kv, kk, my, ocy, ary, rfl, rfl, I⟩ := I
  have I' := I
  obtain ⟨i1, i2, i3, i4, i5, i6, i7, i8, i9, i10⟩ := I'
  unfold wpX_getVar wpY_getVar
  dsimp only
  by_cases c2 : nI ph = 2
  · have p2 : ph = 2 := oa_inj (b := 2) (by omega) (by omega) c2
    rcases oa_pg v1 with ⟨w, hw, rfl⟩ | ⟨n0, n1, h⟩
    · refine br_t c2 (xa_ip1 hw _ (br_f (by decide) (xa_iv _ (fun c => br_f (by decide) ?_) (fun c => br_t rfl (br_t c2 (br_f (oa_wn hw) (br_f (oa_w1' hw) (ya_bv _ (fun z => absurd z c) (fun _ => br_f (by decide) ⟨rfl, oa_R I⟩)))))))))
      obtain ⟨j, hj, rfl⟩ := oa_in_c i1.2 c
      obtain ⟨e1, a, ha, e2⟩ := (i9 (by omega)).1 j hj
      have cj : (nI j).toNatClampNeg = j := nI_clamp (by omega)
      have ij : vp_in (nI j) 16 := vp_in_nI (by omega) (by omega)
      have fin : ∀ c, c < V → (if w = 0 then nI j else ad j) = nI c → wpX_addressIn (fun r_60 => vp_in (nI w * 16 + r_60) 32 ∧ wpY_getVar (fun r' => r' = mx (nI w * 16 + r_60).toNatClampNeg ∧ i_Rel (k + 5) (nI V, nI nR, nI ph, nI cnt, nI (oa_ps sop cnt), na, ac, reg, ini, st, acc, fol, wt, fl, sl, ch, ad, op, rg, od, len, ld, kn, mx, arx, out, ocx) (nI V, nI nR, nI cnt, nI ph, aN, reg, ini, sop, sd, sa, sb, accY, ady, wtY, ed, dg, cp, pl, op, rg, od, len, ld, kv, kk, my, out, ocy, ary)) (nI V, nI nR, nI cnt, nI ph, aN, reg, ini, sop, sd, sa, sb, accY, ady, wtY, ed, dg, cp, pl, op, rg, od, len, ld, kv, kk, my, out, ocy, ary) (nI w) (nI j)) (nI V, nI nR, nI ph, nI cnt, nI (oa_ps sop cnt), na, ac, reg, ini, st, acc, fol, wt, fl, sl, ch, ad, op, rg, od, len, ld, kn, mx, arx, out, ocx) (nI w) (nI j) := by
        intro c' hc' ec
        have ix : vp_in (nI w * 16 + nI c') 32 := by rw [oa_ix16w]; exact vp_in_nI (by omega) (by omega)
        have cx : (nI w * 16 + nI c').toNatClampNeg = 16 * w + c' := by rw [oa_ix16w]; exact nI_clamp (by omega)
        refine xa_ai hw (by omega) ec _ ⟨ix, ?_⟩
        have fy : ∀ z0, z0 = nI c' → wY_getVar_41 (fun r' => r' = mx (nI w * 16 + nI c').toNatClampNeg ∧ i_Rel (k + 5) (nI V, nI nR, nI ph, nI cnt, nI (oa_ps sop cnt), na, ac, reg, ini, st, acc, fol, wt, fl, sl, ch, ad, op, rg, od, len, ld, kn, mx, arx, out, ocx) (nI V, nI nR, nI cnt, nI ph, aN, reg, ini, sop, sd, sa, sb, accY, ady, wtY, ed, dg, cp, pl, op, rg, od, len, ld, kv, kk, my, out, ocy, ary)) (nI w) z0 (nI V) (nI nR) (nI cnt) (nI ph) aN reg ini sop sd sa sb accY ady wtY ed dg cp pl op rg od len ld kv kk my out ocy ary := by
          rintro z0 rfl
          refine ⟨ix, ?_, oa_R I⟩
          rw [cx]
          exact i8 w c' hw hc'
        refine br_t c2 (br_f (oa_wn hw) (br_f (oa_w1' hw) (ya_bv _ (fun _ => br_t rfl ?_) (fun z => absurd c z))))
        by_cases c0 : w = 0
        · rw [if_pos c0] at ec
          exact br_t ((oa_w0 hw).mpr c0) (fy _ ec)
        · rw [if_neg c0] at ec
          exact br_f (fun z => c0 ((oa_w0 hw).mp z)) ⟨ij, fy _ (by rw [cj, e1]; exact ec)⟩
      by_cases c0 : w = 0
      · exact fin j hj (if_pos c0)
      · exact fin a ha (by rw [if_neg c0]; exact e2)
    · rcases h with h | ⟨h, h'⟩
      · exact br_t c2 (xa_ip0 n0 n1 _ (br_t rfl (br_t c2 (br_t h ⟨rfl, oa_R I⟩))))
      · exact br_t c2 (xa_ip0 n0 n1 _ (br_t rfl (br_t c2 (br_f h (br_t (Int32.not_le.mp h') ⟨rfl, oa_R I⟩)))))
  · exact br_f c2 (br_f c2 ⟨rfl, oa_R I⟩)
theorem i_vc_getInstr {k : Nat} {u : SX} {v : SY} (I : i_Rel k u v) (hk : k + 5 ≤ 2562) (v1 : Int32) (v2 : Int32) (v3 : Int32) : wpX_getInstr (fun r => wpY_getInstr (fun r' => r' = r ∧ i_Rel (k + 5) u v) v v1 v2 v3) u v1 v2 v3 := by
  obtain ⟨V, nR, ph, cnt, na, ac, aN, reg, ini, st, acc, fol, wt, fl, sl, ch, ad, op, rg, od, len, ld, kn, mx, arx, out, ocx, sop, sd, sa, sb, accY, ady, wtY, ed, dg, cp, pl, kv, kk, my, ocy, ary, rfl, rfl, I⟩ := I
  have I' := I
  obtain ⟨i1, i2, i3, i4, i5, i6, i7, i8, i9, i10⟩ := I'
  unfold wpX_getInstr wpY_getInstr
  dsimp only
  by_cases c0 : nI ph = 0
  · exact br_t c0 (br_t c0 ⟨rfl, oa_R I⟩)
  have p0 : ph ≠ 0 := fun z => c0 (by rw [z]; rfl)
  rcases oa_pg v1 with ⟨w, hw, rfl⟩ | ⟨n0, n1, h⟩
  · have iw : vp_in (nI w) 2 := vp_in_nI hw (by omega)
    obtain ⟨L, hL, ci⟩ := (i9 p0).2.2 w hw
    have cw : (nI w).toNatClampNeg = w := nI_clamp (by omega)
    rw [cw, ci.1]
    refine br_f c0 (xa_ip1 hw _ (br_f (by decide) ?_))
    have Yp : ∀ {A B C : Prop}, C → ((nI ph = 0 → A) ∧ (¬ nI ph = 0 → ((nI w < 0 → B) ∧ (¬ nI w < 0 → ((nI w ≤ 1 → C) ∧ (¬ nI w ≤ 1 → B)))))) := fun h => br_f c0 (br_f (oa_wn hw) (br_t (oa_w1 hw) h))
    by_cases c1 : v2 < 0
    · exact br_t c1 (Yp (br_t c1 ⟨rfl, oa_R I⟩))
    obtain ⟨i, hi, rfl⟩ := nI_of c1
    by_cases c2 : i < L
    · have x2 : nI i < nI L := nI_lt c2 (by omega)
      have y2 : ¬ nI L ≤ nI i := nI_ge c2 (by omega)
      have iA : vp_in (nI w * 192 + nI i) 384 := by rw [oa_ix192]; exact vp_in_nI (by omega) (by omega)
      refine br_f c1 ⟨iw, br_t x2 (nm_e ?_)⟩
      by_cases c3 : v3 < 0
      · exact br_t c3 (Yp (br_f c1 ⟨iw, br_f y2 (br_t c3 ⟨rfl, oa_R I⟩)⟩))
      refine br_f c3 ?_
      by_cases c4 : 2 < v3
      · exact br_t c4 (Yp (br_f c1 ⟨iw, br_f y2 (br_f c3 (br_f (Int32.not_le.mpr c4) ⟨rfl, oa_R I⟩))⟩))
      have y4 := Int32.not_lt.mp c4
      refine br_f c4 ?_
      by_cases f0 : v3 = 0
      · exact br_t f0 ⟨iA, Yp (br_f c1 ⟨iw, br_f y2 (br_f c3 (br_t y4 (nm_e (br_t f0 ⟨iA, rfl, oa_R I⟩))))⟩)⟩
      refine br_f f0 ?_
      by_cases f1 : v3 = 1
      · exact br_t f1 ⟨iA, Yp (br_f c1 ⟨iw, br_f y2 (br_f c3 (br_t y4 (nm_e (br_f f0 (br_t f1 ⟨iA, rfl, oa_R I⟩)))))⟩)⟩
      refine br_f f1 (br_c (fun f2 => ?_) (fun _ => trivial))
      exact ⟨iA, Yp (br_f c1 ⟨iw, br_f y2 (br_f c3 (br_t y4 (nm_e (br_f f0 (br_f f1 ⟨iA, rfl, oa_R I⟩)))))⟩)⟩
    · have x2 : ¬ nI i < nI L := nI_nlt (by omega) hi
      have y2 : nI L ≤ nI i := nI_le (by omega) hi
      exact br_f c1 ⟨iw, br_f x2 (Yp (br_f c1 ⟨iw, br_t y2 ⟨rfl, oa_R I⟩⟩))⟩
  · rcases h with h | ⟨h, h'⟩
    · exact br_f c0 (xa_ip0 n0 n1 _ (br_t rfl (br_f c0 (br_t h ⟨rfl, oa_R I⟩))))
    · exact br_f c0 (xa_ip0 n0 n1 _ (br_t rfl (br_f c0 (br_f h (br_f h' ⟨rfl, oa_R I⟩)))))
