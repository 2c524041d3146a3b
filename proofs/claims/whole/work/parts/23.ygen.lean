/-! Y: code -/
theorem oa_nx_cg {R a a' : Nat → Int32} {n : Nat} {r : Int32} (h : ∀ j, j < n → a' j = a j) : ∀ d i, i + d ≤ n → oa_nx R a' r d i = oa_nx R a r d i := by
  intro d
  induction d with
  | zero => intro i _; rfl
  | succ d ih => intro i hi; rw [oa_nx, oa_nx, h i (by omega), ih (i + 1) (by omega)]
theorem oa_fo_cg {R a a' : Nat → Int32} {n j : Nat} (h : ∀ j, j < n → a' j = a j) (hj : j < n) : oa_fo R a' n j = oa_fo R a n j := by
  unfold oa_fo
  rw [h j hj]
  exact oa_nx_cg h _ _ (by omega)
theorem oa_ac_cg {V nR n w j : Nat} {reg acc acc' ad ad' : Nat → Int32} {o : Int32} {k : oa_K} (e : oa_env V nR n reg acc ad) (h : ∀ j, j < n → acc' j = acc j) (ha : ∀ v, v < V → ad' v = ad v) (hj : j < n) :
    oa_ac reg acc' ad' n w o j k = oa_ac reg acc ad n w o j k := by
  have e1 := h j hj
  obtain ⟨v, r, a, hv, _, _, _, cv, _, _, _, _⟩ := oa_env_j (w := 0) e hj
  have e2 : ad' (acc j).toNatClampNeg = ad (acc j).toNatClampNeg := ha _ (by omega)
  have ep : oa_pa acc' ad' w j = oa_pa acc ad w j := by unfold oa_pa; rw [e1, e2]
  have em : oa_ms reg acc' ad' n w j = oa_ms reg acc ad n w j := by
    unfold oa_ms oa_sp
    rw [oa_fo_cg h hj, e1, e2]
    by_cases hf : oa_fo reg acc n j < n
    · obtain ⟨v', r', a', hv', _, _, _, cv', _, _, _, _⟩ := oa_env_j (w := 0) e hf
      rw [h _ hf, ha (acc (oa_fo reg acc n j)).toNatClampNeg (by omega)]
    · rw [if_neg hf, if_neg hf]
  unfold oa_ac oa_ld
  rw [ep, em, e1]
theorem oa_tt_cg {V nR n w p : Nat} {reg acc acc' ad ad' : Nat → Int32} {o d a b : Int32} {k : oa_K} (e : oa_env V nR n reg acc ad) (h : ∀ j, j < n → acc' j = acc j) (ha : ∀ v, v < V → ad' v = ad v) (st : oa_ST V o d a b acc p) (hn : p + oa_na o ≤ n) :
    oa_tt reg acc' ad' n w o a p k = oa_tt reg acc ad n w o a p k := by
  unfold oa_tt
  rcases st with ⟨z, hz, rfl, -⟩ | ⟨rfl, -⟩ | ⟨rfl, -⟩ | ⟨rfl, -⟩
  · rw [oa_na5 hz] at hn
    have c : nI z ≤ 5 := nI_le (b := 5) hz (by decide)
    rw [if_pos c, if_pos c, oa_ac_cg e h ha (show p < n by omega), oa_ac_cg e h ha (show p + 1 < n by omega), oa_ac_cg e h ha (show p + 2 < n by omega)]
  · rw [oa_na6] at hn
    rw [if_neg (by decide), if_pos rfl, if_neg (by decide), if_pos rfl, oa_ac_cg e h ha (show p < n by omega), oa_ac_cg e h ha (show p + 1 < n by omega)]
  · rw [oa_na7] at hn
    rw [if_neg (by decide), if_neg (by decide), if_pos rfl, if_neg (by decide), if_neg (by decide), if_pos rfl, oa_ac_cg e h ha (show p < n by omega)]
  · rw [oa_na8] at hn
    rw [if_neg (by decide), if_neg (by decide), if_neg (by decide), if_neg (by decide), if_neg (by decide), if_neg (by decide), oa_ac_cg e h ha (show p < n by omega)]
theorem oa_tb_cg {V nR w cnt : Nat} {reg acc acc' ad ad' sop sd sa sb : Nat → Int32} {k : oa_K} (e : oa_env V nR (oa_ps sop cnt) reg acc ad) (h : ∀ j, j < oa_ps sop cnt → acc' j = acc j) (ha : ∀ v, v < V → ad' v = ad v) (ss : oa_SS V cnt sop sd sa sb acc) :
    ∀ i, i ≤ cnt → oa_tb reg acc' ad' sop sa (oa_ps sop cnt) w i k = oa_tb reg acc ad sop sa (oa_ps sop cnt) w i k := by
  intro i
  induction i with
  | zero => intro _; rfl
  | succ i ih =>
    intro hi
    rw [oa_tb, oa_tb, ih (by omega)]
    exact oa_tt_cg e h ha (ss i (by omega)) (oa_ps_mono sop cnt (i + 1) hi)
/-- Y's marks are wiped -/
def oa_kz (k : oa_K) : oa_K := (k.1, k.2.1, k.2.2.1, k.2.2.2.1, k.2.2.2.2.1, k.2.2.2.2.2.1, k.2.2.2.2.2.2.1, oa_fill k.2.2.2.2.2.2.2 (fun _ => 0) 4)
theorem oa_kz_0 {nR : Nat} (hR : nR ≤ 4) (k : oa_K) : ∀ r, r < nR → (oa_kz k).2.2.2.2.2.2.2 r = 0 := fun r hr => (oa_fill_lt (by omega) : oa_fill k.2.2.2.2.2.2.2 (fun _ => 0) 4 r = 0)
section
variable {y_nV y_nR y_count y_phase y_accN : Int32} {y_reg y_init y_sop y_sdest y_sa y_sb y_accV y_addr y_wt y_edge y_deg y_comp y_placed y_cOp y_cReg y_cOpd y_len y_loads y_kval y_kKnown y_mem y_outs y_outN y_ar : Nat → Int32}
theorem ya_em {w L : Nat} {o r x : Int32} {k : oa_K} (hw : w < 2) (hL : k.2.2.2.1 w = nI L) (hL2 : L < 192) (post : SY → Prop) (hp : post (y_nV, y_nR, y_count, y_phase, y_accN, y_reg, y_init, y_sop, y_sdest, y_sa, y_sb, y_accV, y_addr, y_wt, y_edge, y_deg, y_comp, y_placed, ((oa_em w o r x k).1), ((oa_em w o r x k).2.1), ((oa_em w o r x k).2.2.1), ((oa_em w o r x k).2.2.2.1), ((oa_em w o r x k).2.2.2.2.1), ((oa_em w o r x k).2.2.2.2.2.2.1), ((oa_em w o r x k).2.2.2.2.2.2.2), y_mem, y_outs, y_outN, y_ar)) : wpY_emit post (y_nV, y_nR, y_count, y_phase, y_accN, y_reg, y_init, y_sop, y_sdest, y_sa, y_sb, y_accV, y_addr, y_wt, y_edge, y_deg, y_comp, y_placed, k.1, k.2.1, k.2.2.1, k.2.2.2.1, k.2.2.2.2.1, k.2.2.2.2.2.2.1, k.2.2.2.2.2.2.2, y_mem, y_outs, y_outN, y_ar) (nI w) o r x := by
  have iw : vp_in (nI w) 2 := vp_in_nI hw (by omega)
  have ii : vp_in (nI (192 * w + L)) 384 := vp_in_nI (by omega) (by omega)
  have eL : (k.2.2.2.1 w).toNatClampNeg = L := by rw [hL]; exact nI_clamp (by omega)
  have ci : (nI (192 * w + L)).toNatClampNeg = 192 * w + L := nI_clamp (by omega)
  have e1 : nI w * 192 + k.2.2.2.1 w = nI (192 * w + L) := by rw [hL, oa_ix192]
  have nl : ¬ (192 : Int32) ≤ k.2.2.2.1 w := by rw [hL]; exact nI_ge (b := 192) hL2 (by decide)
  dsimp only [oa_em] at hp
  rw [eL] at hp
  unfold wpY_emit
  dsimp only
  rw [nI_clamp (show w < 2 ^ 31 by omega)]
  refine ⟨iw, br_f nl ⟨iw, nm_r e1 ⟨ii, nm_r (by rw [ci]) ⟨ii, nm_r (by rw [ci]) ⟨ii, nm_r (by rw [ci]) ⟨iw, iw, nm_e ?_⟩⟩⟩⟩⟩⟩
  by_cases c : o = 0
  · rw [if_pos c] at hp
    exact br_t c ⟨iw, iw, nm_e hp⟩
  · rw [if_neg c] at hp
    exact br_f c hp
theorem ya_175 {L r : Nat} {o p m : Int32} {k : oa_K} {KV : Nat → Int32} (hr : r < 4) (hL : k.2.2.2.1 1 = nI L) (hL2 : L < 192) (hK : upd k.2.2.2.2.2.2.1 r (p + m) = KV) (post : SY → Prop) (hp : post (y_nV, y_nR, y_count, y_phase, y_accN, y_reg, y_init, y_sop, y_sdest, y_sa, y_sb, y_accV, y_addr, y_wt, y_edge, y_deg, y_comp, y_placed, ((oa_em 1 o (nI r) m k).1), ((oa_em 1 o (nI r) m k).2.1), ((oa_em 1 o (nI r) m k).2.2.1), ((oa_em 1 o (nI r) m k).2.2.2.1), ((oa_em 1 o (nI r) m k).2.2.2.2.1), KV, ((oa_em 1 o (nI r) m k).2.2.2.2.2.2.2), y_mem, y_outs, y_outN, y_ar)) :
    wY_access_175 post o (nI r) p m y_nV y_nR y_count y_phase y_accN y_reg y_init y_sop y_sdest y_sa y_sb y_accV y_addr y_wt y_edge y_deg y_comp y_placed k.1 k.2.1 k.2.2.1 k.2.2.2.1 k.2.2.2.2.1 k.2.2.2.2.2.2.1 k.2.2.2.2.2.2.2 y_mem y_outs y_outN y_ar := by
  unfold wY_access_175
  exact ya_em (w := 1) (by omega) hL hL2 _ ⟨vp_in_nI hr (by omega), nm_r (by rw [nI_clamp (show r < 2 ^ 31 by omega)]; exact hK) hp⟩
theorem ya_107 {n r : Nat} {o p : Int32} (hn : n ≤ 96) (ha : ∀ i, i < n → ∃ k, k < 16 ∧ y_accV i = nI k) (post : SY → Prop) :
    ∀ d i fu, i + d = n → d < fu →
      wY_access_175 post o (nI r) p (if oa_nx y_reg y_accV (nI r) d i < n then (if -1 ≤ y_addr (y_accV (oa_nx y_reg y_accV (nI r) d i)).toNatClampNeg - p ∧ y_addr (y_accV (oa_nx y_reg y_accV (nI r) d i)).toNatClampNeg - p ≤ 1 then y_addr (y_accV (oa_nx y_reg y_accV (nI r) d i)).toNatClampNeg - p else 0) else 0) y_nV y_nR y_count y_phase (nI n) y_reg y_init y_sop y_sdest y_sa y_sb y_accV y_addr y_wt y_edge y_deg y_comp y_placed y_cOp y_cReg y_cOpd y_len y_loads y_kval y_kKnown y_mem y_outs y_outN y_ar →
      wY_access_107 post o (nI r) p 0 y_nV y_nR y_count y_phase (nI n) y_reg y_init y_sop y_sdest y_sa y_sb y_accV y_addr y_wt y_edge y_deg y_comp y_placed y_cOp y_cReg y_cOpd y_len y_loads y_kval y_kKnown y_mem y_outs y_outN y_ar fu (nI i) := by
  intro d
  induction d with
  | zero =>
    intro i fu hi hf hp
    obtain ⟨fu, rfl⟩ : ∃ f, fu = f + 1 := ⟨fu - 1, by omega⟩
    rw [oa_nx, if_neg (by omega)] at hp
    exact br_t (nI_le (by omega) (by omega)) hp
  | succ d ih =>
    intro i fu hi hf hp
    obtain ⟨fu, rfl⟩ : ∃ f, fu = f + 1 := ⟨fu - 1, by omega⟩
    obtain ⟨k, hk, ek⟩ := ha i (by omega)
    have vi : vp_in (nI i) 96 := vp_in_nI (by omega) (by omega)
    have va : vp_in (y_accV i) 16 := by rw [ek]; exact vp_in_nI hk (by omega)
    refine br_f (nI_ge (by omega) (by omega)) ?_
    rw [nI_clamp (show i < 2 ^ 31 by omega)]
    refine ⟨vi, va, ?_⟩
    rw [oa_nx] at hp
    by_cases c : y_reg (y_accV i).toNatClampNeg = nI r
    · rw [if_pos c, if_pos (show i < n by omega)] at hp
      refine br_t c ⟨vi, va, nm_e ?_⟩
      generalize y_addr (y_accV i).toNatClampNeg - p = D at hp ⊢
      by_cases c1 : D < -1
      · rw [if_neg (fun z => Int32.not_lt.mpr z.1 c1)] at hp
        exact br_t c1 hp
      · refine br_f c1 ?_
        by_cases c2 : 1 < D
        · rw [if_neg (fun z => Int32.not_lt.mpr z.2 c2)] at hp
          exact br_t c2 hp
        · rw [if_pos ⟨Int32.not_lt.mp c1, Int32.not_lt.mp c2⟩] at hp
          exact br_f c2 hp
    · rw [if_neg c] at hp
      exact br_f c (nm_r (nI_1 i) (ih (i + 1) fu (by omega) (by omega) hp))
theorem ya_ac {V nR n w L j : Nat} {o x : Int32} {k : oa_K} (e : oa_env V nR n y_reg y_accV y_addr) (hj : j < n) (hx : x = nI j) (hw : w < 2) (hL : k.2.2.2.1 w = nI L) (hL2 : L + 2 ≤ 192) (kr : oa_KR nR w k)
    (post : SY → Prop) (hp : post (y_nV, y_nR, y_count, y_phase, nI n, y_reg, y_init, y_sop, y_sdest, y_sa, y_sb, y_accV, y_addr, y_wt, y_edge, y_deg, y_comp, y_placed, ((oa_ac y_reg y_accV y_addr n w o j k).1), ((oa_ac y_reg y_accV y_addr n w o j k).2.1), ((oa_ac y_reg y_accV y_addr n w o j k).2.2.1), ((oa_ac y_reg y_accV y_addr n w o j k).2.2.2.1), ((oa_ac y_reg y_accV y_addr n w o j k).2.2.2.2.1), ((oa_ac y_reg y_accV y_addr n w o j k).2.2.2.2.2.2.1), ((oa_ac y_reg y_accV y_addr n w o j k).2.2.2.2.2.2.2), y_mem, y_outs, y_outN, y_ar)) : wpY_access post (y_nV, y_nR, y_count, y_phase, nI n, y_reg, y_init, y_sop, y_sdest, y_sa, y_sb, y_accV, y_addr, y_wt, y_edge, y_deg, y_comp, y_placed, k.1, k.2.1, k.2.2.1, k.2.2.2.1, k.2.2.2.2.1, k.2.2.2.2.2.2.1, k.2.2.2.2.2.2.2, y_mem, y_outs, y_outN, y_ar) (nI w) x o := by
  subst hx
  obtain ⟨v, r, a, hv, hr, haV, e1, e2, e3, e4, e5, e6⟩ := oa_env_j (w := w) e hj
  have hV := e.1
  have hR := e.2.1
  have hn := e.2.2.1
  have ha : ∀ i, i < n → ∃ k, k < 16 ∧ y_accV i = nI k := by
    intro i hi
    obtain ⟨k, hk, ek⟩ := e.2.2.2.2.1 i hi
    exact ⟨k, by omega, ek⟩
  have cj : (nI j).toNatClampNeg = j := nI_clamp (by omega)
  have cv : (nI v).toNatClampNeg = v := nI_clamp (by omega)
  have cr : (nI r).toNatClampNeg = r := nI_clamp (by omega)
  have ir : vp_in (nI r) 4 := vp_in_nI (by omega) (by omega)
  have iv : vp_in (nI v) 16 := vp_in_nI (by omega) (by omega)
  have er : y_reg v = nI r := by rw [← e2]; exact e3
  unfold oa_ac oa_ld at hp
  rw [e4, e3] at hp
  refine ⟨vp_in_nI (by omega) (by omega), nm_r (show _ = nI v by rw [cj, e1]) ⟨iv, nm_r (show _ = nI r by rw [cv, er]) ?_⟩⟩
  have w01 : w = 0 ∨ w = 1 := by omega
  rcases w01 with rfl | rfl
  · rw [if_pos (Or.inl rfl), show oa_pa y_accV y_addr 0 j = nI v from e1, show oa_ms y_reg y_accV y_addr n 0 j = 0 from rfl] at hp
    refine br_t rfl (ya_em (w := 0) (by omega) hL (by omega) _ (ya_em (w := 0) (L := L + 1) (by omega) ?_ (by omega) _ hp))
    show upd k.2.2.2.1 0 (k.2.2.2.1 0 + 1) 0 = _
    rw [pk_us, hL, nI_1]
  · have ep : oa_pa y_accV y_addr 1 j = y_addr v := by unfold oa_pa; rw [if_neg (by omega), e2]
    have em : oa_ms y_reg y_accV y_addr n 1 j = oa_sp y_reg y_accV y_addr n j := if_neg (by omega)
    rw [ep, em] at hp
    rw [ep] at e6
    have kr' := (kr.resolve_left (by omega)) r hr
    have hsp : oa_sp y_reg y_accV y_addr n j = (if oa_nx y_reg y_accV (nI r) (n - (j + 1)) (j + 1) < n then (if -1 ≤ y_addr (y_accV (oa_nx y_reg y_accV (nI r) (n - (j + 1)) (j + 1))).toNatClampNeg - y_addr v ∧ y_addr (y_accV (oa_nx y_reg y_accV (nI r) (n - (j + 1)) (j + 1))).toNatClampNeg - y_addr v ≤ 1 then y_addr (y_accV (oa_nx y_reg y_accV (nI r) (n - (j + 1)) (j + 1))).toNatClampNeg - y_addr v else 0) else 0) := by
      unfold oa_sp oa_fo
      rw [e3, e2]
    refine br_f (by decide) ⟨iv, nm_r (show _ = y_addr v by rw [cv]) ⟨ir, ?_⟩⟩
    rw [cr]
    by_cases c : (1 : Nat) = 0 ∨ k.2.2.2.2.2.1 r ≠ y_addr v
    · have c' : k.2.2.2.2.2.1 r ≠ y_addr v := c.resolve_left (by omega)
      rw [if_pos c] at hp
      have h72 : wY_access_72 post (nI j) o (nI r) (y_addr v) y_nV y_nR y_count y_phase (nI n) y_reg y_init y_sop y_sdest y_sa y_sb y_accV y_addr y_wt y_edge y_deg y_comp y_placed k.1 k.2.1 k.2.2.1 k.2.2.2.1 k.2.2.2.2.1 k.2.2.2.2.2.2.1 k.2.2.2.2.2.2.2 y_mem y_outs y_outN y_ar := by
        unfold wY_access_72
        refine ya_em (w := 1) (by omega) hL (by omega) _ ⟨ir, nm_r (show _ = upd k.2.2.2.2.2.2.2 r 1 by rw [cr]; rfl) ⟨ir, nm_r (show _ = upd k.2.2.2.2.2.2.1 r (y_addr v) by rw [cr]; rfl) (nm_r (nI_1 j) ⟨n + 1, ya_107 hn ha post (n - (j + 1)) (j + 1) (n + 1) (by omega) (by omega) ?_⟩)⟩⟩
        rw [← hsp]
        refine ya_175 (L := L + 1) (k := ((oa_em 1 0 (nI r) (y_addr v) k).1, (oa_em 1 0 (nI r) (y_addr v) k).2.1, (oa_em 1 0 (nI r) (y_addr v) k).2.2.1, (oa_em 1 0 (nI r) (y_addr v) k).2.2.2.1, (oa_em 1 0 (nI r) (y_addr v) k).2.2.2.2.1, k.2.2.2.2.2.1, upd k.2.2.2.2.2.2.1 r (y_addr v), upd k.2.2.2.2.2.2.2 r 1)) (show r < 4 by omega) ?_ (by omega) oa_uu post hp
        show upd k.2.2.2.1 1 (k.2.2.2.1 1 + 1) 1 = _
        rw [pk_us, hL, nI_1]
      by_cases kk : k.2.2.2.2.2.2.2 r = 0
      · exact br_t kk h72
      · refine br_f kk ⟨ir, br_f (fun z => c' ?_) h72⟩
        rw [kr'.2 kk]; exact z
    · have cp : k.2.2.2.2.2.1 r = y_addr v := by
        by_cases z : k.2.2.2.2.2.1 r = y_addr v
        · exact z
        · exact absurd (Or.inr z) c
      rw [if_neg c] at hp
      have kk : ¬ k.2.2.2.2.2.2.2 r = 0 := fun z => e6 (by rw [← cp]; exact kr'.1 z)
      refine br_f kk ⟨ir, br_t (by rw [← kr'.2 kk]; exact cp) (nm_r (nI_1 j) ⟨n + 1, ya_107 hn ha post (n - (j + 1)) (j + 1) (n + 1) (by omega) (by omega) ?_⟩)⟩
      rw [← hsp]
      exact ya_175 (show r < 4 by omega) hL (by omega) rfl post hp
theorem ya_gn_l {V nR w cnt : Nat} {k0 k : oa_K} (hw : w < 2) (hR : 0 < nR) (hc : cnt ≤ 32) (ss : oa_SS V cnt y_sop y_sdest y_sa y_sb y_accV) (e : oa_env V nR (oa_ps y_sop cnt) y_reg y_accV y_addr) (h : oa_KI nR w 0 0 k0 k) (post : SY → Prop)
    (hp : post (y_nV, y_nR, nI cnt, y_phase, (nI (oa_ps y_sop cnt)), y_reg, y_init, y_sop, y_sdest, y_sa, y_sb, y_accV, y_addr, y_wt, y_edge, y_deg, y_comp, y_placed, ((oa_tb y_reg y_accV y_addr y_sop y_sa (oa_ps y_sop cnt) w cnt k).1), ((oa_tb y_reg y_accV y_addr y_sop y_sa (oa_ps y_sop cnt) w cnt k).2.1), ((oa_tb y_reg y_accV y_addr y_sop y_sa (oa_ps y_sop cnt) w cnt k).2.2.1), ((oa_tb y_reg y_accV y_addr y_sop y_sa (oa_ps y_sop cnt) w cnt k).2.2.2.1), ((oa_tb y_reg y_accV y_addr y_sop y_sa (oa_ps y_sop cnt) w cnt k).2.2.2.2.1), ((oa_tb y_reg y_accV y_addr y_sop y_sa (oa_ps y_sop cnt) w cnt k).2.2.2.2.2.2.1), ((oa_tb y_reg y_accV y_addr y_sop y_sa (oa_ps y_sop cnt) w cnt k).2.2.2.2.2.2.2), y_mem, y_outs, y_outN, y_ar)) :
    ∀ d i fu, i + d = cnt → d < fu → wY_gen_38 post (nI w) fu (nI (oa_ps y_sop i)) (nI i) y_nV y_nR (nI cnt) y_phase (nI (oa_ps y_sop cnt)) y_reg y_init y_sop y_sdest y_sa y_sb y_accV y_addr y_wt y_edge y_deg y_comp y_placed ((oa_tb y_reg y_accV y_addr y_sop y_sa (oa_ps y_sop cnt) w i k).1) ((oa_tb y_reg y_accV y_addr y_sop y_sa (oa_ps y_sop cnt) w i k).2.1) ((oa_tb y_reg y_accV y_addr y_sop y_sa (oa_ps y_sop cnt) w i k).2.2.1) ((oa_tb y_reg y_accV y_addr y_sop y_sa (oa_ps y_sop cnt) w i k).2.2.2.1) ((oa_tb y_reg y_accV y_addr y_sop y_sa (oa_ps y_sop cnt) w i k).2.2.2.2.1) ((oa_tb y_reg y_accV y_addr y_sop y_sa (oa_ps y_sop cnt) w i k).2.2.2.2.2.2.1) ((oa_tb y_reg y_accV y_addr y_sop y_sa (oa_ps y_sop cnt) w i k).2.2.2.2.2.2.2) y_mem y_outs y_outN y_ar := by
  intro d
  induction d with
  | zero =>
    intro i fu hi hf
    obtain ⟨fu, rfl⟩ : ∃ f, fu = f + 1 := ⟨fu - 1, by omega⟩
    have ei : i = cnt := by omega
    subst ei
    exact br_t (nI_le (by omega) (by omega)) hp
  | succ d ih =>
    intro i fu hi hf
    obtain ⟨fu, rfl⟩ : ∃ f, fu = f + 1 := ⟨fu - 1, by omega⟩
    obtain ⟨L, hL, hk⟩ := oa_tb_I hR hc ss e h i (by omega)
    have hn : oa_ps y_sop i + oa_na (y_sop i) ≤ oa_ps y_sop cnt := oa_ps_mono y_sop cnt (i + 1) (by omega)
    have nx := ih (i + 1) fu (by omega) (by omega)
    have st := ss i (by omega)
    have vi : vp_in (nI i) 32 := vp_in_nI (by omega) (by omega)
    have ci : (nI i).toNatClampNeg = i := nI_clamp (by omega)
    rw [show oa_ps y_sop (i + 1) = oa_ps y_sop i + oa_na (y_sop i) from rfl, oa_tb, oa_tt] at nx
    revert nx hk
    generalize oa_tb y_reg y_accV y_addr y_sop y_sa (oa_ps y_sop cnt) w i k = K
    revert st hn
    generalize oa_ps y_sop i = p
    intro hn st hk nx
    refine br_f (nI_ge (by omega) (by omega)) ⟨vi, ?_⟩
    rw [ci]
    rcases st with ⟨z, hz, eo, -⟩ | ⟨eo, -⟩ | ⟨eo, -⟩ | ⟨eo, -⟩
    · rw [eo, oa_na5 hz] at hn
      rw [eo, oa_na5 hz, if_pos (show nI z ≤ 5 from nI_le (b := 5) hz (by decide))] at nx
      obtain ⟨L1, l1, h1⟩ := oa_ac_I (o := 1) e (show p < _ by omega) hk (by omega) (by omega)
      obtain ⟨L2, l2, h2⟩ := oa_ac_I (o := 2 + z) e (show p + 1 < _ by omega) h1 (by omega) (by omega)
      rw [← nI_add 2 z] at h2
      exact nm_r eo (br_f (nI_nlt (a := 5) (by omega) (by decide)) (ya_ac e (show p < _ by omega) rfl hw hk.1.1.1 (by omega) hk.2 _
        (ya_ac e (show p + 1 < _ by omega) (nI_1 p) hw h1.1.1.1 (by omega) h1.2 _
          (ya_ac e (show p + 2 < _ by omega) (nI_add p 2) hw h2.1.1.1 (by omega) h2.2 _ (nm_r (nI_add p 3) (nm_r (nI_1 i) nx))))))
    · rw [eo, oa_na6] at hn
      rw [eo, oa_na6, if_neg (by decide), if_pos rfl] at nx
      obtain ⟨L1, l1, h1⟩ := oa_ac_I (o := 1) e (show p < _ by omega) hk (by omega) (by omega)
      exact nm_r eo (br_t (by decide) (br_t rfl (ya_ac e (show p < _ by omega) rfl hw hk.1.1.1 (by omega) hk.2 _
        (ya_ac e (show p + 1 < _ by omega) (nI_1 p) hw h1.1.1.1 (by omega) h1.2 _ (nm_r (nI_add p 2) (nm_r (nI_1 i) nx))))))
    · rw [eo, oa_na7] at hn
      rw [eo, oa_na7, if_neg (by decide), if_neg (by decide), if_pos rfl] at nx
      have h1 := oa_em_I (x := y_sa i) (o := 9) (r := 0) hk (by omega) (by omega) hR
      exact nm_r eo (br_t (by decide) (br_f (by decide) (br_t rfl ⟨vi, ya_em hw hk.1.1.1 (by omega) _
        (ya_ac e (show p < _ by omega) rfl hw h1.1.1.1 (by omega) h1.2 _ (nm_r (nI_1 p) (nm_r (nI_1 i) nx)))⟩)))
    · rw [eo, oa_na8] at hn
      rw [eo, oa_na8, if_neg (by decide), if_neg (by decide), if_neg (by decide)] at nx
      obtain ⟨L1, l1, h1⟩ := oa_ac_I (o := 1) e (show p < _ by omega) hk (by omega) (by omega)
      exact nm_r eo (br_t (by decide) (br_f (by decide) (br_f (by decide) (ya_ac e (show p < _ by omega) rfl hw hk.1.1.1 (by omega) hk.2 _
        (ya_em hw h1.1.1.1 (by omega) _ (nm_r (nI_1 p) (nm_r (nI_1 i) nx)))))))
theorem ya_gk_l {w : Nat} (post : SY → Prop) (hp : ∃ f, wY_gen_38 post (nI w) f 0 0 y_nV y_nR y_count y_phase y_accN y_reg y_init y_sop y_sdest y_sa y_sb y_accV y_addr y_wt y_edge y_deg y_comp y_placed y_cOp y_cReg y_cOpd y_len y_loads y_kval (oa_fill y_kKnown (fun _ => 0) 4) y_mem y_outs y_outN y_ar) :
    ∀ d i fu, i + d = 4 → d < fu → wY_gen_16 post (nI w) y_nV y_nR y_count y_phase y_accN fu (nI i) y_reg y_init y_sop y_sdest y_sa y_sb y_accV y_addr y_wt y_edge y_deg y_comp y_placed y_cOp y_cReg y_cOpd y_len y_loads y_kval (oa_fill y_kKnown (fun _ => 0) i) y_mem y_outs y_outN y_ar := by
  intro d
  induction d with
  | zero =>
    intro i fu hi hf
    obtain ⟨fu, rfl⟩ : ∃ f, fu = f + 1 := ⟨fu - 1, by omega⟩
    have e : i = 4 := by omega
    subst e
    exact br_t (by decide) hp
  | succ d ih =>
    intro i fu hi hf
    obtain ⟨fu, rfl⟩ : ∃ f, fu = f + 1 := ⟨fu - 1, by omega⟩
    have vi : vp_in (nI i) 4 := vp_in_nI (by omega) (by omega)
    refine br_f (nI_ge (b := 4) (by omega) (by decide)) ⟨vi, nm_r ?_ (nm_r (nI_1 i) (ih (i + 1) fu (by omega) (by omega)))⟩
    rw [nI_clamp (show i < 2 ^ 31 by omega)]
    exact oa_fill_s rfl
theorem ya_gn {V nR w cnt : Nat} {k K : oa_K} (hw : w < 2) (hR : 0 < nR) (hR4 : nR ≤ 4) (hc : cnt ≤ 32) (ss : oa_SS V cnt y_sop y_sdest y_sa y_sb y_accV) (e : oa_env V nR (oa_ps y_sop cnt) y_reg y_accV y_addr) (post : SY → Prop)
    (eK : oa_tb y_reg y_accV y_addr y_sop y_sa (oa_ps y_sop cnt) w cnt (oa_k0 nR w k (oa_kz k)) = K)
    (hp : post (y_nV, y_nR, nI cnt, y_phase, (nI (oa_ps y_sop cnt)), y_reg, y_init, y_sop, y_sdest, y_sa, y_sb, y_accV, y_addr, y_wt, y_edge, y_deg, y_comp, y_placed, K.1, K.2.1, K.2.2.1, K.2.2.2.1, K.2.2.2.2.1, K.2.2.2.2.2.2.1, K.2.2.2.2.2.2.2, y_mem, y_outs, y_outN, y_ar)) : wpY_gen post (y_nV, y_nR, nI cnt, y_phase, (nI (oa_ps y_sop cnt)), y_reg, y_init, y_sop, y_sdest, y_sa, y_sb, y_accV, y_addr, y_wt, y_edge, y_deg, y_comp, y_placed, k.1, k.2.1, k.2.2.1, k.2.2.2.1, k.2.2.2.2.1, k.2.2.2.2.2.2.1, k.2.2.2.2.2.2.2, y_mem, y_outs, y_outN, y_ar) (nI w) := by
  subst eK
  have iw : vp_in (nI w) 2 := vp_in_nI hw (by omega)
  have cw : (nI w).toNatClampNeg = w := nI_clamp (by omega)
  have h := ya_gk_l (w := w) (y_kKnown := k.2.2.2.2.2.2.2) (y_kval := k.2.2.2.2.2.2.1) (y_cOp := k.1) (y_cReg := k.2.1) (y_cOpd := k.2.2.1) (y_len := upd k.2.2.2.1 w 0) (y_loads := upd k.2.2.2.2.1 w 0) (y_count := nI cnt) (y_accN := nI (oa_ps y_sop cnt)) post
    ⟨cnt + 1, ya_gn_l hw hR hc ss e (oa_k0_I (k := k) (oa_kz_0 hR4 k)) post hp cnt 0 (cnt + 1) (by omega) (by omega)⟩ 4 0 5 (by omega) (by omega)
  rw [oa_fill_0] at h
  exact ⟨iw, nm_r (by rw [cw]) ⟨iw, nm_r (by rw [cw]) ⟨5, h⟩⟩⟩
end
