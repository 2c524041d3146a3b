/-! Y: accesses and weights -/
theorem oa_b0 : vp_nar .boolean 0 = 0 := rfl
theorem oa_b1' : vp_nar .boolean 1 = 1 := rfl
section
variable {y_nV y_nR y_count y_phase y_accN : Int32} {y_reg y_init y_sop y_sdest y_sa y_sb y_accV y_addr y_wt y_edge y_deg y_comp y_placed y_cOp y_cReg y_cOpd y_len y_loads y_kval y_kKnown y_mem y_outs y_outN y_ar : Nat → Int32}
theorem ya_ba_l {V cnt : Nat} {acc : Nat → Int32} (hc : cnt ≤ 32) (ss : oa_SS V cnt y_sop y_sdest y_sa y_sb acc) (post : SY → Prop)
    (hp : ∀ A, (∀ j, j < oa_ps y_sop cnt → A j = acc j) → post (y_nV, y_nR, nI cnt, y_phase, (nI (oa_ps y_sop cnt)), y_reg, y_init, y_sop, y_sdest, y_sa, y_sb, A, y_addr, y_wt, y_edge, y_deg, y_comp, y_placed, y_cOp, y_cReg, y_cOpd, y_len, y_loads, y_kval, y_kKnown, y_mem, y_outs, y_outN, y_ar)) :
    ∀ d i fu A, i + d = cnt → d < fu → (∀ j, j < oa_ps y_sop i → A j = acc j) → wY_buildAcc_7 post y_nV y_nR (nI cnt) y_phase fu (nI i) (nI (oa_ps y_sop i)) y_reg y_init y_sop y_sdest y_sa y_sb A y_addr y_wt y_edge y_deg y_comp y_placed y_cOp y_cReg y_cOpd y_len y_loads y_kval y_kKnown y_mem y_outs y_outN y_ar := by
  intro d
  induction d with
  | zero =>
    intro i fu A hi hf hA
    obtain ⟨fu, rfl⟩ : ∃ f, fu = f + 1 := ⟨fu - 1, by omega⟩
    have e : i = cnt := by omega
    subst e
    exact br_t (nI_le (by omega) (by omega)) (hp A hA)
  | succ d ih =>
    intro i fu A hi hf hA
    obtain ⟨fu, rfl⟩ : ∃ f, fu = f + 1 := ⟨fu - 1, by omega⟩
    have ih := ih (i + 1) fu
    have ep : oa_ps y_sop (i + 1) = oa_ps y_sop i + oa_na (y_sop i) := rfl
    have hl := oa_ps_le y_sop i
    have vi : vp_in (nI i) 32 := vp_in_nI (by omega) (by omega)
    have ci : (nI i).toNatClampNeg = i := nI_clamp (by omega)
    have st := ss i (by omega)
    rw [ep] at ih
    revert hA ih st
    generalize oa_ps y_sop i = p at hl ⊢
    intro hA ih st
    have ip : vp_in (nI p) 96 := vp_in_nI (by omega) (by omega)
    have cp : (nI p).toNatClampNeg = p := nI_clamp (by omega)
    have ip1 : vp_in (nI (p + 1)) 96 := vp_in_nI (by omega) (by omega)
    have cp1 : (nI (p + 1)).toNatClampNeg = p + 1 := nI_clamp (by omega)
    have ip2 : vp_in (nI (p + 2)) 96 := vp_in_nI (by omega) (by omega)
    have cp2 : (nI (p + 2)).toNatClampNeg = p + 2 := nI_clamp (by omega)
    refine br_f (nI_ge (by omega) (by omega)) ⟨vi, ?_⟩
    rw [ci, cp]
    rcases st with ⟨z, hz, eo, -, -, -, h4, h5, h6⟩ | ⟨eo, -, -, h4, h5⟩ | ⟨eo, -, h4⟩ | ⟨eo, -, h4⟩
    · rw [eo, oa_na5 hz] at ih
      refine nm_r eo (br_f (nI_nlt (a := 5) (by omega) (by decide)) (nm_r (nI_1 p) ⟨vi, ip, nm_e (nm_r (nI_1 (p + 1)) ⟨vi, ip1, nm_r (by rw [cp1]) (nm_r (nI_1 (p + 2)) ⟨vi, ip2, nm_r (by rw [cp2]) (nm_r (nI_1 i) (ih _ (by omega) (by omega) ?_))⟩)⟩)⟩))
      intro j hj
      by_cases e2 : j = p + 2
      · rw [e2, pk_us, h6]
      · rw [pk_un e2]
        by_cases e1 : j = p + 1
        · rw [e1, pk_us, h5]
        · rw [pk_un e1]
          by_cases e0 : j = p
          · rw [e0, pk_us, h4]
          · rw [pk_un e0]; exact hA j (by omega)
    · rw [eo, oa_na6] at ih
      refine nm_r eo (br_t (by decide) (br_t rfl (nm_r (nI_1 p) ⟨vi, ip, nm_e (nm_r (nI_1 (p + 1)) ⟨vi, ip1, nm_r (by rw [cp1]) (nm_r (nI_1 i) (ih _ (by omega) (by omega) ?_))⟩)⟩)))
      intro j hj
      by_cases e1 : j = p + 1
      · rw [e1, pk_us, h5]
      · rw [pk_un e1]
        by_cases e0 : j = p
        · rw [e0, pk_us, h4]
        · rw [pk_un e0]; exact hA j (by omega)
    · rw [eo, oa_na7] at ih
      refine nm_r eo (br_t (by decide) (br_f (by decide) (br_t rfl (nm_r (nI_1 p) ⟨vi, ip, nm_e (nm_r (nI_1 i) (ih _ (by omega) (by omega) ?_))⟩))))
      intro j hj
      by_cases e0 : j = p
      · rw [e0, pk_us, h4]
      · rw [pk_un e0]; exact hA j (by omega)
    · rw [eo, oa_na8] at ih
      refine nm_r eo (br_t (by decide) (br_f (by decide) (br_f (by decide) (nm_r (nI_1 p) ⟨vi, ip, nm_e (nm_r (nI_1 i) (ih _ (by omega) (by omega) ?_))⟩))))
      intro j hj
      by_cases e0 : j = p
      · rw [e0, pk_us, h4]
      · rw [pk_un e0]; exact hA j (by omega)
theorem ya_ba {V cnt : Nat} {acc : Nat → Int32} (hc : cnt ≤ 32) (ss : oa_SS V cnt y_sop y_sdest y_sa y_sb acc) (post : SY → Prop)
    (hp : ∀ A, (∀ j, j < oa_ps y_sop cnt → A j = acc j) → post (y_nV, y_nR, nI cnt, y_phase, (nI (oa_ps y_sop cnt)), y_reg, y_init, y_sop, y_sdest, y_sa, y_sb, A, y_addr, y_wt, y_edge, y_deg, y_comp, y_placed, y_cOp, y_cReg, y_cOpd, y_len, y_loads, y_kval, y_kKnown, y_mem, y_outs, y_outN, y_ar)) : wpY_buildAcc post (y_nV, y_nR, nI cnt, y_phase, y_accN, y_reg, y_init, y_sop, y_sdest, y_sa, y_sb, y_accV, y_addr, y_wt, y_edge, y_deg, y_comp, y_placed, y_cOp, y_cReg, y_cOpd, y_len, y_loads, y_kval, y_kKnown, y_mem, y_outs, y_outN, y_ar) :=
  ⟨cnt + 1, ya_ba_l hc ss post hp cnt 0 (cnt + 1) y_accV (by omega) (by omega) (fun j hj => absurd hj (Nat.not_lt_zero j))⟩
theorem ya_60 {u v r p c x6 x : Int32} (post : Int32 → Prop) (J : Int32 → Int32 → Int32 → Prop) (h1 : (p = v ∧ x = u) → J x (c + 1) (x6 + 1)) (h0 : ¬ (p = v ∧ x = u) → J x c (x6 + 1)) : wY_weight_60 post J u v r p c x6 x y_nV y_nR y_count y_phase y_accN y_reg y_init y_sop y_sdest y_sa y_sb y_accV y_addr y_wt y_edge y_deg y_comp y_placed y_cOp y_cReg y_cOpd y_len y_loads y_kval y_kKnown y_mem y_outs y_outN y_ar :=
  br_c (fun a => br_c (fun b => nm_e (nm_e (h1 ⟨a, b⟩))) (fun b => nm_e (h0 (fun z => b z.2)))) (fun a => nm_e (h0 (fun z => a z.1)))
theorem ya_wt_l {n : Nat} {u v r : Int32} (hn : n ≤ 96) (ha : ∀ i, i < n → ∃ k, k < 16 ∧ y_accV i = nI k) (post : Int32 → Prop) (hp : post (oa_ct y_reg y_accV r u v n)) :
    ∀ d i fu, i + d = n → d < fu → wY_weight_16 post u v r y_nV y_nR y_count y_phase (nI n) y_reg y_init y_sop y_sdest y_sa y_sb y_accV y_addr y_wt y_edge y_deg y_comp y_placed y_cOp y_cReg y_cOpd y_len y_loads y_kval y_kKnown y_mem y_outs y_outN y_ar fu (oa_pv y_reg y_accV r i) (oa_ct y_reg y_accV r u v i) (nI i) := by
  intro d
  induction d with
  | zero =>
    intro i fu hi hf
    obtain ⟨fu, rfl⟩ : ∃ f, fu = f + 1 := ⟨fu - 1, by omega⟩
    have e : i = n := by omega
    subst e
    exact br_t (nI_le (by omega) (by omega)) hp
  | succ d ih =>
    intro i fu hi hf
    obtain ⟨fu, rfl⟩ : ∃ f, fu = f + 1 := ⟨fu - 1, by omega⟩
    have nx := ih (i + 1) fu (by omega) (by omega)
    obtain ⟨k, hk, ek⟩ := ha i (by omega)
    refine br_f (nI_ge (by omega) (by omega)) ⟨vp_in_nI (by omega) (by omega), ?_⟩
    rw [nI_clamp (show i < 2 ^ 31 by omega)]
    refine nm_e ⟨by rw [ek]; exact vp_in_nI hk (by omega), ?_⟩
    rw [oa_pv, oa_ct] at nx
    by_cases c : y_reg (y_accV i).toNatClampNeg = r
    · rw [if_pos c, if_pos c] at nx
      refine br_t c ?_
      by_cases a1 : oa_pv y_reg y_accV r i = u
      · refine br_t a1 ?_
        by_cases a2 : y_accV i = v
        · rw [if_pos (Or.inl ⟨a1, a2⟩)] at nx
          exact br_t a2 (nm_e (nm_r (nI_1 i) nx))
        · refine br_f a2 (ya_60 post _ (fun z => ?_) (fun z => ?_))
          · rw [if_pos (Or.inr z)] at nx; rw [nI_1]; exact nx
          · rw [if_neg (fun y => y.elim (fun y => a2 y.2) z)] at nx; rw [nI_1]; exact nx
      · refine br_f a1 (ya_60 post _ (fun z => ?_) (fun z => ?_))
        · rw [if_pos (Or.inr z)] at nx; rw [nI_1]; exact nx
        · rw [if_neg (fun y => y.elim (fun y => a1 y.1) z)] at nx; rw [nI_1]; exact nx
    · rw [if_neg c, if_neg c] at nx
      exact br_f c (nm_r (nI_1 i) nx)
theorem ya_wt {n u : Nat} {v : Int32} (hn : n ≤ 96) (hu : u < 16) (ha : ∀ i, i < n → ∃ k, k < 16 ∧ y_accV i = nI k) (post : Int32 → Prop) (hp : post (oa_ct y_reg y_accV (y_reg u) (nI u) v n)) : wpY_weight post (y_nV, y_nR, y_count, y_phase, nI n, y_reg, y_init, y_sop, y_sdest, y_sa, y_sb, y_accV, y_addr, y_wt, y_edge, y_deg, y_comp, y_placed, y_cOp, y_cReg, y_cOpd, y_len, y_loads, y_kval, y_kKnown, y_mem, y_outs, y_outN, y_ar) (nI u) v := by
  refine ⟨vp_in_nI hu (by omega), nm_r (show _ = y_reg u by rw [nI_clamp (by omega)]) ⟨n + 1, ?_⟩⟩
  exact ya_wt_l hn ha post hp n 0 (n + 1) (by omega) (by omega)
theorem ya_c6 {V n : Nat} (hV : V ≤ 16) (hn : n ≤ 96) (ha : ∀ i, i < n → ∃ k, k < 16 ∧ y_accV i = nI k) (post : Int32 → SY → Prop)
    (hp : ∃ f, wY_compile_85 post (nI V) y_nR y_count y_phase (nI n) f 0 y_reg y_init y_sop y_sdest y_sa y_sb y_accV y_addr (oa_fill y_wt (oa_wY y_reg y_accV V n) 256) (oa_fill y_edge (fun _ => 0) 256) y_deg y_comp y_placed y_cOp y_cReg y_cOpd y_len y_loads y_kval y_kKnown y_mem y_outs y_outN y_ar) :
    ∀ d i fu, i + d = 256 → d < fu → wY_compile_6 post (nI V) y_nR y_count y_phase (nI n) fu (nI i) y_reg y_init y_sop y_sdest y_sa y_sb y_accV y_addr (oa_fill y_wt (oa_wY y_reg y_accV V n) i) (oa_fill y_edge (fun _ => 0) i) y_deg y_comp y_placed y_cOp y_cReg y_cOpd y_len y_loads y_kval y_kKnown y_mem y_outs y_outN y_ar := by
  intro d
  induction d with
  | zero =>
    intro i fu hi hf
    obtain ⟨fu, rfl⟩ : ∃ f, fu = f + 1 := ⟨fu - 1, by omega⟩
    have e : i = 256 := by omega
    subst e
    exact br_t (by decide) hp
  | succ d ih =>
    intro i fu hi hf
    obtain ⟨fu, rfl⟩ : ∃ f, fu = f + 1 := ⟨fu - 1, by omega⟩
    have nx := ih (i + 1) fu (by omega) (by omega)
    have ci : (nI i).toNatClampNeg = i := nI_clamp (by omega)
    have vi : vp_in (nI i) 256 := vp_in_nI (by omega) (by omega)
    have d1 : nI i / 16 = nI (i / 16) := pk_div (d := 16) (by omega) (by omega) (by omega)
    have d2 : nI i - nI i / 16 * 16 = nI (i % 16) := pk_rem (d := 16) (by omega) (by omega) (by omega)
    have e1 : upd (oa_fill y_edge (fun _ => 0) i) (nI i).toNatClampNeg (vp_nar .boolean 0) = oa_fill y_edge (fun _ => 0) (i + 1) := by rw [ci]; exact oa_fill_s rfl
    have cu : (nI (i / 16)).toNatClampNeg = i / 16 := nI_clamp (by omega)
    have cv : (nI (i % 16)).toNatClampNeg = i % 16 := nI_clamp (by omega)
    have w0 : oa_wY y_reg y_accV V n i = 0 → upd (oa_fill y_wt (oa_wY y_reg y_accV V n) i) i 0 = oa_fill y_wt (oa_wY y_reg y_accV V n) (i + 1) := fun h => oa_fill_s h.symm
    refine br_f (nI_ge (b := 256) (by omega) (by decide)) ⟨by decide, nm_r d1 ⟨by decide, nm_r d2 ⟨vi, nm_r (show _ = upd (oa_fill y_wt (oa_wY y_reg y_accV V n) i) i 0 by rw [ci]) ⟨vi, nm_r e1 ?_⟩⟩⟩⟩
    refine pk_le (i % 16) (i / 16) (fun h => nm_r (nI_1 i) ?_) (fun h => pk_le V (i % 16) (fun h2 => nm_r (nI_1 i) ?_) (fun h2 => ⟨vp_in_nI (by omega) (by omega), vp_in_nI (by omega) (by omega), ?_⟩))
    · rw [w0 (if_neg (fun z => by omega))]; exact nx
    · rw [w0 (if_neg (fun z => by omega))]; exact nx
    · rw [cu, cv]
      by_cases c : y_reg (i / 16) = y_reg (i % 16)
      · refine br_t c (ya_wt hn (by omega) ha _ ⟨vi, nm_r ?_ (nm_r (nI_1 i) nx)⟩)
        rw [ci, oa_uu]
        exact oa_fill_s (if_pos ⟨h, h2, c⟩).symm
      · refine br_f c (nm_r (nI_1 i) ?_)
        rw [w0 (if_neg (fun z => c z.2.2))]; exact nx
theorem ya_c85 (post : Int32 → SY → Prop) (hp : ∃ f, wY_compile_120 post f 0 y_nV y_nR y_count y_phase y_accN y_reg y_init y_sop y_sdest y_sa y_sb y_accV y_addr y_wt y_edge (oa_fill y_deg (fun _ => 0) 16) (oa_fill y_comp nI 16) (oa_fill y_placed (fun _ => 0) 16) y_cOp y_cReg y_cOpd y_len y_loads y_kval y_kKnown y_mem y_outs y_outN y_ar) :
    ∀ d i fu, i + d = 16 → d < fu → wY_compile_85 post y_nV y_nR y_count y_phase y_accN fu (nI i) y_reg y_init y_sop y_sdest y_sa y_sb y_accV y_addr y_wt y_edge (oa_fill y_deg (fun _ => 0) i) (oa_fill y_comp nI i) (oa_fill y_placed (fun _ => 0) i) y_cOp y_cReg y_cOpd y_len y_loads y_kval y_kKnown y_mem y_outs y_outN y_ar := by
  intro d
  induction d with
  | zero =>
    intro i fu hi hf
    obtain ⟨fu, rfl⟩ : ∃ f, fu = f + 1 := ⟨fu - 1, by omega⟩
    have e : i = 16 := by omega
    subst e
    exact br_t (by decide) hp
  | succ d ih =>
    intro i fu hi hf
    obtain ⟨fu, rfl⟩ : ∃ f, fu = f + 1 := ⟨fu - 1, by omega⟩
    have vi : vp_in (nI i) 16 := vp_in_nI (by omega) (by omega)
    refine br_f (nI_ge (b := 16) (by omega) (by decide)) ⟨vi, nm_r ?_ ⟨vi, nm_r ?_ ⟨vi, nm_r ?_ (nm_r (nI_1 i) (ih (i + 1) fu (by omega) (by omega)))⟩⟩⟩
    all_goals rw [nI_clamp (show i < 2 ^ 31 by omega)]
    all_goals exact oa_fill_s rfl
end
