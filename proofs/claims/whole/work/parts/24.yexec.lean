/-! Y: the machine -/
abbrev oa_JY2 : Type := Int32 → Int32 → (Nat → Int32) → (Nat → Int32) → (Nat → Int32) → (Nat → Int32) → (Nat → Int32) → (Nat → Int32) → (Nat → Int32) → (Nat → Int32) → (Nat → Int32) → (Nat → Int32) → (Nat → Int32) → (Nat → Int32) → (Nat → Int32) → (Nat → Int32) → (Nat → Int32) → (Nat → Int32) → (Nat → Int32) → (Nat → Int32) → (Nat → Int32) → (Nat → Int32) → (Nat → Int32) → (Nat → Int32) → (Nat → Int32) → (Nat → Int32) → Prop
section
variable {y_nV y_nR y_count y_phase y_accN : Int32} {y_reg y_init y_sop y_sdest y_sa y_sb y_accV y_addr y_wt y_edge y_deg y_comp y_placed y_cOp y_cReg y_cOpd y_len y_loads y_kval y_kKnown y_mem y_outs y_outN y_ar : Nat → Int32}
theorem ya_ap {o : Nat} {l r : Int32} (h2 : 2 ≤ o) (h7 : o ≤ 7) (post : Int32 → Prop) (hp : post (oa_cb (nI o) l r)) : wpY_apply post (y_nV, y_nR, y_count, y_phase, y_accN, y_reg, y_init, y_sop, y_sdest, y_sa, y_sb, y_accV, y_addr, y_wt, y_edge, y_deg, y_comp, y_placed, y_cOp, y_cReg, y_cOpd, y_len, y_loads, y_kval, y_kKnown, y_mem, y_outs, y_outN, y_ar) (nI o - 2) l r := by
  have c : o = 2 ∨ o = 3 ∨ o = 4 ∨ o = 5 ∨ o = 6 ∨ o = 7 := by omega
  unfold oa_cb at hp
  rcases c with rfl | rfl | rfl | rfl | rfl | rfl
  · rw [if_pos (by decide)] at hp
    exact br_t (by decide) hp
  · rw [if_neg (by decide), if_pos (by decide)] at hp
    exact br_f (by decide) (br_t (by decide) hp)
  · rw [if_neg (by decide), if_neg (by decide), if_pos (by decide)] at hp
    exact br_f (by decide) (br_f (by decide) (br_t (by decide) hp))
  · rw [if_neg (by decide), if_neg (by decide), if_neg (by decide), if_pos (by decide)] at hp
    exact br_f (by decide) (br_f (by decide) (br_f (by decide) (br_t (by decide) hp)))
  · rw [if_neg (by decide), if_neg (by decide), if_neg (by decide), if_neg (by decide), if_pos (by decide)] at hp
    exact br_f (by decide) (br_f (by decide) (br_f (by decide) (br_f (by decide) (br_t (by decide) hp))))
  · rw [if_neg (by decide), if_neg (by decide), if_neg (by decide), if_neg (by decide), if_neg (by decide), if_pos (by decide)] at hp
    exact br_f (by decide) (br_f (by decide) (br_f (by decide) (br_f (by decide) (br_f (by decide) hp))))
theorem ya_331 {i : Nat} {x1 x2 x3 x7 x8 x9 : Int32} (i7 : vp_in x7 4) (post : SY → Prop) (J : oa_JY2) (hp : J x3 (nI (i + 1)) y_reg y_init y_sop y_sdest y_sa y_sb y_accV y_addr y_wt y_edge y_deg y_comp y_placed y_cOp y_cReg y_cOpd y_len y_loads y_kval y_kKnown y_mem y_outs y_outN (upd y_ar x7.toNatClampNeg (x9 + x8))) : wY_exec_331 post J x1 x2 x3 (nI i) x7 x8 x9 y_nV y_nR y_count y_phase y_accN y_reg y_init y_sop y_sdest y_sa y_sb y_accV y_addr y_wt y_edge y_deg y_comp y_placed y_cOp y_cReg y_cOpd y_len y_loads y_kval y_kKnown y_mem y_outs y_outN y_ar :=
  ⟨i7, nm_e (nm_r (nI_1 i) hp)⟩
theorem ya_306 {i o : Nat} {x1 x2 x3 x7 x8 x9 z0 : Int32} (i7 : vp_in x7 4) (h1 : 1 ≤ o) (h7 : o ≤ 7) (post : SY → Prop) (J : oa_JY2) (hp : J (oa_cb (nI o) x3 z0) (nI (i + 1)) y_reg y_init y_sop y_sdest y_sa y_sb y_accV y_addr y_wt y_edge y_deg y_comp y_placed y_cOp y_cReg y_cOpd y_len y_loads y_kval y_kKnown y_mem y_outs y_outN (upd y_ar x7.toNatClampNeg (x9 + x8))) :
    wY_exec_306 post J x1 x2 x3 (nI i) (nI o) x7 x8 x9 z0 y_nV y_nR y_count y_phase y_accN y_reg y_init y_sop y_sdest y_sa y_sb y_accV y_addr y_wt y_edge y_deg y_comp y_placed y_cOp y_cReg y_cOpd y_len y_loads y_kval y_kKnown y_mem y_outs y_outN y_ar := by
  by_cases c : o = 1
  · subst c
    have e : oa_cb (nI 1) x3 z0 = z0 := by
      unfold oa_cb
      rw [if_neg (by decide), if_neg (by decide), if_neg (by decide), if_neg (by decide), if_neg (by decide), if_neg (by decide)]
    rw [e] at hp
    exact br_t rfl (ya_331 i7 post J hp)
  · refine br_f (fun z => c (oa_inj (b := 1) (by omega) (by omega) z)) (ya_ap (by omega) h7 _ ?_)
    exact ya_331 i7 post J hp
theorem ya_xs {V nR w L : Nat} {m0 m : oa_M} (hV : V ≤ 16) (hR : nR ≤ 4) (hw : w < 2) (hL : L ≤ 192) (ci : oa_CI nR w L 32 y_cOp y_cReg y_len) (mi : oa_MI V nR w 0 y_cOp m0 m) (post : SY → Prop)
    (hp : post (nI V, y_nR, y_count, y_phase, y_accN, y_reg, y_init, y_sop, y_sdest, y_sa, y_sb, y_accV, y_addr, y_wt, y_edge, y_deg, y_comp, y_placed, y_cOp, y_cReg, y_cOpd, y_len, y_loads, y_kval, y_kKnown, ((oa_xs V w y_cOp y_cReg y_cOpd L m).2.2.2.2.2.1), ((oa_xs V w y_cOp y_cReg y_cOpd L m).2.2.2.1), ((oa_xs V w y_cOp y_cReg y_cOpd L m).2.2.2.2.2.2.2), ((oa_xs V w y_cOp y_cReg y_cOpd L m).2.2.2.2.2.2.1))) :
    ∀ d i fu, i + d = L → d < fu → wY_exec_107 post (nI w) (nI (16 * w)) (nI V) y_nR y_count y_phase y_accN fu (oa_xs V w y_cOp y_cReg y_cOpd i m).2.2.1 (nI i) y_reg y_init y_sop y_sdest y_sa y_sb y_accV y_addr y_wt y_edge y_deg y_comp y_placed y_cOp y_cReg y_cOpd y_len y_loads y_kval y_kKnown ((oa_xs V w y_cOp y_cReg y_cOpd i m).2.2.2.2.2.1) ((oa_xs V w y_cOp y_cReg y_cOpd i m).2.2.2.1) ((oa_xs V w y_cOp y_cReg y_cOpd i m).2.2.2.2.2.2.2) ((oa_xs V w y_cOp y_cReg y_cOpd i m).2.2.2.2.2.2.1) := by
  have iw : vp_in (nI w) 2 := vp_in_nI hw (by omega)
  have cw : (nI w).toNatClampNeg = w := nI_clamp (by omega)
  have eL : y_len (nI w).toNatClampNeg = nI L := by rw [cw]; exact ci.1
  intro d
  induction d with
  | zero =>
    intro i fu hi hf
    obtain ⟨fu, rfl⟩ : ∃ f, fu = f + 1 := ⟨fu - 1, by omega⟩
    have e : i = L := by omega
    subst e
    exact ⟨iw, br_t (by rw [eL]; exact nI_le (by omega) (by omega)) hp⟩
  | succ d ih =>
    intro i fu hi hf
    obtain ⟨fu, rfl⟩ : ∃ f, fu = f + 1 := ⟨fu - 1, by omega⟩
    have nx := ih (i + 1) fu (by omega) (by omega)
    have mi2 := oa_xs_I (rg := y_cReg) (od := y_cOpd) mi i
    obtain ⟨⟨o, ho, eo⟩, r, hr, er⟩ := ci.2.1 i (by omega)
    have hoc : y_cOp (192 * w + i) = 10 → oa_oc y_cOp (192 * w) i < 32 := by
      intro h10
      have := oa_oc_lt h10 (show i < L by omega)
      have := ci.2.2
      omega
    have iA : vp_in (nI (192 * w + i)) 384 := vp_in_nI (by omega) (by omega)
    have cA : (nI (192 * w + i)).toNatClampNeg = 192 * w + i := nI_clamp (by omega)
    have ir : vp_in (nI r) 4 := vp_in_nI (by omega) (by omega)
    have cr : (nI r).toNatClampNeg = r := nI_clamp (by omega)
    rw [oa_xs, eo, er, oa_x1, cr] at nx
    generalize oa_xs V w y_cOp y_cReg y_cOpd i m = M at nx mi2 ⊢
    obtain ⟨m1, m2, m3, m4, m5⟩ := mi2
    refine ⟨iw, br_f (by rw [eL]; exact nI_ge (by omega) (by omega)) ?_⟩
    rw [cw]
    refine nm_r (oa_ix192 w i) ⟨iA, nm_r (show _ = nI o by rw [cA, eo]) ⟨iA, nm_r (show _ = nI r by rw [cA, er]) ⟨iA, nm_r (show _ = y_cOpd (192 * w + i) by rw [cA]) ?_⟩⟩⟩
    rw [cr]
    by_cases c0 : nI o = 0
    · rw [if_pos c0] at nx
      exact br_t c0 ⟨ir, nm_e (nm_r (nI_1 i) nx)⟩
    refine br_f c0 ?_
    rw [if_neg c0] at nx
    by_cases c9 : nI o = 9
    · rw [if_pos c9] at nx
      exact br_t c9 (nm_r (nI_1 i) nx)
    refine br_f c9 ?_
    rw [if_neg c9] at nx
    by_cases c10 : nI o = 10
    · rw [if_pos c10] at nx
      have hq := hoc (by rw [eo]; exact c10)
      refine br_t c10 ⟨iw, ?_⟩
      rw [m4, oa_ix32, nI_clamp (show 32 * w + oa_oc y_cOp (192 * w) i < 2 ^ 31 by omega)]
      rw [m3, m4, nI_clamp (show oa_oc y_cOp (192 * w) i < 2 ^ 31 by omega)] at nx
      exact br_f (nI_ge (b := 32) hq (by decide)) ⟨iw, vp_in_nI (by omega) (by omega), nm_e ⟨iw, iw, nm_e (nm_r (nI_1 i) nx)⟩⟩
    refine br_f c10 ⟨ir, nm_r (m1 r hr) ?_⟩
    rw [if_neg c10] at nx
    have n0 : o ≠ 0 := fun z => c0 (by rw [z]; rfl)
    have n9 : o ≠ 9 := fun z => c9 (by rw [z]; rfl)
    have n10 : o ≠ 10 := fun z => c10 (by rw [z]; rfl)
    by_cases cin : oa_in V (M.2.1 r)
    · obtain ⟨c, hc, ec⟩ := oa_in_c hV cin
      have ex : nI (16 * w) + M.2.1 r = nI (16 * w + c) := by rw [ec, nI_add]
      have ix : vp_in (nI (16 * w + c)) 32 := vp_in_nI (by omega) (by omega)
      have cx : (nI (16 * w + c)).toNatClampNeg = 16 * w + c := nI_clamp (by omega)
      have cc : (M.2.1 r).toNatClampNeg = c := by rw [ec]; exact nI_clamp (by omega)
      refine br_f (Int32.not_lt.mpr cin.1) (br_f (Int32.not_le.mpr cin.2) ?_)
      unfold wY_exec_261
      rw [ex, cx]
      by_cases c8 : nI o = 8
      · rw [if_pos c8, if_pos cin, if_pos cin, cc] at nx
        exact br_t c8 (br_f (by decide) ⟨ix, nm_e (ya_331 ir post _ (by rw [cr]; exact nx))⟩)
      · rw [if_neg c8, if_pos cin, cc, ← m2 w c hw hc] at nx
        have n8 : o ≠ 8 := fun z => c8 (by rw [z]; rfl)
        exact br_f c8 (br_f (by decide) ⟨ix, ya_306 ir (by omega) (by omega) post _ (by rw [cr]; exact nx)⟩)
    · have h260 : wY_exec_260 post (wY_exec_107 post (nI w) (nI (16 * w)) (nI V) y_nR y_count y_phase y_accN fu) (nI w) (nI (16 * w)) M.2.2.1 (nI i) (nI o) (nI r) (y_cOpd (192 * w + i)) (M.2.1 r) (nI V) y_nR y_count y_phase y_accN y_reg y_init y_sop y_sdest y_sa y_sb y_accV y_addr y_wt y_edge y_deg y_comp y_placed y_cOp y_cReg y_cOpd y_len y_loads y_kval y_kKnown M.2.2.2.2.2.1 M.2.2.2.1 M.2.2.2.2.2.2.2 M.2.2.2.2.2.2.1 := by
        unfold wY_exec_260 wY_exec_261
        by_cases c8 : nI o = 8
        · rw [if_pos c8, if_neg cin, if_neg cin] at nx
          exact br_t c8 (br_t rfl (ya_331 ir post _ (by rw [cr]; exact nx)))
        · rw [if_neg c8, if_neg cin] at nx
          have n8 : o ≠ 8 := fun z => c8 (by rw [z]; rfl)
          exact br_f c8 (br_t rfl (ya_306 ir (by omega) (by omega) post _ (by rw [cr]; exact nx)))
      exact br_c (fun _ => h260) (fun h1 => br_c (fun _ => h260) (fun h2 => absurd ⟨Int32.not_lt.mp h1, Int32.not_le.mp h2⟩ cin))
theorem ya_e77 {w : Nat} {x2 : Int32} (hw : w < 2) (post : SY → Prop) (hp : ∃ f, wY_exec_107 post (nI w) x2 y_nV y_nR y_count y_phase y_accN f 0 0 y_reg y_init y_sop y_sdest y_sa y_sb y_accV y_addr y_wt y_edge y_deg y_comp y_placed y_cOp y_cReg y_cOpd y_len y_loads y_kval y_kKnown y_mem y_outs (upd y_outN w 0) (oa_fill y_ar (fun _ => 0) 4)) :
    ∀ d i fu, i + d = 4 → d < fu → wY_exec_77 post (nI w) x2 y_nV y_nR y_count y_phase y_accN fu (nI i) y_reg y_init y_sop y_sdest y_sa y_sb y_accV y_addr y_wt y_edge y_deg y_comp y_placed y_cOp y_cReg y_cOpd y_len y_loads y_kval y_kKnown y_mem y_outs y_outN (oa_fill y_ar (fun _ => 0) i) := by
  intro d
  induction d with
  | zero =>
    intro i fu hi hf
    obtain ⟨fu, rfl⟩ : ∃ f, fu = f + 1 := ⟨fu - 1, by omega⟩
    have e : i = 4 := by omega
    subst e
    exact br_t (by decide) ⟨vp_in_nI hw (by omega), nm_r (by rw [nI_clamp (show w < 2 ^ 31 by omega)]) hp⟩
  | succ d ih =>
    intro i fu hi hf
    obtain ⟨fu, rfl⟩ : ∃ f, fu = f + 1 := ⟨fu - 1, by omega⟩
    have vi : vp_in (nI i) 4 := vp_in_nI (by omega) (by omega)
    refine br_f (nI_ge (b := 4) (by omega) (by decide)) ⟨vi, nm_r ?_ (nm_r (nI_1 i) (ih (i + 1) fu (by omega) (by omega)))⟩
    rw [nI_clamp (show i < 2 ^ 31 by omega)]
    exact oa_fill_s rfl
theorem ya_e30 {V w : Nat} {cell : Nat → Nat} (hV : V ≤ 16) (hw : w < 2) (hc : ∀ v, v < V → cell v < V ∧ (if w = 0 then nI v else y_addr v) = nI (cell v)) (post : SY → Prop)
    (hp : ∃ f, wY_exec_77 post (nI w) (nI (16 * w)) (nI V) y_nR y_count y_phase y_accN f 0 y_reg y_init y_sop y_sdest y_sa y_sb y_accV y_addr y_wt y_edge y_deg y_comp y_placed y_cOp y_cReg y_cOpd y_len y_loads y_kval y_kKnown (oa_mi y_mem (16 * w) cell y_init V) y_outs y_outN y_ar) :
    ∀ d i fu, i + d = V → d < fu → wY_exec_30 post (nI w) (nI (16 * w)) (nI V) y_nR y_count y_phase y_accN fu (nI i) y_reg y_init y_sop y_sdest y_sa y_sb y_accV y_addr y_wt y_edge y_deg y_comp y_placed y_cOp y_cReg y_cOpd y_len y_loads y_kval y_kKnown (oa_mi y_mem (16 * w) cell y_init i) y_outs y_outN y_ar := by
  intro d
  induction d with
  | zero =>
    intro i fu hi hf
    obtain ⟨fu, rfl⟩ : ∃ f, fu = f + 1 := ⟨fu - 1, by omega⟩
    have e : i = V := by omega
    subst e
    exact br_t (nI_le (by omega) (by omega)) hp
  | succ d ih =>
    intro i fu hi hf
    obtain ⟨fu, rfl⟩ : ∃ f, fu = f + 1 := ⟨fu - 1, by omega⟩
    have h1 := hc i (by omega)
    have nx := ih (i + 1) fu (by omega) (by omega)
    have vi : vp_in (nI i) 16 := vp_in_nI (by omega) (by omega)
    have ci : (nI i).toNatClampNeg = i := nI_clamp (by omega)
    have h52 : ∀ z0, z0 = nI (cell i) → wY_exec_52 post (wY_exec_30 post (nI w) (nI (16 * w)) (nI V) y_nR y_count y_phase y_accN fu) (nI w) (nI (16 * w)) (nI i) z0 (nI V) y_nR y_count y_phase y_accN y_reg y_init y_sop y_sdest y_sa y_sb y_accV y_addr y_wt y_edge y_deg y_comp y_placed y_cOp y_cReg y_cOpd y_len y_loads y_kval y_kKnown (oa_mi y_mem (16 * w) cell y_init i) y_outs y_outN y_ar := by
      rintro z0 rfl
      unfold wY_exec_52
      rw [nI_add, ci, nI_clamp (show 16 * w + cell i < 2 ^ 31 by omega)]
      exact ⟨vi, vp_in_nI (by omega) (by omega), nm_e (nm_r (nI_1 i) nx)⟩
    refine br_f (nI_ge (by omega) (by omega)) ?_
    by_cases c : w = 0
    · rw [if_pos c] at h1
      exact br_t ((oa_w0 hw).mpr c) (h52 _ h1.2)
    · rw [if_neg c] at h1
      exact br_f (fun z => c ((oa_w0 hw).mp z)) ⟨vi, h52 _ (by rw [ci]; exact h1.2)⟩
theorem ya_e7 {w : Nat} (hw : w < 2) (post : SY → Prop) (hp : ∃ f, wY_exec_30 post (nI w) (nI (16 * w)) y_nV y_nR y_count y_phase y_accN f 0 y_reg y_init y_sop y_sdest y_sa y_sb y_accV y_addr y_wt y_edge y_deg y_comp y_placed y_cOp y_cReg y_cOpd y_len y_loads y_kval y_kKnown (oa_mi y_mem (16 * w) (fun c => c) (fun _ => 0) 16) y_outs y_outN y_ar) :
    ∀ d i fu, i + d = 16 → d < fu → wY_exec_7 post (nI w) (nI (16 * w)) y_nV y_nR y_count y_phase y_accN fu (nI i) y_reg y_init y_sop y_sdest y_sa y_sb y_accV y_addr y_wt y_edge y_deg y_comp y_placed y_cOp y_cReg y_cOpd y_len y_loads y_kval y_kKnown (oa_mi y_mem (16 * w) (fun c => c) (fun _ => 0) i) y_outs y_outN y_ar := by
  intro d
  induction d with
  | zero =>
    intro i fu hi hf
    obtain ⟨fu, rfl⟩ : ∃ f, fu = f + 1 := ⟨fu - 1, by omega⟩
    have e : i = 16 := by omega
    subst e
    exact br_t (by decide) hp
  | succ d ih =>
    intro i fu hi hf
    obtain ⟨fu, rfl⟩ : ∃ f, fu = f + 1 := ⟨fu - 1, by omega⟩
    have nx := ih (i + 1) fu (by omega) (by omega)
    refine br_f (nI_ge (b := 16) (by omega) (by decide)) ?_
    rw [nI_add, nI_clamp (show 16 * w + i < 2 ^ 31 by omega)]
    exact ⟨vp_in_nI (by omega) (by omega), nm_e (nm_r (nI_1 i) nx)⟩
theorem ya_rp {V nR w L : Nat} {cell : Nat → Nat} {m M : oa_M} (hV : V ≤ 16) (hR : nR ≤ 4) (hw : w < 2) (hL : L ≤ 192) (ci : oa_CI nR w L 32 y_cOp y_cReg y_len)
    (hc : ∀ v, v < V → cell v < V ∧ (if w = 0 then nI v else y_addr v) = nI (cell v)) (mi : oa_MI V nR w 0 y_cOp m (oa_m0 nR w V cell y_init m)) (post : SY → Prop)
    (eM : oa_xs V w y_cOp y_cReg y_cOpd L (oa_m0 nR w V cell y_init m) = M)
    (hp : post (nI V, y_nR, y_count, y_phase, y_accN, y_reg, y_init, y_sop, y_sdest, y_sa, y_sb, y_accV, y_addr, y_wt, y_edge, y_deg, y_comp, y_placed, y_cOp, y_cReg, y_cOpd, y_len, y_loads, y_kval, y_kKnown, M.2.2.2.2.2.1, M.2.2.2.1, M.2.2.2.2.2.2.2, M.2.2.2.2.2.2.1)) : wpY_exec post (nI V, y_nR, y_count, y_phase, y_accN, y_reg, y_init, y_sop, y_sdest, y_sa, y_sb, y_accV, y_addr, y_wt, y_edge, y_deg, y_comp, y_placed, y_cOp, y_cReg, y_cOpd, y_len, y_loads, y_kval, y_kKnown, m.2.2.2.2.2.1, m.2.2.2.1, m.2.2.2.2.2.2.2, m.2.2.2.2.2.2.1) (nI w) := by
  subst eM
  have h1 := ya_e77 (y_nV := nI V) (x2 := nI (16 * w)) (y_mem := oa_mi (oa_mi m.2.2.2.2.2.1 (16 * w) (fun c => c) (fun _ => 0) 16) (16 * w) cell y_init V) (y_ar := m.2.2.2.2.2.2.1) (y_outs := m.2.2.2.1) (y_outN := m.2.2.2.2.2.2.2) hw post
    ⟨L + 1, ya_xs hV hR hw hL ci mi post hp L 0 (L + 1) (by omega) (by omega)⟩ 4 0 5 (by omega) (by omega)
  rw [oa_fill_0] at h1
  have h2 := ya_e30 (y_mem := oa_mi m.2.2.2.2.2.1 (16 * w) (fun c => c) (fun _ => 0) 16) (y_ar := m.2.2.2.2.2.2.1) (y_outs := m.2.2.2.1) (y_outN := m.2.2.2.2.2.2.2) hV hw hc post ⟨5, h1⟩ V 0 (V + 1) (by omega) (by omega)
  have h3 := ya_e7 (y_nV := nI V) (y_mem := m.2.2.2.2.2.1) (y_ar := m.2.2.2.2.2.2.1) (y_outs := m.2.2.2.1) (y_outN := m.2.2.2.2.2.2.2) hw post ⟨V + 1, h2⟩ 16 0 17 (by omega) (by omega)
  exact nm_r (show _ = nI (16 * w) by rw [show (16 : Int32) = nI 16 from rfl, pk_mul, Nat.mul_comm]) ⟨17, h3⟩
end
