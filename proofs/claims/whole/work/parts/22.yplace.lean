/-! Y: addresses -/
abbrev oa_JY3 : Type := Int32 → Int32 → Int32 → (Nat → Int32) → (Nat → Int32) → (Nat → Int32) → (Nat → Int32) → (Nat → Int32) → (Nat → Int32) → (Nat → Int32) → (Nat → Int32) → (Nat → Int32) → (Nat → Int32) → (Nat → Int32) → (Nat → Int32) → (Nat → Int32) → (Nat → Int32) → (Nat → Int32) → (Nat → Int32) → (Nat → Int32) → (Nat → Int32) → (Nat → Int32) → (Nat → Int32) → (Nat → Int32) → (Nat → Int32) → (Nat → Int32) → (Nat → Int32) → Prop
section
variable {y_nV y_nR y_count y_phase y_accN : Int32} {y_reg y_init y_sop y_sdest y_sa y_sb y_accV y_addr y_wt y_edge y_deg y_comp y_placed y_cOp y_cReg y_cOpd y_len y_loads y_kval y_kKnown y_mem y_outs y_outN y_ar : Nat → Int32}
theorem ya_104 {V k : Nat} {t x2 : Int32} {i : Nat} (hV : V ≤ 16) (hk : k < V) (ht : t = -1 ∨ ∃ y, y < V ∧ t = nI y) (hy : ∀ y, y < V → ((y_edge (k * 16 + y) ≠ 0 ∧ y_placed y = 0) ↔ t = nI y)) (post : Int32 → SY → Prop) (J : oa_JY3)
    (hp : J x2 t (nI i + 1) y_reg y_init y_sop y_sdest y_sa y_sb y_accV y_addr y_wt y_edge y_deg y_comp y_placed y_cOp y_cReg y_cOpd y_len y_loads y_kval y_kKnown y_mem y_outs y_outN y_ar) :
    ∀ d y fu x7, y + d = V → d < fu → ((x7 = t ∧ ∀ z, y ≤ z → z < V → t ≠ nI z) ∨ (x7 = -1 ∧ ∀ z, z < y → t ≠ nI z)) → wY_placePath_104 post J x2 (nI k) (nI i) (nI V) y_nR y_count y_phase y_accN y_reg y_init y_sop y_sdest y_sa y_sb y_accV y_addr y_wt y_edge y_deg y_comp y_placed y_cOp y_cReg y_cOpd y_len y_loads y_kval y_kKnown y_mem y_outs y_outN y_ar fu x7 (nI y) := by
  intro d
  induction d with
  | zero =>
    intro y fu x7 hd hf h
    obtain ⟨fu, rfl⟩ : ∃ f, fu = f + 1 := ⟨fu - 1, by omega⟩
    have e : x7 = t := by
      rcases h with h | h
      · exact h.1
      · rcases ht with h2 | ⟨z, hz, h2⟩
        · rw [h.1, h2]
        · exact absurd h2 (h.2 z (by omega))
    rw [e]
    exact br_t (nI_le (by omega) (by omega)) (nm_e hp)
  | succ d ih =>
    intro y fu x7 hd hf h
    obtain ⟨fu, rfl⟩ : ∃ f, fu = f + 1 := ⟨fu - 1, by omega⟩
    have iy : vp_in (nI y) 16 := vp_in_nI (by omega) (by omega)
    have hyy := hy y (by omega)
    have keep : t ≠ nI y → ((x7 = t ∧ ∀ z, y + 1 ≤ z → z < V → t ≠ nI z) ∨ (x7 = -1 ∧ ∀ z, z < y + 1 → t ≠ nI z)) := by
      intro ny
      rcases h with h | h
      · exact Or.inl ⟨h.1, fun z h1 h2 => h.2 z (by omega) h2⟩
      · refine Or.inr ⟨h.1, fun z hz => ?_⟩
        by_cases e : z = y
        · rw [e]; exact ny
        · exact h.2 z (by omega)
    refine br_f (nI_ge (by omega) (by omega)) ?_
    rw [oa_ix16, nI_clamp (show k * 16 + y < 2 ^ 31 by omega), nI_clamp (show y < 2 ^ 31 by omega)]
    refine ⟨vp_in_nI (by omega) (by omega), ?_⟩
    by_cases c1 : y_edge (k * 16 + y) = 0
    · exact br_t c1 (nm_r (nI_1 y) (ih (y + 1) fu x7 (by omega) (by omega) (keep (fun z => (hyy.mpr z).1 c1))))
    · refine br_f c1 ⟨iy, ?_⟩
      by_cases c2 : y_placed y = 0
      · have et := hyy.mp ⟨c1, c2⟩
        refine br_t c2 (nm_r (nI_1 y) (ih (y + 1) fu (nI y) (by omega) (by omega) (Or.inl ⟨et.symm, fun z h1 h2 e => ?_⟩)))
        rw [et] at e
        have := oa_inj (by omega) (by omega) e
        omega
      · exact br_f c2 (nm_r (nI_1 y) (ih (y + 1) fu x7 (by omega) (by omega) (keep (fun z => c2 (hyy.mpr z).2))))
theorem ya_64 {V : Nat} {f s c : Nat → Int32} (hV : V ≤ 16) (g : oa_G V f s c) (he : ∀ x y, x < V → y < V → (y_edge (x * 16 + y) ≠ 0 ↔ oa_lk f s x y)) (post : Int32 → SY → Prop) :
    ∀ d i fu pr cu (b : oa_B), i + d ≤ 16 → d < fu → oa_T V f s b.2.2.1 pr cu → oa_A V b.2.2.2 b.1 b.2.1 b.2.2.1 → V ≤ d + oa_cn b.2.2.1 V →
      post (nI (oa_tr f s d pr cu b).2.2.2) (nI V, y_nR, y_count, y_phase, y_accN, y_reg, y_init, y_sop, y_sdest, y_sa, y_sb, y_accV, ((oa_tr f s d pr cu b).2.1), y_wt, y_edge, y_deg, y_comp, ((oa_tr f s d pr cu b).2.2.1), y_cOp, y_cReg, y_cOpd, y_len, y_loads, y_kval, y_kKnown, y_mem, y_outs, y_outN, y_ar) →
      wY_placePath_64 post (nI V) y_nR y_count y_phase y_accN fu (nI b.2.2.2) cu (nI i) y_reg y_init y_sop y_sdest y_sa y_sb y_accV b.2.1 y_wt y_edge y_deg y_comp b.2.2.1 y_cOp y_cReg y_cOpd y_len y_loads y_kval y_kKnown y_mem y_outs y_outN y_ar := by
  intro d
  induction d with
  | zero =>
    intro i fu pr cu b hi hf t a hd hp
    obtain ⟨fu, rfl⟩ : ∃ f, fu = f + 1 := ⟨fu - 1, by omega⟩
    have e : cu = -1 := by
      rcases t with ⟨h, _⟩ | ⟨k, hk, _, h0, _⟩
      · exact h
      · have := oa_cn_lt h0 V hk; omega
    subst e
    exact br_c (fun _ => hp) (fun _ => br_f (by decide) hp)
  | succ d ih =>
    intro i fu pr cu b hi hf t a hd hp
    obtain ⟨fu, rfl⟩ : ∃ f, fu = f + 1 := ⟨fu - 1, by omega⟩
    refine br_f (nI_ge (b := 16) (by omega) (by decide)) ?_
    rw [oa_tr] at hp
    by_cases e : cu = -1
    · rw [if_pos e] at hp
      rw [e]
      exact br_f (by decide) hp
    · rw [if_neg e] at hp
      have t' := t
      rcases t' with ⟨h, _⟩ | ⟨k, hk, rfl, h0, _⟩
      · exact absurd h e
      have ck : (nI k).toNatClampNeg = k := nI_clamp (by omega)
      have ik : vp_in (nI k) 16 := vp_in_nI (by omega) (by omega)
      rw [ck] at hp
      have q1 : upd b.2.2.1 k 1 k ≠ 0 := by rw [pk_us]; decide
      have q2 : ∀ x, x ≠ k → upd b.2.2.1 k 1 x = b.2.2.1 x := fun x hx => pk_un hx
      have st := oa_T_step hV g hk t q1 q2
      have sa := oa_A_step hV a hk h0 (t := 1) (by decide)
      have sc := oa_cn_up h0 q1 q2 V
      rw [if_pos hk] at sc
      have nx := ih (i + 1) fu (nI k) (oa_nt f s pr k) (oa_b1 b k) (by omega) (by omega) st.1 sa.1 (by show V ≤ d + oa_cn (upd b.2.2.1 k 1) V; omega) hp
      refine br_t (nI_pos' (by omega)) ⟨ik, nm_r (show _ = upd b.2.2.1 k 1 by rw [ck]; rfl) ⟨ik, nm_r (show _ = upd b.2.1 k (nI b.2.2.2) by rw [ck]) (nm_r (nI_1 b.2.2.2) ⟨V + 1, ?_⟩)⟩⟩
      refine ya_104 hV hk st.2.1 (fun y hy => ?_) post _ ?_ V 0 (V + 1) (-1) (by omega) (by omega) (Or.inr ⟨rfl, fun z hz => absurd hz (Nat.not_lt_zero z)⟩)
      · rw [he k y hk hy]; exact st.2.2 y hy
      · rw [nI_1]; exact nx
theorem ya_13 {V e : Nat} {x2 x3 x4 : Int32} (hV : V ≤ 16) (he : e < V) (h1 : y_comp e = x3 ∧ y_deg e < 2) (h2 : ∀ x, x < e → ¬ (y_comp x = x3 ∧ y_deg x < 2)) (post : Int32 → SY → Prop)
    (hp : ∃ f, wY_placePath_64 post (nI V) y_nR y_count y_phase y_accN f x2 (nI e) 0 y_reg y_init y_sop y_sdest y_sa y_sb y_accV y_addr y_wt y_edge y_deg y_comp y_placed y_cOp y_cReg y_cOpd y_len y_loads y_kval y_kKnown y_mem y_outs y_outN y_ar) :
    ∀ d x fu, x + d = e → d < fu → wY_placePath_13 post x2 x3 x4 (nI V) y_nR y_count y_phase y_accN y_reg y_init y_sop y_sdest y_sa y_sb y_accV y_addr y_wt y_edge y_deg y_comp y_placed y_cOp y_cReg y_cOpd y_len y_loads y_kval y_kKnown y_mem y_outs y_outN y_ar fu (nI x) := by
  intro d
  induction d with
  | zero =>
    intro x fu hx hf
    obtain ⟨fu, rfl⟩ : ∃ f, fu = f + 1 := ⟨fu - 1, by omega⟩
    have e1 : x = e := by omega
    subst e1
    have ix : vp_in (nI x) 16 := vp_in_nI (by omega) (by omega)
    refine br_f (nI_ge (by omega) (by omega)) ⟨ix, ?_⟩
    rw [nI_clamp (show x < 2 ^ 31 by omega)]
    exact br_t h1.1 ⟨ix, br_f (Int32.not_le.mpr h1.2) hp⟩
  | succ d ih =>
    intro x fu hx hf
    obtain ⟨fu, rfl⟩ : ∃ f, fu = f + 1 := ⟨fu - 1, by omega⟩
    have nx := ih (x + 1) fu (by omega) (by omega)
    have hn := h2 x (by omega)
    have ix : vp_in (nI x) 16 := vp_in_nI (by omega) (by omega)
    refine br_f (nI_ge (by omega) (by omega)) ⟨ix, ?_⟩
    rw [nI_clamp (show x < 2 ^ 31 by omega)]
    by_cases c : y_comp x = x3
    · exact br_t c ⟨ix, br_t (Int32.not_lt.mp (fun z => hn ⟨c, z⟩)) (nm_r (nI_1 x) nx)⟩
    · exact br_f c (nm_r (nI_1 x) nx)
theorem ya_pp {V v : Nat} {f s c : Nat → Int32} {b : oa_B} (hV : V ≤ 16) (hv : v < V) (g : oa_G V f s c) (jr : oa_JR V f s c y_edge y_deg y_comp) (hb : oa_BI V f s b) (h0 : b.2.2.1 v = 0) (post : Int32 → SY → Prop) (b' : oa_B)
    (eb : oa_tr f s V (-1) (oa_sm s c (c v) V 0) b = b') (hp : post (nI b'.2.2.2) (nI V, y_nR, y_count, y_phase, y_accN, y_reg, y_init, y_sop, y_sdest, y_sa, y_sb, y_accV, b'.2.1, y_wt, y_edge, y_deg, y_comp, b'.2.2.1, y_cOp, y_cReg, y_cOpd, y_len, y_loads, y_kval, y_kKnown, y_mem, y_outs, y_outN, y_ar)) : wpY_placePath post (nI V, y_nR, y_count, y_phase, y_accN, y_reg, y_init, y_sop, y_sdest, y_sa, y_sb, y_accV, b.2.1, y_wt, y_edge, y_deg, y_comp, b.2.2.1, y_cOp, y_cReg, y_cOpd, y_len, y_loads, y_kval, y_kKnown, y_mem, y_outs, y_outN, y_ar) (nI v) (nI b.2.2.2) := by
  subst eb
  obtain ⟨e, he, ⟨hc, hs⟩, hl⟩ := oa_end g hv
  rw [oa_sm_e he ⟨hc, hs⟩ hl V 0 (by omega) (by omega)] at hp
  have t := oa_T_start g hv he hc hs h0 hb.2
  have h64 := ya_64 hV g jr.2.1 post V 0 (V + 1) (-1) (nI e) b (by omega) (by omega) t hb.1 (by omega) hp
  have cc : ∀ x, x < V → ((y_comp x = y_comp v ∧ y_deg x < 2) ↔ (c x = c v ∧ s x = -1)) := by
    intro x hx
    rw [jr.2.2 x hx, jr.2.2 v hv, oa_JR_deg g jr hx]
  refine ⟨vp_in_nI (by omega) (by omega), nm_r (show _ = y_comp v by rw [nI_clamp (by omega)]) ⟨e + 1, ?_⟩⟩
  exact ya_13 hV he ((cc e he).mpr ⟨hc, hs⟩) (fun x hx z => hl x hx ((cc x (by omega)).mp z)) post ⟨V + 1, h64⟩ e 0 (e + 1) (by omega) (by omega)
theorem ya_c278 {V nR : Nat} {f s c : Nat → Int32} (hV : V ≤ 16) (hV0 : 0 < V) (hR : nR ≤ 4) (g : oa_G V f s c) (jr : oa_JR V f s c y_edge y_deg y_comp) (post : Int32 → SY → Prop) (b b' : oa_B) (hb : oa_BI V f s b) (hN : b.2.2.2 = 0)
    (eb : oa_aw y_reg f s c V nR 0 b = b')
    (hp : wY_compile_278 post 1 (nI b'.2.2.2) (nI (nR * V)) (nI V) (nI nR) y_count y_phase y_accN y_reg y_init y_sop y_sdest y_sa y_sb y_accV b'.2.1 y_wt y_edge y_deg y_comp b'.2.2.1 y_cOp y_cReg y_cOpd y_len y_loads y_kval y_kKnown y_mem y_outs y_outN y_ar) : ∃ f, wY_compile_278 post f 0 0 (nI V) (nI nR) y_count y_phase y_accN y_reg y_init y_sop y_sdest y_sa y_sb y_accV b.2.1 y_wt y_edge y_deg y_comp b.2.2.1 y_cOp y_cReg y_cOpd y_len y_loads y_kval y_kKnown y_mem y_outs y_outN y_ar := by
  subst eb
  have h := oa_Y_aw (YW := fun n t b => wY_compile_278 post n (nI b.2.2.2) (nI t) (nI V) (nI nR) y_count y_phase y_accN y_reg y_init y_sop y_sdest y_sa y_sb y_accV b.2.1 y_wt y_edge y_deg y_comp b.2.2.1 y_cOp y_cReg y_cOpd y_len y_loads y_kval y_kKnown y_mem y_outs y_outN y_ar) (reg := y_reg) (nR := nR) hV g ?_ nR 0 1 b (by omega) hb hp
  · rw [Nat.zero_mul, hN] at h
    exact ⟨_, h⟩
  · intro r v n b hr hv hb h
    have hm : (r + 1) * V ≤ nR * V := Nat.mul_le_mul_right V (by omega)
    rw [Nat.succ_mul] at hm
    have hmm : nR * V ≤ 4 * 16 := Nat.mul_le_mul hR hV
    have iv : vp_in (nI v) 16 := vp_in_nI (by omega) (by omega)
    have cv : (nI v).toNatClampNeg = v := nI_clamp (by omega)
    have dv : (r * V + v) / V = r := by rw [Nat.mul_comm, Nat.mul_add_div hV0, Nat.div_eq_of_lt hv, Nat.add_zero]
    have dm : (r * V + v) % V = v := by rw [Nat.mul_comm, Nat.mul_add_mod, Nat.mod_eq_of_lt hv]
    have d1 : nI (r * V + v) / nI V = nI r := by rw [pk_div (by omega) hV0 (by omega), dv]
    have d2 : nI (r * V + v) - nI (r * V + v) / nI V * nI V = nI v := by rw [pk_rem (by omega) hV0 (by omega), dm]
    have nV : ¬ nI V = 0 := nI_ne0 hV0 (by omega)
    have n1 := nI_1 (r * V + v)
    have un := oa_BI_un hV hb hv
    refine br_f (by rw [pk_mul]; exact nI_ge (by omega) (by omega)) ⟨nV, nm_r d1 ⟨nV, nm_r d2 ⟨iv, ?_⟩⟩⟩
    rw [cv]
    by_cases c1 : y_reg v = nI r
    · refine br_t c1 ⟨iv, ?_⟩
      by_cases c2 : b.2.2.1 v = 0
      · rw [show oa_a1 y_reg f s c V (nI r) v b = _ from if_pos ⟨c1, un.mpr c2⟩] at h
        exact br_t c2 (ya_pp hV hv g jr hb c2 _ _ rfl (nm_r n1 h))
      · rw [show oa_a1 y_reg f s c V (nI r) v b = b from if_neg (fun z => c2 (un.mp z.2))] at h
        exact br_f c2 (nm_r n1 h)
    · rw [show oa_a1 y_reg f s c V (nI r) v b = b from if_neg (fun z => c1 z.1)] at h
      exact br_f c1 (nm_r n1 h)
end
