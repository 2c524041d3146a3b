/-! the relation, and the small methods -/
def i_Rel (_ : Nat) (u : SX) (v : SY) : Prop :=
  ∃ (V nR ph cnt : Nat) (na ac aN : Int32) (reg ini st acc fol wt fl sl ch ad op rg od len ld kn mx arx out ocx sop sd sa sb accY ady wtY ed dg cp pl kv kk my ocy ary : Nat → Int32),
    u = (nI V, nI nR, nI ph, nI cnt, nI (oa_ps sop cnt), na, ac, reg, ini, st, acc, fol, wt, fl, sl, ch, ad, op, rg, od, len, ld, kn, mx, arx, out, ocx) ∧
    v = (nI V, nI nR, nI cnt, nI ph, aN, reg, ini, sop, sd, sa, sb, accY, ady, wtY, ed, dg, cp, pl, op, rg, od, len, ld, kv, kk, my, out, ocy, ary) ∧
    oa_I V nR ph cnt reg st acc ad ady op rg len mx my ocx ocy sop sd sa sb
theorem oa_R {k V nR ph cnt : Nat} {na ac aN : Int32} {reg ini st acc fol wt fl sl ch ad op rg od len ld kn mx arx out ocx sop sd sa sb accY ady wtY ed dg cp pl kv kk my ocy ary : Nat → Int32}
    (h : oa_I V nR ph cnt reg st acc ad ady op rg len mx my ocx ocy sop sd sa sb) :
    i_Rel k (nI V, nI nR, nI ph, nI cnt, nI (oa_ps sop cnt), na, ac, reg, ini, st, acc, fol, wt, fl, sl, ch, ad, op, rg, od, len, ld, kn, mx, arx, out, ocx) (nI V, nI nR, nI cnt, nI ph, aN, reg, ini, sop, sd, sa, sb, accY, ady, wtY, ed, dg, cp, pl, op, rg, od, len, ld, kv, kk, my, out, ocy, ary) :=
  ⟨V, nR, ph, cnt, na, ac, aN, reg, ini, st, acc, fol, wt, fl, sl, ch, ad, op, rg, od, len, ld, kn, mx, arx, out, ocx, sop, sd, sa, sb, accY, ady, wtY, ed, dg, cp, pl, kv, kk, my, ocy, ary, rfl, rfl, h⟩
theorem i_up {k : Nat} {u : SX} {v : SY} (h : i_Rel k u v) : i_Rel (k + 5) u v := h
theorem oa_clamp (x : Int32) {a b : Nat} (hab : a ≤ b) (hb : b < 2 ^ 31) : ∃ V, a ≤ V ∧ V ≤ b ∧ ((nI a ≤ x ∧ x ≤ nI b ∧ x = nI V) ∨ (nI a ≤ x ∧ ¬ x ≤ nI b ∧ V = b) ∨ (¬ nI a ≤ x ∧ V = a)) := by
  by_cases h1 : nI a ≤ x
  · by_cases h2 : x ≤ nI b
    · have h0 : ¬ x < 0 := Int32.not_lt.mpr (Int32.le_trans (nI_pos' (by omega)) h1)
      obtain ⟨j, hj, rfl⟩ := nI_of h0
      rw [nI_leI (by omega) hj] at h1
      rw [nI_leI hj hb] at h2
      exact ⟨j, h1, h2, Or.inl ⟨nI_le h1 hj, nI_le h2 hb, rfl⟩⟩
    · exact ⟨b, hab, Nat.le_refl _, Or.inr (Or.inl ⟨h1, h2, rfl⟩)⟩
  · exact ⟨a, Nat.le_refl _, hab, Or.inr (Or.inr ⟨h1, rfl⟩)⟩
theorem xa_cl {x : Int32} {a b V : Nat} (h : (nI a ≤ x ∧ x ≤ nI b ∧ x = nI V) ∨ (nI a ≤ x ∧ ¬ x ≤ nI b ∧ V = b) ∨ (¬ nI a ≤ x ∧ V = a)) (post : Int32 → Prop) (hp : post (nI V)) : wpX_clamp post x (nI a) (nI b) := by
  rcases h with ⟨h1, h2, rfl⟩ | ⟨h1, h2, rfl⟩ | ⟨h1, rfl⟩
  · exact br_t h1 (br_t h2 hp)
  · exact br_t h1 (br_f h2 hp)
  · exact br_f h1 hp
theorem i_vc0 (k0 : Int32) (k1 : Int32) : wpX_init (fun u => wpY_init (fun v => i_Rel 2 u v) k0 k1) k0 k1 := by
  obtain ⟨V, v1, v2, hV⟩ := oa_clamp k0 (a := 2) (b := 16) (by omega) (by omega)
  obtain ⟨R, r1, r2, hR⟩ := oa_clamp k1 (a := 1) (b := 4) (by omega) (by omega)
  have H : i_Rel 2 (nI V, nI R, 0, 0, 0, 0, 0, (fun _ => 0), (fun _ => 0), (fun _ => 0), (fun _ => 0), (fun _ => 0), (fun _ => 0), (fun _ => 0), (fun _ => 0), (fun _ => 0), (fun _ => 0), (fun _ => 0), (fun _ => 0), (fun _ => 0), (fun _ => 0), (fun _ => 0), (fun _ => 0), (fun _ => 0), (fun _ => 0), (fun _ => 0), (fun _ => 0))
      (nI V, nI R, 0, 0, 0, (fun _ => 0), (fun _ => 0), (fun _ => 0), (fun _ => 0), (fun _ => 0), (fun _ => 0), (fun _ => 0), (fun _ => 0), (fun _ => 0), (fun _ => 0), (fun _ => 0), (fun _ => 0), (fun _ => 0), (fun _ => 0), (fun _ => 0), (fun _ => 0), (fun _ => 0), (fun _ => 0), (fun _ => 0), (fun _ => 0), (fun _ => 0), (fun _ => 0), (fun _ => 0), (fun _ => 0)) :=
    oa_R (ph := 0) (cnt := 0) (nR := R) ⟨⟨v1, v2⟩, ⟨r1, r2⟩, by omega, by omega, fun v _ => ⟨0, by omega, rfl⟩, fun i _ => ⟨rfl, rfl, rfl, rfl⟩, fun i hi => absurd hi (Nat.not_lt_zero i), fun w c _ _ => rfl, fun h => absurd rfl h, fun h => by omega⟩
  unfold wpX_init
  refine xa_cl hV _ (xa_cl hR _ ?_)
  rcases hV with ⟨h1, h2, rfl⟩ | ⟨h1, h2, rfl⟩ | ⟨h1, rfl⟩
  · rcases hR with ⟨g1, g2, rfl⟩ | ⟨g1, g2, rfl⟩ | ⟨g1, rfl⟩
    · exact br_t h1 (br_t h2 (br_t g1 (br_t g2 H)))
    · exact br_t h1 (br_t h2 (br_t g1 (br_f g2 H)))
    · exact br_t h1 (br_t h2 (br_f g1 H))
  · rcases hR with ⟨g1, g2, rfl⟩ | ⟨g1, g2, rfl⟩ | ⟨g1, rfl⟩
    · exact br_t h1 (br_f h2 (br_t g1 (br_t g2 H)))
    · exact br_t h1 (br_f h2 (br_t g1 (br_f g2 H)))
    · exact br_t h1 (br_f h2 (br_f g1 H))
  · rcases hR with ⟨g1, g2, rfl⟩ | ⟨g1, g2, rfl⟩ | ⟨g1, rfl⟩
    · exact br_f h1 (br_t g1 (br_t g2 H))
    · exact br_f h1 (br_t g1 (br_f g2 H))
    · exact br_f h1 (br_f g1 H)
theorem i_vc_clear {k : Nat} {u : SX} {v : SY} (I : i_Rel k u v) (hk : k + 5 ≤ 2562) : wpX_clear (fun u' => wpY_clear (fun v' => i_Rel (k + 5) u' v') v) u := by
  obtain ⟨V, nR, ph, cnt, na, ac, aN, reg, ini, st, acc, fol, wt, fl, sl, ch, ad, op, rg, od, len, ld, kn, mx, arx, out, ocx, sop, sd, sa, sb, accY, ady, wtY, ed, dg, cp, pl, kv, kk, my, ocy, ary, rfl, rfl, i1, i2, i3, i4, i5, i6, i7, i8, i9, i10⟩ := I
  unfold wpX_clear wpY_clear
  exact oa_R (ph := 0) (cnt := 0) ⟨i1, i2, by omega, by omega, i5, i6, fun i hi => absurd hi (Nat.not_lt_zero i), i8, fun h => absurd rfl h, fun h => by omega⟩
section
variable {y_nV y_nR y_count y_phase y_accN : Int32} {y_reg y_init y_sop y_sdest y_sa y_sb y_accV y_addr y_wt y_edge y_deg y_comp y_placed y_cOp y_cReg y_cOpd y_len y_loads y_kval y_kKnown y_mem y_outs y_outN y_ar : Nat → Int32}
theorem ya_bv {V : Nat} {x : Int32} (post : Int32 → Prop) (h1 : oa_in V x → post 0) (h0 : ¬ oa_in V x → post 1) : wpY_badVar post (nI V, y_nR, y_count, y_phase, y_accN, y_reg, y_init, y_sop, y_sdest, y_sa, y_sb, y_accV, y_addr, y_wt, y_edge, y_deg, y_comp, y_placed, y_cOp, y_cReg, y_cOpd, y_len, y_loads, y_kval, y_kKnown, y_mem, y_outs, y_outN, y_ar) x :=
  br_c (fun c => h0 (fun z => Int32.not_lt.mpr z.1 c)) (fun c => br_c (fun d => h1 ⟨Int32.not_lt.mp c, d⟩) (fun d => h0 (fun z => d z.2)))
end
theorem oa_upr {V nR v r : Nat} {reg : Nat → Int32} (hr : r < nR) (h : ∀ v, v < V → ∃ r, r < nR ∧ reg v = nI r) : ∀ x, x < V → ∃ r', r' < nR ∧ upd reg v (nI r) x = nI r' := by
  intro x hx
  by_cases e : x = v
  · rw [e, pk_us]; exact ⟨r, hr, rfl⟩
  · rw [pk_un e]; exact h x hx
theorem i_vc_setRegister {k : Nat} {u : SX} {v : SY} (I : i_Rel k u v) (hk : k + 5 ≤ 2562) (v1 : Int32) (v2 : Int32) : wpX_setRegister (fun r u' => wpY_setRegister (fun r' v' => r' = r ∧ i_Rel (k + 5) u' v') v v1 v2) u v1 v2 := by
  obtain ⟨V, nR, ph, cnt, na, ac, aN, reg, ini, st, acc, fol, wt, fl, sl, ch, ad, op, rg, od, len, ld, kn, mx, arx, out, ocx, sop, sd, sa, sb, accY, ady, wtY, ed, dg, cp, pl, kv, kk, my, ocy, ary, rfl, rfl, I⟩ := I
  have I' := I
  obtain ⟨i1, i2, i3, i4, i5, i6, i7, i8, i9, i10⟩ := I'
  unfold wpX_setRegister wpY_setRegister
  dsimp only
  refine xa_iv _ (fun c => br_f (by decide) ?_) (fun c => br_t rfl (ya_bv _ (fun z => absurd z c) (fun _ => br_f (by decide) ⟨rfl, oa_R I⟩)))
  obtain ⟨j, hj, rfl⟩ := oa_in_c i1.2 c
  have ij : vp_in (nI j) 16 := vp_in_nI (by omega) (by omega)
  have cj : (nI j).toNatClampNeg = j := nI_clamp (by omega)
  by_cases c1 : v2 < 0
  · exact br_t c1 (ya_bv _ (fun _ => br_t rfl (br_t c1 ⟨rfl, oa_R I⟩)) (fun z => absurd c z))
  · by_cases c2 : v2 < nI nR
    · obtain ⟨r, hr, rfl⟩ := nI_of c1
      have hr2 := (nI_ltI hr (by omega)).mp c2
      refine br_f c1 (br_t c2 ⟨ij, nm_r (by rw [cj]) (ya_bv _ (fun _ => br_t rfl (br_f c1 (br_t c2 ⟨ij, nm_r (by rw [cj]) ⟨rfl, ?_⟩⟩))) (fun z => absurd c z))⟩)
      exact oa_R (ph := 0) ⟨i1, i2, by omega, i4, oa_upr hr2 i5, i6, i7, i8, fun h => absurd rfl h, fun h => by omega⟩
    · exact br_f c1 (br_f c2 (ya_bv _ (fun _ => br_t rfl (br_f c1 (br_f c2 ⟨rfl, oa_R I⟩))) (fun z => absurd c z)))
theorem i_vc_setInit {k : Nat} {u : SX} {v : SY} (I : i_Rel k u v) (hk : k + 5 ≤ 2562) (v1 : Int32) (v2 : Int32) : wpX_setInit (fun r u' => wpY_setInit (fun r' v' => r' = r ∧ i_Rel (k + 5) u' v') v v1 v2) u v1 v2 := by
  obtain ⟨V, nR, ph, cnt, na, ac, aN, reg, ini, st, acc, fol, wt, fl, sl, ch, ad, op, rg, od, len, ld, kn, mx, arx, out, ocx, sop, sd, sa, sb, accY, ady, wtY, ed, dg, cp, pl, kv, kk, my, ocy, ary, rfl, rfl, I⟩ := I
  have I' := I
  obtain ⟨i1, i2, i3, i4, i5, i6, i7, i8, i9, i10⟩ := I'
  unfold wpX_setInit wpY_setInit
  dsimp only
  refine xa_iv _ (fun c => br_f (by decide) ?_) (fun c => br_t rfl (ya_bv _ (fun z => absurd z c) (fun _ => br_f (by decide) ⟨rfl, oa_R I⟩)))
  obtain ⟨j, hj, rfl⟩ := oa_in_c i1.2 c
  have ij : vp_in (nI j) 16 := vp_in_nI (by omega) (by omega)
  have cj : (nI j).toNatClampNeg = j := nI_clamp (by omega)
  by_cases c2 : nI ph = 2
  · have p2 : ph = 2 := oa_inj (b := 2) (by omega) (by omega) c2
    refine ⟨ij, nm_e (br_t c2 (ya_bv _ (fun _ => br_t rfl ⟨ij, nm_e (br_t c2 ⟨rfl, ?_⟩)⟩) (fun z => absurd c z)))⟩
    exact oa_R (ph := 1) ⟨i1, i2, by omega, i4, i5, i6, i7, i8, fun _ => i9 (by omega), fun h => by omega⟩
  · exact ⟨ij, nm_e (br_f c2 (ya_bv _ (fun _ => br_t rfl ⟨ij, nm_e (br_f c2 ⟨rfl, oa_R I⟩)⟩) (fun z => absurd c z)))⟩
theorem i_vc_getStatement {k : Nat} {u : SX} {v : SY} (I : i_Rel k u v) (hk : k + 5 ≤ 2562) (v1 : Int32) (v2 : Int32) : wpX_getStatement (fun r => wpY_getStatement (fun r' => r' = r ∧ i_Rel (k + 5) u v) v v1 v2) u v1 v2 := by
  obtain ⟨V, nR, ph, cnt, na, ac, aN, reg, ini, st, acc, fol, wt, fl, sl, ch, ad, op, rg, od, len, ld, kn, mx, arx, out, ocx, sop, sd, sa, sb, accY, ady, wtY, ed, dg, cp, pl, kv, kk, my, ocy, ary, rfl, rfl, I⟩ := I
  have I' := I
  obtain ⟨i1, i2, i3, i4, i5, i6, i7, i8, i9, i10⟩ := I'
  unfold wpX_getStatement wpY_getStatement
  dsimp only
  by_cases c1 : v1 = -1
  · exact br_t c1 (br_t c1 ⟨rfl, oa_R I⟩)
  by_cases c2 : v1 < 0
  · exact br_f c1 (br_t c2 (br_f c1 (br_t c2 ⟨rfl, oa_R I⟩)))
  by_cases c3 : nI cnt ≤ v1
  · exact br_f c1 (br_f c2 (br_t c3 (br_f c1 (br_f c2 (br_t c3 ⟨rfl, oa_R I⟩)))))
  by_cases c4 : v2 < 0
  · exact br_f c1 (br_f c2 (br_f c3 (br_t c4 (br_f c1 (br_f c2 (br_f c3 (br_t c4 ⟨rfl, oa_R I⟩)))))))
  obtain ⟨i, hi, rfl⟩ := nI_of c2
  obtain ⟨f, hf, rfl⟩ := nI_of c4
  rw [nI_leI (by omega) hi] at c3
  have c3' : ¬ nI cnt ≤ nI i := nI_ge (by omega) (by omega)
  have s4 := i6 i (by omega)
  have ii : vp_in (nI i) 32 := vp_in_nI (by omega) (by omega)
  have ci : (nI i).toNatClampNeg = i := nI_clamp hi
  by_cases c5 : f < 4
  · have x5 : nI f < 4 := nI_lt (b := 4) c5 (by decide)
    have y5 : nI f ≤ 3 := nI_le (b := 3) (by omega) (by decide)
    have ex : nI i * 4 + nI f = nI (i * 4 + f) := by rw [show (4 : Int32) = nI 4 from rfl, pk_mul, nI_add]
    rw [ex, ci, nI_clamp (show i * 4 + f < 2 ^ 31 by omega)]
    refine br_f c1 (br_f c2 (br_f c3' (br_f c4 (br_t x5 ⟨vp_in_nI (by omega) (by omega), br_f c1 (br_f c2 (br_f c3' (br_f c4 (br_t y5 ?_))))⟩))))
    have f4 : f = 0 ∨ f = 1 ∨ f = 2 ∨ f = 3 := by omega
    rcases f4 with rfl | rfl | rfl | rfl
    · exact br_t rfl ⟨ii, s4.1.symm, oa_R I⟩
    · exact br_f (by decide) (br_t rfl ⟨ii, s4.2.1.symm, oa_R I⟩)
    · exact br_f (by decide) (br_f (by decide) (br_t rfl ⟨ii, s4.2.2.1.symm, oa_R I⟩))
    · exact br_f (by decide) (br_f (by decide) (br_f (by decide) ⟨ii, s4.2.2.2.symm, oa_R I⟩))
  · have x5 : ¬ nI f < 4 := nI_nlt (b := 4) (by omega) hf
    have y5 : ¬ nI f ≤ 3 := nI_ge (a := 3) (by omega) hf
    exact br_f c1 (br_f c2 (br_f c3' (br_f c4 (br_f x5 (br_f c1 (br_f c2 (br_f c3' (br_f c4 (br_f y5 ⟨rfl, oa_R I⟩)))))))))
theorem i_vc_getVariable {k : Nat} {u : SX} {v : SY} (I : i_Rel k u v) (hk : k + 5 ≤ 2562) (v1 : Int32) (v2 : Int32) : wpX_getVariable (fun r => wpY_getVariable (fun r' => r' = r ∧ i_Rel (k + 5) u v) v v1 v2) u v1 v2 := by
  obtain ⟨V, nR, ph, cnt, na, ac, aN, reg, ini, st, acc, fol, wt, fl, sl, ch, ad, op, rg, od, len, ld, kn, mx, arx, out, ocx, sop, sd, sa, sb, accY, ady, wtY, ed, dg, cp, pl, kv, kk, my, ocy, ary, rfl, rfl, I⟩ := I
  unfold wpX_getVariable wpY_getVariable
  dsimp only
  refine xa_iv _ (fun c => br_f (by decide) ?_) (fun c => br_t rfl (ya_bv _ (fun z => absurd z c) (fun _ => br_f (by decide) ⟨rfl, oa_R I⟩)))
  obtain ⟨j, hj, rfl⟩ := oa_in_c I.1.2 c
  have ij : vp_in (nI j) 16 := vp_in_nI (by have := I.1.2; omega) (by omega)
  refine br_c (fun c0 => ⟨ij, ya_bv _ (fun _ => br_t rfl (br_t c0 ⟨ij, rfl, oa_R I⟩)) (fun z => absurd c z)⟩) (fun c0 => br_c (fun c1 => ⟨ij, ya_bv _ (fun _ => br_t rfl (br_f c0 (br_t c1 ⟨ij, rfl, oa_R I⟩))) (fun z => absurd c z)⟩) (fun c1 => ya_bv _ (fun _ => br_t rfl (br_f c0 (br_f c1 ⟨rfl, oa_R I⟩))) (fun z => absurd c z)))
