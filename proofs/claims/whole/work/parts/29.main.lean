/-! compile and run -/
theorem oa_q0_I {V : Nat} {fl sl ch ed dg cp : Nat → Int32} (hV : V ≤ 16) : oa_QI V (oa_fill fl (fun _ => -1) V, oa_fill sl (fun _ => -1) V, oa_fill ch nI V, oa_fill ed (fun _ => 0) 256, oa_fill dg (fun _ => 0) 16, oa_fill cp nI 16) := by
  refine ⟨oa_G0 hV (fun x hx => show oa_fill fl (fun _ => -1) V x = -1 from oa_fill_lt hx) (fun x hx => show oa_fill sl (fun _ => -1) V x = -1 from oa_fill_lt hx) (fun x hx => show oa_fill ch nI V x = nI x from oa_fill_lt hx), fun x hx => Or.inl ⟨show oa_fill fl (fun _ => -1) V x = -1 from oa_fill_lt hx, show oa_fill dg (fun _ => 0) 16 x = 0 from oa_fill_lt (by omega)⟩, fun x y hx hy => ⟨fun h => absurd (show oa_fill ed (fun _ => 0) 256 (x * 16 + y) = 0 from oa_fill_lt (by omega)) h, fun h => ?_⟩, fun x hx => ?_⟩
  · rcases h with h | h
    · have h' : oa_fill fl (fun _ => -1) V x = nI y := h
      rw [oa_fill_lt hx] at h'; exact absurd h'.symm (oa_ne (by omega))
    · have h' : oa_fill sl (fun _ => -1) V x = nI y := h
      rw [oa_fill_lt hx] at h'; exact absurd h'.symm (oa_ne (by omega))
  · show oa_fill cp nI 16 x = oa_fill ch nI V x
    rw [oa_fill_lt (by omega), oa_fill_lt hx]
theorem oa_b0_I {V : Nat} {f s ad ay pl : Nat → Int32} (hV : V ≤ 16) : oa_BI V f s (oa_fill ad (fun _ => -1) V, ay, oa_fill pl (fun _ => 0) 16, 0) := by
  have z : ∀ x, x < V → oa_fill pl (fun _ => 0) 16 x = 0 := fun x hx => oa_fill_lt (by omega)
  exact ⟨⟨(oa_cn_0 V z).symm, fun x hx _ => (oa_fill_lt hx : oa_fill ad (fun _ => -1) V x = -1), fun x hx h => absurd (z x hx) h, fun a ha => absurd ha (Nat.not_lt_zero a)⟩, fun x y hx _ h => absurd (z x hx) h⟩
theorem i_vc_compile {k : Nat} {u : SX} {v : SY} (I : i_Rel k u v) (hk : k + 5 ≤ 2562) : wpX_compile (fun r u' => wpY_compile (fun r' v' => r' = r ∧ i_Rel (k + 5) u' v') v) u := by
  obtain ⟨V, nR, ph, cnt, na, ac, aN, reg, ini, st, acc, fol, wt, fl, sl, ch, ad, op, rg, od, len, ld, kn, mx, arx, out, ocx, sop, sd, sa, sb, accY, ady, wtY, ed, dg, cp, pl, kv, kk, my, ocy, ary, rfl, rfl, i1, i2, i3, i4, i5, i6, i7, i8, i9, i10⟩ := I
  have hV : V ≤ 16 := i1.2
  have hn : oa_ps sop cnt ≤ 96 := by have := oa_ps_le sop cnt; omega
  have ha : ∀ i, i < oa_ps sop cnt → ∃ k, k < 16 ∧ acc i = nI k := by
    intro i hi
    obtain ⟨k, hk, ek⟩ := oa_SS_vr cnt i7 i hi
    exact ⟨k, by omega, ek⟩
  have hqi := oa_q0_I (fl := fl) (sl := sl) (ch := ch) (ed := ed) (dg := dg) (cp := cp) hV
  have hw0 : ∀ p, p < 256 → oa_fill wt (fun _ => 0) 256 p = 0 := fun p hp => oa_fill_lt hp
  have hW : ∀ u v, u < v → v < V → oa_wA (oa_fill wt (fun _ => 0) 256) reg acc (oa_ps sop cnt) (oa_ps sop cnt) (u * 16 + v) = oa_wY reg acc V (oa_ps sop cnt) (u * 16 + v) := fun u v huv hv => oa_wA_wY hV hw0 ha huv hv
  obtain ⟨Q, hQ⟩ : ∃ Q, Q = oa_jw (oa_wA (oa_fill wt (fun _ => 0) 256) reg acc (oa_ps sop cnt) (oa_ps sop cnt)) V 95 (oa_fill fl (fun _ => -1) V, oa_fill sl (fun _ => -1) V, oa_fill ch nI V, oa_fill ed (fun _ => 0) 256, oa_fill dg (fun _ => 0) 16, oa_fill cp nI 16) := ⟨_, rfl⟩
  have hqQ : oa_QI V Q := by rw [hQ]; exact oa_jw_I hV 95 _ hqi
  have hbi := oa_b0_I (f := Q.1) (s := Q.2.1) (ad := ad) (ay := ady) (pl := pl) hV
  obtain ⟨B, hB⟩ : ∃ B, oa_aw reg Q.1 Q.2.1 Q.2.2.1 V nR 0 (oa_fill ad (fun _ => -1) V, ady, oa_fill pl (fun _ => 0) 16, 0) = B := ⟨_, rfl⟩
  obtain ⟨bi, _, ball⟩ := oa_aw_I (reg := reg) hV hqQ.1 nR 0 _ hbi
  rw [hB] at bi ball
  have hall : ∀ x, x < V → B.2.2.1 x ≠ 0 := by
    intro x hx
    obtain ⟨r, hr, er⟩ := i5 x hx
    exact ball x r hx (by omega) (by omega) er
  obtain ⟨p1, p2⟩ := oa_A_all bi.1 hall
  have env : oa_env V nR (oa_ps sop cnt) reg acc B.1 := ⟨hV, i2.2, hn, i5, fun j hj => oa_SS_vr cnt i7 j hj, fun v hv => (p1 v hv).2⟩
  obtain ⟨K1, hK1⟩ : ∃ K1, oa_tb reg acc B.1 sop sa (oa_ps sop cnt) 0 cnt (oa_k0 nR 0 (op, rg, od, len, ld, kn, kv, kk) (oa_kz (op, rg, od, len, ld, kn, kv, kk))) = K1 := ⟨_, rfl⟩
  obtain ⟨K2, hK2⟩ : ∃ K2, oa_tb reg acc B.1 sop sa (oa_ps sop cnt) 1 cnt (oa_k0 nR 1 K1 (oa_kz K1)) = K2 := ⟨_, rfl⟩
  obtain ⟨L1, l1, k1⟩ := oa_tb_I (w := 0) i2.1 i4 i7 env (oa_k0_I (k := (op, rg, od, len, ld, kn, kv, kk)) (oa_kz_0 i2.2 (op, rg, od, len, ld, kn, kv, kk))) cnt (Nat.le_refl cnt)
  rw [hK1] at k1
  obtain ⟨L2, l2, k2⟩ := oa_tb_I (w := 1) i2.1 i4 i7 env (oa_k0_I (k := K1) (oa_kz_0 i2.2 K1)) cnt (Nat.le_refl cnt)
  rw [hK2] at k2
  have hC : ∀ w, w < 2 → ∃ L, L ≤ 192 ∧ oa_CI nR w L 32 K2.1 K2.2.1 K2.2.2.2.1 := by
    intro w hw
    have c : w = 0 ∨ w = 1 := by omega
    rcases c with rfl | rfl
    · exact ⟨L1, by omega, k2.1.2 0 L1 32 (by omega) (by omega) (oa_CI_up k1.1.1 i4)⟩
    · exact ⟨L2, by omega, oa_CI_up k2.1.1 i4⟩
  refine xa_compile (k := (op, rg, od, len, ld, kn, kv, kk)) hV i2.1 i2.2 i4 i7 i6 hQ (oa_G_LR hqQ.1) hB env hK1 hK2 _ ?_
  refine ya_compile (k := (op, rg, od, len, ld, kn, kv, kk)) hV (by omega) i2.1 i2.2 i4 i7 rfl hqi hW hQ ⟨rfl, rfl, rfl⟩ hbi hB env (fun v hv => (p1 v hv).1) hK1 hK2 _ (fun A => ⟨rfl, ?_⟩)
  exact oa_R (ph := 1) ⟨i1, i2, by omega, i4, i5, i6, i7, i8, fun _ => ⟨p1, p2, hC⟩, fun h => by omega⟩
theorem i_vc_run {k : Nat} {u : SX} {v : SY} (I : i_Rel k u v) (hk : k + 5 ≤ 2562) : wpX_run (fun r u' => wpY_run (fun r' v' => r' = r ∧ i_Rel (k + 5) u' v') v) u := by
  obtain ⟨V, nR, ph, cnt, na, ac, aN, reg, ini, st, acc, fol, wt, fl, sl, ch, ad, op, rg, od, len, ld, kn, mx, arx, out, ocx, sop, sd, sa, sb, accY, ady, wtY, ed, dg, cp, pl, kv, kk, my, ocy, ary, rfl, rfl, I⟩ := I
  have I' := I
  obtain ⟨i1, i2, i3, i4, i5, i6, i7, i8, i9, i10⟩ := I'
  have hV : V ≤ 16 := i1.2
  unfold wpX_run wpY_run
  dsimp only
  by_cases c0 : nI ph = 0
  · exact br_t c0 (br_t c0 ⟨rfl, oa_R I⟩)
  have p0 : ph ≠ 0 := fun z => c0 (by rw [z]; rfl)
  obtain ⟨p1, p2, hC⟩ := i9 p0
  obtain ⟨L0, l0, ci0⟩ := hC 0 (by omega)
  obtain ⟨L1, l1, ci1⟩ := hC 1 (by omega)
  have cell1 : ∀ v, v < V → (ad v).toNatClampNeg < V ∧ ad v = nI (ad v).toNatClampNeg := by
    intro v hv
    obtain ⟨_, a, ha, ea⟩ := p1 v hv
    have : (ad v).toNatClampNeg = a := by rw [ea]; exact nI_clamp (by omega)
    rw [this]; exact ⟨ha, ea⟩
  have mi0 := oa_m0_I (w := 0) (nR := nR) (ini := ini) (op := op) (cell := fun v => v) (m := (mx, arx, ac, out, ocx, my, ary, ocy)) hV i2.2 i8 (fun v hv => hv) (fun a ha => ⟨a, ha, rfl⟩)
  obtain ⟨M0, hM0⟩ : ∃ M0, oa_xs V 0 op rg od L0 (oa_m0 nR 0 V (fun v => v) ini (mx, arx, ac, out, ocx, my, ary, ocy)) = M0 := ⟨_, rfl⟩
  have me0 := oa_xs_I (rg := rg) (od := od) mi0 L0
  rw [hM0] at me0
  have mi1 := oa_m0_I (w := 1) (nR := nR) (ini := ini) (op := op) (cell := fun v => (ad v).toNatClampNeg) (m := M0) hV i2.2 me0.2.1 (fun v hv => (cell1 v hv).1) (fun a ha => by
    obtain ⟨v, hv, ev⟩ := p2 a ha
    exact ⟨v, hv, by show (ad v).toNatClampNeg = a; rw [ev]; exact nI_clamp (by omega)⟩)
  obtain ⟨M1, hM1⟩ : ∃ M1, oa_xs V 1 op rg od L1 (oa_m0 nR 1 V (fun v => (ad v).toNatClampNeg) ini M0) = M1 := ⟨_, rfl⟩
  have me1 := oa_xs_I (rg := rg) (od := od) mi1 L1
  rw [hM1] at me1
  have eo : ∀ w, w < 2 → M1.2.2.2.2.2.2.2 w = M1.2.2.2.2.1 w := by
    intro w hw
    have c : w = 0 ∨ w = 1 := by omega
    rcases c with rfl | rfl
    · have h := me1.2.2.2.2 0 (by omega)
      rw [h.1, h.2, me0.2.2.1, me0.2.2.2.1]
    · rw [me1.2.2.1, me1.2.2.2.1]
  have eq : ∀ w, w < 2 → ∃ q, q ≤ 32 ∧ M1.2.2.2.2.1 w = nI q := by
    intro w hw
    have c : w = 0 ∨ w = 1 := by omega
    rcases c with rfl | rfl
    · have h := me1.2.2.2.2 0 (by omega)
      exact ⟨_, ci0.2.2, by rw [h.1, me0.2.2.1]⟩
    · exact ⟨_, ci1.2.2, me1.2.2.1⟩
  refine br_f c0 ?_
  refine xa_rp (w := 0) (m := (mx, arx, ac, out, ocx, my, ary, ocy)) hV i2.2 (by omega) l0 ci0 (fun v hv => ⟨hv, if_pos rfl⟩) mi0 _ hM0 ?_
  refine xa_rp (w := 1) (m := M0) hV i2.2 (by omega) l1 ci1 (fun v hv => ⟨(cell1 v hv).1, (if_neg (by omega)).trans (cell1 v hv).2⟩) mi1 _ hM1 ?_
  refine br_f c0 ?_
  refine ya_rp (w := 0) (m := (mx, arx, ac, out, ocx, my, ary, ocy)) hV i2.2 (by omega) l0 ci0 (fun v hv => ⟨hv, if_pos rfl⟩) mi0 _ hM0 ?_
  refine ya_rp (w := 1) (m := M0) hV i2.2 (by omega) l1 ci1 (fun v hv => ⟨(cell1 v hv).1, (if_neg (by omega)).trans ((p1 v hv).1.trans (cell1 v hv).2)⟩) mi1 _ hM1 ?_
  exact ⟨eo 1 (by omega), oa_R (ph := 2) (ocx := M1.2.2.2.2.1) (ocy := M1.2.2.2.2.2.2.2) (mx := M1.1) (my := M1.2.2.2.2.2.1) (out := M1.2.2.2.1) (ac := M1.2.2.1) (arx := M1.2.1) (ary := M1.2.2.2.2.2.2.1) ⟨i1, i2, by omega, i4, i5, i6, i7, me1.2.1, fun _ => ⟨p1, p2, hC⟩, fun _ w hw => ⟨eo w hw, eq w hw⟩⟩⟩
