/-! small rows of X -/
theorem oa_clamp (x : Int32) {a b : Nat} (hab : a ≤ b) (hb : b < 2 ^ 31) : ∃ V, a ≤ V ∧ V ≤ b ∧ ((nI a ≤ x ∧ x ≤ nI b ∧ x = nI V) ∨ (nI a ≤ x ∧ ¬ x ≤ nI b ∧ V = b) ∨ (¬ nI a ≤ x ∧ V = a)) := by
  by_cases h1 : nI a ≤ x
  · by_cases h2 : x ≤ nI b
    · have h0 : ¬ x < 0 := Int32.not_lt.mpr (Int32.le_trans (nI_pos' (by omega)) h1)
      obtain ⟨j, hj, rfl⟩ := nI_of h0
      rw [nI_leI (by omega) hj] at h1
      rw [nI_leI hj hb] at h2
      exact ⟨j, h1, h2, Or.inl ⟨nI_le h1 hj, nI_le h2 hb, rfl⟩⟩
    · exact ⟨b, hab, Nat.le_refl _, Or.inr (Or.inl ⟨h1, h2, rfl⟩)⟩
  · exact ⟨a, Nat.le_refl _, hab, Or.inr (Or.inr ⟨h1, rfl⟩)⟩
theorem xa_cl {x : Int32} {a b V : Nat} (h : (nI a ≤ x ∧ x ≤ nI b ∧ x = nI V) ∨ (nI a ≤ x ∧ ¬ x ≤ nI b ∧ V = b) ∨ (¬ nI a ≤ x ∧ V = a)) (post : Int32 → Prop) (hp : post (nI V)) : wpX_clamp post () x (nI a) (nI b) := by
  rcases h with ⟨h1, h2, rfl⟩ | ⟨h1, h2, rfl⟩ | ⟨h1, rfl⟩
  · exact br_t h1 (br_t h2 hp)
  · exact br_t h1 (br_f h2 hp)
  · exact br_f h1 hp
theorem oa_upr {V nR v r : Nat} {reg : Nat → Int32} (hr : r < nR) (h : ∀ v, v < V → ∃ r, r < nR ∧ reg v = nI r) : ∀ x, x < V → ∃ r', r' < nR ∧ upd reg v (nI r) x = nI r' := by
  intro x hx
  by_cases e : x = v
  · rw [e, pk_us]; exact ⟨r, hr, rfl⟩
  · rw [pk_un e]; exact h x hx
theorem oa_w1 {w : Nat} (hw : w < 2) : nI w ≤ 1 := nI_le (b := 1) (by omega) (by decide)
theorem oa_w1' {w : Nat} (hw : w < 2) : ¬ 1 < nI w := nI_nlt (a := 1) (by omega) (by decide)
theorem oa_wn {w : Nat} (hw : w < 2) : ¬ nI w < 0 := nI_pos (by omega)
section
variable {x_varCount x_regCount x_phase x_statementCount x_accessCount x_nextAddress x_accumulator : Int32} {x_register x_init x_statements x_accessVar x_follower x_weight x_firstLink x_secondLink x_chain x_address x_opcode x_instrRegister x_operand x_codeLength x_addrLoads x_knownAddress x_memory x_addressRegister x_output x_outputCount : Nat → Int32}
theorem xa_ip1 {w : Nat} (hw : w < 2) (post : Int32 → Prop) (hp : post 1) : wpX_isProgram post (x_varCount, x_regCount, x_phase, x_statementCount, x_accessCount, x_nextAddress, x_accumulator, x_register, x_init, x_statements, x_accessVar, x_follower, x_weight, x_firstLink, x_secondLink, x_chain, x_address, x_opcode, x_instrRegister, x_operand, x_codeLength, x_addrLoads, x_knownAddress, x_memory, x_addressRegister, x_output, x_outputCount) (nI w) := by
  have c : w = 0 ∨ w = 1 := by omega
  rcases c with rfl | rfl
  · exact br_t rfl hp
  · exact br_f (by decide) (br_t rfl hp)
theorem xa_ip0 {p : Int32} (h0 : ¬ p = 0) (h1 : ¬ p = 1) (post : Int32 → Prop) (hp : post 0) : wpX_isProgram post (x_varCount, x_regCount, x_phase, x_statementCount, x_accessCount, x_nextAddress, x_accumulator, x_register, x_init, x_statements, x_accessVar, x_follower, x_weight, x_firstLink, x_secondLink, x_chain, x_address, x_opcode, x_instrRegister, x_operand, x_codeLength, x_addrLoads, x_knownAddress, x_memory, x_addressRegister, x_output, x_outputCount) p := br_f h0 (br_f h1 hp)
end
def oa_ok (V o : Nat) (d a b : Int32) : Prop := (o ≤ 5 → oa_in V d ∧ oa_in V a ∧ oa_in V b) ∧ (o = 6 → oa_in V d ∧ oa_in V a) ∧ (o = 7 → oa_in V d) ∧ (o = 8 → oa_in V a)
theorem oa_8 {o : Nat} (h : o ≤ 8) : o ≤ 5 ∨ o = 6 ∨ o = 7 ∨ o = 8 := by omega
section
variable {x_varCount x_regCount x_phase x_statementCount x_accessCount x_nextAddress x_accumulator : Int32} {x_register x_init x_statements x_accessVar x_follower x_weight x_firstLink x_secondLink x_chain x_address x_opcode x_instrRegister x_operand x_codeLength x_addrLoads x_knownAddress x_memory x_addressRegister x_output x_outputCount : Nat → Int32}
theorem xa_uo {V o : Nat} {d a b : Int32} (h8 : o ≤ 8) (post : Int32 → Prop) (h1 : oa_ok V o d a b → post 1) (h0 : ¬ oa_ok V o d a b → post 0) : wpX_usesOnlyVariables post (nI V, x_regCount, x_phase, x_statementCount, x_accessCount, x_nextAddress, x_accumulator, x_register, x_init, x_statements, x_accessVar, x_follower, x_weight, x_firstLink, x_secondLink, x_chain, x_address, x_opcode, x_instrRegister, x_operand, x_codeLength, x_addrLoads, x_knownAddress, x_memory, x_addressRegister, x_output, x_outputCount) (nI o) d a b := by
  unfold wpX_usesOnlyVariables
  dsimp only
  rcases oa_8 h8 with h | rfl | rfl | rfl
  · refine br_t (nI_lt (b := 6) (by omega) (by decide)) (xa_iv _ (fun c1 => br_f (by decide) (xa_iv _ (fun c2 => br_f (by decide) (xa_iv _ (fun c3 => br_f (by decide) (h1 ?_)) (fun c3 => br_t rfl (h0 ?_)))) (fun c2 => br_t rfl (h0 ?_)))) (fun c1 => br_t rfl (h0 ?_)))
    · exact ⟨fun _ => ⟨c1, c2, c3⟩, fun z => by omega, fun z => by omega, fun z => by omega⟩
    · exact fun z => c3 (z.1 h).2.2
    · exact fun z => c2 (z.1 h).2.1
    · exact fun z => c1 (z.1 h).1
  · refine br_f (by decide) (br_f (by decide) (br_t rfl (xa_iv _ (fun c1 => br_f (by decide) (xa_iv _ (fun c2 => br_f (by decide) (h1 ?_)) (fun c2 => br_t rfl (h0 ?_)))) (fun c1 => br_t rfl (h0 ?_)))))
    · exact ⟨fun z => by omega, fun _ => ⟨c1, c2⟩, fun z => by omega, fun z => by omega⟩
    · exact fun z => c2 (z.2.1 rfl).2
    · exact fun z => c1 (z.2.1 rfl).1
  · refine br_f (by decide) (br_f (by decide) (br_f (by decide) (br_t rfl (xa_iv _ (fun c1 => ⟨rfl, h1 ?_⟩) (fun c1 => ⟨rfl, h0 ?_⟩)))))
    · exact ⟨fun z => by omega, fun z => by omega, fun _ => c1, fun z => by omega⟩
    · exact fun z => c1 (z.2.2.1 rfl)
  · refine br_f (by decide) (br_f (by decide) (br_f (by decide) (br_f (by decide) (br_t rfl (xa_iv _ (fun c1 => ⟨rfl, h1 ?_⟩) (fun c1 => ⟨rfl, h0 ?_⟩))))))
    · exact ⟨fun z => by omega, fun z => by omega, fun z => by omega, fun _ => c1⟩
    · exact fun z => c1 (z.2.2.2 rfl)
theorem xa_st {c : Nat} {o d a b : Int32} (hc : c < 32) (post : St2 → Prop) (hp : post (x_varCount, x_regCount, x_phase, x_statementCount, x_accessCount, x_nextAddress, x_accumulator, x_register, x_init, (upd (upd (upd (upd x_statements (c * 4) o) (c * 4 + 1) d) (c * 4 + 2) a) (c * 4 + 3) b), x_accessVar, x_follower, x_weight, x_firstLink, x_secondLink, x_chain, x_address, x_opcode, x_instrRegister, x_operand, x_codeLength, x_addrLoads, x_knownAddress, x_memory, x_addressRegister, x_output, x_outputCount)) : wpX_storeStatement post (x_varCount, x_regCount, x_phase, x_statementCount, x_accessCount, x_nextAddress, x_accumulator, x_register, x_init, x_statements, x_accessVar, x_follower, x_weight, x_firstLink, x_secondLink, x_chain, x_address, x_opcode, x_instrRegister, x_operand, x_codeLength, x_addrLoads, x_knownAddress, x_memory, x_addressRegister, x_output, x_outputCount) (nI c) o d a b := by
  have e0 : nI (c * 4) + 0 = nI (c * 4) := Int32.add_zero _
  have e1 : nI (c * 4) + 1 = nI (c * 4 + 1) := nI_1 _
  have e2 : nI (c * 4) + 2 = nI (c * 4 + 2) := nI_add (c * 4) 2
  have e3 : nI (c * 4) + 3 = nI (c * 4 + 3) := nI_add (c * 4) 3
  refine nm_r (show _ = nI (c * 4) by rw [show (4 : Int32) = nI 4 from rfl, pk_mul]) ?_
  rw [e0, e1, e2, e3, nI_clamp (show c * 4 < 2 ^ 31 by omega), nI_clamp (show c * 4 + 1 < 2 ^ 31 by omega), nI_clamp (show c * 4 + 2 < 2 ^ 31 by omega), nI_clamp (show c * 4 + 3 < 2 ^ 31 by omega)]
  exact ⟨vp_in_nI (by omega) (by omega), nm_e ⟨vp_in_nI (by omega) (by omega), nm_e ⟨vp_in_nI (by omega) (by omega), nm_e ⟨vp_in_nI (by omega) (by omega), nm_e hp⟩⟩⟩⟩
theorem xa_a1 {n : Nat} {x : Int32} (hn : n < 96) (post : St2 → Prop) (hp : post (x_varCount, x_regCount, x_phase, x_statementCount, (nI (n + 1)), x_nextAddress, x_accumulator, x_register, x_init, x_statements, upd x_accessVar n x, x_follower, x_weight, x_firstLink, x_secondLink, x_chain, x_address, x_opcode, x_instrRegister, x_operand, x_codeLength, x_addrLoads, x_knownAddress, x_memory, x_addressRegister, x_output, x_outputCount)) : wpX_appendAccess post (x_varCount, x_regCount, x_phase, x_statementCount, nI n, x_nextAddress, x_accumulator, x_register, x_init, x_statements, x_accessVar, x_follower, x_weight, x_firstLink, x_secondLink, x_chain, x_address, x_opcode, x_instrRegister, x_operand, x_codeLength, x_addrLoads, x_knownAddress, x_memory, x_addressRegister, x_output, x_outputCount) x :=
  ⟨vp_in_nI hn (by omega), nm_r (show _ = upd x_accessVar n x by rw [nI_clamp (by omega)]) (nm_r (nI_1 n) hp)⟩
theorem oa_vin {V : Nat} {x : Int32} (hV : V ≤ 16) (h : oa_in V x) : oa_vr V x := oa_in_c hV h
theorem xa_as {V o n : Nat} {d a b : Int32} (hV : V ≤ 16) (h8 : o ≤ 8) (hn : n + 3 ≤ 96) (ok : oa_ok V o d a b) (post : St2 → Prop)
    (hp : ∀ P, (∀ j, j < n → P j = x_accessVar j) → oa_ST V (nI o) d a b P n → post (x_varCount, x_regCount, x_phase, x_statementCount, (nI (n + oa_na (nI o))), x_nextAddress, x_accumulator, x_register, x_init, x_statements, P, x_follower, x_weight, x_firstLink, x_secondLink, x_chain, x_address, x_opcode, x_instrRegister, x_operand, x_codeLength, x_addrLoads, x_knownAddress, x_memory, x_addressRegister, x_output, x_outputCount)) : wpX_appendAccesses post (x_varCount, x_regCount, x_phase, x_statementCount, nI n, x_nextAddress, x_accumulator, x_register, x_init, x_statements, x_accessVar, x_follower, x_weight, x_firstLink, x_secondLink, x_chain, x_address, x_opcode, x_instrRegister, x_operand, x_codeLength, x_addrLoads, x_knownAddress, x_memory, x_addressRegister, x_output, x_outputCount) (nI o) d a b := by
  unfold wpX_appendAccesses
  dsimp only
  obtain ⟨k5, k6, k7, k8⟩ := ok
  rcases oa_8 h8 with h | rfl | rfl | rfl
  · obtain ⟨c1, c2, c3⟩ := k5 h
    have n7 : ¬ nI o = 7 := fun z => by have := oa_inj (b := 7) (by omega) (by omega) z; omega
    have n8 : ¬ nI o = 8 := fun z => by have := oa_inj (b := 8) (by omega) (by omega) z; omega
    rw [oa_na5 h] at hp
    refine br_f n7 (xa_a1 (by omega) _ ?_)
    refine br_f (nI_nlt (a := 5) h (by decide)) (xa_a1 (by omega) _ ?_)
    refine br_f n8 (xa_a1 (by omega) _ (hp (upd (upd (upd x_accessVar n a) (n + 1) b) (n + 2) d) ?_ ?_))
    · intro j hj
      rw [pk_un (by omega), pk_un (by omega), pk_un (by omega)]
    · refine Or.inl ⟨o, h, rfl, oa_vin hV c1, oa_vin hV c2, oa_vin hV c3, ?_, ?_, ?_⟩
      · rw [pk_un (by omega), pk_un (by omega), pk_us]
      · rw [pk_un (by omega), pk_us]
      · exact pk_us
  · obtain ⟨c1, c2⟩ := k6 rfl
    refine br_f (by decide) (xa_a1 (by omega) _ ?_)
    refine br_t (by decide) ?_
    refine br_f (by decide) (xa_a1 (by omega) _ (hp (upd (upd x_accessVar n a) (n + 1) d) ?_ ?_))
    · intro j hj
      rw [pk_un (by omega), pk_un (by omega)]
    · refine Or.inr (Or.inl ⟨rfl, oa_vin hV c1, oa_vin hV c2, ?_, ?_⟩)
      · rw [pk_un (by omega), pk_us]
      · exact pk_us
  · have c1 := k7 rfl
    refine br_t rfl ?_
    refine br_t (by decide) ?_
    refine br_f (by decide) (xa_a1 (by omega) _ (hp (upd x_accessVar n d) ?_ ?_))
    · intro j hj
      rw [pk_un (by omega)]
    · exact Or.inr (Or.inr (Or.inl ⟨rfl, oa_vin hV c1, pk_us⟩))
  · have c1 := k8 rfl
    refine br_f (by decide) (xa_a1 (by omega) _ ?_)
    refine br_t (by decide) ?_
    refine br_t rfl (hp (upd x_accessVar n a) ?_ ?_)
    · intro j hj
      rw [pk_un (by omega)]
    · exact Or.inr (Or.inr (Or.inr ⟨rfl, oa_vin hV c1, pk_us⟩))
end
def oa_kz (k : oa_K) : oa_K := (k.1, k.2.1, k.2.2.1, k.2.2.2.1, k.2.2.2.2.1, k.2.2.2.2.2.1, k.2.2.2.2.2.2.1, oa_fill k.2.2.2.2.2.2.2 (fun _ => 0) 4)
theorem oa_kz_0 {nR : Nat} (hR : nR ≤ 4) (k : oa_K) : ∀ r, r < nR → (oa_kz k).2.2.2.2.2.2.2 r = 0 := fun r hr => (oa_fill_lt (by omega) : oa_fill k.2.2.2.2.2.2.2 (fun _ => 0) 4 r = 0)
section
variable {x_varCount x_regCount x_phase x_statementCount x_accessCount x_nextAddress x_accumulator : Int32} {x_register x_init x_statements x_accessVar x_follower x_weight x_firstLink x_secondLink x_chain x_address x_opcode x_instrRegister x_operand x_codeLength x_addrLoads x_knownAddress x_memory x_addressRegister x_output x_outputCount : Nat → Int32}
theorem xa_compile {V nR cnt : Nat} {sop sd sa sb e g p ay pl : Nat → Int32} {Q : oa_Q} {B : oa_B} {k K1 K2 : oa_K} (hV : V ≤ 16) (hR : 0 < nR) (hR4 : nR ≤ 4) (hc : cnt ≤ 32) (ss : oa_SS V cnt sop sd sa sb x_accessVar) (sr : oa_SR x_statements sop sd sa sb)
    (hQ : Q = oa_jw (oa_wA (oa_fill x_weight (fun _ => 0) 256) x_register x_accessVar (oa_ps sop cnt) (oa_ps sop cnt)) V 95 (oa_fill x_firstLink (fun _ => -1) V, oa_fill x_secondLink (fun _ => -1) V, oa_fill x_chain nI V, e, g, p))
    (hl : oa_LR V Q.1 Q.2.1) (hB : oa_aw x_register Q.1 Q.2.1 Q.2.2.1 V nR 0 (oa_fill x_address (fun _ => -1) V, ay, pl, 0) = B) (env : oa_env V nR (oa_ps sop cnt) x_register x_accessVar B.1)
    (hK1 : oa_tb x_register x_accessVar B.1 sop sa (oa_ps sop cnt) 0 cnt (oa_k0 nR 0 k (oa_kz k)) = K1) (hK2 : oa_tb x_register x_accessVar B.1 sop sa (oa_ps sop cnt) 1 cnt (oa_k0 nR 1 K1 (oa_kz K1)) = K2) (post : Int32 → St2 → Prop)
    (hp : post (K2.2.2.2.2.1 1) (nI V, nI nR, 1, nI cnt, (nI (oa_ps sop cnt)), nI B.2.2.2, x_accumulator, x_register, x_init, x_statements, x_accessVar, (oa_fill x_follower (oa_fv x_register x_accessVar (oa_ps sop cnt)) (oa_ps sop cnt)), (oa_wA (oa_fill x_weight (fun _ => 0) 256) x_register x_accessVar (oa_ps sop cnt) (oa_ps sop cnt)), Q.1, Q.2.1, Q.2.2.1, B.1, K2.1, K2.2.1, K2.2.2.1, K2.2.2.2.1, K2.2.2.2.2.1, K2.2.2.2.2.2.1, x_memory, x_addressRegister, x_output, x_outputCount)) :
    wpX_compile post (nI V, nI nR, x_phase, nI cnt, (nI (oa_ps sop cnt)), x_nextAddress, x_accumulator, x_register, x_init, x_statements, x_accessVar, x_follower, x_weight, x_firstLink, x_secondLink, x_chain, x_address, k.1, k.2.1, k.2.2.1, k.2.2.2.1, k.2.2.2.2.1, k.2.2.2.2.2.1, x_memory, x_addressRegister, x_output, x_outputCount) := by
  have hn : oa_ps sop cnt ≤ 96 := by have := oa_ps_le sop cnt; omega
  have ha : ∀ i, i < oa_ps sop cnt → ∃ k, k < 16 ∧ x_accessVar i = nI k := by
    intro i hi
    obtain ⟨k, hk, ek⟩ := oa_SS_vr cnt ss i hi
    exact ⟨k, by omega, ek⟩
  have hF : ∀ j, j < oa_ps sop cnt → oa_fill x_follower (oa_fv x_register x_accessVar (oa_ps sop cnt)) (oa_ps sop cnt) j = oa_fv x_register x_accessVar (oa_ps sop cnt) j := fun j hj => oa_fill_lt hj
  unfold wpX_compile
  refine xa_ff hn ha _ ?_
  refine xa_cw hn ha hF _ ?_
  refine xa_jc hV e g p _ Q hQ ?_
  refine xa_aa hV hR4 hl ay pl _ B hB ?_
  refine xa_tb (w := 0) (k := k) (kk' := oa_kz k) (by omega) hR hR4 hc ss sr env hF (oa_kz_0 hR4 k) _ hK1 ?_
  refine xa_tb (w := 1) (k := K1) (kk' := oa_kz K1) (by omega) hR hR4 hc ss sr env hF (oa_kz_0 hR4 K1) _ hK2 ?_
  exact hp
end
theorem oa_q0_I {V : Nat} {fl sl ch ed dg cp : Nat → Int32} (hV : V ≤ 16) : oa_QI V (oa_fill fl (fun _ => -1) V, oa_fill sl (fun _ => -1) V, oa_fill ch nI V, oa_fill ed (fun _ => 0) 256, oa_fill dg (fun _ => 0) 16, oa_fill cp nI 16) := by
  refine ⟨oa_G0 hV (fun x hx => show oa_fill fl (fun _ => -1) V x = -1 from oa_fill_lt hx) (fun x hx => show oa_fill sl (fun _ => -1) V x = -1 from oa_fill_lt hx) (fun x hx => show oa_fill ch nI V x = nI x from oa_fill_lt hx), fun x hx => Or.inl ⟨show oa_fill fl (fun _ => -1) V x = -1 from oa_fill_lt hx, show oa_fill dg (fun _ => 0) 16 x = 0 from oa_fill_lt (by omega)⟩, fun x y hx hy => ⟨fun h => absurd (show oa_fill ed (fun _ => 0) 256 (x * 16 + y) = 0 from oa_fill_lt (by omega)) h, fun h => ?_⟩, fun x hx => ?_⟩
  · rcases h with h | h
    · have h' : oa_fill fl (fun _ => -1) V x = nI y := h
      rw [oa_fill_lt hx] at h'; exact absurd h'.symm (oa_ne (by omega))
    · have h' : oa_fill sl (fun _ => -1) V x = nI y := h
      rw [oa_fill_lt hx] at h'; exact absurd h'.symm (oa_ne (by omega))
  · show oa_fill cp nI 16 x = oa_fill ch nI V x
    rw [oa_fill_lt (by omega), oa_fill_lt hx]
theorem oa_b0_I {V : Nat} {f s ad ay pl : Nat → Int32} (hV : V ≤ 16) : oa_BI V f s (oa_fill ad (fun _ => -1) V, ay, oa_fill pl (fun _ => 0) 16, 0) := by
  have z : ∀ x, x < V → oa_fill pl (fun _ => 0) 16 x = 0 := fun x hx => oa_fill_lt (by omega)
  exact ⟨⟨(oa_cn_0 V z).symm, fun x hx _ => (oa_fill_lt hx : oa_fill ad (fun _ => -1) V x = -1), fun x hx h => absurd (z x hx) h, fun a ha => absurd ha (Nat.not_lt_zero a), fun x y hx _ h => absurd (z x hx) h⟩, fun x y hx _ h => absurd (z x hx) h⟩
