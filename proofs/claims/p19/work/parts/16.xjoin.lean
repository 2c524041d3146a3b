/-! X: joins -/
abbrev oa_JX : Type := Int32 → Int32 → Int32 → Int32 → Int32 → Int32 → Int32 → Int32 → (Nat → Int32) → (Nat → Int32) → (Nat → Int32) → (Nat → Int32) → (Nat → Int32) → (Nat → Int32) → (Nat → Int32) → (Nat → Int32) → (Nat → Int32) → (Nat → Int32) → (Nat → Int32) → (Nat → Int32) → (Nat → Int32) → (Nat → Int32) → (Nat → Int32) → (Nat → Int32) → (Nat → Int32) → (Nat → Int32) → (Nat → Int32) → (Nat → Int32) → Prop
section
variable {x_varCount x_regCount x_phase x_statementCount x_accessCount x_nextAddress x_accumulator : Int32} {x_register x_init x_statements x_accessVar x_follower x_weight x_firstLink x_secondLink x_chain x_address x_opcode x_instrRegister x_operand x_codeLength x_addrLoads x_knownAddress x_memory x_addressRegister x_output x_outputCount : Nat → Int32}
theorem xa_cj {u v : Nat} (hu : u < 16) (hv : v < 16) (post : Int32 → Prop) (h1 : (x_secondLink u = -1 ∧ x_secondLink v = -1 ∧ x_chain u ≠ x_chain v) → post 1) (h0 : ¬ (x_secondLink u = -1 ∧ x_secondLink v = -1 ∧ x_chain u ≠ x_chain v) → post 0) :
    wpX_canJoin post (x_varCount, x_regCount, x_phase, x_statementCount, x_accessCount, x_nextAddress, x_accumulator, x_register, x_init, x_statements, x_accessVar, x_follower, x_weight, x_firstLink, x_secondLink, x_chain, x_address, x_opcode, x_instrRegister, x_operand, x_codeLength, x_addrLoads, x_knownAddress, x_memory, x_addressRegister, x_output, x_outputCount) (nI u) (nI v) := by
  have iu : vp_in (nI u) 16 := vp_in_nI hu (by omega)
  have iv : vp_in (nI v) 16 := vp_in_nI hv (by omega)
  unfold wpX_canJoin
  dsimp only
  rw [nI_clamp (show u < 2 ^ 31 by omega), nI_clamp (show v < 2 ^ 31 by omega)]
  exact ⟨iu, br_c (fun a => ⟨iv, br_c (fun b => ⟨iu, iv, br_c (fun c => h0 (fun z => z.2.2 c)) (fun c => h1 ⟨a, b, c⟩)⟩) (fun b => h0 (fun z => b z.2.1))⟩) (fun a => h0 (fun z => a z.1))⟩
theorem xa_lk {u v : Nat} (hu : u < 16) (post : St2 → Prop) (h : post (x_varCount, x_regCount, x_phase, x_statementCount, x_accessCount, x_nextAddress, x_accumulator, x_register, x_init, x_statements, x_accessVar, x_follower, x_weight, oa_lf x_firstLink u v, oa_ls x_firstLink x_secondLink u v, x_chain, x_address, x_opcode, x_instrRegister, x_operand, x_codeLength, x_addrLoads, x_knownAddress, x_memory, x_addressRegister, x_output, x_outputCount)) : wpX_link post (x_varCount, x_regCount, x_phase, x_statementCount, x_accessCount, x_nextAddress, x_accumulator, x_register, x_init, x_statements, x_accessVar, x_follower, x_weight, x_firstLink, x_secondLink, x_chain, x_address, x_opcode, x_instrRegister, x_operand, x_codeLength, x_addrLoads, x_knownAddress, x_memory, x_addressRegister, x_output, x_outputCount) (nI u) (nI v) := by
  have iu : vp_in (nI u) 16 := vp_in_nI hu (by omega)
  unfold wpX_link
  dsimp only
  rw [nI_clamp (show u < 2 ^ 31 by omega)]
  by_cases c : x_firstLink u = -1
  · unfold oa_lf oa_ls at h
    rw [if_pos c, if_pos c] at h
    exact ⟨iu, br_t c ⟨iu, nm_e h⟩⟩
  · unfold oa_lf oa_ls at h
    rw [if_neg c, if_neg c] at h
    exact ⟨iu, br_f c ⟨iu, nm_e h⟩⟩
theorem xa_jn_l {V : Nat} (hV : V ≤ 16) (a b : Int32) (post : St2 → Prop) (hp : post (nI V, x_regCount, x_phase, x_statementCount, x_accessCount, x_nextAddress, x_accumulator, x_register, x_init, x_statements, x_accessVar, x_follower, x_weight, x_firstLink, x_secondLink, oa_rn x_chain a b V, x_address, x_opcode, x_instrRegister, x_operand, x_codeLength, x_addrLoads, x_knownAddress, x_memory, x_addressRegister, x_output, x_outputCount)) :
    ∀ d i fu, i + d = V → d < fu → wX_join_30 post b a (nI V) x_regCount x_phase x_statementCount x_accessCount x_nextAddress x_accumulator fu (nI i) x_register x_init x_statements x_accessVar x_follower x_weight x_firstLink x_secondLink (oa_rn x_chain a b i) x_address x_opcode x_instrRegister x_operand x_codeLength x_addrLoads x_knownAddress x_memory x_addressRegister x_output x_outputCount := by
  intro d
  induction d with
  | zero =>
    intro i fu hi hf
    obtain ⟨fu, rfl⟩ : ∃ f, fu = f + 1 := ⟨fu - 1, by omega⟩
    have e : i = V := by omega
    subst e
    exact br_t (nI_le (by omega) (by omega)) hp
  | succ d ih =>
    intro i fu hi hf
    obtain ⟨fu, rfl⟩ : ∃ f, fu = f + 1 := ⟨fu - 1, by omega⟩
    have nx := ih (i + 1) fu (by omega) (by omega)
    have vi : vp_in (nI i) 16 := vp_in_nI (by omega) (by omega)
    refine br_f (nI_ge (by omega) (by omega)) ⟨vi, ?_⟩
    rw [nI_clamp (show i < 2 ^ 31 by omega), oa_rn_self]
    by_cases c : x_chain i = a
    · exact br_t c ⟨vi, nm_r (oa_rn_t c) (nm_r (nI_1 i) nx)⟩
    · rw [oa_rn_f c]
      exact br_f c (nm_r (nI_1 i) nx)
theorem xa_jn {V u v : Nat} (hV : V ≤ 16) (hu : u < 16) (hv : v < 16) (post : St2 → Prop)
    (hp : post (nI V, x_regCount, x_phase, x_statementCount, x_accessCount, x_nextAddress, x_accumulator, x_register, x_init, x_statements, x_accessVar, x_follower, x_weight, (oa_lf (oa_lf x_firstLink u v) v u), (oa_ls (oa_lf x_firstLink u v) (oa_ls x_firstLink x_secondLink u v) v u), (oa_rn x_chain (x_chain v) (x_chain u) V), x_address, x_opcode, x_instrRegister, x_operand, x_codeLength, x_addrLoads, x_knownAddress, x_memory, x_addressRegister, x_output, x_outputCount)) :
    wpX_join post (nI V, x_regCount, x_phase, x_statementCount, x_accessCount, x_nextAddress, x_accumulator, x_register, x_init, x_statements, x_accessVar, x_follower, x_weight, x_firstLink, x_secondLink, x_chain, x_address, x_opcode, x_instrRegister, x_operand, x_codeLength, x_addrLoads, x_knownAddress, x_memory, x_addressRegister, x_output, x_outputCount) (nI u) (nI v) := by
  have h := xa_jn_l hV (x_chain v) (x_chain u) post hp V 0 (V + 1) (by omega) (by omega)
  rw [oa_rn_0] at h
  unfold wpX_join
  dsimp only
  refine xa_lk hu _ ?_
  refine xa_lk hv _ ?_
  exact ⟨vp_in_nI hu (by omega), nm_r (by rw [nI_clamp (by omega)]) ⟨vp_in_nI hv (by omega), nm_r (by rw [nI_clamp (by omega)]) ⟨V + 1, h⟩⟩⟩
theorem xa_j58 {V u : Nat} (hV : V ≤ 16) (hu : u < V) (w : Int32) (post : St2 → Prop) (J40 J46 : oa_JX) :
    ∀ d v fu (q : oa_Q), v + d = V → d < fu → J46 (nI (u + 1)) (nI V) x_regCount x_phase x_statementCount x_accessCount x_nextAddress x_accumulator x_register x_init x_statements x_accessVar x_follower x_weight ((oa_jv x_weight w V u d v q).1) ((oa_jv x_weight w V u d v q).2.1) ((oa_jv x_weight w V u d v q).2.2.1) x_address x_opcode x_instrRegister x_operand x_codeLength x_addrLoads x_knownAddress x_memory x_addressRegister x_output x_outputCount →
      wX_joinChains_58 post J40 J46 w (nI u) fu (nI v) (nI V) x_regCount x_phase x_statementCount x_accessCount x_nextAddress x_accumulator x_register x_init x_statements x_accessVar x_follower x_weight q.1 q.2.1 q.2.2.1 x_address x_opcode x_instrRegister x_operand x_codeLength x_addrLoads x_knownAddress x_memory x_addressRegister x_output x_outputCount := by
  intro d
  induction d with
  | zero =>
    intro v fu q hv hf hp
    obtain ⟨fu, rfl⟩ : ∃ f, fu = f + 1 := ⟨fu - 1, by omega⟩
    exact br_t (nI_le (by omega) (by omega)) (nm_r (nI_1 u) hp)
  | succ d ih =>
    intro v fu q hv hf hp
    obtain ⟨fu, rfl⟩ : ∃ f, fu = f + 1 := ⟨fu - 1, by omega⟩
    have nx := ih (v + 1) fu (oa_j1 x_weight w V u v q) (by omega) (by omega) hp
    refine br_f (nI_ge (by omega) (by omega)) ?_
    rw [oa_ix16, nI_clamp (show u * 16 + v < 2 ^ 31 by omega)]
    refine ⟨vp_in_nI (by omega) (by omega), ?_⟩
    by_cases c : x_weight (u * 16 + v) = w
    · refine br_t c (xa_cj (by omega) (by omega) _ (fun cj => br_f (by decide) (xa_jn hV (by omega) (by omega) _ (nm_r (nI_1 v) ?_))) (fun cj => br_t rfl (nm_r (nI_1 v) ?_)))
      · rw [show oa_j1 x_weight w V u v q = oa_jj V u v q from if_pos ⟨c, cj⟩] at nx
        exact nx
      · rw [show oa_j1 x_weight w V u v q = q from if_neg (fun z => cj z.2)] at nx
        exact nx
    · rw [show oa_j1 x_weight w V u v q = q from if_neg (fun z => c z.1)] at nx
      exact br_f c (nm_r (nI_1 v) nx)
theorem xa_j46 {V : Nat} (hV : V ≤ 16) (w : Int32) (post : St2 → Prop) (J40 : oa_JX) :
    ∀ d u fu (q : oa_Q), u + d = V → d < fu → J40 (w + (-1)) (nI V) x_regCount x_phase x_statementCount x_accessCount x_nextAddress x_accumulator x_register x_init x_statements x_accessVar x_follower x_weight ((oa_ju x_weight w V d u q).1) ((oa_ju x_weight w V d u q).2.1) ((oa_ju x_weight w V d u q).2.2.1) x_address x_opcode x_instrRegister x_operand x_codeLength x_addrLoads x_knownAddress x_memory x_addressRegister x_output x_outputCount →
      wX_joinChains_46 post J40 w fu (nI u) (nI V) x_regCount x_phase x_statementCount x_accessCount x_nextAddress x_accumulator x_register x_init x_statements x_accessVar x_follower x_weight q.1 q.2.1 q.2.2.1 x_address x_opcode x_instrRegister x_operand x_codeLength x_addrLoads x_knownAddress x_memory x_addressRegister x_output x_outputCount := by
  intro d
  induction d with
  | zero =>
    intro u fu q hu hf hp
    obtain ⟨fu, rfl⟩ : ∃ f, fu = f + 1 := ⟨fu - 1, by omega⟩
    exact br_t (nI_le (by omega) (by omega)) (nm_e hp)
  | succ d ih =>
    intro u fu q hu hf hp
    obtain ⟨fu, rfl⟩ : ∃ f, fu = f + 1 := ⟨fu - 1, by omega⟩
    exact br_f (nI_ge (by omega) (by omega)) (nm_r (nI_1 u) ⟨V + 1, xa_j58 hV (by omega) w post J40 _ (V - (u + 1)) (u + 1) (V + 1) q (by omega) (by omega) (ih (u + 1) fu _ (by omega) (by omega) hp)⟩)
theorem xa_j40 {V : Nat} (hV : V ≤ 16) (post : St2 → Prop) :
    ∀ k fu (q : oa_Q), k < fu → k < 96 → post (nI V, x_regCount, x_phase, x_statementCount, x_accessCount, x_nextAddress, x_accumulator, x_register, x_init, x_statements, x_accessVar, x_follower, x_weight, ((oa_jw x_weight V k q).1), ((oa_jw x_weight V k q).2.1), ((oa_jw x_weight V k q).2.2.1), x_address, x_opcode, x_instrRegister, x_operand, x_codeLength, x_addrLoads, x_knownAddress, x_memory, x_addressRegister, x_output, x_outputCount) →
      wX_joinChains_40 post fu (nI k) (nI V) x_regCount x_phase x_statementCount x_accessCount x_nextAddress x_accumulator x_register x_init x_statements x_accessVar x_follower x_weight q.1 q.2.1 q.2.2.1 x_address x_opcode x_instrRegister x_operand x_codeLength x_addrLoads x_knownAddress x_memory x_addressRegister x_output x_outputCount := by
  intro k
  induction k with
  | zero =>
    intro fu q hf _ hp
    obtain ⟨fu, rfl⟩ : ∃ f, fu = f + 1 := ⟨fu - 1, by omega⟩
    exact br_t (by decide) hp
  | succ k ih =>
    intro fu q hf hk hp
    obtain ⟨fu, rfl⟩ : ∃ f, fu = f + 1 := ⟨fu - 1, by omega⟩
    refine br_f (nI_nle (by omega) (by omega)) ⟨V + 1, xa_j46 hV (nI (k + 1)) post _ V 0 (V + 1) q (by omega) (by omega) ?_⟩
    rw [pk_m1]
    exact ih fu _ (by omega) (by omega) hp
theorem xa_jc_l {V : Nat} (hV : V ≤ 16) (post : St2 → Prop) (hp : ∃ f, wX_joinChains_40 post f 95 (nI V) x_regCount x_phase x_statementCount x_accessCount x_nextAddress x_accumulator x_register x_init x_statements x_accessVar x_follower x_weight (oa_fill x_firstLink (fun _ => -1) V) (oa_fill x_secondLink (fun _ => -1) V) (oa_fill x_chain nI V) x_address x_opcode x_instrRegister x_operand x_codeLength x_addrLoads x_knownAddress x_memory x_addressRegister x_output x_outputCount) :
    ∀ d i fu, i + d = V → d < fu → wX_joinChains_2 post (nI V) x_regCount x_phase x_statementCount x_accessCount x_nextAddress x_accumulator fu (nI i) x_register x_init x_statements x_accessVar x_follower x_weight (oa_fill x_firstLink (fun _ => -1) i) (oa_fill x_secondLink (fun _ => -1) i) (oa_fill x_chain nI i) x_address x_opcode x_instrRegister x_operand x_codeLength x_addrLoads x_knownAddress x_memory x_addressRegister x_output x_outputCount := by
  intro d
  induction d with
  | zero =>
    intro i fu hi hf
    obtain ⟨fu, rfl⟩ : ∃ f, fu = f + 1 := ⟨fu - 1, by omega⟩
    have e : i = V := by omega
    subst e
    exact br_t (nI_le (by omega) (by omega)) hp
  | succ d ih =>
    intro i fu hi hf
    obtain ⟨fu, rfl⟩ : ∃ f, fu = f + 1 := ⟨fu - 1, by omega⟩
    have vi : vp_in (nI i) 16 := vp_in_nI (by omega) (by omega)
    refine br_f (nI_ge (by omega) (by omega)) ⟨vi, nm_r ?_ ⟨vi, nm_r ?_ ⟨vi, nm_r ?_ (nm_r (nI_1 i) (ih (i + 1) fu (by omega) (by omega)))⟩⟩⟩
    all_goals rw [nI_clamp (show i < 2 ^ 31 by omega)]
    all_goals exact oa_fill_s rfl
theorem xa_jc {V : Nat} (hV : V ≤ 16) (e g p : Nat → Int32) (post : St2 → Prop) (q : oa_Q) (eq : q = oa_jw x_weight V 95 (oa_fill x_firstLink (fun _ => -1) V, oa_fill x_secondLink (fun _ => -1) V, oa_fill x_chain nI V, e, g, p))
    (hp : post (nI V, x_regCount, x_phase, x_statementCount, x_accessCount, x_nextAddress, x_accumulator, x_register, x_init, x_statements, x_accessVar, x_follower, x_weight, q.1, q.2.1, q.2.2.1, x_address, x_opcode, x_instrRegister, x_operand, x_codeLength, x_addrLoads, x_knownAddress, x_memory, x_addressRegister, x_output, x_outputCount)) : wpX_joinChains post (nI V, x_regCount, x_phase, x_statementCount, x_accessCount, x_nextAddress, x_accumulator, x_register, x_init, x_statements, x_accessVar, x_follower, x_weight, x_firstLink, x_secondLink, x_chain, x_address, x_opcode, x_instrRegister, x_operand, x_codeLength, x_addrLoads, x_knownAddress, x_memory, x_addressRegister, x_output, x_outputCount) := by
  subst eq
  have h := xa_jc_l hV post ⟨96, xa_j40 hV post 95 96 (oa_fill x_firstLink (fun _ => -1) V, oa_fill x_secondLink (fun _ => -1) V, oa_fill x_chain nI V, e, g, p) (by omega) (by omega) hp⟩ V 0 (V + 1) (by omega) (by omega)
  rw [oa_fill_0, oa_fill_0, oa_fill_0] at h
  exact ⟨V + 1, h⟩
end
