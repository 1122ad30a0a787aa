/-! ===== addMethod ===== -/
def ov_z (c : Int32) : Int32 := if c &&& 16 = 0 then 0 else 1
def ov_Acc (mc cm : Nat) (nm pm vr : Nat → Int32) (a b c : Int32) : Prop := mc ≠ cm ∧ (¬ a < 0 ∧ ¬ 8 ≤ a) ∧ (∃ L, ov_V b L ∧ (¬ ov_z c = 0 → 1 ≤ L)) ∧ (¬ (c &&& 15) < 1 ∧ ¬ 14 < (c &&& 15)) ∧ c &&& (-32) = 0 ∧ ∀ m, m < mc → ¬ (nm m = a ∧ pm m = b ∧ vr m = ov_z c)
theorem ov_z01 (c : Int32) : ov_z c = 0 ∨ ov_z c = 1 := by
  unfold ov_z
  by_cases h : c &&& 16 = 0
  · exact Or.inl (if_pos h)
  · exact Or.inr (if_neg h)
theorem ov_zn (c : Int32) : vp_nar .boolean (ov_z c) = ov_z c := by
  rcases ov_z01 c with e | e <;> rw [e] <;> rfl
section
variable {x_methodCapacity x_nodeCapacity x_methods x_pickedPhase x_nodes x_missingNodes x_resolved : Int32} {x_methodName x_methodParams x_methodPlaces x_methodReturn x_methodConstant x_methodVarargs x_callName x_callArgc x_literalType : Nat → Int32} {x_literalValue : Nat → Int64} {x_subtreeEnd x_resultStatus x_resultMethod x_resultType x_resultPhase : Nat → Int32} {x_resultValue : Nat → Int64}
theorem xi_loop {post : Int32 → Prop} {mc : Nat} {a b z : Int32} (h16 : mc ≤ 16) (h1 : (∃ m, m < mc ∧ x_methodName m = a ∧ x_methodParams m = b ∧ x_methodVarargs m = z) → post 1) (h0 : (∀ m, m < mc → ¬ (x_methodName m = a ∧ x_methodParams m = b ∧ x_methodVarargs m = z)) → post 0) : ∀ d m, m + d = mc → (∀ q, q < m → ¬ (x_methodName q = a ∧ x_methodParams q = b ∧ x_methodVarargs q = z)) → wX_isDeclared_3 post a b z x_methodCapacity x_nodeCapacity (nI mc) x_pickedPhase x_nodes x_missingNodes x_resolved x_methodName x_methodParams x_methodPlaces x_methodReturn x_methodConstant x_methodVarargs x_callName x_callArgc x_literalType x_literalValue x_subtreeEnd x_resultStatus x_resultMethod x_resultType x_resultPhase x_resultValue (d + 1) (nI m) := by
  intro d
  induction d with
  | zero =>
    intro m hm hq
    exact br_t (nI_le (by omega) (by omega)) (h0 (fun q h => hq q (by omega)))
  | succ d ih =>
    intro m hm hq
    have ec : (nI m).toNatClampNeg = m := nI_clamp (by omega)
    have hv : vp_in (nI m) 16 := vp_in_nI (by omega) (by omega)
    refine br_f (nI_ge (by omega) (by omega)) ⟨hv, ?_⟩
    rw [ec]
    refine br_c (fun e1 => ⟨hv, br_c (fun e2 => ⟨hv, br_c (fun e3 => h1 ⟨m, by omega, e1, e2, e3⟩) (fun e3 => ?_)⟩) (fun e2 => ?_)⟩) (fun e1 => ?_)
    · exact nm_r (nI_1 m) (ih (m + 1) (by omega) (ov_lt_s hq (fun t => e3 t.2.2)))
    · exact nm_r (nI_1 m) (ih (m + 1) (by omega) (ov_lt_s hq (fun t => e2 t.2.1)))
    · exact nm_r (nI_1 m) (ih (m + 1) (by omega) (ov_lt_s hq (fun t => e1 t.1)))
theorem xs_isDeclared {post : Int32 → Prop} {mc : Nat} {a b z : Int32} (h16 : mc ≤ 16) (h1 : (∃ m, m < mc ∧ x_methodName m = a ∧ x_methodParams m = b ∧ x_methodVarargs m = z) → post 1) (h0 : (∀ m, m < mc → ¬ (x_methodName m = a ∧ x_methodParams m = b ∧ x_methodVarargs m = z)) → post 0) : wpX_isDeclared post (x_methodCapacity, x_nodeCapacity, nI mc, x_pickedPhase, x_nodes, x_missingNodes, x_resolved, x_methodName, x_methodParams, x_methodPlaces, x_methodReturn, x_methodConstant, x_methodVarargs, x_callName, x_callArgc, x_literalType, x_literalValue, x_subtreeEnd, x_resultStatus, x_resultMethod, x_resultType, x_resultPhase, x_resultValue) a b z :=
  ⟨mc + 1, xi_loop h16 h1 h0 mc 0 (by omega) (fun q hq => absurd hq (by omega))⟩
theorem xm_75 {post : Int32 → SX → Prop} {mc L : Nat} {a b c d z : Int32} (hm : mc < 16) (hL : ov_V b L) (ez : ov_z c = z) (href : (∃ m, m < mc ∧ x_methodName m = a ∧ x_methodParams m = b ∧ x_methodVarargs m = ov_z c) → post (-4) (x_methodCapacity, x_nodeCapacity, nI mc, x_pickedPhase, x_nodes, x_missingNodes, x_resolved, x_methodName, x_methodParams, x_methodPlaces, x_methodReturn, x_methodConstant, x_methodVarargs, x_callName, x_callArgc, x_literalType, x_literalValue, x_subtreeEnd, x_resultStatus, x_resultMethod, x_resultType, x_resultPhase, x_resultValue)) (hacc : (∀ m, m < mc → ¬ (x_methodName m = a ∧ x_methodParams m = b ∧ x_methodVarargs m = ov_z c)) → ∀ y, ov_R b y L → post (nI mc) (x_methodCapacity, x_nodeCapacity, nI (mc + 1), x_pickedPhase, x_nodes, x_missingNodes, 0, upd x_methodName mc a, upd x_methodParams mc b, upd x_methodPlaces mc y, upd x_methodReturn mc (c &&& 15), upd x_methodConstant mc d, upd x_methodVarargs mc (ov_z c), x_callName, x_callArgc, x_literalType, x_literalValue, x_subtreeEnd, x_resultStatus, x_resultMethod, x_resultType, x_resultPhase, x_resultValue)) : wX_addMethod_75 post a b d (c &&& 15) z x_methodCapacity x_nodeCapacity (nI mc) x_pickedPhase x_nodes x_missingNodes x_resolved x_methodName x_methodParams x_methodPlaces x_methodReturn x_methodConstant x_methodVarargs x_callName x_callArgc x_literalType x_literalValue x_subtreeEnd x_resultStatus x_resultMethod x_resultType x_resultPhase x_resultValue := by
  have ec : (nI mc).toNatClampNeg = mc := nI_clamp (by omega)
  have hv : vp_in (nI mc) 16 := vp_in_nI hm (by omega)
  subst ez
  unfold wX_addMethod_75
  refine xs_isDeclared (by omega) (fun ex => br_f (by decide) (href ex)) (fun nx => br_t rfl ⟨hv, ?_⟩)
  refine nm_r (e' := upd x_methodName mc a) (by rw [ec]) ⟨hv, ?_⟩
  refine nm_r (e' := upd x_methodParams mc b) (by rw [ec]) ?_
  refine xs_repeatLast hL (fun y hy => ⟨hv, ?_⟩)
  refine nm_r (e' := upd x_methodPlaces mc y) (by rw [ec]) ⟨hv, ?_⟩
  refine nm_r (e' := upd x_methodReturn mc (c &&& 15)) (by rw [ec]) ⟨hv, ?_⟩
  refine nm_r (e' := upd x_methodConstant mc d) (by rw [ec]) ⟨hv, ?_⟩
  refine nm_r (e' := upd x_methodVarargs mc (ov_z c)) (by rw [ec, ov_zn]) ?_
  exact nm_r (nI_1 mc) (hacc nx y hy)
theorem xs_addMethod {post : Int32 → SX → Prop} {mc cm : Nat} {a b c d : Int32} (hmc : mc ≤ cm) (hcm : cm ≤ 16) (href : ¬ ov_Acc mc cm x_methodName x_methodParams x_methodVarargs a b c → post (-4) (nI cm, x_nodeCapacity, nI mc, x_pickedPhase, x_nodes, x_missingNodes, x_resolved, x_methodName, x_methodParams, x_methodPlaces, x_methodReturn, x_methodConstant, x_methodVarargs, x_callName, x_callArgc, x_literalType, x_literalValue, x_subtreeEnd, x_resultStatus, x_resultMethod, x_resultType, x_resultPhase, x_resultValue)) (hacc : ov_Acc mc cm x_methodName x_methodParams x_methodVarargs a b c → ∀ y L, ov_V b L → ov_R b y L → post (nI mc) (nI cm, x_nodeCapacity, nI (mc + 1), x_pickedPhase, x_nodes, x_missingNodes, 0, upd x_methodName mc a, upd x_methodParams mc b, upd x_methodPlaces mc y, upd x_methodReturn mc (c &&& 15), upd x_methodConstant mc d, upd x_methodVarargs mc (ov_z c), x_callName, x_callArgc, x_literalType, x_literalValue, x_subtreeEnd, x_resultStatus, x_resultMethod, x_resultType, x_resultPhase, x_resultValue)) : wpX_addMethod post (nI cm, x_nodeCapacity, nI mc, x_pickedPhase, x_nodes, x_missingNodes, x_resolved, x_methodName, x_methodParams, x_methodPlaces, x_methodReturn, x_methodConstant, x_methodVarargs, x_callName, x_callArgc, x_literalType, x_literalValue, x_subtreeEnd, x_resultStatus, x_resultMethod, x_resultType, x_resultPhase, x_resultValue) a b c d := by
  have o0 : ¬ ((1 : Int32) = 0) := by decide
  unfold wpX_addMethod
  refine pk_eq mc cm (fun e => href (fun A => A.1 e)) (fun e => ?_)
  refine br_c (fun f => br_t rfl (href (fun A => A.2.1.1 f))) (fun f => br_c (fun h => br_t rfl (href (fun A => A.2.1.2 h))) (fun h => br_f o0 ?_))
  refine xs_isTypeList (fun L hL => br_f o0 ?_) (fun n => br_t rfl (href (fun A => A.2.2.1.elim (fun L h => n L h.1))))
  refine nm_e ?_
  refine br_c (fun p => br_t rfl (href (fun A => A.2.2.2.1.1 p))) (fun p => br_c (fun q => br_t rfl (href (fun A => A.2.2.2.1.2 q))) (fun q => br_f o0 ?_))
  refine br_c (fun w => ?_) (fun w => href (fun A => w A.2.2.2.2.1))
  have k75 : ∀ z, ov_z c = z → (¬ ov_z c = 0 → 1 ≤ L) → wX_addMethod_75 post a b d (c &&& 15) z (nI cm) x_nodeCapacity (nI mc) x_pickedPhase x_nodes x_missingNodes x_resolved x_methodName x_methodParams x_methodPlaces x_methodReturn x_methodConstant x_methodVarargs x_callName x_callArgc x_literalType x_literalValue x_subtreeEnd x_resultStatus x_resultMethod x_resultType x_resultPhase x_resultValue := by
    intro z ez hz
    refine xm_75 (by omega) hL ez (fun ex => href (fun A => ?_)) (fun nx y hy => hacc ⟨e, ⟨f, h⟩, ⟨L, hL, hz⟩, ⟨p, q⟩, w, nx⟩ y L hL hy)
    obtain ⟨m, hm, t⟩ := ex
    exact A.2.2.2.2.2 m hm t
  refine br_c (fun s => br_t rfl (k75 0 (if_pos s) (fun t => absurd (if_pos s) t))) (fun s => br_f o0 (br_c (fun t => href (fun A => ?_)) (fun t => k75 1 (if_neg s) (fun _ => ?_))))
  · obtain ⟨M, hM, hz⟩ := A.2.2.1
    have e0 := (ov_V_z hM).mp t
    have := hz (by rw [show ov_z c = 1 from if_neg s]; decide)
    omega
  · rcases Nat.eq_zero_or_pos L with e0 | e0
    · exact absurd ((ov_V_z hL).mpr e0) t
    · exact e0
end
section
variable {y_capM y_capN y_mCount y_nCount y_pend y_lastPh y_resPh y_resolved : Int32} {y_mName y_mParams y_mRet y_mVar y_mConst y_nKind y_nA y_nB : Nat → Int32} {y_nLit : Nat → Int64} {y_nStat y_nMeth y_nType y_nPh : Nat → Int32} {y_nVal : Nat → Int64}
theorem ym_100 {post : Int32 → SY → Prop} {mc : Nat} {a b c d z : Int32} (hm : mc < 16) (ez : ov_z c = z) (href : (∃ m, m < mc ∧ y_mName m = a ∧ y_mParams m = b ∧ y_mVar m = ov_z c) → post (-4) (y_capM, y_capN, nI mc, y_nCount, y_pend, y_lastPh, y_resPh, y_resolved, y_mName, y_mParams, y_mRet, y_mVar, y_mConst, y_nKind, y_nA, y_nB, y_nLit, y_nStat, y_nMeth, y_nType, y_nPh, y_nVal)) (hacc : (∀ m, m < mc → ¬ (y_mName m = a ∧ y_mParams m = b ∧ y_mVar m = ov_z c)) → post (nI mc) (y_capM, y_capN, nI (mc + 1), y_nCount, y_pend, y_lastPh, y_resPh, 0, upd y_mName mc a, upd y_mParams mc b, upd y_mRet mc (c &&& 15), upd y_mVar mc (ov_z c), upd y_mConst mc d, y_nKind, y_nA, y_nB, y_nLit, y_nStat, y_nMeth, y_nType, y_nPh, y_nVal)) : ∀ e m, m + e = mc → (∀ q, q < m → ¬ (y_mName q = a ∧ y_mParams q = b ∧ y_mVar q = ov_z c)) → wY_addMethod_100 post a b d (c &&& 15) z y_capM y_capN (nI mc) y_nCount y_pend y_lastPh y_resPh y_resolved y_mName y_mParams y_mRet y_mVar y_mConst y_nKind y_nA y_nB y_nLit y_nStat y_nMeth y_nType y_nPh y_nVal (e + 1) (nI m) := by
  subst ez
  intro e
  induction e with
  | zero =>
    intro m hm' hq
    have ec : (nI mc).toNatClampNeg = mc := nI_clamp (by omega)
    have hv : vp_in (nI mc) 16 := vp_in_nI hm (by omega)
    refine br_t (nI_le (by omega) (by omega)) ⟨hv, ?_⟩
    refine nm_r (e' := upd y_mName mc a) (by rw [ec]) ⟨hv, ?_⟩
    refine nm_r (e' := upd y_mParams mc b) (by rw [ec]) ⟨hv, ?_⟩
    refine nm_r (e' := upd y_mRet mc (c &&& 15)) (by rw [ec]) ⟨hv, ?_⟩
    refine nm_r (e' := upd y_mVar mc (ov_z c)) (by rw [ec, ov_zn]) ⟨hv, ?_⟩
    refine nm_r (e' := upd y_mConst mc d) (by rw [ec]) ?_
    exact nm_r (nI_1 mc) (hacc (fun q h => hq q (by omega)))
  | succ e ih =>
    intro m hm' hq
    have ec : (nI m).toNatClampNeg = m := nI_clamp (by omega)
    have hv : vp_in (nI m) 16 := vp_in_nI (by omega) (by omega)
    refine br_f (nI_ge (by omega) (by omega)) ⟨hv, ?_⟩
    rw [ec]
    refine br_c (fun e1 => ⟨hv, br_c (fun e3 => ⟨hv, br_c (fun e2 => href ⟨m, by omega, e1, e2, e3⟩) (fun e2 => ?_)⟩) (fun e3 => ?_)⟩) (fun e1 => ?_)
    · exact nm_r (nI_1 m) (ih (m + 1) (by omega) (ov_lt_s hq (fun t => e2 t.2.1)))
    · exact nm_r (nI_1 m) (ih (m + 1) (by omega) (ov_lt_s hq (fun t => e3 t.2.2)))
    · exact nm_r (nI_1 m) (ih (m + 1) (by omega) (ov_lt_s hq (fun t => e1 t.1)))
theorem ys_addMethod {post : Int32 → SY → Prop} {mc cm : Nat} {a b c d : Int32} (hmc : mc ≤ cm) (hcm : cm ≤ 16) (href : ¬ ov_Acc mc cm y_mName y_mParams y_mVar a b c → post (-4) (nI cm, y_capN, nI mc, y_nCount, y_pend, y_lastPh, y_resPh, y_resolved, y_mName, y_mParams, y_mRet, y_mVar, y_mConst, y_nKind, y_nA, y_nB, y_nLit, y_nStat, y_nMeth, y_nType, y_nPh, y_nVal)) (hacc : ov_Acc mc cm y_mName y_mParams y_mVar a b c → post (nI mc) (nI cm, y_capN, nI (mc + 1), y_nCount, y_pend, y_lastPh, y_resPh, 0, upd y_mName mc a, upd y_mParams mc b, upd y_mRet mc (c &&& 15), upd y_mVar mc (ov_z c), upd y_mConst mc d, y_nKind, y_nA, y_nB, y_nLit, y_nStat, y_nMeth, y_nType, y_nPh, y_nVal)) : wpY_addMethod post (nI cm, y_capN, nI mc, y_nCount, y_pend, y_lastPh, y_resPh, y_resolved, y_mName, y_mParams, y_mRet, y_mVar, y_mConst, y_nKind, y_nA, y_nB, y_nLit, y_nStat, y_nMeth, y_nType, y_nPh, y_nVal) a b c d := by
  have o0 : ¬ ((1 : Int32) = 0) := by decide
  unfold wpY_addMethod
  refine pk_eq mc cm (fun e => href (fun A => A.1 e)) (fun e => ?_)
  refine br_c (fun f => href (fun A => A.2.1.1 f)) (fun f => br_c (fun h7 => ?_) (fun h7 => href (fun A => ?_)))
  rotate_left
  · rcases pk_ix a (n := 8) (by decide) with i | i | ⟨j, hj, rfl⟩
    · exact f i
    · exact A.2.1.2 i
    · exact h7 (nI_le (b := 7) (by omega) (by decide))
  have h : ¬ 8 ≤ a := fun z => ov_8 z h7
  refine ys_validList (fun L hL => br_f o0 ?_) (fun n => br_t rfl (href (fun A => A.2.2.1.elim (fun L h => n L h.1))))
  refine nm_e ?_
  refine br_c (fun p => href (fun A => A.2.2.2.1.1 p)) (fun p => br_c (fun q => href (fun A => A.2.2.2.1.2 q)) (fun q => ?_))
  refine br_c (fun w => ?_) (fun w => href (fun A => w A.2.2.2.2.1))
  have k100 : ∀ z, ov_z c = z → (¬ ov_z c = 0 → 1 ≤ L) → ∃ n, wY_addMethod_100 post a b d (c &&& 15) z (nI cm) y_capN (nI mc) y_nCount y_pend y_lastPh y_resPh y_resolved y_mName y_mParams y_mRet y_mVar y_mConst y_nKind y_nA y_nB y_nLit y_nStat y_nMeth y_nType y_nPh y_nVal n 0 := by
    intro z ez hz
    refine ⟨mc + 1, ym_100 (by omega) ez (fun ex => href (fun A => ?_)) (fun nx => hacc ⟨e, ⟨f, h⟩, ⟨L, hL, hz⟩, ⟨p, q⟩, w, nx⟩) mc 0 (by omega) (fun q hq => absurd hq (by omega))⟩
    obtain ⟨m, hm, t⟩ := ex
    exact A.2.2.2.2.2 m hm t
  refine br_c (fun s => br_t rfl (k100 0 (if_pos s) (fun t => absurd (if_pos s) t))) (fun s => br_f o0 (ys_listLen hL ?_))
  have h4 := hL.1
  refine pk_eq L 0 (fun t => href (fun A => ?_)) (fun t => k100 1 (if_neg s) (fun _ => by omega))
  obtain ⟨M, hM, hz⟩ := A.2.2.1
  have e0 := ov_V_u hM hL
  have := hz (by rw [show ov_z c = 1 from if_neg s]; decide)
  omega
end
theorem i_vc_addMethod {k : Nat} {u : SX} {v : SY} (I : i_Rel k u v) (hk : k + 5 ≤ 2562) (v1 : Int32) (v2 : Int32) (v3 : Int32) (v4 : Int32) : wpX_addMethod (fun r u' => wpY_addMethod (fun r' v' => r' = r ∧ i_Rel (k + 5) u' v') v v1 v2 v3 v4) u v1 v2 v3 v4 := by
  have J : i_Rel (k + 5) u v := I
  obtain ⟨cm, cn, mc, nc, ln, g, P, ph, rp, rs, nm, pm, pl, rt, co, vr, cN, ca, lt, nk, na, lv, nl, se, st, me, ty, pp, va, rfl, rfl, h16, h32, hmc, hnc, hM, hrt, hNd, hP⟩ := I
  refine xs_addMethod hmc h16 (fun nA => ys_addMethod hmc h16 (fun _ => ⟨rfl, J⟩) (fun A => absurd A nA)) (fun A y L hL hy => ys_addMethod hmc h16 (fun nA => absurd A nA) (fun _ => ⟨rfl, ?_⟩))
  have hlt : mc < cm := by have := A.1; omega
  refine ⟨cm, cn, mc + 1, nc, fun m => if m = mc then L else ln m, g, P, ph, rp, 0, upd nm mc v1, upd pm mc v2, upd pl mc y, upd rt mc (v3 &&& 15), upd co mc v4, upd vr mc (ov_z v3), cN, ca, lt, nk, na, lv, nl, se, st, me, ty, pp, va, rfl, rfl, h16, h32, by omega, hnc, ?_, ?_, hNd, hP⟩
  · intro m hm
    by_cases e : m = mc
    · subst e
      rw [pk_us, pk_us, pk_us]
      dsimp only
      rw [if_pos rfl]
      refine ⟨hL, ?_, hy⟩
      rcases ov_z01 v3 with z | z
      · exact Or.inl z
      · obtain ⟨M, hM', hz⟩ := A.2.2.1
        have e0 := ov_V_u hM' hL
        have := hz (by rw [z]; decide)
        exact Or.inr ⟨z, by omega⟩
    · rw [pk_un e, pk_un e, pk_un e]
      dsimp only
      rw [if_neg e]
      exact hM m (by omega)
  · intro m hm
    by_cases e : m = mc
    · subst e
      rw [pk_us]
      have a := A.2.2.2.1
      rcases ov_rng (v3 &&& 15) (lo := 1) (hi := 14) (by decide) (by decide) with b | b | b
      · exact absurd b a.1
      · exact absurd b.2 a.2
      · exact b
    · rw [pk_un e]
      exact hrt m (by omega)
/-! ===== addLiteral, addCall ===== -/
section
variable {x_methodCapacity x_nodeCapacity x_methods x_pickedPhase x_nodes x_missingNodes x_resolved : Int32} {x_methodName x_methodParams x_methodPlaces x_methodReturn x_methodConstant x_methodVarargs x_callName x_callArgc x_literalType : Nat → Int32} {x_literalValue : Nat → Int64} {x_subtreeEnd x_resultStatus x_resultMethod x_resultType x_resultPhase : Nat → Int32} {x_resultValue : Nat → Int64}
theorem xs_isComplete {post : Int32 → Prop} {nc p : Nat} (hn : nc ≤ 32) (hp : p ≤ 97) (h1 : 0 < nc ∧ p = 0 → post 1) (h0 : ¬ (0 < nc ∧ p = 0) → post 0) : wpX_isComplete post (x_methodCapacity, x_nodeCapacity, x_methods, x_pickedPhase, nI nc, nI p, x_resolved, x_methodName, x_methodParams, x_methodPlaces, x_methodReturn, x_methodConstant, x_methodVarargs, x_callName, x_callArgc, x_literalType, x_literalValue, x_subtreeEnd, x_resultStatus, x_resultMethod, x_resultType, x_resultPhase, x_resultValue) := by
  unfold wpX_isComplete
  exact pk_le nc 0 (fun a => h0 (by omega)) (fun a => pk_eq p 0 (fun b => h1 (by omega)) (fun b => h0 (by omega)))
theorem xs_room {post : Int32 → Prop} {nc cn p : Nat} (hc : cn ≤ 32) (hn : nc ≤ cn) (hp : p ≤ 97) (h1 : nc ≠ cn → ¬ (0 < nc ∧ p = 0) → post 1) (h0 : ¬ (nc ≠ cn ∧ ¬ (0 < nc ∧ p = 0)) → post 0) : wpX_hasRoomForNode post (x_methodCapacity, nI cn, x_methods, x_pickedPhase, nI nc, nI p, x_resolved, x_methodName, x_methodParams, x_methodPlaces, x_methodReturn, x_methodConstant, x_methodVarargs, x_callName, x_callArgc, x_literalType, x_literalValue, x_subtreeEnd, x_resultStatus, x_resultMethod, x_resultType, x_resultPhase, x_resultValue) := by
  unfold wpX_hasRoomForNode
  exact pk_le cn nc (fun a => h0 (fun c => c.1 (by omega))) (fun a => xs_isComplete (by omega) hp (fun b => br_f (by decide) (h0 (fun c => c.2 b))) (fun b => br_t rfl (h1 (by omega) b)))
theorem xs_append {post : Int32 → SX → Prop} {nc p c : Nat} {x : Int32} (hn : nc < 32) (hp : 1 ≤ p) (h : post (nI nc) (x_methodCapacity, x_nodeCapacity, x_methods, x_pickedPhase, nI (nc + 1), nI (p - 1 + c), 0, x_methodName, x_methodParams, x_methodPlaces, x_methodReturn, x_methodConstant, x_methodVarargs, upd x_callName nc x, upd x_callArgc nc (nI c), x_literalType, x_literalValue, x_subtreeEnd, x_resultStatus, x_resultMethod, x_resultType, x_resultPhase, x_resultValue)) : wpX_appendNode post (x_methodCapacity, x_nodeCapacity, x_methods, x_pickedPhase, nI nc, nI p, x_resolved, x_methodName, x_methodParams, x_methodPlaces, x_methodReturn, x_methodConstant, x_methodVarargs, x_callName, x_callArgc, x_literalType, x_literalValue, x_subtreeEnd, x_resultStatus, x_resultMethod, x_resultType, x_resultPhase, x_resultValue) x (nI c) := by
  have ec : (nI nc).toNatClampNeg = nc := nI_clamp (by omega)
  have hv : vp_in (nI nc) 32 := vp_in_nI hn (by omega)
  unfold wpX_appendNode
  refine ⟨hv, nm_r (e' := upd x_callName nc x) (by rw [ec]) ⟨hv, nm_r (e' := upd x_callArgc nc (nI c)) (by rw [ec]) ?_⟩⟩
  refine nm_r (nI_1 nc) (nm_r (e' := nI (p - 1 + c)) ?_ h)
  rw [← nI_add, ← pk_sub hp]
  rfl
end
section
variable {y_capM y_capN y_mCount y_nCount y_pend y_lastPh y_resPh y_resolved : Int32} {y_mName y_mParams y_mRet y_mVar y_mConst y_nKind y_nA y_nB : Nat → Int32} {y_nLit : Nat → Int64} {y_nStat y_nMeth y_nType y_nPh : Nat → Int32} {y_nVal : Nat → Int64}
theorem ys_complete {post : Int32 → Prop} {nc p : Nat} (hn : nc ≤ 32) (hp : p ≤ 97) (h1 : 0 < nc ∧ p = 0 → post 1) (h0 : ¬ (0 < nc ∧ p = 0) → post 0) : wpY_complete post (y_capM, y_capN, y_mCount, nI nc, nI p, y_lastPh, y_resPh, y_resolved, y_mName, y_mParams, y_mRet, y_mVar, y_mConst, y_nKind, y_nA, y_nB, y_nLit, y_nStat, y_nMeth, y_nType, y_nPh, y_nVal) := by
  unfold wpY_complete
  exact pk_le nc 0 (fun a => h0 (by omega)) (fun a => pk_eq p 0 (fun b => h1 (by omega)) (fun b => h0 (by omega)))
end
theorem ov_P_add {g P : Nat → Nat} {nc : Nat} (c : Nat) (h : ov_P g P nc) (h1 : 1 ≤ P nc) : ov_P (fun j => if j = nc then c else g j) (fun j => if j ≤ nc then P j else P nc - 1 + c) (nc + 1) := by
  refine ⟨?_, fun j hj => ?_⟩
  · show (if 0 ≤ nc then P 0 else P nc - 1 + c) = 1
    rw [if_pos (by omega)]
    exact h.1
  · show 1 ≤ (if j ≤ nc then P j else P nc - 1 + c) ∧ (if j + 1 ≤ nc then P (j + 1) else P nc - 1 + c) + 1 = (if j ≤ nc then P j else P nc - 1 + c) + (if j = nc then c else g j)
    rw [if_pos (by omega : j ≤ nc)]
    by_cases e : j = nc
    · rw [if_neg (by omega : ¬ j + 1 ≤ nc), if_pos e, e]
      exact ⟨h1, by omega⟩
    · rw [if_pos (by omega : j + 1 ≤ nc), if_neg e]
      exact h.2 j (by omega)
theorem ov_P_1 {g P : Nat → Nat} {nc : Nat} (h : ov_P g P nc) (n : ¬ (0 < nc ∧ P nc = 0)) : 1 ≤ P nc := by
  rcases Nat.eq_zero_or_pos nc with e | e
  · rw [e, h.1]
    exact Nat.le_refl 1
  · omega
theorem i_vc_addLiteral {k : Nat} {u : SX} {v : SY} (I : i_Rel k u v) (hk : k + 5 ≤ 2562) (v1 : Int32) (v2 : Int32) : wpX_addLiteral (fun r u' => wpY_addLiteral (fun r' v' => r' = r ∧ i_Rel (k + 5) u' v') v v1 v2) u v1 v2 := by
  have J : i_Rel (k + 5) u v := I
  obtain ⟨cm, cn, mc, nc, ln, g, P, ph, rp, rs, nm, pm, pl, rt, co, vr, cN, ca, lt, nk, na, lv, nl, se, st, me, ty, pp, va, rfl, rfl, h16, h32, hmc, hnc, hM, hrt, hNd, hP⟩ := I
  have o0 : ¬ ((1 : Int32) = 0) := by decide
  have hb := ov_P_b hNd hP hnc h32
  unfold wpX_addLiteral
  rcases ov_rng v1 (lo := 1) (hi := 14) (by decide) (by decide) with a | a | ⟨t, t1, t2, rfl⟩
  · exact xs_isType_no (Or.inl a) (br_t rfl (br_t a ⟨rfl, J⟩))
  · exact xs_isType_no (Or.inr a) (br_t rfl (br_f a.1 (br_f (Int32.not_le.mpr a.2) ⟨rfl, J⟩)))
  have y1 : ¬ nI t < 1 := nI_nlt (b := 1) t1 (by omega)
  have y2 : nI t ≤ 14 := nI_le (b := 14) t2 (by decide)
  refine xs_isType_yes t1 t2 (br_f o0 ?_)
  refine xs_room h32 hnc hb (fun a b => br_f o0 ?_) (fun a => br_t rfl ?_)
  · have hlt : nc < cn := by omega
    have ec : (nI nc).toNatClampNeg = nc := nI_clamp (by omega)
    have hv : vp_in (nI nc) 32 := vp_in_nI (by omega) (by omega)
    have p1 := ov_P_1 hP b
    refine ⟨hv, nm_r (e' := upd lt nc (nI t)) (by rw [ec]) ?_⟩
    refine xs_narrow t1 t2 ⟨hv, nm_r (e' := vp_updL lv nc (ov_N t v2.toInt64)) (by rw [ec]) ?_⟩
    refine xs_append (c := 0) (by omega) p1 ?_
    show wpY_addLiteral (fun r' v' => r' = nI nc ∧ i_Rel (k + 5) _ v') _ _ _
    unfold wpY_addLiteral
    refine br_f y1 (br_t y2 (pk_eq nc cn (fun e => absurd e a) (fun _ => ?_)))
    refine ys_complete (by omega) hb (fun c => absurd c b) (fun _ => br_t rfl ⟨hv, ?_⟩)
    refine nm_r (e' := upd nk nc 0) (by rw [ec]) ⟨hv, nm_r (e' := upd na nc (nI t)) (by rw [ec]) ⟨hv, nm_r (e' := upd ca nc (nI 0)) (by rw [ec]; rfl) ?_⟩⟩
    refine ys_narrow t1 t2 ⟨hv, nm_r (e' := vp_updL nl nc (ov_N t v2.toInt64)) (by rw [ec]) ?_⟩
    refine nm_r (e' := nI (P nc - 1 + 0)) (pk_sub (b := 1) p1) (nm_r (nI_1 nc) ⟨rfl, ?_⟩)
    refine ⟨cm, cn, mc, nc + 1, ln, fun j => if j = nc then 0 else g j, fun j => if j ≤ nc then P j else P nc - 1 + 0, ph, rp, 0, nm, pm, pl, rt, co, vr, upd cN nc (-1), upd ca nc (nI 0), upd lt nc (nI t), upd nk nc 0, upd na nc (nI t), vp_updL lv nc (ov_N t v2.toInt64), vp_updL nl nc (ov_N t v2.toInt64), se, st, me, ty, pp, va, ?_, ?_, h16, h32, hmc, by omega, hM, hrt, ?_, ov_P_add 0 hP p1⟩
    · dsimp only
      rw [if_neg (by omega)]
    · dsimp only
      rw [if_neg (by omega)]
    · intro i hi
      by_cases e : i = nc
      · subst e
        rw [pk_us, pk_us, pk_us, pk_us, pk_us, pk_uLs, pk_uLs]
        dsimp only
        rw [if_pos rfl]
        exact ⟨rfl, by omega, Or.inl ⟨rfl, rfl, rfl, rfl, rfl, t, t1, t2, rfl⟩⟩
      · rw [pk_un e, pk_un e, pk_un e, pk_un e, pk_un e, pk_uLn e, pk_uLn e]
        dsimp only
        rw [if_neg e]
        exact hNd i (by omega)
  · unfold wpY_addLiteral
    refine br_f y1 (br_t y2 (pk_eq nc cn (fun e => ⟨rfl, J⟩) (fun e => ?_)))
    exact ys_complete (by omega) hb (fun c => br_f o0 ⟨rfl, J⟩) (fun c => absurd ⟨e, c⟩ a)
theorem i_vc_addCall {k : Nat} {u : SX} {v : SY} (I : i_Rel k u v) (hk : k + 5 ≤ 2562) (v1 : Int32) (v2 : Int32) : wpX_addCall (fun r u' => wpY_addCall (fun r' v' => r' = r ∧ i_Rel (k + 5) u' v') v v1 v2) u v1 v2 := by
  have J : i_Rel (k + 5) u v := I
  obtain ⟨cm, cn, mc, nc, ln, g, P, ph, rp, rs, nm, pm, pl, rt, co, vr, cN, ca, lt, nk, na, lv, nl, se, st, me, ty, pp, va, rfl, rfl, h16, h32, hmc, hnc, hM, hrt, hNd, hP⟩ := I
  have o0 : ¬ ((1 : Int32) = 0) := by decide
  have hb := ov_P_b hNd hP hnc h32
  unfold wpX_addCall
  rcases pk_ix v1 (n := 8) (by decide) with a | a | ⟨x, hx, rfl⟩
  · exact br_t a (br_t rfl (br_t a ⟨rfl, J⟩))
  · have b : ¬ v1 < 0 := Int32.not_lt.mpr (Int32.le_trans (by decide) a)
    exact br_f b (br_t a (br_t rfl (br_f b (br_f (ov_8 a) ⟨rfl, J⟩))))
  have y1 : ¬ nI x < 0 := nI_pos (by omega)
  have y2 : nI x ≤ 7 := nI_le (b := 7) (by omega) (by decide)
  refine br_f y1 (br_f (nI_ge (b := 8) hx (by decide)) (br_f o0 ?_))
  rcases ov_rng v2 (lo := 0) (hi := 4) (by decide) (by decide) with a | a | ⟨c, _, c4, rfl⟩
  · exact br_t a (br_f y1 (br_t y2 (br_t a ⟨rfl, J⟩)))
  · exact br_f a.1 (br_t a.2 (br_f y1 (br_t y2 (br_f a.1 (br_f (Int32.not_le.mpr a.2) ⟨rfl, J⟩)))))
  have y3 : ¬ nI c < 0 := nI_pos (by omega)
  have y4 : nI c ≤ 4 := nI_le (b := 4) c4 (by decide)
  refine br_f y3 (br_f (nI_nlt (a := 4) c4 (by decide)) ?_)
  refine xs_room h32 hnc hb (fun a b => br_f o0 ?_) (fun a => br_t rfl ?_)
  · have hlt : nc < cn := by omega
    have ec : (nI nc).toNatClampNeg = nc := nI_clamp (by omega)
    have hv : vp_in (nI nc) 32 := vp_in_nI (by omega) (by omega)
    have p1 := ov_P_1 hP b
    refine xs_append (by omega) p1 ?_
    show wpY_addCall (fun r' v' => r' = nI nc ∧ i_Rel (k + 5) _ v') _ _ _
    unfold wpY_addCall
    refine br_f y1 (br_t y2 (br_f y3 (br_t y4 (pk_eq nc cn (fun e => absurd e a) (fun _ => ?_)))))
    refine ys_complete (by omega) hb (fun c => absurd c b) (fun _ => br_t rfl ⟨hv, ?_⟩)
    refine nm_r (e' := upd nk nc 1) (by rw [ec]) ⟨hv, nm_r (e' := upd na nc (nI x)) (by rw [ec]) ⟨hv, nm_r (e' := upd ca nc (nI c)) (by rw [ec]) ⟨hv, nm_r (e' := vp_updL nl nc 0) (by rw [ec]) ?_⟩⟩⟩
    refine nm_r (e' := nI (P nc - 1 + c)) (by rw [← nI_add, ← pk_sub p1]; rfl) (nm_r (nI_1 nc) ⟨rfl, ?_⟩)
    refine ⟨cm, cn, mc, nc + 1, ln, fun j => if j = nc then c else g j, fun j => if j ≤ nc then P j else P nc - 1 + c, ph, rp, 0, nm, pm, pl, rt, co, vr, upd cN nc (nI x), upd ca nc (nI c), lt, upd nk nc 1, upd na nc (nI x), lv, vp_updL nl nc 0, se, st, me, ty, pp, va, ?_, ?_, h16, h32, hmc, by omega, hM, hrt, ?_, ov_P_add c hP p1⟩
    · dsimp only
      rw [if_neg (by omega)]
    · dsimp only
      rw [if_neg (by omega)]
    · intro i hi
      by_cases e : i = nc
      · subst e
        rw [pk_us, pk_us, pk_us, pk_us, pk_uLs]
        dsimp only
        rw [if_pos rfl]
        exact ⟨rfl, c4, Or.inr ⟨rfl, rfl, fun z => y1 (by rw [z]; decide)⟩⟩
      · rw [pk_un e, pk_un e, pk_un e, pk_un e, pk_uLn e]
        dsimp only
        rw [if_neg e]
        exact hNd i (by omega)
  · unfold wpY_addCall
    refine br_f y1 (br_t y2 (br_f y3 (br_t y4 (pk_eq nc cn (fun e => ⟨rfl, J⟩) (fun e => ?_)))))
    exact ys_complete (by omega) hb (fun c => br_f o0 ⟨rfl, J⟩) (fun c => absurd ⟨e, c⟩ a)
