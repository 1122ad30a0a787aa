/-! ===== X: resolve ===== -/
section
variable {x_methodCapacity x_nodeCapacity x_methods x_pickedPhase x_nodes x_missingNodes x_resolved : Int32} {x_methodName x_methodParams x_methodPlaces x_methodReturn x_methodConstant x_methodVarargs x_callName x_callArgc x_literalType : Nat → Int32} {x_literalValue : Nat → Int64} {x_subtreeEnd x_resultStatus x_resultMethod x_resultType x_resultPhase : Nat → Int32} {x_resultValue : Nat → Int64}
theorem xs_setResult {post : St2 → Prop} {i : Nat} {s m t p : Int32} {w : Int64} (hi : i < 32) (h : post (x_methodCapacity, x_nodeCapacity, x_methods, x_pickedPhase, x_nodes, x_missingNodes, x_resolved, x_methodName, x_methodParams, x_methodPlaces, x_methodReturn, x_methodConstant, x_methodVarargs, x_callName, x_callArgc, x_literalType, x_literalValue, x_subtreeEnd, upd x_resultStatus i s, upd x_resultMethod i m, upd x_resultType i t, upd x_resultPhase i p, vp_updL x_resultValue i w)) : wpX_setResult post (x_methodCapacity, x_nodeCapacity, x_methods, x_pickedPhase, x_nodes, x_missingNodes, x_resolved, x_methodName, x_methodParams, x_methodPlaces, x_methodReturn, x_methodConstant, x_methodVarargs, x_callName, x_callArgc, x_literalType, x_literalValue, x_subtreeEnd, x_resultStatus, x_resultMethod, x_resultType, x_resultPhase, x_resultValue) (nI i) s m t p w := by
  have ec : (nI i).toNatClampNeg = i := nI_clamp (by omega)
  have hv : vp_in (nI i) 32 := vp_in_nI hi (by omega)
  unfold wpX_setResult
  refine ⟨hv, nm_r (e' := upd x_resultStatus i s) (by rw [ec]) ⟨hv, nm_r (e' := upd x_resultMethod i m) (by rw [ec]) ⟨hv, nm_r (e' := upd x_resultType i t) (by rw [ec]) ⟨hv, nm_r (e' := upd x_resultPhase i p) (by rw [ec]) ⟨hv, nm_r (e' := vp_updL x_resultValue i w) (by rw [ec]) ?_⟩⟩⟩⟩⟩
  exact h
theorem xr_98 {post : St2 → Prop} {mc i c : Nat} {ln q : Nat → Nat} {x2 f x6 : Int32} {x3 : Int64} (h16 : mc ≤ 16) (hM : ov_M mc x_methodParams x_methodPlaces x_methodVarargs ln) (hrt : ∀ m, m < mc → ∃ t, 1 ≤ t ∧ t ≤ 14 ∧ x_methodReturn m = nI t) (hi : i < 32) (hc : c ≤ 4) (hT : ∀ a, a < c → x_resultStatus (q a) = 1 → ∃ t, 1 ≤ t ∧ t ≤ 14 ∧ x_resultType (q a) = nI t) (hL : ov_L q x_resultStatus x_resultType x_resultValue c x2 x3 f) (h : ∀ s m t p w, ov_O mc x_methodName x_methodPlaces x_methodVarargs x_methodReturn x_methodConstant ln (x_callName i) (ov_bad q x_resultStatus c) (nI (ov_zt (ov_tq x_resultType q) c)) c (ov_sm (ov_vq x_resultValue q) c) s m t p w → post (x_methodCapacity, x_nodeCapacity, nI mc, x_pickedPhase, x_nodes, x_missingNodes, x_resolved, x_methodName, x_methodParams, x_methodPlaces, x_methodReturn, x_methodConstant, x_methodVarargs, x_callName, x_callArgc, x_literalType, x_literalValue, upd x_subtreeEnd i x6, upd x_resultStatus i s, upd x_resultMethod i m, upd x_resultType i t, upd x_resultPhase i p, vp_updL x_resultValue i w)) : wX_resolveCall_98 post (nI i) x2 x3 f x6 x_methodCapacity x_nodeCapacity (nI mc) x_pickedPhase x_nodes x_missingNodes x_resolved x_methodName x_methodParams x_methodPlaces x_methodReturn x_methodConstant x_methodVarargs x_callName x_callArgc x_literalType x_literalValue x_subtreeEnd x_resultStatus x_resultMethod x_resultType x_resultPhase x_resultValue := by
  have ec : (nI i).toNatClampNeg = i := nI_clamp (by omega)
  have hv : vp_in (nI i) 32 := vp_in_nI hi (by omega)
  unfold wX_resolveCall_98
  refine ⟨hv, nm_r (e' := upd x_subtreeEnd i x6) (by rw [ec]) ?_⟩
  rcases hL with ⟨rfl, hs, rfl, rfl⟩ | ⟨rfl, hb⟩
  · have nb : ¬ ov_bad q x_resultStatus c := fun z => by
      obtain ⟨b, hb, z⟩ := z
      exact z (hs b hb)
    have hV : ov_V (nI (ov_zt (ov_tq x_resultType q) c)) c := by
      refine ov_zt_V _ (ov_tq_lt x_resultType q) c hc (fun b hb => ?_)
      obtain ⟨t, t1, t2, e⟩ := hT b hb (hs b hb)
      rw [ov_tq_eq e t2]
      exact ⟨t1, t2⟩
    refine br_t rfl ⟨hv, ?_⟩
    rw [ec]
    refine xs_decidingPhase h16 hM hV (fun d hd => ⟨hv, ?_⟩)
    refine xs_chooseMethod h16 hM hV (by have := ov_Ph_le hd; omega) (fun r hr => ?_)
    rcases ov_Ch_v hr with ⟨k, hk, rfl⟩ | e
    · have ek : (nI k).toNatClampNeg = k := nI_clamp (by omega)
      have hvk : vp_in (nI k) 16 := vp_in_nI (by omega) (by omega)
      obtain ⟨τ, τ1, τ2, et⟩ := hrt k hk
      refine br_t (nI_pos' (by omega)) ⟨hvk, nm_r (e' := nI τ) (by rw [ek, et]) ⟨hvk, ?_⟩⟩
      rw [ek]
      refine xs_narrow τ1 τ2 (xs_setResult hi ?_)
      exact h 1 (nI k) (nI τ) (nI d) _ (Or.inr ⟨nb, d, nI k, hd, hr, rfl, Or.inl ⟨k, τ, hk, rfl, τ1, τ2, et, rfl, rfl, rfl, rfl⟩⟩)
    · have n0 : ¬ 0 ≤ r := by
        rcases e with e | e <;> rw [e] <;> decide
      refine br_f n0 (xs_setResult hi ?_)
      exact h r (-1) 0 (nI d) 0 (Or.inr ⟨nb, d, r, hd, hr, rfl, Or.inr ⟨e, rfl, rfl, rfl, rfl⟩⟩)
  · refine br_f (by decide) (xs_setResult hi ?_)
    exact h (-3) (-1) 0 0 0 (Or.inl ⟨hb, rfl, rfl, rfl, rfl, rfl⟩)
theorem xr_loop {post : St2 → Prop} {nc i c : Nat} {q : Nat → Nat} (hn : nc ≤ 32) (hi : i < nc) (hc : c ≤ 4) (hca : x_callArgc i = nI c) (hq : ∀ a, a < c → q a < nc) (hse : ∀ a, a < c → x_subtreeEnd (q a) = nI (q (a + 1))) (hT : ∀ a, a < c → x_resultStatus (q a) = 1 → ∃ t, 1 ≤ t ∧ t ≤ 14 ∧ x_resultType (q a) = nI t) (hfin : ∀ x2 x3 f, ov_L q x_resultStatus x_resultType x_resultValue c x2 x3 f → wX_resolveCall_98 post (nI i) x2 x3 f (nI (q c)) x_methodCapacity x_nodeCapacity x_methods x_pickedPhase (nI nc) x_missingNodes x_resolved x_methodName x_methodParams x_methodPlaces x_methodReturn x_methodConstant x_methodVarargs x_callName x_callArgc x_literalType x_literalValue x_subtreeEnd x_resultStatus x_resultMethod x_resultType x_resultPhase x_resultValue) : ∀ d a x2 x3 f, a + d = c → ov_L q x_resultStatus x_resultType x_resultValue a x2 x3 f → wX_resolveCall_15 post (nI i) x_methodCapacity x_nodeCapacity x_methods x_pickedPhase (nI nc) x_missingNodes x_resolved x_methodName x_methodParams x_methodPlaces x_methodReturn x_methodConstant x_methodVarargs x_callName x_callArgc x_literalType x_literalValue x_subtreeEnd x_resultStatus x_resultMethod x_resultType x_resultPhase x_resultValue (d + 1) x2 x3 f (nI (q a)) (nI a) := by
  have ec : (nI i).toNatClampNeg = i := nI_clamp (by omega)
  have hv : vp_in (nI i) 32 := vp_in_nI (by omega) (by omega)
  intro d
  induction d with
  | zero =>
    intro a x2 x3 f ha hL
    have e : a = c := by omega
    subst e
    refine ⟨hv, ?_⟩
    rw [ec, hca]
    exact br_t (nI_le (Nat.le_refl a) (by omega)) (hfin x2 x3 f hL)
  | succ d ih =>
    intro a x2 x3 f ha hL
    have hqa := hq a (by omega)
    have eq : (nI (q a)).toNatClampNeg = q a := nI_clamp (by omega)
    have hvq : vp_in (nI (q a)) 32 := vp_in_nI (by omega) (by omega)
    have hs := hse a (by omega)
    have next : ∀ y2 y3 z0, ov_L q x_resultStatus x_resultType x_resultValue (a + 1) y2 y3 z0 → wX_resolveCall_81 post (wX_resolveCall_15 post (nI i) x_methodCapacity x_nodeCapacity x_methods x_pickedPhase (nI nc) x_missingNodes x_resolved x_methodName x_methodParams x_methodPlaces x_methodReturn x_methodConstant x_methodVarargs x_callName x_callArgc x_literalType x_literalValue x_subtreeEnd x_resultStatus x_resultMethod x_resultType x_resultPhase x_resultValue (d + 1)) (nI i) y2 y3 (nI (q a)) (nI a) z0 x_methodCapacity x_nodeCapacity x_methods x_pickedPhase (nI nc) x_missingNodes x_resolved x_methodName x_methodParams x_methodPlaces x_methodReturn x_methodConstant x_methodVarargs x_callName x_callArgc x_literalType x_literalValue x_subtreeEnd x_resultStatus x_resultMethod x_resultType x_resultPhase x_resultValue := by
      intro y2 y3 z0 hL'
      exact ⟨hvq, nm_r (e' := nI (q (a + 1))) (by rw [eq]; exact hs) (nm_r (nI_1 a) (ih (a + 1) y2 y3 z0 (by omega) hL'))⟩
    refine ⟨hv, ?_⟩
    rw [ec, hca]
    refine br_f (nI_ge (by omega) (by omega)) (br_f (nI_ge hqa (by omega)) ⟨hvq, ?_⟩)
    rw [eq]
    refine nm_e ⟨hvq, nm_e ?_⟩
    rcases hL with ⟨rfl, hs', rfl, rfl⟩ | ⟨rfl, hb⟩
    · refine br_t rfl ⟨hvq, br_c (fun s1 => ?_) (fun s1 => next _ _ 1 (ov_L_b _ _ s1))⟩
      obtain ⟨t, t1, t2, e⟩ := hT a (by omega) s1
      exact next _ _ 0 (ov_L_g (by omega) hs' s1 t2 e)
    · exact br_f (by decide) (next _ _ 1 (ov_L_k _ _ hb))
theorem xs_resolveCall {post : St2 → Prop} {mc nc i c : Nat} {ln E : Nat → Nat} (h16 : mc ≤ 16) (hM : ov_M mc x_methodParams x_methodPlaces x_methodVarargs ln) (hrt : ∀ m, m < mc → ∃ t, 1 ≤ t ∧ t ≤ 14 ∧ x_methodReturn m = nI t) (hn : nc ≤ 32) (hi : i < nc) (hc : c ≤ 4) (hca : x_callArgc i = nI c) (hq : ∀ a, a < c → ov_cs E i a < nc) (hse : ∀ a, a < c → x_subtreeEnd (ov_cs E i a) = nI (ov_cs E i (a + 1))) (hT : ∀ a, a < c → x_resultStatus (ov_cs E i a) = 1 → ∃ t, 1 ≤ t ∧ t ≤ 14 ∧ x_resultType (ov_cs E i a) = nI t) (h : ∀ s m t p w, ov_O mc x_methodName x_methodPlaces x_methodVarargs x_methodReturn x_methodConstant ln (x_callName i) (ov_bad (ov_cs E i) x_resultStatus c) (nI (ov_zt (ov_tq x_resultType (ov_cs E i)) c)) c (ov_sm (ov_vq x_resultValue (ov_cs E i)) c) s m t p w → post (x_methodCapacity, x_nodeCapacity, nI mc, x_pickedPhase, nI nc, x_missingNodes, x_resolved, x_methodName, x_methodParams, x_methodPlaces, x_methodReturn, x_methodConstant, x_methodVarargs, x_callName, x_callArgc, x_literalType, x_literalValue, upd x_subtreeEnd i (nI (ov_cs E i c)), upd x_resultStatus i s, upd x_resultMethod i m, upd x_resultType i t, upd x_resultPhase i p, vp_updL x_resultValue i w)) : wpX_resolveCall post (x_methodCapacity, x_nodeCapacity, nI mc, x_pickedPhase, nI nc, x_missingNodes, x_resolved, x_methodName, x_methodParams, x_methodPlaces, x_methodReturn, x_methodConstant, x_methodVarargs, x_callName, x_callArgc, x_literalType, x_literalValue, x_subtreeEnd, x_resultStatus, x_resultMethod, x_resultType, x_resultPhase, x_resultValue) (nI i) := by
  unfold wpX_resolveCall
  refine nm_r (nI_1 i) ⟨c + 1, ?_⟩
  exact xr_loop (q := ov_cs E i) hn hi hc hca hq hse hT (fun x2 x3 f hL => xr_98 h16 hM hrt (by omega) hc hT hL h) c 0 0 0 0 (by omega) ov_L_0
end
