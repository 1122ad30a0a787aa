/-! ===== the relation ===== -/
def ov_Nd (nc : Nat) (cn ca lt nk na : Nat → Int32) (lv nl : Nat → Int64) (g : Nat → Nat) : Prop := ∀ i, i < nc → ca i = nI (g i) ∧ g i ≤ 4 ∧ ((nk i = 0 ∧ cn i = -1 ∧ lt i = na i ∧ lv i = nl i ∧ g i = 0 ∧ ∃ t, 1 ≤ t ∧ t ≤ 14 ∧ na i = nI t) ∨ (nk i = 1 ∧ cn i = na i ∧ ¬ cn i = -1))
def i_Rel (_ : Nat) (u : SX) (v : SY) : Prop := ∃ (cm cn mc nc : Nat) (ln g P : Nat → Nat) (ph rp rs : Int32) (nm pm pl rt co vr cN ca lt nk na : Nat → Int32) (lv nl : Nat → Int64) (se st me ty pp : Nat → Int32) (va : Nat → Int64),
  u = (nI cm, nI cn, nI mc, ph, nI nc, nI (P nc), rs, nm, pm, pl, rt, co, vr, cN, ca, lt, lv, se, st, me, ty, pp, va) ∧
  v = (nI cm, nI cn, nI mc, nI nc, nI (P nc), ph, rp, rs, nm, pm, rt, vr, co, nk, na, ca, nl, st, me, ty, pp, va) ∧
  cm ≤ 16 ∧ cn ≤ 32 ∧ mc ≤ cm ∧ nc ≤ cn ∧ ov_M mc pm pl vr ln ∧ (∀ m, m < mc → ∃ t, 1 ≤ t ∧ t ≤ 14 ∧ rt m = nI t) ∧ ov_Nd nc cN ca lt nk na lv nl g ∧ ov_P g P nc
theorem i_up {k : Nat} {u : SX} {v : SY} (h : i_Rel k u v) : i_Rel (k + 5) u v := h
theorem ov_P_b {nc cn : Nat} {cN ca lt nk na : Nat → Int32} {lv nl : Nat → Int64} {g P : Nat → Nat} (hNd : ov_Nd nc cN ca lt nk na lv nl g) (hP : ov_P g P nc) (h : nc ≤ cn) (h32 : cn ≤ 32) : P nc ≤ 97 := by
  have := ov_P_le hP (fun j hj => (hNd j hj).2.1) nc (Nat.le_refl nc)
  omega
theorem ov_clamp (p : Int32) {lo hi : Nat} (hl : lo ≤ hi) (hh : hi < 2 ^ 31) : ∃ c, c ≤ hi ∧ (∀ post : Int32 → Prop, post (nI c) → wpX_clamp post p (nI lo) (nI hi)) ∧ (∀ Q : Int32 → Prop, Q (nI c) → ((nI lo ≤ p → ((p ≤ nI hi → Q p) ∧ (¬ p ≤ nI hi → Q (nI hi)))) ∧ (¬ nI lo ≤ p → ((nI lo ≤ nI hi → Q (nI lo)) ∧ (¬ nI lo ≤ nI hi → Q (nI hi)))))) := by
  by_cases a : nI lo ≤ p
  · by_cases b : p ≤ nI hi
    · have n : ¬ p < 0 := Int32.not_lt.mpr (Int32.le_trans (nI_pos' (by omega)) a)
      obtain ⟨c, hc, rfl⟩ := nI_of n
      have := (nI_leI hc hh).mp b
      exact ⟨c, this, fun post h => br_t a (br_t b h), fun Q h => br_t a (br_t b h)⟩
    · exact ⟨hi, Nat.le_refl hi, fun post h => br_t a (br_f b h), fun Q h => br_t a (br_f b h)⟩
  · exact ⟨lo, hl, fun post h => br_f a h, fun Q h => br_f a (br_t (nI_le hl hh) h)⟩
theorem i_vc0 (k0 : Int32) (k1 : Int32) : wpX_init (fun u => wpY_init (fun v => i_Rel 2 u v) k0 k1) k0 k1 := by
  obtain ⟨cm, h1, hX1, hY1⟩ := ov_clamp k0 (lo := 2) (hi := 16) (by decide) (by decide)
  obtain ⟨cn, h2, hX2, hY2⟩ := ov_clamp k1 (lo := 4) (hi := 32) (by decide) (by decide)
  unfold wpX_init
  refine hX1 _ (hX2 _ ?_)
  show wpY_init (fun v => i_Rel 2 (nI cm, nI cn, 0, 0, 0, 1, 0, (fun _ => 0), (fun _ => 0), (fun _ => 0), (fun _ => 0), (fun _ => 0), (fun _ => 0), (fun _ => 0), (fun _ => 0), (fun _ => 0), (fun _ => 0), (fun _ => 0), (fun _ => 0), (fun _ => 0), (fun _ => 0), (fun _ => 0), (fun _ => 0)) v) k0 k1
  unfold wpY_init
  refine hY1 (fun c => wY_init_149 _ k1 c 0 0 0 0 0 0 0 (fun _ => 0) (fun _ => 0) (fun _ => 0) (fun _ => 0) (fun _ => 0) (fun _ => 0) (fun _ => 0) (fun _ => 0) (fun _ => 0) (fun _ => 0) (fun _ => 0) (fun _ => 0) (fun _ => 0) (fun _ => 0)) ?_
  refine hY2 (fun c => i_Rel 2 _ (nI cm, c, 0, 0, 1, 0, 0, 0, (fun _ => 0), (fun _ => 0), (fun _ => 0), (fun _ => 0), (fun _ => 0), (fun _ => 0), (fun _ => 0), (fun _ => 0), (fun _ => 0), (fun _ => 0), (fun _ => 0), (fun _ => 0), (fun _ => 0), (fun _ => 0))) ?_
  exact ⟨cm, cn, 0, 0, fun _ => 0, fun _ => 0, fun _ => 1, 0, 0, 0, fun _ => 0, fun _ => 0, fun _ => 0, fun _ => 0, fun _ => 0, fun _ => 0, fun _ => 0, fun _ => 0, fun _ => 0, fun _ => 0, fun _ => 0, fun _ => 0, fun _ => 0, fun _ => 0, fun _ => 0, fun _ => 0, fun _ => 0, fun _ => 0, fun _ => 0, rfl, rfl, h1, h2, by omega, by omega, fun m hm => absurd hm (by omega), fun m hm => absurd hm (by omega), fun m hm => absurd hm (by omega), rfl, fun m hm => absurd hm (by omega)⟩
/-! ===== readers ===== -/
theorem i_vc_methodCount {k : Nat} {u : SX} {v : SY} (I : i_Rel k u v) (hk : k + 5 ≤ 2562) : wpX_methodCount (fun r => wpY_methodCount (fun r' => r' = r ∧ i_Rel (k + 5) u v) v) u := by
  have J : i_Rel (k + 5) u v := I
  obtain ⟨cm, cn, mc, nc, ln, g, P, ph, rp, rs, nm, pm, pl, rt, co, vr, cN, ca, lt, nk, na, lv, nl, se, st, me, ty, pp, va, rfl, rfl, h16, h32, hmc, hnc, hM, hrt, hNd, hP⟩ := I
  exact ⟨rfl, J⟩
theorem i_vc_lastPhase {k : Nat} {u : SX} {v : SY} (I : i_Rel k u v) (hk : k + 5 ≤ 2562) : wpX_lastPhase (fun r => wpY_lastPhase (fun r' => r' = r ∧ i_Rel (k + 5) u v) v) u := by
  have J : i_Rel (k + 5) u v := I
  obtain ⟨cm, cn, mc, nc, ln, g, P, ph, rp, rs, nm, pm, pl, rt, co, vr, cN, ca, lt, nk, na, lv, nl, se, st, me, ty, pp, va, rfl, rfl, h16, h32, hmc, hnc, hM, hrt, hNd, hP⟩ := I
  exact ⟨rfl, J⟩
theorem i_vc_pending {k : Nat} {u : SX} {v : SY} (I : i_Rel k u v) (hk : k + 5 ≤ 2562) : wpX_pending (fun r => wpY_pending (fun r' => r' = r ∧ i_Rel (k + 5) u v) v) u := by
  have J : i_Rel (k + 5) u v := I
  obtain ⟨cm, cn, mc, nc, ln, g, P, ph, rp, rs, nm, pm, pl, rt, co, vr, cN, ca, lt, nk, na, lv, nl, se, st, me, ty, pp, va, rfl, rfl, h16, h32, hmc, hnc, hM, hrt, hNd, hP⟩ := I
  exact ⟨rfl, J⟩
theorem i_vc_nodeCount {k : Nat} {u : SX} {v : SY} (I : i_Rel k u v) (hk : k + 5 ≤ 2562) : wpX_nodeCount (fun r => wpY_nodeCount (fun r' => r' = r ∧ i_Rel (k + 5) u v) v) u := by
  have J : i_Rel (k + 5) u v := I
  obtain ⟨cm, cn, mc, nc, ln, g, P, ph, rp, rs, nm, pm, pl, rt, co, vr, cN, ca, lt, nk, na, lv, nl, se, st, me, ty, pp, va, rfl, rfl, h16, h32, hmc, hnc, hM, hrt, hNd, hP⟩ := I
  exact ⟨rfl, J⟩
theorem i_vc_clearProgram {k : Nat} {u : SX} {v : SY} (I : i_Rel k u v) (hk : k + 5 ≤ 2562) : wpX_clearProgram (fun u' => wpY_clearProgram (fun v' => i_Rel (k + 5) u' v') v) u := by
  obtain ⟨cm, cn, mc, nc, ln, g, P, ph, rp, rs, nm, pm, pl, rt, co, vr, cN, ca, lt, nk, na, lv, nl, se, st, me, ty, pp, va, rfl, rfl, h16, h32, hmc, hnc, hM, hrt, hNd, hP⟩ := I
  exact ⟨cm, cn, mc, 0, ln, g, fun _ => 1, ph, rp, 0, nm, pm, pl, rt, co, vr, cN, ca, lt, nk, na, lv, nl, se, st, me, ty, pp, va, rfl, rfl, h16, h32, hmc, by omega, hM, hrt, fun m hm => absurd hm (by omega), rfl, fun m hm => absurd hm (by omega)⟩
section
variable {x_methodCapacity x_nodeCapacity x_methods x_pickedPhase x_nodes x_missingNodes x_resolved : Int32} {x_methodName x_methodParams x_methodPlaces x_methodReturn x_methodConstant x_methodVarargs x_callName x_callArgc x_literalType : Nat → Int32} {x_literalValue : Nat → Int64} {x_subtreeEnd x_resultStatus x_resultMethod x_resultType x_resultPhase : Nat → Int32} {x_resultValue : Nat → Int64}
theorem xs_isNode_no {post : Int32 → Prop} {p : Int32} (h : p < 0 ∨ x_nodes ≤ p) (hp : post 0) : wpX_isNode post (x_methodCapacity, x_nodeCapacity, x_methods, x_pickedPhase, x_nodes, x_missingNodes, x_resolved, x_methodName, x_methodParams, x_methodPlaces, x_methodReturn, x_methodConstant, x_methodVarargs, x_callName, x_callArgc, x_literalType, x_literalValue, x_subtreeEnd, x_resultStatus, x_resultMethod, x_resultType, x_resultPhase, x_resultValue) p := by
  unfold wpX_isNode
  exact br_c (fun _ => hp) (fun a => br_t (h.elim (fun b => absurd b a) id) hp)
theorem xs_isNode_yes {post : Int32 → Prop} {j nc : Nat} (hj : j < nc) (hn : nc ≤ 32) (hp : post 1) : wpX_isNode post (x_methodCapacity, x_nodeCapacity, x_methods, x_pickedPhase, nI nc, x_missingNodes, x_resolved, x_methodName, x_methodParams, x_methodPlaces, x_methodReturn, x_methodConstant, x_methodVarargs, x_callName, x_callArgc, x_literalType, x_literalValue, x_subtreeEnd, x_resultStatus, x_resultMethod, x_resultType, x_resultPhase, x_resultValue) (nI j) := by
  unfold wpX_isNode
  exact br_f (nI_pos (by omega)) (br_f (nI_ge hj (by omega)) hp)
theorem xs_hasResult_no {post : Int32 → Prop} {p : Int32} (h : x_resolved = 0 ∨ p < 0 ∨ x_nodes ≤ p) (hp : post 0) : wpX_hasResult post (x_methodCapacity, x_nodeCapacity, x_methods, x_pickedPhase, x_nodes, x_missingNodes, x_resolved, x_methodName, x_methodParams, x_methodPlaces, x_methodReturn, x_methodConstant, x_methodVarargs, x_callName, x_callArgc, x_literalType, x_literalValue, x_subtreeEnd, x_resultStatus, x_resultMethod, x_resultType, x_resultPhase, x_resultValue) p := by
  unfold wpX_hasResult
  exact br_c (fun _ => hp) (fun a => xs_isNode_no (h.elim (fun b => absurd b a) id) (br_t rfl hp))
theorem xs_hasResult_yes {post : Int32 → Prop} {j nc : Nat} (hr : ¬ x_resolved = 0) (hj : j < nc) (hn : nc ≤ 32) (hp : post 1) : wpX_hasResult post (x_methodCapacity, x_nodeCapacity, x_methods, x_pickedPhase, nI nc, x_missingNodes, x_resolved, x_methodName, x_methodParams, x_methodPlaces, x_methodReturn, x_methodConstant, x_methodVarargs, x_callName, x_callArgc, x_literalType, x_literalValue, x_subtreeEnd, x_resultStatus, x_resultMethod, x_resultType, x_resultPhase, x_resultValue) (nI j) := by
  unfold wpX_hasResult
  exact br_f hr (xs_isNode_yes hj hn (br_f (by decide) hp))
end
theorem ov_nlt {p : Int32} {n : Nat} (h : nI n ≤ p) : ¬ p < nI n := Int32.not_lt.mpr h
theorem i_vc_nodeStatus {k : Nat} {u : SX} {v : SY} (I : i_Rel k u v) (hk : k + 5 ≤ 2562) (v1 : Int32) : wpX_nodeStatus (fun r => wpY_nodeStatus (fun r' => r' = r ∧ i_Rel (k + 5) u v) v v1) u v1 := by
  have J : i_Rel (k + 5) u v := I
  obtain ⟨cm, cn, mc, nc, ln, g, P, ph, rp, rs, nm, pm, pl, rt, co, vr, cN, ca, lt, nk, na, lv, nl, se, st, me, ty, pp, va, rfl, rfl, h16, h32, hmc, hnc, hM, hrt, hNd, hP⟩ := I
  unfold wpX_nodeStatus
  rcases pk_ix v1 (n := nc) (by omega) with a | a | ⟨j, hj, rfl⟩
  · exact xs_isNode_no (Or.inl a) (br_t rfl (br_t a ⟨rfl, J⟩))
  · have b : ¬ v1 < 0 := Int32.not_lt.mpr (Int32.le_trans (nI_pos' (by omega)) a)
    exact xs_isNode_no (Or.inr a) (br_t rfl (br_f b (br_f (ov_nlt a) ⟨rfl, J⟩)))
  · have hv : vp_in (nI j) 32 := vp_in_nI (by omega) (by omega)
    refine xs_isNode_yes hj (by omega) (br_f (by decide) (br_c (fun e => ?_) (fun e => ⟨hv, ?_⟩)))
    · exact br_f (nI_pos (by omega)) (br_t (nI_lt hj (by omega)) (br_t e ⟨rfl, J⟩))
    · exact br_f (nI_pos (by omega)) (br_t (nI_lt hj (by omega)) (br_f e ⟨hv, rfl, J⟩))
theorem i_vc_nodeMethod {k : Nat} {u : SX} {v : SY} (I : i_Rel k u v) (hk : k + 5 ≤ 2562) (v1 : Int32) : wpX_nodeMethod (fun r => wpY_nodeMethod (fun r' => r' = r ∧ i_Rel (k + 5) u v) v v1) u v1 := by
  have J : i_Rel (k + 5) u v := I
  obtain ⟨cm, cn, mc, nc, ln, g, P, ph, rp, rs, nm, pm, pl, rt, co, vr, cN, ca, lt, nk, na, lv, nl, se, st, me, ty, pp, va, rfl, rfl, h16, h32, hmc, hnc, hM, hrt, hNd, hP⟩ := I
  unfold wpX_nodeMethod
  rcases pk_ix v1 (n := nc) (by omega) with a | a | ⟨j, hj, rfl⟩
  · exact xs_hasResult_no (Or.inr (Or.inl a)) (br_t rfl (br_t a ⟨rfl, J⟩))
  · have b : ¬ v1 < 0 := Int32.not_lt.mpr (Int32.le_trans (nI_pos' (by omega)) a)
    exact xs_hasResult_no (Or.inr (Or.inr a)) (br_t rfl (br_f b (br_t a ⟨rfl, J⟩)))
  · have hv : vp_in (nI j) 32 := vp_in_nI (by omega) (by omega)
    by_cases e : rs = 0
    · exact xs_hasResult_no (Or.inl e) (br_t rfl (br_f (nI_pos (by omega)) (br_f (nI_ge hj (by omega)) (br_t e ⟨rfl, J⟩))))
    · exact xs_hasResult_yes e hj (by omega) (br_f (by decide) ⟨hv, br_f (nI_pos (by omega)) (br_f (nI_ge hj (by omega)) (br_f e ⟨hv, rfl, J⟩))⟩)
theorem i_vc_nodeType {k : Nat} {u : SX} {v : SY} (I : i_Rel k u v) (hk : k + 5 ≤ 2562) (v1 : Int32) : wpX_nodeType (fun r => wpY_nodeType (fun r' => r' = r ∧ i_Rel (k + 5) u v) v v1) u v1 := by
  have J : i_Rel (k + 5) u v := I
  obtain ⟨cm, cn, mc, nc, ln, g, P, ph, rp, rs, nm, pm, pl, rt, co, vr, cN, ca, lt, nk, na, lv, nl, se, st, me, ty, pp, va, rfl, rfl, h16, h32, hmc, hnc, hM, hrt, hNd, hP⟩ := I
  unfold wpX_nodeType
  rcases pk_ix v1 (n := nc) (by omega) with a | a | ⟨j, hj, rfl⟩
  · exact xs_hasResult_no (Or.inr (Or.inl a)) (br_t rfl (br_t a ⟨rfl, J⟩))
  · have b : ¬ v1 < 0 := Int32.not_lt.mpr (Int32.le_trans (nI_pos' (by omega)) a)
    exact xs_hasResult_no (Or.inr (Or.inr a)) (br_t rfl (br_f b (br_t a ⟨rfl, J⟩)))
  · have hv : vp_in (nI j) 32 := vp_in_nI (by omega) (by omega)
    by_cases e : rs = 0
    · exact xs_hasResult_no (Or.inl e) (br_t rfl (br_f (nI_pos (by omega)) (br_f (nI_ge hj (by omega)) (br_t e ⟨rfl, J⟩))))
    · exact xs_hasResult_yes e hj (by omega) (br_f (by decide) ⟨hv, br_f (nI_pos (by omega)) (br_f (nI_ge hj (by omega)) (br_f e ⟨hv, rfl, J⟩))⟩)
theorem i_vc_nodePhase {k : Nat} {u : SX} {v : SY} (I : i_Rel k u v) (hk : k + 5 ≤ 2562) (v1 : Int32) : wpX_nodePhase (fun r => wpY_nodePhase (fun r' => r' = r ∧ i_Rel (k + 5) u v) v v1) u v1 := by
  have J : i_Rel (k + 5) u v := I
  obtain ⟨cm, cn, mc, nc, ln, g, P, ph, rp, rs, nm, pm, pl, rt, co, vr, cN, ca, lt, nk, na, lv, nl, se, st, me, ty, pp, va, rfl, rfl, h16, h32, hmc, hnc, hM, hrt, hNd, hP⟩ := I
  unfold wpX_nodePhase
  rcases pk_ix v1 (n := nc) (by omega) with a | a | ⟨j, hj, rfl⟩
  · exact xs_hasResult_no (Or.inr (Or.inl a)) (br_t rfl (br_t a ⟨rfl, J⟩))
  · have b : ¬ v1 < 0 := Int32.not_lt.mpr (Int32.le_trans (nI_pos' (by omega)) a)
    exact xs_hasResult_no (Or.inr (Or.inr a)) (br_t rfl (br_f b (br_t a ⟨rfl, J⟩)))
  · have hv : vp_in (nI j) 32 := vp_in_nI (by omega) (by omega)
    by_cases e : rs = 0
    · exact xs_hasResult_no (Or.inl e) (br_t rfl (br_f (nI_pos (by omega)) (br_f (nI_ge hj (by omega)) (br_t e ⟨rfl, J⟩))))
    · exact xs_hasResult_yes e hj (by omega) (br_f (by decide) ⟨hv, br_f (nI_pos (by omega)) (br_f (nI_ge hj (by omega)) (br_f e ⟨hv, rfl, J⟩))⟩)
theorem i_vc_nodeValue {k : Nat} {u : SX} {v : SY} (I : i_Rel k u v) (hk : k + 5 ≤ 2562) (v1 : Int32) : wpX_nodeValue (fun r => wpY_nodeValue (fun r' => r' = r ∧ i_Rel (k + 5) u v) v v1) u v1 := by
  have J : i_Rel (k + 5) u v := I
  obtain ⟨cm, cn, mc, nc, ln, g, P, ph, rp, rs, nm, pm, pl, rt, co, vr, cN, ca, lt, nk, na, lv, nl, se, st, me, ty, pp, va, rfl, rfl, h16, h32, hmc, hnc, hM, hrt, hNd, hP⟩ := I
  unfold wpX_nodeValue
  rcases pk_ix v1 (n := nc) (by omega) with a | a | ⟨j, hj, rfl⟩
  · exact xs_hasResult_no (Or.inr (Or.inl a)) (br_t rfl (br_t a ⟨rfl, J⟩))
  · have b : ¬ v1 < 0 := Int32.not_lt.mpr (Int32.le_trans (nI_pos' (by omega)) a)
    exact xs_hasResult_no (Or.inr (Or.inr a)) (br_t rfl (br_f b (br_t a ⟨rfl, J⟩)))
  · have hv : vp_in (nI j) 32 := vp_in_nI (by omega) (by omega)
    by_cases e : rs = 0
    · exact xs_hasResult_no (Or.inl e) (br_t rfl (br_f (nI_pos (by omega)) (br_f (nI_ge hj (by omega)) (br_t e ⟨rfl, J⟩))))
    · exact xs_hasResult_yes e hj (by omega) (br_f (by decide) ⟨hv, br_f (nI_pos (by omega)) (br_f (nI_ge hj (by omega)) (br_f e ⟨hv, rfl, J⟩))⟩)
/-! ===== convertible ===== -/
theorem ov_rng (p : Int32) {lo hi : Nat} (hl : lo < 2 ^ 31) (hh : hi < 2 ^ 31) : p < nI lo ∨ (¬ p < nI lo ∧ nI hi < p) ∨ ∃ t, lo ≤ t ∧ t ≤ hi ∧ p = nI t := by
  by_cases a : p < nI lo
  · exact Or.inl a
  · by_cases b : nI hi < p
    · exact Or.inr (Or.inl ⟨a, b⟩)
    · have n : ¬ p < 0 := Int32.not_lt.mpr (Int32.le_trans (nI_pos' hl) (Int32.not_lt.mp a))
      obtain ⟨t, ht, rfl⟩ := nI_of n
      rw [nI_ltI ht hl] at a
      rw [nI_ltI hh ht] at b
      exact Or.inr (Or.inr ⟨t, by omega, by omega, rfl⟩)
theorem xs_isType_no {post : Int32 → Prop} {p : Int32} (h : p < nI 1 ∨ (¬ p < nI 1 ∧ nI 14 < p)) (hp : post 0) : wpX_isType post p := by
  rcases h with a | ⟨a, b⟩
  · exact br_t a hp
  · exact br_f a (br_t b hp)
theorem xs_isType_yes {post : Int32 → Prop} {t : Nat} (t1 : 1 ≤ t) (t2 : t ≤ 14) (hp : post 1) : wpX_isType post (nI t) :=
  xs_isTypeN (by omega) (fun _ _ => hp) (fun c => by omega)
theorem i_vc_convertible {k : Nat} {u : SX} {v : SY} (I : i_Rel k u v) (hk : k + 5 ≤ 2562) (v1 : Int32) (v2 : Int32) (v3 : Int32) : wpX_convertible (fun r => wpY_convertible (fun r' => r' = r ∧ i_Rel (k + 5) u v) v v1 v2 v3) u v1 v2 v3 := by
  have J : i_Rel (k + 5) u v := I
  obtain ⟨cm, cn, mc, nc, ln, g, P, ph, rp, rs, nm, pm, pl, rt, co, vr, cN, ca, lt, nk, na, lv, nl, se, st, me, ty, pp, va, rfl, rfl, h16, h32, hmc, hnc, hM, hrt, hNd, hP⟩ := I
  unfold wpX_convertible
  have o0 : ¬ ((1 : Int32) = 0) := by decide
  rcases ov_rng v1 (lo := 1) (hi := 14) (by decide) (by decide) with a | a | ⟨s, s1, s2, rfl⟩
  · exact xs_isType_no (Or.inl a) (br_t rfl (br_t a ⟨rfl, J⟩))
  · exact xs_isType_no (Or.inr a) (br_t rfl (br_f a.1 (br_t a.2 ⟨rfl, J⟩)))
  have ys1 : ¬ nI s < 1 := nI_nlt (b := 1) s1 (by omega)
  have ys2 : ¬ 14 < nI s := nI_nlt (a := 14) s2 (by decide)
  refine xs_isType_yes s1 s2 (br_f o0 ?_)
  rcases ov_rng v2 (lo := 1) (hi := 14) (by decide) (by decide) with a | a | ⟨t, t1, t2, rfl⟩
  · exact xs_isType_no (Or.inl a) (br_t rfl (br_f ys1 (br_f ys2 (br_t a ⟨rfl, J⟩))))
  · exact xs_isType_no (Or.inr a) (br_t rfl (br_f ys1 (br_f ys2 (br_f a.1 (br_t a.2 ⟨rfl, J⟩)))))
  have yt1 : ¬ nI t < 1 := nI_nlt (b := 1) t1 (by omega)
  have yt2 : ¬ 14 < nI t := nI_nlt (a := 14) t2 (by decide)
  refine xs_isType_yes t1 t2 (br_f o0 ?_)
  rcases ov_rng v3 (lo := 1) (hi := 3) (by decide) (by decide) with a | a | ⟨p, p1, p2, rfl⟩
  · exact br_t a (br_f ys1 (br_f ys2 (br_f yt1 (br_f yt2 (br_t a ⟨rfl, J⟩)))))
  · have b : ¬ v3 ≤ 3 := Int32.not_le.mpr a.2
    exact br_f a.1 (br_f b (br_f ys1 (br_f ys2 (br_f yt1 (br_f yt2 (br_f a.1 (br_f b ⟨rfl, J⟩)))))))
  have yp1 : ¬ nI p < 1 := nI_nlt (b := 1) p1 (by omega)
  have yp2 : nI p ≤ 3 := nI_le (b := 3) p2 (by decide)
  refine br_f yp1 (br_t yp2 (xs_compat s1 s2 t1 t2 (by omega) (fun c => ⟨rfl, ?_⟩) (fun c => ⟨rfl, ?_⟩)))
  · exact br_f ys1 (br_f ys2 (br_f yt1 (br_f yt2 (br_f yp1 (br_t yp2 (ys_compat s1 s2 t1 t2 (by omega) (fun d => ⟨rfl, rfl, J⟩) (fun d => absurd c d)))))))
  · exact br_f ys1 (br_f ys2 (br_f yt1 (br_f yt2 (br_f yp1 (br_t yp2 (ys_compat s1 s2 t1 t2 (by omega) (fun d => absurd d c) (fun d => ⟨rfl, rfl, J⟩)))))))
/-! ===== pick ===== -/
theorem ov_8 {x : Int32} (h : nI 8 ≤ x) : ¬ x ≤ 7 := fun z => absurd (Int32.le_trans h z) (by decide)
theorem i_vc_pick {k : Nat} {u : SX} {v : SY} (I : i_Rel k u v) (hk : k + 5 ≤ 2562) (v1 : Int32) (v2 : Int32) : wpX_pick (fun r u' => wpY_pick (fun r' v' => r' = r ∧ i_Rel (k + 5) u' v') v v1 v2) u v1 v2 := by
  have J : i_Rel (k + 5) u v := I
  obtain ⟨cm, cn, mc, nc, ln, g, P, ph, rp, rs, nm, pm, pl, rt, co, vr, cN, ca, lt, nk, na, lv, nl, se, st, me, ty, pp, va, rfl, rfl, h16, h32, hmc, hnc, hM, hrt, hNd, hP⟩ := I
  unfold wpX_pick
  have o0 : ¬ ((1 : Int32) = 0) := by decide
  rcases pk_ix v1 (n := 8) (by decide) with a | a | ⟨x, hx, rfl⟩
  · exact br_t a (br_t rfl (br_t a ⟨rfl, J⟩))
  · have b : ¬ v1 < 0 := Int32.not_lt.mpr (Int32.le_trans (by decide) a)
    exact br_f b (br_t a (br_t rfl (br_f b (br_f (ov_8 a) ⟨rfl, J⟩))))
  have y1 : ¬ nI x < 0 := nI_pos (by omega)
  have y2 : nI x ≤ 7 := nI_le (b := 7) (by omega) (by decide)
  refine br_f y1 (br_f (nI_ge (b := 8) hx (by decide)) (br_f o0 ?_))
  refine xs_isTypeList (fun L hL => br_f o0 ?_) (fun n => br_t rfl ?_)
  · refine xs_decidingPhase (by omega) hM hL (fun d hd => ?_)
    refine xs_chooseMethod (by omega) hM hL (by have := ov_Ph_le hd; omega) (fun r hr => ?_)
    unfold wpY_pick
    refine br_f y1 (br_t y2 (ys_validList (fun L' _ => br_f o0 ?_) (fun n => absurd hL (n L))))
    refine ys_choose (by omega) hM hL (fun d' r' hd' hr' => ?_)
    have e := ov_Ph_u hd hd'
    subst e
    have e2 := ov_Ch_u hr hr'
    subst e2
    exact ⟨rfl, ⟨cm, cn, mc, nc, ln, g, P, nI d, nI d, rs, nm, pm, pl, rt, co, vr, cN, ca, lt, nk, na, lv, nl, se, st, me, ty, pp, va, rfl, rfl, h16, h32, hmc, hnc, hM, hrt, hNd, hP⟩⟩
  · unfold wpY_pick
    exact br_f y1 (br_t y2 (ys_validList (fun L hL => absurd hL (n L)) (fun _ => br_t rfl ⟨rfl, J⟩)))
