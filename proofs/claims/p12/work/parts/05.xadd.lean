def ov_Nd (nc : Nat) (cn ca lt nk na : Nat → Int32) (lv nl : Nat → Int64) (g : Nat → Nat) : Prop := ∀ i, i < nc → ca i = nI (g i) ∧ g i ≤ 4 ∧ ((nk i = 0 ∧ cn i = -1 ∧ lt i = na i ∧ lv i = nl i ∧ g i = 0 ∧ ∃ t, 1 ≤ t ∧ t ≤ 14 ∧ na i = nI t) ∨ (nk i = 1 ∧ cn i = na i ∧ ¬ cn i = -1))
theorem ov_P_b {nc cn : Nat} {cN ca lt nk na : Nat → Int32} {lv nl : Nat → Int64} {g P : Nat → Nat} (hNd : ov_Nd nc cN ca lt nk na lv nl g) (hP : ov_P g P nc) (h : nc ≤ cn) (h32 : cn ≤ 32) : P nc ≤ 97 := by
  have := ov_P_le hP (fun j hj => (hNd j hj).2.1) nc (Nat.le_refl nc)
  omega
theorem ov_rng (p : Int32) {lo hi : Nat} (hl : lo < 2 ^ 31) (hh : hi < 2 ^ 31) : p < nI lo ∨ (¬ p < nI lo ∧ nI hi < p) ∨ ∃ t, lo ≤ t ∧ t ≤ hi ∧ p = nI t := by
  by_cases a : p < nI lo
  · exact Or.inl a
  · by_cases b : nI hi < p
    · exact Or.inr (Or.inl ⟨a, b⟩)
    · have n : ¬ p < 0 := Int32.not_lt.mpr (Int32.le_trans (nI_pos' hl) (Int32.not_lt.mp a))
      obtain ⟨t, ht, rfl⟩ := nI_of n
      rw [nI_ltI ht hl] at a
      rw [nI_ltI hh ht] at b
      exact Or.inr (Or.inr ⟨t, by omega, by omega, rfl⟩)
theorem xs_isType_no {post : Int32 → Prop} {p : Int32} (h : p < nI 1 ∨ (¬ p < nI 1 ∧ nI 14 < p)) (hp : post 0) : wpX_isType post () p := by
  rcases h with a | ⟨a, b⟩
  · exact br_t a hp
  · exact br_f a (br_t b hp)
theorem xs_isType_yes {post : Int32 → Prop} {t : Nat} (t1 : 1 ≤ t) (t2 : t ≤ 14) (hp : post 1) : wpX_isType post () (nI t) :=
  xs_isTypeN (by omega) (fun _ _ => hp) (fun c => by omega)
theorem ov_8 {x : Int32} (h : nI 8 ≤ x) : ¬ x ≤ 7 := fun z => absurd (Int32.le_trans h z) (by decide)
def ov_z (c : Int32) : Int32 := if c &&& 16 = 0 then 0 else 1
def ov_Acc (mc cm : Nat) (nm pm vr : Nat → Int32) (a b c : Int32) : Prop := mc ≠ cm ∧ (¬ a < 0 ∧ ¬ 8 ≤ a) ∧ (∃ L, ov_V b L ∧ (¬ ov_z c = 0 → 1 ≤ L)) ∧ (¬ (c &&& 15) < 1 ∧ ¬ 14 < (c &&& 15)) ∧ c &&& (-32) = 0 ∧ ∀ m, m < mc → ¬ (nm m = a ∧ pm m = b ∧ vr m = ov_z c)
theorem ov_z01 (c : Int32) : ov_z c = 0 ∨ ov_z c = 1 := by
  unfold ov_z
  by_cases h : c &&& 16 = 0
  · exact Or.inl (if_pos h)
  · exact Or.inr (if_neg h)
theorem ov_zn (c : Int32) : vp_nar .boolean (ov_z c) = ov_z c := by
  rcases ov_z01 c with e | e <;> rw [e] <;> rfl
theorem ov_P_add {g P : Nat → Nat} {nc : Nat} (c : Nat) (h : ov_P g P nc) (h1 : 1 ≤ P nc) : ov_P (fun j => if j = nc then c else g j) (fun j => if j ≤ nc then P j else P nc - 1 + c) (nc + 1) := by
  refine ⟨?_, fun j hj => ?_⟩
  · show (if 0 ≤ nc then P 0 else P nc - 1 + c) = 1
    rw [if_pos (by omega)]
    exact h.1
  · show 1 ≤ (if j ≤ nc then P j else P nc - 1 + c) ∧ (if j + 1 ≤ nc then P (j + 1) else P nc - 1 + c) + 1 = (if j ≤ nc then P j else P nc - 1 + c) + (if j = nc then c else g j)
    rw [if_pos (by omega : j ≤ nc)]
    by_cases e : j = nc
    · rw [if_neg (by omega : ¬ j + 1 ≤ nc), if_pos e, e]
      exact ⟨h1, by omega⟩
    · rw [if_pos (by omega : j + 1 ≤ nc), if_neg e]
      exact h.2 j (by omega)
theorem ov_P_1 {g P : Nat → Nat} {nc : Nat} (h : ov_P g P nc) (n : ¬ (0 < nc ∧ P nc = 0)) : 1 ≤ P nc := by
  rcases Nat.eq_zero_or_pos nc with e | e
  · rw [e, h.1]
    exact Nat.le_refl 1
  · omega
section
variable {x_methodCapacity x_nodeCapacity x_methods x_pickedPhase x_nodes x_missingNodes x_resolved : Int32} {x_methodName x_methodParams x_methodPlaces x_methodReturn x_methodConstant x_methodVarargs x_callName x_callArgc x_literalType : Nat → Int32} {x_literalValue : Nat → Int64} {x_subtreeEnd x_resultStatus x_resultMethod x_resultType x_resultPhase : Nat → Int32} {x_resultValue : Nat → Int64}
theorem xs_isNode_no {post : Int32 → Prop} {p : Int32} (h : p < 0 ∨ x_nodes ≤ p) (hp : post 0) : wpX_isNode post (x_methodCapacity, x_nodeCapacity, x_methods, x_pickedPhase, x_nodes, x_missingNodes, x_resolved, x_methodName, x_methodParams, x_methodPlaces, x_methodReturn, x_methodConstant, x_methodVarargs, x_callName, x_callArgc, x_literalType, x_literalValue, x_subtreeEnd, x_resultStatus, x_resultMethod, x_resultType, x_resultPhase, x_resultValue) p := by
  unfold wpX_isNode
  exact br_c (fun _ => hp) (fun a => br_t (h.elim (fun b => absurd b a) id) hp)
theorem xs_isNode_yes {post : Int32 → Prop} {j nc : Nat} (hj : j < nc) (hn : nc ≤ 32) (hp : post 1) : wpX_isNode post (x_methodCapacity, x_nodeCapacity, x_methods, x_pickedPhase, nI nc, x_missingNodes, x_resolved, x_methodName, x_methodParams, x_methodPlaces, x_methodReturn, x_methodConstant, x_methodVarargs, x_callName, x_callArgc, x_literalType, x_literalValue, x_subtreeEnd, x_resultStatus, x_resultMethod, x_resultType, x_resultPhase, x_resultValue) (nI j) := by
  unfold wpX_isNode
  exact br_f (nI_pos (by omega)) (br_f (nI_ge hj (by omega)) hp)
theorem xs_hasResult_no {post : Int32 → Prop} {p : Int32} (h : x_resolved = 0 ∨ p < 0 ∨ x_nodes ≤ p) (hp : post 0) : wpX_hasResult post (x_methodCapacity, x_nodeCapacity, x_methods, x_pickedPhase, x_nodes, x_missingNodes, x_resolved, x_methodName, x_methodParams, x_methodPlaces, x_methodReturn, x_methodConstant, x_methodVarargs, x_callName, x_callArgc, x_literalType, x_literalValue, x_subtreeEnd, x_resultStatus, x_resultMethod, x_resultType, x_resultPhase, x_resultValue) p := by
  unfold wpX_hasResult
  exact br_c (fun _ => hp) (fun a => xs_isNode_no (h.elim (fun b => absurd b a) id) (br_t rfl hp))
theorem xs_hasResult_yes {post : Int32 → Prop} {j nc : Nat} (hr : ¬ x_resolved = 0) (hj : j < nc) (hn : nc ≤ 32) (hp : post 1) : wpX_hasResult post (x_methodCapacity, x_nodeCapacity, x_methods, x_pickedPhase, nI nc, x_missingNodes, x_resolved, x_methodName, x_methodParams, x_methodPlaces, x_methodReturn, x_methodConstant, x_methodVarargs, x_callName, x_callArgc, x_literalType, x_literalValue, x_subtreeEnd, x_resultStatus, x_resultMethod, x_resultType, x_resultPhase, x_resultValue) (nI j) := by
  unfold wpX_hasResult
  exact br_f hr (xs_isNode_yes hj hn (br_f (by decide) hp))
theorem xi_loop {post : Int32 → Prop} {mc : Nat} {a b z : Int32} (h16 : mc ≤ 16) (h1 : (∃ m, m < mc ∧ x_methodName m = a ∧ x_methodParams m = b ∧ x_methodVarargs m = z) → post 1) (h0 : (∀ m, m < mc → ¬ (x_methodName m = a ∧ x_methodParams m = b ∧ x_methodVarargs m = z)) → post 0) : ∀ d m, m + d = mc → (∀ q, q < m → ¬ (x_methodName q = a ∧ x_methodParams q = b ∧ x_methodVarargs q = z)) → wX_isDeclared_3 post a b z x_methodCapacity x_nodeCapacity (nI mc) x_pickedPhase x_nodes x_missingNodes x_resolved x_methodName x_methodParams x_methodPlaces x_methodReturn x_methodConstant x_methodVarargs x_callName x_callArgc x_literalType x_literalValue x_subtreeEnd x_resultStatus x_resultMethod x_resultType x_resultPhase x_resultValue (d + 1) (nI m) := by
  intro d
  induction d with
  | zero =>
    intro m hm hq
    exact br_t (nI_le (by omega) (by omega)) (h0 (fun q h => hq q (by omega)))
  | succ d ih =>
    intro m hm hq
    have ec : (nI m).toNatClampNeg = m := nI_clamp (by omega)
    have hv : vp_in (nI m) 16 := vp_in_nI (by omega) (by omega)
    refine br_f (nI_ge (by omega) (by omega)) ⟨hv, ?_⟩
    rw [ec]
    refine br_c (fun e1 => ⟨hv, br_c (fun e2 => ⟨hv, br_c (fun e3 => h1 ⟨m, by omega, e1, e2, e3⟩) (fun e3 => ?_)⟩) (fun e2 => ?_)⟩) (fun e1 => ?_)
    · exact nm_r (nI_1 m) (ih (m + 1) (by omega) (ov_lt_s hq (fun t => e3 t.2.2)))
    · exact nm_r (nI_1 m) (ih (m + 1) (by omega) (ov_lt_s hq (fun t => e2 t.2.1)))
    · exact nm_r (nI_1 m) (ih (m + 1) (by omega) (ov_lt_s hq (fun t => e1 t.1)))
theorem xs_isDeclared {post : Int32 → Prop} {mc : Nat} {a b z : Int32} (h16 : mc ≤ 16) (h1 : (∃ m, m < mc ∧ x_methodName m = a ∧ x_methodParams m = b ∧ x_methodVarargs m = z) → post 1) (h0 : (∀ m, m < mc → ¬ (x_methodName m = a ∧ x_methodParams m = b ∧ x_methodVarargs m = z)) → post 0) : wpX_isDeclared post (x_methodCapacity, x_nodeCapacity, nI mc, x_pickedPhase, x_nodes, x_missingNodes, x_resolved, x_methodName, x_methodParams, x_methodPlaces, x_methodReturn, x_methodConstant, x_methodVarargs, x_callName, x_callArgc, x_literalType, x_literalValue, x_subtreeEnd, x_resultStatus, x_resultMethod, x_resultType, x_resultPhase, x_resultValue) a b z :=
  ⟨mc + 1, xi_loop h16 h1 h0 mc 0 (by omega) (fun q hq => absurd hq (by omega))⟩
theorem xm_75 {post : Int32 → St2 → Prop} {mc L : Nat} {a b c d z : Int32} (hm : mc < 16) (hL : ov_V b L) (ez : ov_z c = z) (href : (∃ m, m < mc ∧ x_methodName m = a ∧ x_methodParams m = b ∧ x_methodVarargs m = ov_z c) → post (-4) (x_methodCapacity, x_nodeCapacity, nI mc, x_pickedPhase, x_nodes, x_missingNodes, x_resolved, x_methodName, x_methodParams, x_methodPlaces, x_methodReturn, x_methodConstant, x_methodVarargs, x_callName, x_callArgc, x_literalType, x_literalValue, x_subtreeEnd, x_resultStatus, x_resultMethod, x_resultType, x_resultPhase, x_resultValue)) (hacc : (∀ m, m < mc → ¬ (x_methodName m = a ∧ x_methodParams m = b ∧ x_methodVarargs m = ov_z c)) → ∀ y, ov_R b y L → post (nI mc) (x_methodCapacity, x_nodeCapacity, nI (mc + 1), x_pickedPhase, x_nodes, x_missingNodes, 0, upd x_methodName mc a, upd x_methodParams mc b, upd x_methodPlaces mc y, upd x_methodReturn mc (c &&& 15), upd x_methodConstant mc d, upd x_methodVarargs mc (ov_z c), x_callName, x_callArgc, x_literalType, x_literalValue, x_subtreeEnd, x_resultStatus, x_resultMethod, x_resultType, x_resultPhase, x_resultValue)) : wX_addMethod_75 post a b d (c &&& 15) z x_methodCapacity x_nodeCapacity (nI mc) x_pickedPhase x_nodes x_missingNodes x_resolved x_methodName x_methodParams x_methodPlaces x_methodReturn x_methodConstant x_methodVarargs x_callName x_callArgc x_literalType x_literalValue x_subtreeEnd x_resultStatus x_resultMethod x_resultType x_resultPhase x_resultValue := by
  have ec : (nI mc).toNatClampNeg = mc := nI_clamp (by omega)
  have hv : vp_in (nI mc) 16 := vp_in_nI hm (by omega)
  subst ez
  unfold wX_addMethod_75
  refine xs_isDeclared (by omega) (fun ex => br_f (by decide) (href ex)) (fun nx => br_t rfl ⟨hv, ?_⟩)
  refine nm_r (e' := upd x_methodName mc a) (by rw [ec]) ⟨hv, ?_⟩
  refine nm_r (e' := upd x_methodParams mc b) (by rw [ec]) ?_
  refine xs_repeatLast hL (fun y hy => ⟨hv, ?_⟩)
  refine nm_r (e' := upd x_methodPlaces mc y) (by rw [ec]) ⟨hv, ?_⟩
  refine nm_r (e' := upd x_methodReturn mc (c &&& 15)) (by rw [ec]) ⟨hv, ?_⟩
  refine nm_r (e' := upd x_methodConstant mc d) (by rw [ec]) ⟨hv, ?_⟩
  refine nm_r (e' := upd x_methodVarargs mc (ov_z c)) (by rw [ec, ov_zn]) ?_
  exact nm_r (nI_1 mc) (hacc nx y hy)
theorem xs_addMethod {post : Int32 → St2 → Prop} {mc cm : Nat} {a b c d : Int32} (hmc : mc ≤ cm) (hcm : cm ≤ 16) (href : ¬ ov_Acc mc cm x_methodName x_methodParams x_methodVarargs a b c → post (-4) (nI cm, x_nodeCapacity, nI mc, x_pickedPhase, x_nodes, x_missingNodes, x_resolved, x_methodName, x_methodParams, x_methodPlaces, x_methodReturn, x_methodConstant, x_methodVarargs, x_callName, x_callArgc, x_literalType, x_literalValue, x_subtreeEnd, x_resultStatus, x_resultMethod, x_resultType, x_resultPhase, x_resultValue)) (hacc : ov_Acc mc cm x_methodName x_methodParams x_methodVarargs a b c → ∀ y L, ov_V b L → ov_R b y L → post (nI mc) (nI cm, x_nodeCapacity, nI (mc + 1), x_pickedPhase, x_nodes, x_missingNodes, 0, upd x_methodName mc a, upd x_methodParams mc b, upd x_methodPlaces mc y, upd x_methodReturn mc (c &&& 15), upd x_methodConstant mc d, upd x_methodVarargs mc (ov_z c), x_callName, x_callArgc, x_literalType, x_literalValue, x_subtreeEnd, x_resultStatus, x_resultMethod, x_resultType, x_resultPhase, x_resultValue)) : wpX_addMethod post (nI cm, x_nodeCapacity, nI mc, x_pickedPhase, x_nodes, x_missingNodes, x_resolved, x_methodName, x_methodParams, x_methodPlaces, x_methodReturn, x_methodConstant, x_methodVarargs, x_callName, x_callArgc, x_literalType, x_literalValue, x_subtreeEnd, x_resultStatus, x_resultMethod, x_resultType, x_resultPhase, x_resultValue) a b c d := by
  have o0 : ¬ ((1 : Int32) = 0) := by decide
  unfold wpX_addMethod
  refine pk_eq mc cm (fun e => href (fun A => A.1 e)) (fun e => ?_)
  refine br_c (fun f => br_t rfl (href (fun A => A.2.1.1 f))) (fun f => br_c (fun h => br_t rfl (href (fun A => A.2.1.2 h))) (fun h => br_f o0 ?_))
  refine xs_isTypeList (fun L hL => br_f o0 ?_) (fun n => br_t rfl (href (fun A => A.2.2.1.elim (fun L h => n L h.1))))
  refine nm_e ?_
  refine br_c (fun p => br_t rfl (href (fun A => A.2.2.2.1.1 p))) (fun p => br_c (fun q => br_t rfl (href (fun A => A.2.2.2.1.2 q))) (fun q => br_f o0 ?_))
  refine br_c (fun w => ?_) (fun w => href (fun A => w A.2.2.2.2.1))
  have k75 : ∀ z, ov_z c = z → (¬ ov_z c = 0 → 1 ≤ L) → wX_addMethod_75 post a b d (c &&& 15) z (nI cm) x_nodeCapacity (nI mc) x_pickedPhase x_nodes x_missingNodes x_resolved x_methodName x_methodParams x_methodPlaces x_methodReturn x_methodConstant x_methodVarargs x_callName x_callArgc x_literalType x_literalValue x_subtreeEnd x_resultStatus x_resultMethod x_resultType x_resultPhase x_resultValue := by
    intro z ez hz
    refine xm_75 (by omega) hL ez (fun ex => href (fun A => ?_)) (fun nx y hy => hacc ⟨e, ⟨f, h⟩, ⟨L, hL, hz⟩, ⟨p, q⟩, w, nx⟩ y L hL hy)
    obtain ⟨m, hm, t⟩ := ex
    exact A.2.2.2.2.2 m hm t
  refine br_c (fun s => br_t rfl (k75 0 (if_pos s) (fun t => absurd (if_pos s) t))) (fun s => br_f o0 (br_c (fun t => href (fun A => ?_)) (fun t => k75 1 (if_neg s) (fun _ => ?_))))
  · obtain ⟨M, hM, hz⟩ := A.2.2.1
    have e0 := (ov_V_z hM).mp t
    have := hz (by rw [show ov_z c = 1 from if_neg s]; decide)
    omega
  · rcases Nat.eq_zero_or_pos L with e0 | e0
    · exact absurd ((ov_V_z hL).mpr e0) t
    · exact e0
theorem xs_isComplete {post : Int32 → Prop} {nc p : Nat} (hn : nc ≤ 32) (hp : p ≤ 97) (h1 : 0 < nc ∧ p = 0 → post 1) (h0 : ¬ (0 < nc ∧ p = 0) → post 0) : wpX_isComplete post (x_methodCapacity, x_nodeCapacity, x_methods, x_pickedPhase, nI nc, nI p, x_resolved, x_methodName, x_methodParams, x_methodPlaces, x_methodReturn, x_methodConstant, x_methodVarargs, x_callName, x_callArgc, x_literalType, x_literalValue, x_subtreeEnd, x_resultStatus, x_resultMethod, x_resultType, x_resultPhase, x_resultValue) := by
  unfold wpX_isComplete
  exact pk_le nc 0 (fun a => h0 (by omega)) (fun a => pk_eq p 0 (fun b => h1 (by omega)) (fun b => h0 (by omega)))
theorem xs_room {post : Int32 → Prop} {nc cn p : Nat} (hc : cn ≤ 32) (hn : nc ≤ cn) (hp : p ≤ 97) (h1 : nc ≠ cn → ¬ (0 < nc ∧ p = 0) → post 1) (h0 : ¬ (nc ≠ cn ∧ ¬ (0 < nc ∧ p = 0)) → post 0) : wpX_hasRoomForNode post (x_methodCapacity, nI cn, x_methods, x_pickedPhase, nI nc, nI p, x_resolved, x_methodName, x_methodParams, x_methodPlaces, x_methodReturn, x_methodConstant, x_methodVarargs, x_callName, x_callArgc, x_literalType, x_literalValue, x_subtreeEnd, x_resultStatus, x_resultMethod, x_resultType, x_resultPhase, x_resultValue) := by
  unfold wpX_hasRoomForNode
  exact pk_le cn nc (fun a => h0 (fun c => c.1 (by omega))) (fun a => xs_isComplete (by omega) hp (fun b => br_f (by decide) (h0 (fun c => c.2 b))) (fun b => br_t rfl (h1 (by omega) b)))
theorem xs_append {post : Int32 → St2 → Prop} {nc p c : Nat} {x : Int32} (hn : nc < 32) (hp : 1 ≤ p) (h : post (nI nc) (x_methodCapacity, x_nodeCapacity, x_methods, x_pickedPhase, nI (nc + 1), nI (p - 1 + c), 0, x_methodName, x_methodParams, x_methodPlaces, x_methodReturn, x_methodConstant, x_methodVarargs, upd x_callName nc x, upd x_callArgc nc (nI c), x_literalType, x_literalValue, x_subtreeEnd, x_resultStatus, x_resultMethod, x_resultType, x_resultPhase, x_resultValue)) : wpX_appendNode post (x_methodCapacity, x_nodeCapacity, x_methods, x_pickedPhase, nI nc, nI p, x_resolved, x_methodName, x_methodParams, x_methodPlaces, x_methodReturn, x_methodConstant, x_methodVarargs, x_callName, x_callArgc, x_literalType, x_literalValue, x_subtreeEnd, x_resultStatus, x_resultMethod, x_resultType, x_resultPhase, x_resultValue) x (nI c) := by
  have ec : (nI nc).toNatClampNeg = nc := nI_clamp (by omega)
  have hv : vp_in (nI nc) 32 := vp_in_nI hn (by omega)
  unfold wpX_appendNode
  refine ⟨hv, nm_r (e' := upd x_callName nc x) (by rw [ec]) ⟨hv, nm_r (e' := upd x_callArgc nc (nI c)) (by rw [ec]) ?_⟩⟩
  refine nm_r (nI_1 nc) (nm_r (e' := nI (p - 1 + c)) ?_ h)
  rw [← nI_add, ← pk_sub hp]
  rfl
end
