/-! ===== the nodes of the law: la_ac j arguments, la_pd j wanting ahead of node j ===== -/
def la_f (L : Nat) (xs : Nat → Int32) (u p : Nat) : Nat := if u < 14 ∧ (la_c L xs (82 + u)) &&& 1 = 1 ∧ u + p < 10 then la_pv ((la_c L xs (82 + u)).toUInt32 >>> ((1 : Int32).toUInt32 &&& Int32.toUInt32 31)).toInt32 3 else 0
def la_pd (L : Nat) (xs : Nat → Int32) : Nat → Nat
  | 0 => 1
  | u + 1 => la_pd L xs u - 1 + la_f L xs u (la_pd L xs u)
def la_ac (L : Nat) (xs : Nat → Int32) (u : Nat) : Nat := la_f L xs u (la_pd L xs u)
def la_cn (L : Nat) (xs : Nat → Int32) (u : Nat) : Nat := la_pv ((la_c L xs (82 + u)).toUInt32 >>> ((3 : Int32).toUInt32 &&& Int32.toUInt32 31)).toInt32 3
theorem la_f_le (L : Nat) (xs : Nat → Int32) (u p : Nat) : la_f L xs u p ≤ 2 := by
  unfold la_f
  by_cases h : u < 14 ∧ (la_c L xs (82 + u)) &&& 1 = 1 ∧ u + p < 10
  · rw [if_pos h]
    have := la_pv_lt ((la_c L xs (82 + u)).toUInt32 >>> ((1 : Int32).toUInt32 &&& Int32.toUInt32 31)).toInt32 (m := 3) (by decide)
    omega
  · rw [if_neg h]
    omega
theorem la_pd_le (L : Nat) (xs : Nat → Int32) : ∀ u, la_pd L xs u ≤ 1 + u := by
  intro u
  induction u with
  | zero => exact Nat.le_refl 1
  | succ u ih =>
    have a := la_f_le L xs u (la_pd L xs u)
    show la_pd L xs u - 1 + la_f L xs u (la_pd L xs u) ≤ 1 + (u + 1)
    omega
theorem la_P {L : Nat} {xs : Nat → Int32} {nc : Nat} (h : ∀ u, u < nc → 1 ≤ la_pd L xs u) : ov_P (la_ac L xs) (la_pd L xs) nc := by
  refine ⟨rfl, fun j hj => ⟨h j hj, ?_⟩⟩
  have a := h j hj
  show la_pd L xs j - 1 + la_f L xs j (la_pd L xs j) + 1 = la_pd L xs j + la_f L xs j (la_pd L xs j)
  omega
section
variable {L : Nat} {xs : Nat → Int32}
theorem la_argc_body {post : Int32 → Prop} {n t u p : Nat} (hL : L ≤ 260) (hu : u ≤ t) (ht : t ≤ 64) (hp : p ≤ 1 + u) (k53 : wL_argcOf_53 post L xs (wL_argcOf_4 post L xs (nI t) n) (nI t) (nI p) (nI u) (nI (la_f L xs u p))) : wL_argcOf_4 post L xs (nI t) (n + 1) (nI p) (nI u) := by
  have k0 : ¬ (u < 14 ∧ (la_c L xs (82 + u)) &&& 1 = 1 ∧ u + p < 10) → wL_argcOf_53 post L xs (wL_argcOf_4 post L xs (nI t) n) (nI t) (nI p) (nI u) (nI 0) := by
    intro h
    rw [show la_f L xs u p = 0 from if_neg h] at k53
    exact k53
  refine br_f (nI_nlt hu (by omega)) (la_cell hL (nI_add 82 u) (by omega) ?_)
  refine pk_le 14 u (fun a => k0 (by omega)) (fun a => br_c (fun b => ?_) (fun b => k0 (fun z => b z.2.1)))
  refine pk_le 10 (u + p) (fun c => k0 (by omega)) (fun c => la_pos (m := 3) rfl (by decide) (by decide) ?_) rfl (nI_add u p)
  rw [show la_f L xs u p = la_pv ((la_c L xs (82 + u)).toUInt32 >>> ((1 : Int32).toUInt32 &&& Int32.toUInt32 31)).toInt32 3 from if_pos ⟨a, b, c⟩] at k53
  exact k53
theorem la_argc_loop {post : Int32 → Prop} {t : Nat} (hL : L ≤ 260) (ht : t ≤ 64) (hpd : ∀ u, u < t → 1 ≤ la_pd L xs u) (h : post (nI (la_ac L xs t))) : ∀ d u, u + d = t → wL_argcOf_4 post L xs (nI t) (d + 1) (nI (la_pd L xs u)) (nI u) := by
  intro d
  induction d with
  | zero =>
    intro u hu
    have e : u = t := by omega
    subst e
    exact la_argc_body hL (Nat.le_refl u) ht (la_pd_le L xs u) (br_t rfl h)
  | succ d ih =>
    intro u hu
    have a := hpd u (by omega)
    refine la_argc_body hL (by omega) ht (la_pd_le L xs u) (br_f (fun z => ?_) (nm_r (e' := nI (la_pd L xs (u + 1))) ?_ (nm_r (nI_1 u) (ih (u + 1) (by omega)))))
    · have := (nI_eq (by omega) (by omega)).mp z
      omega
    · show nI (la_pd L xs u) - nI 1 + nI (la_f L xs u (la_pd L xs u)) = nI (la_pd L xs u - 1 + la_f L xs u (la_pd L xs u))
      rw [pk_sub a, nI_add]
theorem la_argcOf {post : Int32 → Prop} {t : Nat} (hL : L ≤ 260) (ht : t ≤ 64) (hpd : ∀ u, u < t → 1 ≤ la_pd L xs u) (h : post (nI (la_ac L xs t))) : wpL_argcOf post L xs () (nI t) :=
  ⟨t + 1, la_argc_loop hL ht hpd h t 0 (by omega)⟩
theorem la_skip_loop {post : Int32 → Prop} {nc j e : Nat} (hL : L ≤ 260) (h32 : nc ≤ 32) (hpd : ∀ u, u < nc → 1 ≤ la_pd L xs u) (hE : ov_E (la_pd L xs) j e) (he : e ≤ nc) (h : post (nI e)) : ∀ d k, k + d = e → j ≤ k → wL_skipEnd_2 post L xs (d + 1) (nI k) (nI (la_pd L xs k + 1 - la_pd L xs j)) := by
  intro d
  induction d with
  | zero =>
    intro k hk hj
    have e0 : k = e := by omega
    subst e0
    have z : la_pd L xs k + 1 - la_pd L xs j = 0 := by
      have := hE.2.1
      omega
    rw [z]
    exact br_t (by decide) h
  | succ d ih =>
    intro k hk hj
    have a := hE.2.2 k hj (by omega)
    have b := la_pd_le L xs k
    have c := hpd k (by omega)
    refine br_f (nI_nle (by omega) (by omega)) (br_f (nI_ge (b := 64) (by omega) (by decide)) (la_argcOf hL (by omega) (fun u hu => hpd u (by omega)) ?_))
    refine nm_r (e' := nI (la_pd L xs (k + 1) + 1 - la_pd L xs j)) ?_ (nm_r (nI_1 k) (ih (k + 1) (by omega) (by omega)))
    show nI (la_pd L xs k + 1 - la_pd L xs j) - nI 1 + nI (la_f L xs k (la_pd L xs k)) = nI (la_pd L xs k - 1 + la_f L xs k (la_pd L xs k) + 1 - la_pd L xs j)
    rw [pk_sub (by omega), nI_add]
    exact congrArg nI (by omega)
theorem la_skipEnd {post : Int32 → Prop} {nc j e : Nat} (hL : L ≤ 260) (h32 : nc ≤ 32) (hpd : ∀ u, u < nc → 1 ≤ la_pd L xs u) (hE : ov_E (la_pd L xs) j e) (he : e ≤ nc) (h : post (nI e)) : wpL_skipEnd post L xs () (nI j) := by
  have a := hE.1
  have key : wL_skipEnd_2 post L xs (e - j + 1) (nI j) (nI (la_pd L xs j + 1 - la_pd L xs j)) := la_skip_loop hL h32 hpd hE he h (e - j) j (by omega) (Nat.le_refl j)
  rw [show la_pd L xs j + 1 - la_pd L xs j = 1 from by omega] at key
  exact ⟨_, key⟩
end
/-! ===== X: pick, addLiteral, addCall, resolve ===== -/
section
variable {x_methodCapacity x_nodeCapacity x_methods x_pickedPhase x_nodes x_missingNodes x_resolved : Int32} {x_methodName x_methodParams x_methodPlaces x_methodReturn x_methodConstant x_methodVarargs x_callName x_callArgc x_literalType : Nat → Int32} {x_literalValue : Nat → Int64} {x_subtreeEnd x_resultStatus x_resultMethod x_resultType x_resultPhase : Nat → Int32} {x_resultValue : Nat → Int64}
theorem xs_pick {post : Int32 → St2 → Prop} {mc n x : Nat} {ln : Nat → Nat} {ty : Int32} (h16 : mc ≤ 16) (hM : ov_M mc x_methodParams x_methodPlaces x_methodVarargs ln) (hV : ov_V ty n) (hx : x < 8) (h : ∀ d r, ov_Ph mc (ov_T x_methodName x_methodPlaces x_methodVarargs ln (nI x) ty n) d → ov_Ch mc (ov_W x_methodName x_methodPlaces x_methodVarargs ln mc (nI x) ty n d) d r → post r (x_methodCapacity, x_nodeCapacity, nI mc, nI d, x_nodes, x_missingNodes, x_resolved, x_methodName, x_methodParams, x_methodPlaces, x_methodReturn, x_methodConstant, x_methodVarargs, x_callName, x_callArgc, x_literalType, x_literalValue, x_subtreeEnd, x_resultStatus, x_resultMethod, x_resultType, x_resultPhase, x_resultValue)) : wpX_pick post (x_methodCapacity, x_nodeCapacity, nI mc, x_pickedPhase, x_nodes, x_missingNodes, x_resolved, x_methodName, x_methodParams, x_methodPlaces, x_methodReturn, x_methodConstant, x_methodVarargs, x_callName, x_callArgc, x_literalType, x_literalValue, x_subtreeEnd, x_resultStatus, x_resultMethod, x_resultType, x_resultPhase, x_resultValue) (nI x) ty := by
  have o0 : ¬ ((1 : Int32) = 0) := by decide
  unfold wpX_pick
  refine br_f (nI_pos (by omega)) (br_f (nI_ge (b := 8) hx (by decide)) (br_f o0 ?_))
  refine xs_isTypeList (fun M _ => br_f o0 ?_) (fun z => absurd hV (z n))
  refine xs_decidingPhase h16 hM hV (fun d hd => ?_)
  exact xs_chooseMethod h16 hM hV (by have := ov_Ph_le hd; omega) (fun r hr => h d r hd hr)
theorem xs_addLiteral {post : Int32 → St2 → Prop} {nc p t : Nat} {v : Int32} (hn : nc ≤ 32) (hp : p ≤ 97) (hp1 : ¬ (0 < nc ∧ p = 0) → 1 ≤ p) (t1 : 1 ≤ t) (t2 : t ≤ 14) (href : post (-4) (x_methodCapacity, nI 32, x_methods, x_pickedPhase, nI nc, nI p, x_resolved, x_methodName, x_methodParams, x_methodPlaces, x_methodReturn, x_methodConstant, x_methodVarargs, x_callName, x_callArgc, x_literalType, x_literalValue, x_subtreeEnd, x_resultStatus, x_resultMethod, x_resultType, x_resultPhase, x_resultValue)) (hacc : nc < 32 → 1 ≤ p → post (nI nc) (x_methodCapacity, nI 32, x_methods, x_pickedPhase, nI (nc + 1), nI (p - 1 + 0), 0, x_methodName, x_methodParams, x_methodPlaces, x_methodReturn, x_methodConstant, x_methodVarargs, upd x_callName nc (-1), upd x_callArgc nc (nI 0), upd x_literalType nc (nI t), vp_updL x_literalValue nc (ov_N t v.toInt64), x_subtreeEnd, x_resultStatus, x_resultMethod, x_resultType, x_resultPhase, x_resultValue)) : wpX_addLiteral post (x_methodCapacity, nI 32, x_methods, x_pickedPhase, nI nc, nI p, x_resolved, x_methodName, x_methodParams, x_methodPlaces, x_methodReturn, x_methodConstant, x_methodVarargs, x_callName, x_callArgc, x_literalType, x_literalValue, x_subtreeEnd, x_resultStatus, x_resultMethod, x_resultType, x_resultPhase, x_resultValue) (nI t) v := by
  have o0 : ¬ ((1 : Int32) = 0) := by decide
  unfold wpX_addLiteral
  refine xs_isType_yes t1 t2 (br_f o0 ?_)
  refine xs_room (Nat.le_refl 32) hn hp (fun a b => br_f o0 ?_) (fun a => br_t rfl href)
  have ec : (nI nc).toNatClampNeg = nc := nI_clamp (by omega)
  have hv : vp_in (nI nc) 32 := vp_in_nI (by omega) (by omega)
  refine ⟨hv, nm_r (e' := upd x_literalType nc (nI t)) (by rw [ec]) ?_⟩
  refine xs_narrow t1 t2 ⟨hv, nm_r (e' := vp_updL x_literalValue nc (ov_N t v.toInt64)) (by rw [ec]) ?_⟩
  exact xs_append (c := 0) (by omega) (hp1 b) (hacc (by omega) (hp1 b))
theorem xs_addCall {post : Int32 → St2 → Prop} {nc p x c : Nat} (hn : nc ≤ 32) (hp : p ≤ 97) (hp1 : ¬ (0 < nc ∧ p = 0) → 1 ≤ p) (hx : x < 8) (hc : c ≤ 4) (href : post (-4) (x_methodCapacity, nI 32, x_methods, x_pickedPhase, nI nc, nI p, x_resolved, x_methodName, x_methodParams, x_methodPlaces, x_methodReturn, x_methodConstant, x_methodVarargs, x_callName, x_callArgc, x_literalType, x_literalValue, x_subtreeEnd, x_resultStatus, x_resultMethod, x_resultType, x_resultPhase, x_resultValue)) (hacc : nc < 32 → 1 ≤ p → post (nI nc) (x_methodCapacity, nI 32, x_methods, x_pickedPhase, nI (nc + 1), nI (p - 1 + c), 0, x_methodName, x_methodParams, x_methodPlaces, x_methodReturn, x_methodConstant, x_methodVarargs, upd x_callName nc (nI x), upd x_callArgc nc (nI c), x_literalType, x_literalValue, x_subtreeEnd, x_resultStatus, x_resultMethod, x_resultType, x_resultPhase, x_resultValue)) : wpX_addCall post (x_methodCapacity, nI 32, x_methods, x_pickedPhase, nI nc, nI p, x_resolved, x_methodName, x_methodParams, x_methodPlaces, x_methodReturn, x_methodConstant, x_methodVarargs, x_callName, x_callArgc, x_literalType, x_literalValue, x_subtreeEnd, x_resultStatus, x_resultMethod, x_resultType, x_resultPhase, x_resultValue) (nI x) (nI c) := by
  have o0 : ¬ ((1 : Int32) = 0) := by decide
  unfold wpX_addCall
  refine br_f (nI_pos (by omega)) (br_f (nI_ge (b := 8) hx (by decide)) (br_f o0 ?_))
  refine br_f (nI_pos (by omega)) (br_f (nI_nlt (a := 4) hc (by decide)) ?_)
  refine xs_room (Nat.le_refl 32) hn hp (fun a b => br_f o0 ?_) (fun a => br_t rfl href)
  exact xs_append (by omega) (hp1 b) (hacc (by omega) (hp1 b))
end
def la_Nd (nc : Nat) (cN ca lt : Nat → Int32) (g cn : Nat → Nat) : Prop := ∀ j, j < nc → ca j = nI (g j) ∧ g j ≤ 4 ∧ ((g j = 0 ∧ cN j = -1 ∧ ∃ t, 1 ≤ t ∧ t ≤ 14 ∧ lt j = nI t) ∨ (0 < g j ∧ cN j = nI (cn j) ∧ ¬ cN j = -1))
/-- what a resolved call node keeps: its arguments are well, its method is the choice for their types -/
def la_J (mc nc k : Nat) (nm pl vr : Nat → Int32) (ln g P : Nat → Nat) (cN st me ty : Nat → Int32) : Prop := ∀ j, k ≤ j → j < nc → ¬ cN j = -1 → st j = 1 → ∀ q : Nat → Nat, q 0 = j + 1 → (∀ a, a < g j → ov_E P (q a) (q (a + 1))) → (∀ a, a < g j → st (q a) = 1) ∧ ∃ d, ov_Ph mc (ov_T nm pl vr ln (cN j) (nI (ov_zt (ov_tq ty q) (g j))) (g j)) d ∧ ov_Ch mc (ov_W nm pl vr ln mc (cN j) (nI (ov_zt (ov_tq ty q) (g j))) (g j) d) d (me j)
theorem ov_zt_c {t u : Nat → Nat} : ∀ a, (∀ b, b < a → t b = u b) → ov_zt t a = ov_zt u a := by
  intro a
  induction a with
  | zero => intro _; rfl
  | succ a ih =>
    intro h
    show ov_zt t a + t a * 2 ^ (4 * a) = ov_zt u a + u a * 2 ^ (4 * a)
    rw [ih (fun b hb => h b (by omega)), h a (by omega)]
theorem la_gt {P q : Nat → Nat} {j c : Nat} (q0 : q 0 = j + 1) (hq : ∀ a, a < c → ov_E P (q a) (q (a + 1))) : ∀ a, a ≤ c → j < q a := by
  intro a
  induction a with
  | zero => intro _; omega
  | succ a ih =>
    intro ha
    have b := ih (by omega)
    have d := (hq a (by omega)).1
    omega
theorem la_tq_n {ty : Nat → Int32} {q : Nat → Nat} {k b : Nat} {t : Int32} (h : q b ≠ k) : ov_tq (upd ty k t) q b = ov_tq ty q b := by
  unfold ov_tq
  rw [pk_un h]
theorem la_J_s {mc nc k : Nat} {nm pl vr : Nat → Int32} {ln g P : Nat → Nat} {cN st me ty : Nat → Int32} {s m t : Int32} (h : la_J mc nc (k + 1) nm pl vr ln g P cN st me ty) (hk : ¬ cN k = -1 → s = 1 → ∀ q : Nat → Nat, q 0 = k + 1 → (∀ a, a < g k → ov_E P (q a) (q (a + 1))) → (∀ a, a < g k → st (q a) = 1) ∧ ∃ d, ov_Ph mc (ov_T nm pl vr ln (cN k) (nI (ov_zt (ov_tq ty q) (g k))) (g k)) d ∧ ov_Ch mc (ov_W nm pl vr ln mc (cN k) (nI (ov_zt (ov_tq ty q) (g k))) (g k) d) d m) : la_J mc nc k nm pl vr ln g P cN (upd st k s) (upd me k m) (upd ty k t) := by
  intro j h1 h2 hc hs q q0 hq
  have gt := la_gt q0 hq
  have ez : ov_zt (ov_tq (upd ty k t) q) (g j) = ov_zt (ov_tq ty q) (g j) := ov_zt_c _ (fun b hb => la_tq_n (by have := gt b (by omega); omega))
  rw [ez]
  by_cases e : j = k
  · subst e
    rw [pk_us] at hs
    rw [pk_us]
    obtain ⟨a1, a2⟩ := hk hc hs q q0 hq
    refine ⟨fun a ha => ?_, a2⟩
    rw [pk_un (by have := gt a (by omega); omega)]
    exact a1 a ha
  · rw [pk_un e] at hs
    rw [pk_un e]
    obtain ⟨a1, a2⟩ := h j (by omega) h2 hc hs q q0 hq
    refine ⟨fun a ha => ?_, a2⟩
    rw [pk_un (by have := gt a (by omega); omega)]
    exact a1 a ha
theorem la_O_m {mc : Nat} {nm pl vr rt co : Nat → Int32} {ln : Nat → Nat} {x : Int32} {bad : Prop} {z : Int32} {n : Nat} {sum : Int64} {s m t p : Int32} {w : Int64} (h : ov_O mc nm pl vr rt co ln x bad z n sum s m t p w) (hs : s = 1) : ¬ bad ∧ ∃ d, ov_Ph mc (ov_T nm pl vr ln x z n) d ∧ ov_Ch mc (ov_W nm pl vr ln mc x z n d) d m := by
  rcases h with ⟨b, e, _⟩ | ⟨b, d, r, hd, hr, _, ⟨k, τ, hk, e, τ1, τ2, ht, _, em, _, _⟩ | ⟨e, er, _⟩⟩
  · rw [e] at hs
    exact absurd hs (by decide)
  · refine ⟨b, d, hd, ?_⟩
    rw [em, ← e]
    exact hr
  · rw [hs] at er
    rcases e with e | e
    · exact absurd (er.trans e) (by decide)
    · exact absurd (er.trans e) (by decide)
theorem la_q_u {P q E : Nat → Nat} {k c : Nat} (q0 : q 0 = k + 1) (hq : ∀ a, a < c → ov_E P (q a) (q (a + 1))) (hE : ∀ a, a < c → ov_E P (ov_cs E k a) (ov_cs E k (a + 1))) : ∀ a, a ≤ c → q a = ov_cs E k a := by
  intro a
  induction a with
  | zero => intro _; exact q0
  | succ a ih =>
    intro ha
    have b := ih (by omega)
    have d := hq a (by omega)
    rw [b] at d
    exact ov_E_u d (hE a (by omega))
