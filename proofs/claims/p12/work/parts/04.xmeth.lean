/-! ===== the table of methods: ln m types each ===== -/
def ov_M (mc : Nat) (pm pl vr : Nat → Int32) (ln : Nat → Nat) : Prop := ∀ m, m < mc → ov_V (pm m) (ln m) ∧ (vr m = 0 ∨ (vr m = 1 ∧ 1 ≤ ln m)) ∧ ov_R (pm m) (pl m) (ln m)
theorem ov_M_ty {mc : Nat} {pm pl vr : Nat → Int32} {ln : Nat → Nat} (hM : ov_M mc pm pl vr ln) {m i : Nat} (hm : m < mc) (hi : i ≤ 4) (h : i < ln m ∨ ¬ vr m = 0) : 1 ≤ ov_nb (pl m) i ∧ ov_nb (pl m) i ≤ 14 := by
  obtain ⟨hV, hv, hR⟩ := hM m hm
  rcases Nat.lt_or_ge i (ln m) with c | c
  · rw [hR.1 i c]
    exact hV.2.2 i c
  · have hl : 1 ≤ ln m := by
      rcases hv with e | e
      · rcases h with h | h
        · omega
        · exact absurd e h
      · exact e.2
    rw [hR.2 hl i c hi]
    exact hV.2.2 _ (by omega)
def ov_A (pl vr : Nat → Int32) (ln : Nat → Nat) (ty : Int32) (n ph m : Nat) : Prop := (ph = 3 → ¬ vr m = 0 ∧ ln m ≤ n + 1) ∧ (¬ ph = 3 → vr m = 0 ∧ ln m = n) ∧ ∀ i, i < n → ov_C (ov_nb ty i) (ov_nb (pl m) i) ph
def ov_T (nm pl vr : Nat → Int32) (ln : Nat → Nat) (x ty : Int32) (n ph m : Nat) : Prop := nm m = x ∧ ov_A pl vr ln ty n ph m
def ov_lim (n ph : Nat) : Nat := if ph = 3 then n + 1 else n
def ov_MS (pl : Nat → Int32) (lim m o : Nat) : Prop := ∀ i, i < lim → ov_S (ov_nb (pl m) i) (ov_nb (pl o) i)
def ov_W (nm pl vr : Nat → Int32) (ln : Nat → Nat) (mc : Nat) (x ty : Int32) (n ph m : Nat) : Prop := ov_G mc (ov_T nm pl vr ln x ty n ph) (ov_MS pl (ov_lim n ph)) m
theorem ov_A_in {mc : Nat} {pm pl vr : Nat → Int32} {ln : Nat → Nat} {ty : Int32} {n ph m : Nat} (hM : ov_M mc pm pl vr ln) (hm : m < mc) (hn : n ≤ 4) (h : ov_A pl vr ln ty n ph m) : ∀ i, i < ov_lim n ph → 1 ≤ ov_nb (pl m) i ∧ ov_nb (pl m) i ≤ 14 := by
  intro i hi
  unfold ov_lim at hi
  by_cases e : ph = 3
  · rw [if_pos e] at hi
    exact ov_M_ty hM hm (by omega) (Or.inr (h.1 e).1)
  · rw [if_neg e] at hi
    have := (h.2.1 e).2
    exact ov_M_ty hM hm (by omega) (Or.inl (by omega))
theorem ov_lim_le {n ph : Nat} (hn : n ≤ 4) : ov_lim n ph ≤ 5 := by
  unfold ov_lim
  by_cases e : ph = 3
  · rw [if_pos e]; omega
  · rw [if_neg e]; omega
theorem ov_lt_s {p : Nat → Prop} {i : Nat} (h : ∀ j, j < i → p j) (hi : p i) : ∀ j, j < i + 1 → p j := by
  intro j hj
  by_cases e : j = i
  · rw [e]; exact hi
  · exact h j (by omega)
section
variable {x_methodCapacity x_nodeCapacity x_methods x_pickedPhase x_nodes x_missingNodes x_resolved : Int32} {x_methodName x_methodParams x_methodPlaces x_methodReturn x_methodConstant x_methodVarargs x_callName x_callArgc x_literalType : Nat → Int32} {x_literalValue : Nat → Int64} {x_subtreeEnd x_resultStatus x_resultMethod x_resultType x_resultPhase : Nat → Int32} {x_resultValue : Nat → Int64}
theorem xa_loop {post : Int32 → Prop} {mc m n ph : Nat} {ln : Nat → Nat} {ty : Int32} (hm : m < mc) (h16 : mc ≤ 16) (hM : ov_M mc x_methodParams x_methodPlaces x_methodVarargs ln) (hV : ov_V ty n) (hp : ph < 4) (hx : n ≤ ln m ∨ ¬ x_methodVarargs m = 0) (h1 : (∀ i, i < n → ov_C (ov_nb ty i) (ov_nb (x_methodPlaces m) i) ph) → post 1) (h0 : ¬ (∀ i, i < n → ov_C (ov_nb ty i) (ov_nb (x_methodPlaces m) i) ph) → post 0) : ∀ d i, i + d = n → (∀ j, j < i → ov_C (ov_nb ty j) (ov_nb (x_methodPlaces m) j) ph) → wX_isApplicable_71 post (nI m) ty (nI ph) (nI n) x_methodCapacity x_nodeCapacity x_methods x_pickedPhase x_nodes x_missingNodes x_resolved x_methodName x_methodParams x_methodPlaces x_methodReturn x_methodConstant x_methodVarargs x_callName x_callArgc x_literalType x_literalValue x_subtreeEnd x_resultStatus x_resultMethod x_resultType x_resultPhase x_resultValue (d + 1) (nI i) := by
  have ec : (nI m).toNatClampNeg = m := nI_clamp (by omega)
  have h4 := hV.1
  intro d
  induction d with
  | zero =>
    intro i hi hj
    exact br_t (nI_le (by omega) (by omega)) (h1 (fun j hj' => hj j (by omega)))
  | succ d ih =>
    intro i hi hj
    have ht := hV.2.2 i (by omega)
    have hq := ov_M_ty hM hm (i := i) (by omega) (hx.elim (fun c => Or.inl (by omega)) Or.inr)
    refine br_f (nI_ge (by omega) (by omega)) (xs_typeAt rfl rfl (by omega) ⟨vp_in_nI (by omega) (by omega), xs_typeAt (congrArg x_methodPlaces ec) rfl (by omega) ?_⟩)
    exact xs_compat ht.1 ht.2 hq.1 hq.2 hp (fun c => br_f (by decide) (nm_r (nI_1 i) (ih (i + 1) (by omega) (ov_lt_s hj c)))) (fun c => br_t rfl (h0 (fun z => c (z i (by omega)))))
theorem xs_isApplicable {post : Int32 → Prop} {mc m n ph : Nat} {ln : Nat → Nat} {ty : Int32} (hm : m < mc) (h16 : mc ≤ 16) (hM : ov_M mc x_methodParams x_methodPlaces x_methodVarargs ln) (hV : ov_V ty n) (hp : ph < 4) (h1 : ov_A x_methodPlaces x_methodVarargs ln ty n ph m → post 1) (h0 : ¬ ov_A x_methodPlaces x_methodVarargs ln ty n ph m → post 0) : wpX_isApplicable post (x_methodCapacity, x_nodeCapacity, x_methods, x_pickedPhase, x_nodes, x_missingNodes, x_resolved, x_methodName, x_methodParams, x_methodPlaces, x_methodReturn, x_methodConstant, x_methodVarargs, x_callName, x_callArgc, x_literalType, x_literalValue, x_subtreeEnd, x_resultStatus, x_resultMethod, x_resultType, x_resultPhase, x_resultValue) (nI m) ty (nI ph) := by
  have ec : (nI m).toNatClampNeg = m := nI_clamp (by omega)
  have h4 := hV.1
  have hL := (hM m hm).1.1
  unfold wpX_isApplicable
  refine xs_listLength_V hV ⟨vp_in_nI (by omega) (by omega), ?_⟩
  refine xs_listLength_V (L := ln m) (by rw [ec]; exact (hM m hm).1) ⟨vp_in_nI (by omega) (by omega), ?_⟩
  refine nm_r (congrArg x_methodVarargs ec) ?_
  rcases (hM m hm).2.1 with e | ⟨e, el⟩
  · refine pk_eq ph 3 (fun z => br_f (by rw [e]; decide) (h0 (fun A => (A.1 z).1 e))) (fun z => br_t e (br_t e ?_))
    refine pk_eq n (ln m) (fun q => ⟨n + 1, ?_⟩) (fun q => h0 (fun A => q (A.2.1 z).2.symm))
    exact xa_loop hm h16 hM hV hp (Or.inl (by omega)) (fun c => h1 ⟨fun y => absurd y z, fun _ => ⟨e, q.symm⟩, c⟩) (fun c => h0 (fun A => c A.2.2)) n 0 (by omega) (fun j hj => absurd hj (by omega))
  · have e0 : ¬ x_methodVarargs m = 0 := by rw [e]; decide
    refine pk_eq ph 3 (fun z => br_t e (br_f e0 ?_)) (fun z => br_f e0 (h0 (fun A => e0 (A.2.1 z).1)))
    refine pk_le (ln m - 1) n (fun q => ⟨n + 1, ?_⟩) (fun q => h0 (fun A => absurd (A.1 z).2 (by omega))) (pk_sub (b := 1) el)
    exact xa_loop hm h16 hM hV hp (Or.inr e0) (fun c => h1 ⟨fun _ => ⟨e0, by omega⟩, fun y => absurd z y, c⟩) (fun c => h0 (fun A => c A.2.2)) n 0 (by omega) (fun j hj => absurd hj (by omega))
theorem xd_in {post J : Int32 → Prop} {mc n ph : Nat} {ln : Nat → Nat} {x ty : Int32} (h16 : mc ≤ 16) (hM : ov_M mc x_methodParams x_methodPlaces x_methodVarargs ln) (hV : ov_V ty n) (hp : ph < 4) (h1 : (∃ m, m < mc ∧ ov_T x_methodName x_methodPlaces x_methodVarargs ln x ty n ph m) → post (nI ph)) (hJ : (∀ m, m < mc → ¬ ov_T x_methodName x_methodPlaces x_methodVarargs ln x ty n ph m) → J (nI (ph + 1))) : ∀ d m, m + d = mc → (∀ q, q < m → ¬ ov_T x_methodName x_methodPlaces x_methodVarargs ln x ty n ph q) → wX_decidingPhase_10 post J x ty (nI ph) x_methodCapacity x_nodeCapacity (nI mc) x_pickedPhase x_nodes x_missingNodes x_resolved x_methodName x_methodParams x_methodPlaces x_methodReturn x_methodConstant x_methodVarargs x_callName x_callArgc x_literalType x_literalValue x_subtreeEnd x_resultStatus x_resultMethod x_resultType x_resultPhase x_resultValue (d + 1) (nI m) := by
  intro d
  induction d with
  | zero =>
    intro m hm hq
    exact br_t (nI_le (by omega) (by omega)) (nm_r (nI_1 ph) (hJ (fun q h => hq q (by omega))))
  | succ d ih =>
    intro m hm hq
    have ec : (nI m).toNatClampNeg = m := nI_clamp (by omega)
    refine br_f (nI_ge (by omega) (by omega)) ⟨vp_in_nI (by omega) (by omega), br_c (fun e => ?_) (fun e => ?_)⟩
    · rw [ec] at e
      exact xs_isApplicable (by omega) h16 hM hV hp (fun a => br_f (by decide) (h1 ⟨m, by omega, e, a⟩)) (fun a => br_t rfl (nm_r (nI_1 m) (ih (m + 1) (by omega) (ov_lt_s hq (fun t => a t.2)))))
    · rw [ec] at e
      exact nm_r (nI_1 m) (ih (m + 1) (by omega) (ov_lt_s hq (fun t => e t.1)))
theorem xd_out {post : Int32 → Prop} {mc n : Nat} {ln : Nat → Nat} {x ty : Int32} (h16 : mc ≤ 16) (hM : ov_M mc x_methodParams x_methodPlaces x_methodVarargs ln) (hV : ov_V ty n) (h : ∀ d, ov_Ph mc (ov_T x_methodName x_methodPlaces x_methodVarargs ln x ty n) d → post (nI d)) : ∀ d ph, ph + d = 4 → 1 ≤ ph → (∀ p, 1 ≤ p → p < ph → ∀ m, m < mc → ¬ ov_T x_methodName x_methodPlaces x_methodVarargs ln x ty n p m) → wX_decidingPhase_2 post x ty x_methodCapacity x_nodeCapacity (nI mc) x_pickedPhase x_nodes x_missingNodes x_resolved x_methodName x_methodParams x_methodPlaces x_methodReturn x_methodConstant x_methodVarargs x_callName x_callArgc x_literalType x_literalValue x_subtreeEnd x_resultStatus x_resultMethod x_resultType x_resultPhase x_resultValue (d + 1) (nI ph) := by
  intro d
  induction d with
  | zero =>
    intro ph hd h1 hq
    exact br_t (nI_lt (a := 3) (by omega) (by omega)) (h 0 (Or.inl ⟨rfl, fun p p1 p3 => hq p p1 (by omega)⟩))
  | succ d ih =>
    intro ph hd h1 hq
    refine br_f (nI_nlt (a := 3) (by omega) (by omega)) ⟨mc + 1, ?_⟩
    refine xd_in h16 hM hV (by omega) (fun c => h ph (Or.inr ⟨h1, by omega, c, hq⟩)) (fun c => ih (ph + 1) (by omega) (by omega) (fun p p1 p2 => ?_)) mc 0 (by omega) (fun q hq' => absurd hq' (by omega))
    by_cases e : p = ph
    · rw [e]; exact c
    · exact hq p p1 (by omega)
theorem xs_decidingPhase {post : Int32 → Prop} {mc n : Nat} {ln : Nat → Nat} {x ty : Int32} (h16 : mc ≤ 16) (hM : ov_M mc x_methodParams x_methodPlaces x_methodVarargs ln) (hV : ov_V ty n) (h : ∀ d, ov_Ph mc (ov_T x_methodName x_methodPlaces x_methodVarargs ln x ty n) d → post (nI d)) : wpX_decidingPhase post (x_methodCapacity, x_nodeCapacity, nI mc, x_pickedPhase, x_nodes, x_missingNodes, x_resolved, x_methodName, x_methodParams, x_methodPlaces, x_methodReturn, x_methodConstant, x_methodVarargs, x_callName, x_callArgc, x_literalType, x_literalValue, x_subtreeEnd, x_resultStatus, x_resultMethod, x_resultType, x_resultPhase, x_resultValue) x ty :=
  ⟨4, xd_out h16 hM hV h 3 1 (by omega) (by omega) (fun p p1 p2 => absurd p1 (by omega))⟩
theorem xp_loop {post : Int32 → Prop} {m o lim : Nat} (hm : m < 16) (ho : o < 16) (hl : lim ≤ 5) (rm : ∀ i, i < lim → 1 ≤ ov_nb (x_methodPlaces m) i ∧ ov_nb (x_methodPlaces m) i ≤ 14) (ro : ∀ i, i < lim → 1 ≤ ov_nb (x_methodPlaces o) i ∧ ov_nb (x_methodPlaces o) i ≤ 14) (h1 : ov_MS x_methodPlaces lim m o → post 1) (h0 : ¬ ov_MS x_methodPlaces lim m o → post 0) : ∀ d i, i + d = lim → (∀ j, j < i → ov_S (ov_nb (x_methodPlaces m) j) (ov_nb (x_methodPlaces o) j)) → wX_isAsSpecific_3 post (nI m) (nI o) (nI lim) x_methodCapacity x_nodeCapacity x_methods x_pickedPhase x_nodes x_missingNodes x_resolved x_methodName x_methodParams x_methodPlaces x_methodReturn x_methodConstant x_methodVarargs x_callName x_callArgc x_literalType x_literalValue x_subtreeEnd x_resultStatus x_resultMethod x_resultType x_resultPhase x_resultValue (d + 1) (nI i) := by
  have em : (nI m).toNatClampNeg = m := nI_clamp (by omega)
  have eo : (nI o).toNatClampNeg = o := nI_clamp (by omega)
  intro d
  induction d with
  | zero =>
    intro i hi hj
    exact br_t (nI_le (by omega) (by omega)) (h1 (fun j hj' => hj j (by omega)))
  | succ d ih =>
    intro i hi hj
    have a := rm i (by omega)
    have b := ro i (by omega)
    refine br_f (nI_ge (by omega) (by omega)) ⟨vp_in_nI hm (by omega), xs_typeAt (congrArg x_methodPlaces em) rfl (by omega) ⟨vp_in_nI ho (by omega), xs_typeAt (congrArg x_methodPlaces eo) rfl (by omega) ?_⟩⟩
    exact xs_sub a.1 a.2 b.1 b.2 (fun c => br_f (by decide) (nm_r (nI_1 i) (ih (i + 1) (by omega) (ov_lt_s hj c)))) (fun c => br_t rfl (h0 (fun z => c (z i (by omega)))))
theorem xs_isAsSpecific {post : Int32 → Prop} {m o lim : Nat} (hm : m < 16) (ho : o < 16) (hl : lim ≤ 5) (rm : ∀ i, i < lim → 1 ≤ ov_nb (x_methodPlaces m) i ∧ ov_nb (x_methodPlaces m) i ≤ 14) (ro : ∀ i, i < lim → 1 ≤ ov_nb (x_methodPlaces o) i ∧ ov_nb (x_methodPlaces o) i ≤ 14) (h1 : ov_MS x_methodPlaces lim m o → post 1) (h0 : ¬ ov_MS x_methodPlaces lim m o → post 0) : wpX_isAsSpecific post (x_methodCapacity, x_nodeCapacity, x_methods, x_pickedPhase, x_nodes, x_missingNodes, x_resolved, x_methodName, x_methodParams, x_methodPlaces, x_methodReturn, x_methodConstant, x_methodVarargs, x_callName, x_callArgc, x_literalType, x_literalValue, x_subtreeEnd, x_resultStatus, x_resultMethod, x_resultType, x_resultPhase, x_resultValue) (nI m) (nI o) (nI lim) :=
  ⟨lim + 1, xp_loop hm ho hl rm ro h1 h0 lim 0 (by omega) (fun j hj => absurd hj (by omega))⟩
theorem xb_loop {post : Int32 → Prop} {mc m lim : Nat} {mk : Int32} {G : Nat → Prop} (h16 : mc ≤ 16) (hm : m < mc) (hl : lim ≤ 5) (hk : ∀ o, o < mc → (bt mk o = true ↔ G o)) (hG : ∀ o, o < mc → G o → ∀ i, i < lim → 1 ≤ ov_nb (x_methodPlaces o) i ∧ ov_nb (x_methodPlaces o) i ≤ 14) (gm : G m) (h1 : ov_B mc G (ov_MS x_methodPlaces lim) m → post 1) (h0 : ¬ ov_B mc G (ov_MS x_methodPlaces lim) m → post 0) : ∀ d o, o + d = mc → (∀ q, q < o → q ≠ m → G q → ov_MS x_methodPlaces lim m q ∧ ¬ ov_MS x_methodPlaces lim q m) → wX_beatsOthers_3 post (nI m) mk (nI lim) x_methodCapacity x_nodeCapacity (nI mc) x_pickedPhase x_nodes x_missingNodes x_resolved x_methodName x_methodParams x_methodPlaces x_methodReturn x_methodConstant x_methodVarargs x_callName x_callArgc x_literalType x_literalValue x_subtreeEnd x_resultStatus x_resultMethod x_resultType x_resultPhase x_resultValue (d + 1) (nI o) := by
  intro d
  induction d with
  | zero =>
    intro o ho hq
    exact br_t (nI_le (by omega) (by omega)) (h1 (fun q h => hq q (by omega)))
  | succ d ih =>
    intro o ho hq
    refine br_f (nI_ge (by omega) (by omega)) ?_
    refine pk_eq o m (fun e => nm_r (nI_1 o) (ih (o + 1) (by omega) (ov_lt_s hq (fun z => absurd e z)))) (fun ne => ?_)
    refine br_c (fun z => nm_r (nI_1 o) (ih (o + 1) (by omega) (ov_lt_s hq (fun _ g => ?_)))) (fun z => ?_)
    · rw [ov_bit mk (by omega)] at z
      rw [(hk o (by omega)).mpr g] at z
      exact absurd z (by decide)
    · rw [ov_bit mk (by omega)] at z
      have g : G o := (hk o (by omega)).mp (by revert z; cases bt mk o <;> simp)
      refine xs_isAsSpecific (by omega) (by omega) hl (hG m hm gm) (hG o (by omega) g) (fun a => br_f (by decide) ?_) (fun a => br_t rfl (h0 (fun B => a (B o (by omega) ne g).1)))
      exact xs_isAsSpecific (by omega) (by omega) hl (hG o (by omega) g) (hG m hm gm) (fun b => br_f (by decide) (h0 (fun B => (B o (by omega) ne g).2 b))) (fun b => br_t rfl (nm_r (nI_1 o) (ih (o + 1) (by omega) (ov_lt_s hq (fun _ _ => ⟨a, b⟩)))))
theorem xs_beatsOthers {post : Int32 → Prop} {mc m lim : Nat} {mk : Int32} {G : Nat → Prop} (h16 : mc ≤ 16) (hm : m < mc) (hl : lim ≤ 5) (hk : ∀ o, o < mc → (bt mk o = true ↔ G o)) (hG : ∀ o, o < mc → G o → ∀ i, i < lim → 1 ≤ ov_nb (x_methodPlaces o) i ∧ ov_nb (x_methodPlaces o) i ≤ 14) (gm : G m) (h1 : ov_B mc G (ov_MS x_methodPlaces lim) m → post 1) (h0 : ¬ ov_B mc G (ov_MS x_methodPlaces lim) m → post 0) : wpX_beatsOthers post (x_methodCapacity, x_nodeCapacity, nI mc, x_pickedPhase, x_nodes, x_missingNodes, x_resolved, x_methodName, x_methodParams, x_methodPlaces, x_methodReturn, x_methodConstant, x_methodVarargs, x_callName, x_callArgc, x_literalType, x_literalValue, x_subtreeEnd, x_resultStatus, x_resultMethod, x_resultType, x_resultPhase, x_resultValue) (nI m) mk (nI lim) :=
  ⟨mc + 1, xb_loop h16 hm hl hk hG gm h1 h0 mc 0 (by omega) (fun q hq => absurd hq (by omega))⟩
theorem xc_pick {post : Int32 → Prop} {mc lim d : Nat} {mk : Int32} {G : Nat → Prop} (h16 : mc ≤ 16) (hd : 1 ≤ d) (hl : lim ≤ 5) (hk : ∀ o, o < mc → (bt mk o = true ↔ G o)) (hG : ∀ o, o < mc → G o → ∀ i, i < lim → 1 ≤ ov_nb (x_methodPlaces o) i ∧ ov_nb (x_methodPlaces o) i ≤ 14) (h : ∀ r, ov_Ch mc (ov_G mc G (ov_MS x_methodPlaces lim)) d r → post r) : ∀ e m, m + e = mc → (∀ q, q < m → ¬ ov_G mc G (ov_MS x_methodPlaces lim) q) → wX_chooseMethod_83 post mk (nI lim) x_methodCapacity x_nodeCapacity (nI mc) x_pickedPhase x_nodes x_missingNodes x_resolved x_methodName x_methodParams x_methodPlaces x_methodReturn x_methodConstant x_methodVarargs x_callName x_callArgc x_literalType x_literalValue x_subtreeEnd x_resultStatus x_resultMethod x_resultType x_resultPhase x_resultValue (e + 1) (nI m) := by
  intro e
  induction e with
  | zero =>
    intro m hm hq
    exact br_t (nI_le (by omega) (by omega)) (h _ (Or.inr ⟨hd, Or.inr ⟨rfl, fun q h => hq q (by omega)⟩⟩))
  | succ e ih =>
    intro m hm hq
    refine br_f (nI_ge (by omega) (by omega)) (br_c (fun z => nm_r (nI_1 m) (ih (m + 1) (by omega) (ov_lt_s hq (fun g => ?_)))) (fun z => ?_))
    · rw [ov_bit mk (by omega)] at z
      rw [(hk m (by omega)).mpr g.1] at z
      exact absurd z (by decide)
    · rw [ov_bit mk (by omega)] at z
      have g : G m := (hk m (by omega)).mp (by revert z; cases bt mk m <;> simp)
      exact xs_beatsOthers h16 (by omega) hl hk hG g (fun b => br_f (by decide) (h _ (Or.inr ⟨hd, Or.inl ⟨m, by omega, rfl, ⟨g, b⟩, hq⟩⟩))) (fun b => br_t rfl (nm_r (nI_1 m) (ih (m + 1) (by omega) (ov_lt_s hq (fun g => b g.2)))))
theorem xc_mask {post : Int32 → Prop} {mc n ph : Nat} {ln : Nat → Nat} {x ty : Int32} (h16 : mc ≤ 16) (hM : ov_M mc x_methodParams x_methodPlaces x_methodVarargs ln) (hV : ov_V ty n) (hp : ph < 4) (h1 : 1 ≤ ph) (h : ∀ r, ov_Ch mc (ov_W x_methodName x_methodPlaces x_methodVarargs ln mc x ty n ph) ph r → post r) : ∀ e m mk, m + e = mc → (∀ o, o < 32 → (bt mk o = true ↔ (o < m ∧ ov_T x_methodName x_methodPlaces x_methodVarargs ln x ty n ph o))) → wX_chooseMethod_12 post x ty (nI ph) x_methodCapacity x_nodeCapacity (nI mc) x_pickedPhase x_nodes x_missingNodes x_resolved x_methodName x_methodParams x_methodPlaces x_methodReturn x_methodConstant x_methodVarargs x_callName x_callArgc x_literalType x_literalValue x_subtreeEnd x_resultStatus x_resultMethod x_resultType x_resultPhase x_resultValue (e + 1) mk (nI m) := by
  have h4 := hV.1
  intro e
  induction e with
  | zero =>
    intro m mk hm hk
    have hk' : ∀ o, o < mc → (bt mk o = true ↔ ov_T x_methodName x_methodPlaces x_methodVarargs ln x ty n ph o) := fun o ho => ⟨fun b => ((hk o (by omega)).mp b).2, fun t => (hk o (by omega)).mpr ⟨by omega, t⟩⟩
    have hG : ∀ o, o < mc → ov_T x_methodName x_methodPlaces x_methodVarargs ln x ty n ph o → ∀ i, i < ov_lim n ph → 1 ≤ ov_nb (x_methodPlaces o) i ∧ ov_nb (x_methodPlaces o) i ≤ 14 := fun o ho t => ov_A_in hM ho h4 t.2
    refine br_t (nI_le (by omega) (by omega)) (xs_listLength_V hV ?_)
    have key : wX_chooseMethod_83 post mk (nI (ov_lim n ph)) x_methodCapacity x_nodeCapacity (nI mc) x_pickedPhase x_nodes x_missingNodes x_resolved x_methodName x_methodParams x_methodPlaces x_methodReturn x_methodConstant x_methodVarargs x_callName x_callArgc x_literalType x_literalValue x_subtreeEnd x_resultStatus x_resultMethod x_resultType x_resultPhase x_resultValue (mc + 1) (nI 0) := xc_pick h16 h1 (ov_lim_le h4) hk' hG h mc 0 (by omega) (fun q hq => absurd hq (by omega))
    refine pk_eq ph 3 (fun z => nm_r (nI_1 n) ⟨mc + 1, ?_⟩) (fun z => ⟨mc + 1, ?_⟩)
    · rw [show ov_lim n ph = n + 1 from if_pos z] at key
      exact key
    · rw [show ov_lim n ph = n from if_neg z] at key
      exact key
  | succ e ih =>
    intro m mk hm hk
    have ec : (nI m).toNatClampNeg = m := nI_clamp (by omega)
    have skip : ¬ ov_T x_methodName x_methodPlaces x_methodVarargs ln x ty n ph m → ∀ o, o < 32 → (bt mk o = true ↔ (o < m + 1 ∧ ov_T x_methodName x_methodPlaces x_methodVarargs ln x ty n ph o)) := by
      intro nt o ho
      rw [hk o ho]
      constructor
      · exact fun c => ⟨by omega, c.2⟩
      · intro c
        by_cases q : o = m
        · rw [q] at c; exact absurd c.2 nt
        · exact ⟨by omega, c.2⟩
    refine br_f (nI_ge (by omega) (by omega)) ⟨vp_in_nI (by omega) (by omega), br_c (fun q => ?_) (fun q => ?_)⟩
    · rw [ec] at q
      refine xs_isApplicable (by omega) h16 hM hV hp (fun a => br_f (by decide) (nm_e (nm_r (nI_1 m) (ih (m + 1) _ (by omega) (fun o ho => ?_))))) (fun a => br_t rfl (nm_r (nI_1 m) (ih (m + 1) mk (by omega) (skip (fun t => a t.2)))))
      rw [ov_set mk (by omega) ho]
      by_cases w : o = m
      · rw [w]
        exact ⟨fun _ => ⟨by omega, q, a⟩, fun _ => by simp⟩
      · rw [show decide (o = m) = false from decide_eq_false w, Bool.or_false, hk o ho]
        exact ⟨fun c => ⟨by omega, c.2⟩, fun c => ⟨by omega, c.2⟩⟩
    · rw [ec] at q
      exact nm_r (nI_1 m) (ih (m + 1) mk (by omega) (skip (fun t => q t.1)))
theorem xs_chooseMethod {post : Int32 → Prop} {mc n d : Nat} {ln : Nat → Nat} {x ty : Int32} (h16 : mc ≤ 16) (hM : ov_M mc x_methodParams x_methodPlaces x_methodVarargs ln) (hV : ov_V ty n) (hp : d < 4) (h : ∀ r, ov_Ch mc (ov_W x_methodName x_methodPlaces x_methodVarargs ln mc x ty n d) d r → post r) : wpX_chooseMethod post (x_methodCapacity, x_nodeCapacity, nI mc, x_pickedPhase, x_nodes, x_missingNodes, x_resolved, x_methodName, x_methodParams, x_methodPlaces, x_methodReturn, x_methodConstant, x_methodVarargs, x_callName, x_callArgc, x_literalType, x_literalValue, x_subtreeEnd, x_resultStatus, x_resultMethod, x_resultType, x_resultPhase, x_resultValue) x ty (nI d) :=
  pk_eq d 0 (fun z => h _ (Or.inl ⟨z, rfl⟩)) (fun z => ⟨mc + 1, xc_mask h16 hM hV hp (by omega) h mc 0 0 (by omega) (fun o _ => ⟨fun b => absurd b (by rw [b_0]; decide), fun c => absurd c.1 (by omega)⟩)⟩)
end
