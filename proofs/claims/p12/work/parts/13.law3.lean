/-! ===== the law's last loops ===== -/
section
variable {x_methodCapacity x_nodeCapacity x_methods x_pickedPhase x_nodes x_missingNodes x_resolved : Int32} {x_methodName x_methodParams x_methodPlaces x_methodReturn x_methodConstant x_methodVarargs x_callName x_callArgc x_literalType : Nat → Int32} {x_literalValue : Nat → Int64} {x_subtreeEnd x_resultStatus x_resultMethod x_resultType x_resultPhase : Nat → Int32} {x_resultValue : Nat → Int64}
theorem xs_nodeType {post : Int32 → Prop} {j nc : Nat} (hr : ¬ x_resolved = 0) (hj : j < nc) (hn : nc ≤ 32) (h : post (x_resultType j)) : wpX_nodeType post (x_methodCapacity, x_nodeCapacity, x_methods, x_pickedPhase, nI nc, x_missingNodes, x_resolved, x_methodName, x_methodParams, x_methodPlaces, x_methodReturn, x_methodConstant, x_methodVarargs, x_callName, x_callArgc, x_literalType, x_literalValue, x_subtreeEnd, x_resultStatus, x_resultMethod, x_resultType, x_resultPhase, x_resultValue) (nI j) := by
  have ec : (nI j).toNatClampNeg = j := nI_clamp (by omega)
  unfold wpX_nodeType
  refine xs_hasResult_yes hr hj hn (br_f (by decide) ⟨vp_in_nI (by omega) (by omega), ?_⟩)
  rw [ec]
  exact h
theorem xs_nodeMethod {post : Int32 → Prop} {j nc : Nat} (hr : ¬ x_resolved = 0) (hj : j < nc) (hn : nc ≤ 32) (h : post (x_resultMethod j)) : wpX_nodeMethod post (x_methodCapacity, x_nodeCapacity, x_methods, x_pickedPhase, nI nc, x_missingNodes, x_resolved, x_methodName, x_methodParams, x_methodPlaces, x_methodReturn, x_methodConstant, x_methodVarargs, x_callName, x_callArgc, x_literalType, x_literalValue, x_subtreeEnd, x_resultStatus, x_resultMethod, x_resultType, x_resultPhase, x_resultValue) (nI j) := by
  have ec : (nI j).toNatClampNeg = j := nI_clamp (by omega)
  unfold wpX_nodeMethod
  refine xs_hasResult_yes hr hj hn (br_f (by decide) ⟨vp_in_nI (by omega) (by omega), ?_⟩)
  rw [ec]
  exact h
theorem xs_nodeStatus {post : Int32 → Prop} {j nc : Nat} (hr : ¬ x_resolved = 0) (hj : j < nc) (hn : nc ≤ 32) (h : post (x_resultStatus j)) : wpX_nodeStatus post (x_methodCapacity, x_nodeCapacity, x_methods, x_pickedPhase, nI nc, x_missingNodes, x_resolved, x_methodName, x_methodParams, x_methodPlaces, x_methodReturn, x_methodConstant, x_methodVarargs, x_callName, x_callArgc, x_literalType, x_literalValue, x_subtreeEnd, x_resultStatus, x_resultMethod, x_resultType, x_resultPhase, x_resultValue) (nI j) := by
  have ec : (nI j).toNatClampNeg = j := nI_clamp (by omega)
  unfold wpX_nodeStatus
  refine xs_isNode_yes hj hn (br_f (by decide) (br_f hr ⟨vp_in_nI (by omega) (by omega), ?_⟩))
  rw [ec]
  exact h
end
section
variable {L : Nat} {xs : Nat → Int32} {mk : Int64} {aj : Nat → Nat} {mc J kc ks : Nat} {nm pm pl rt co vr cN ca lt : Nat → Int32} {lv : Nat → Int64} {se st me ty pp : Nat → Int32} {va : Nat → Int64} {ln : Nat → Nat} {ph rs : Int32} {post : Int32 → Prop}
theorem la_497 {nc i nf d : Nat} {q : Nat → Nat} (hL : L ≤ 260) (h16 : mc ≤ 16) (h32 : nc ≤ 32) (hM : ov_M mc pm pl vr ln) (hpd : ∀ u, u < nc → 1 ≤ la_pd L xs u) (hi : i < nc) (hq : ∀ a, a < la_ac L xs i → ov_E (la_pd L xs) (q a) (q (a + 1)) ∧ q a < nc ∧ q (a + 1) ≤ nc) (hty : ∀ a, a < la_ac L xs i → ∃ t, 1 ≤ t ∧ t ≤ 14 ∧ ty (q a) = nI t) (hd : ov_Ph mc (ov_T nm pl vr ln (nI (la_cn L xs i)) (nI (ov_zt (ov_tq ty q) (la_ac L xs i))) (la_ac L xs i)) d) (hr : ov_Ch mc (ov_W nm pl vr ln mc (nI (la_cn L xs i)) (nI (ov_zt (ov_tq ty q) (la_ac L xs i))) (la_ac L xs i) d) d (me i)) (next : ∀ ph', wL_law_452 post L xs (nI nc) kc ks nf (nI (i + 1)) (nI 16) (nI 32) (nI mc) ph' (nI nc) (nI (la_pd L xs nc)) 1 nm pm pl rt co vr cN ca lt lv se st me ty pp va) : ∀ e b, b + e = la_ac L xs i → wL_law_497 post L xs (wL_law_452 post L xs (nI nc) kc ks nf) (nI nc) (nI i) (nI (la_ac L xs i)) kc ks (nI 16) (nI 32) (nI mc) ph (nI nc) (nI (la_pd L xs nc)) 1 nm pm pl rt co vr cN ca lt lv se st me ty pp va (e + 1) (nI (ov_zt (ov_tq ty q) b)) (nI (q b)) (nI b) := by
  have hac := la_f_le L xs i (la_pd L xs i)
  have hac2 : la_ac L xs i ≤ 2 := hac
  have o0 : ¬ ((1 : Int32) = 0) := by decide
  intro e
  induction e with
  | zero =>
    intro b hb
    have eb : b = la_ac L xs i := by omega
    subst eb
    have hV : ov_V (nI (ov_zt (ov_tq ty q) (la_ac L xs i))) (la_ac L xs i) := by
      refine ov_zt_V _ (ov_tq_lt ty q) _ (by omega) (fun b hb => ?_)
      obtain ⟨t, t1, t2, e⟩ := hty b hb
      rw [ov_tq_eq e t2]
      exact ⟨t1, t2⟩
    refine br_t (nI_le (Nat.le_refl _) (by omega)) (la_cell hL (nI_add 82 i) (by omega) (la_pos (m := 3) rfl (by decide) (by decide) ?_))
    have hcn : la_cn L xs i < 3 := la_pv_lt _ (by decide)
    refine xs_pick (x := la_cn L xs i) h16 hM hV (by omega) (fun d' r' hd' hr' => ?_)
    have e1 := ov_Ph_u hd hd'
    subst e1
    have e2 := ov_Ch_u hr hr'
    refine xs_nodeMethod o0 hi h32 (br_t e2 (nm_r (nI_1 i) (next (nI d))))
  | succ e ih =>
    intro b hb
    obtain ⟨hE, h1, h2⟩ := hq b (by omega)
    obtain ⟨t, t1, t2, et⟩ := hty b (by omega)
    refine br_f (nI_ge (by omega) (by omega)) (xs_nodeType o0 h1 h32 (nm_r (e' := nI (ov_zt (ov_tq ty q) (b + 1))) ?_ (la_skipEnd hL h32 hpd hE h2 (nm_r (nI_1 b) (ih (b + 1) (by omega))))))
    rw [et, ov_put (by omega) (ov_zt_lt _ (ov_tq_lt ty q) b) (by omega)]
    show _ = nI (ov_zt (ov_tq ty q) b + ov_tq ty q b * 2 ^ (4 * b))
    rw [ov_tq_eq et t2]
theorem la_452 {nc : Nat} (hL : L ≤ 260) (h16 : mc ≤ 16) (h32 : nc ≤ 32) (hM : ov_M mc pm pl vr ln) (hpd : ∀ u, u < nc → 1 ≤ la_pd L xs u) (h0 : la_pd L xs nc = 0) (hNd : la_Nd nc cN ca lt (la_ac L xs) (la_cn L xs)) (hI : ov_Inv (la_pd L xs) nc 0 se st ty) (hJ : la_J mc nc 0 nm pl vr ln (la_ac L xs) (la_pd L xs) cN st me ty) (hp : post 1) : ∀ e i ph, i + e = nc → wL_law_452 post L xs (nI nc) kc ks (e + 1) (nI i) (nI 16) (nI 32) (nI mc) ph (nI nc) (nI (la_pd L xs nc)) 1 nm pm pl rt co vr cN ca lt lv se st me ty pp va := by
  have hP := la_P hpd
  have o0 : ¬ ((1 : Int32) = 0) := by decide
  intro e
  induction e with
  | zero =>
    intro i ph hi
    exact br_t (nI_le (by omega) (by omega)) hp
  | succ e ih =>
    intro i ph hi
    have hil : i < nc := by omega
    have hac2 : la_ac L xs i ≤ 2 := la_f_le L xs i (la_pd L xs i)
    refine br_f (nI_ge (by omega) (by omega)) (la_argcOf hL (by omega) (fun u hu => hpd u (by omega)) ?_)
    refine pk_eq (la_ac L xs i) 0 (fun z => nm_r (nI_1 i) (ih (i + 1) ph (by omega))) (fun z => xs_nodeStatus o0 hil h32 (br_c (fun s1 => nm_r (nI_1 i) ⟨la_ac L xs i + 1, ?_⟩) (fun s1 => nm_r (nI_1 i) (ih (i + 1) ph (by omega)))))
    obtain ⟨_, _, hnode⟩ := hNd i hil
    rcases hnode with ⟨g0, _⟩ | ⟨g1, c1, c2⟩
    · exact absurd g0 z
    have hE : ∀ j, i < j → j < nc → (se j).toNatClampNeg ≤ nc ∧ ov_E (la_pd L xs) j (se j).toNatClampNeg := by
      intro j h1 h2
      obtain ⟨⟨e', e1, e2, e3⟩, _⟩ := hI j (by omega) h2
      have e4 : (se j).toNatClampNeg = e' := by
        rw [e2]
        exact nI_clamp (by omega)
      rw [e4]
      exact ⟨e1, e3⟩
    have hQ := ov_q (E := fun j => (se j).toNatClampNeg) hP h0 hil hE
    have hq : ∀ a, a < la_ac L xs i → ov_cs (fun j => (se j).toNatClampNeg) i a < nc := fun a ha => ov_K_in hP h0 hil (hQ a (by omega)).1 ha (hQ a (by omega)).2
    have hgt : ∀ a, a < la_ac L xs i → i < ov_cs (fun j => (se j).toNatClampNeg) i a := fun a ha => (hQ a (by omega)).1.1
    have hEa : ∀ a, a < la_ac L xs i → ov_E (la_pd L xs) (ov_cs (fun j => (se j).toNatClampNeg) i a) (ov_cs (fun j => (se j).toNatClampNeg) i (a + 1)) := fun a ha => (hE _ (hgt a ha) (hq a ha)).2
    obtain ⟨hst, d, hd, hr⟩ := hJ i (by omega) hil c2 s1 (ov_cs (fun j => (se j).toNatClampNeg) i) rfl hEa
    rw [c1] at hd hr
    exact la_497 hL h16 h32 hM hpd hil (fun a ha => ⟨hEa a ha, hq a ha, (hQ (a + 1) (by omega)).2⟩) (fun a ha => (hI _ (by omega) (hq a ha)).2 (hst a ha)) hd hr (fun ph' => ih (i + 1) ph' (by omega)) (la_ac L xs i) 0 (by omega)
theorem la_433 {nc : Nat} (hL : L ≤ 260) (h16 : mc ≤ 16) (h32 : nc ≤ 32) (hM : ov_M mc pm pl vr ln) (hrt : ∀ m, m < mc → ∃ t, 1 ≤ t ∧ t ≤ 14 ∧ rt m = nI t) (hpd : ∀ u, u < nc → 1 ≤ la_pd L xs u) (hNd : la_Nd nc cN ca lt (la_ac L xs) (la_cn L xs)) (hp : post 1) : wL_law_433 post L xs (nI nc) 1 kc ks (nI 16) (nI 32) (nI mc) ph (nI nc) (nI (la_pd L xs nc)) rs nm pm pl rt co vr cN ca lt lv se st me ty pp va := by
  have hb := la_pd_le L xs nc
  refine br_f (by decide) ?_
  refine xs_resolve (P := la_pd L xs) h16 h32 (by omega) hM hrt hNd (la_P hpd) (br_t rfl hp) (fun h0 se' st' me' ty' pp' va' hI hJ => br_c (fun _ => hp) (fun _ => ⟨nc + 1, ?_⟩))
  exact la_452 hL h16 h32 hM hpd h0 hNd hI hJ hp nc 0 _ (by omega)
theorem la_Nd_l {nc : Nat} {cN ca lt : Nat → Int32} {g cn : Nat → Nat} {t : Nat} (h : la_Nd nc cN ca lt g cn) (hg : g nc = 0) (t1 : 1 ≤ t) (t2 : t ≤ 14) : la_Nd (nc + 1) (upd cN nc (-1)) (upd ca nc (nI 0)) (upd lt nc (nI t)) g cn := by
  intro j hj
  by_cases e : j = nc
  · subst e
    rw [pk_us, pk_us, pk_us, hg]
    exact ⟨rfl, by omega, Or.inl ⟨rfl, rfl, t, t1, t2, rfl⟩⟩
  · rw [pk_un e, pk_un e, pk_un e]
    exact h j (by omega)
theorem la_Nd_c {nc : Nat} {cN ca lt : Nat → Int32} {g cn : Nat → Nat} (h : la_Nd nc cN ca lt g cn) (hg : 0 < g nc) (h4 : g nc ≤ 4) (hc : cn nc < 8) : la_Nd (nc + 1) (upd cN nc (nI (cn nc))) (upd ca nc (nI (g nc))) lt g cn := by
  intro j hj
  by_cases e : j = nc
  · subst e
    rw [pk_us, pk_us]
    exact ⟨rfl, h4, Or.inr ⟨hg, rfl, ov_nn1 (by omega)⟩⟩
  · rw [pk_un e, pk_un e]
    exact h j (by omega)
theorem la_n4 {k : Nat} (h : k < 2 ^ 31) : ¬ (-4) = nI k := fun e => nI_pos h (by rw [← e]; decide)
theorem la_328 (hL : L ≤ 260) (h16 : mc ≤ 16) (hM : ov_M mc pm pl vr ln) (hrt : ∀ m, m < mc → ∃ t, 1 ≤ t ∧ t ≤ 14 ∧ rt m = nI t) (hp : post 1) : ∀ e nc, nc + e = 40 → nc ≤ 32 → (∀ u, u < nc → 1 ≤ la_pd L xs u) → ∀ (rs : Int32) (cN ca lt : Nat → Int32) (lv : Nat → Int64), la_Nd nc cN ca lt (la_ac L xs) (la_cn L xs) → wL_law_328 post L xs 1 kc ks (e + 1) (nI (la_pd L xs nc)) (nI nc) (nI 16) (nI 32) (nI mc) ph (nI nc) (nI (la_pd L xs nc)) rs nm pm pl rt co vr cN ca lt lv se st me ty pp va := by
  intro e
  induction e with
  | zero =>
    intro nc hn h32
    omega
  | succ e ih =>
    intro nc hn h32 hpd rs cN ca lt lv hNd
    have hb := la_pd_le L xs nc
    have hac2 : la_ac L xs nc ≤ 2 := la_f_le L xs nc (la_pd L xs nc)
    refine br_f (nI_ge (b := 40) (by omega) (by decide)) (pk_le (la_pd L xs nc) 0 (fun a => la_433 hL h16 h32 hM hrt hpd hNd hp) (fun a => la_cell hL (nI_add 82 nc) (by omega) (la_argcOf hL (by omega) hpd ?_)))
    have hpd' : ∀ u, u < nc + 1 → 1 ≤ la_pd L xs u := ov_lt_s hpd a
    have eq : nI (la_pd L xs nc) - 1 + nI (la_ac L xs nc) = nI (la_pd L xs (nc + 1)) := by
      show nI (la_pd L xs nc) - nI 1 + nI (la_f L xs nc (la_pd L xs nc)) = nI (la_pd L xs nc - 1 + la_f L xs nc (la_pd L xs nc))
      rw [pk_sub a, nI_add]
    have e1 : la_pd L xs nc - 1 + la_ac L xs nc = la_pd L xs (nc + 1) := rfl
    refine pk_le (la_ac L xs nc) 0 (fun b => la_pos (m := 14) rfl (by decide) (by decide) ?_) (fun b => la_pos (m := 3) rfl (by decide) (by decide) ?_)
    · have b0 : la_ac L xs nc = 0 := by omega
      have ht : la_pv ((la_c L xs (82 + nc)).toUInt32 >>> ((3 : Int32).toUInt32 &&& Int32.toUInt32 31)).toInt32 14 < 14 := la_pv_lt _ (by decide)
      rw [nI_1]
      refine xs_addLiteral h32 (by omega) (fun _ => a) (by omega) (by omega) (br_f (la_n4 (by omega)) (br_t rfl hp)) (fun hlt _ => br_t rfl (nm_r eq (nm_r (nI_1 nc) ?_)))
      rw [show la_pd L xs nc - 1 + 0 = la_pd L xs (nc + 1) from by rw [← e1, b0]]
      exact ih (nc + 1) (by omega) (by omega) hpd' _ _ _ _ _ (la_Nd_l hNd b0 (by omega) (by omega))
    · have hc : la_cn L xs nc < 3 := la_pv_lt _ (by decide)
      refine xs_addCall (x := la_cn L xs nc) h32 (by omega) (fun _ => a) (by omega) (by omega) (br_f (la_n4 (by omega)) (br_t rfl hp)) (fun hlt _ => br_t rfl (nm_r eq (nm_r (nI_1 nc) ?_)))
      rw [e1]
      exact ih (nc + 1) (by omega) (by omega) hpd' _ _ _ _ _ (la_Nd_c hNd b (by omega) (by omega))
theorem la_253 {n d k pk nf : Nat} {x tl r : Int32} (hL : L ≤ 260) (hA : la_At mk aj mc J) (hJ : J ≤ 10) (h16 : mc ≤ 16) (hB : la_Tb L xs aj mc nm pm pl vr ln) (hV : ov_V tl n) (hd : ov_Ph mc (ov_T nm pl vr ln x tl n) d) (hr : ov_Ch mc (ov_W nm pl vr ln mc x tl n d) d r) (next : wL_law_126 post L xs mk (nI mc) (nI pk) kc ks nf (nI (k + 1)) (nI 16) (nI 32) (nI mc) ph (nI 0) (nI 1) rs nm pm pl rt co vr cN ca lt lv se st me ty pp va) : wL_law_253 post L xs (wL_law_126 post L xs mk (nI mc) (nI pk) kc ks nf) mk (nI mc) (nI pk) (nI k) x (nI n) tl r (nI d) (nI d) kc ks (nI 16) (nI 32) (nI mc) ph (nI 0) (nI 1) rs nm pm pl rt co vr cN ca lt lv se st me ty pp va := by
  have h3 := ov_Ph_le hd
  refine pk_eq d 0 (fun z => ?_) (fun z => ?_)
  · rcases hr with ⟨_, er⟩ | ⟨h1, _⟩
    · exact br_t er (nm_r (nI_1 k) next)
    · omega
  · refine la_winner hL hA hJ h16 hB hV (by omega) (fun m hm hW hl => ?_) (fun hn => ?_)
    · have er := ov_Ch_u hr (Or.inr ⟨by omega, Or.inl ⟨m, hm, rfl, hW, hl⟩⟩)
      exact br_t (nI_pos' (by omega)) (br_t er (br_t rfl (nm_r (nI_1 k) next)))
    · have er := ov_Ch_u hr (Or.inr ⟨by omega, Or.inr ⟨rfl, hn⟩⟩)
      exact br_f (by decide) (br_t er (nm_r (nI_1 k) next))
theorem la_214 {n d k pk nf : Nat} {x tl r : Int32} (hL : L ≤ 260) (hA : la_At mk aj mc J) (hJ : J ≤ 10) (h16 : mc ≤ 16) (hB : la_Tb L xs aj mc nm pm pl vr ln) (hV : ov_V tl n) (hd : ov_Ph mc (ov_T nm pl vr ln x tl n) d) (hr : ov_Ch mc (ov_W nm pl vr ln mc x tl n d) d r) (next : wL_law_126 post L xs mk (nI mc) (nI pk) kc ks nf (nI (k + 1)) (nI 16) (nI 32) (nI mc) ph (nI 0) (nI 1) rs nm pm pl rt co vr cN ca lt lv se st me ty pp va) : ∀ e p, p + e = 4 → 1 ≤ p → (∀ b, 1 ≤ b → b < p → ∀ m, m < mc → ¬ ov_T nm pl vr ln x tl n b m) → wL_law_214 post L xs (wL_law_126 post L xs mk (nI mc) (nI pk) kc ks nf) mk (nI mc) (nI pk) (nI k) x (nI n) tl r (nI d) kc ks (nI 16) (nI 32) (nI mc) ph (nI 0) (nI 1) rs nm pm pl rt co vr cN ca lt lv se st me ty pp va (e + 1) 0 (nI p) := by
  have fin := la_253 hL hA hJ h16 hB hV hd hr next
  intro e
  induction e with
  | zero =>
    intro p hp h1 hq
    have d0 : d = 0 := ov_Ph_u hd (Or.inl ⟨rfl, fun b b1 b3 => hq b b1 (by omega)⟩)
    subst d0
    exact br_t (nI_lt (a := 3) (by omega) (by omega)) fin
  | succ e ih =>
    intro p hp h1 hq
    refine br_f (nI_nlt (a := 3) (by omega) (by omega)) (br_t rfl (la_anyApp hL hA hJ h16 hB hV (by omega) (fun ex => br_f (by decide) (nm_r (nI_1 p) ?_)) (fun no => br_t rfl (nm_r (nI_1 p) (ih (p + 1) (by omega) (by omega) (fun b b1 b2 => ?_))))))
    · have dp : d = p := ov_Ph_u hd (Or.inr ⟨h1, by omega, ex, hq⟩)
      subst dp
      exact br_c (fun _ => fin) (fun _ => br_f (nI_ne0 (by omega) (by omega)) fin)
    · by_cases eb : b = p
      · rw [eb]; exact no
      · exact hq b b1 (by omega)
theorem la_126 {pk : Nat} (hL : L ≤ 260) (hA : la_At mk aj mc J) (hJ : J ≤ 10) (h16 : mc ≤ 16) (hB : la_Tb L xs aj mc nm pm pl vr ln) (hpk : pk < 20) (fin : ∀ ph, ∃ n, wL_law_328 post L xs 1 kc ks n 1 0 (nI 16) (nI 32) (nI mc) ph (nI 0) (nI 1) rs nm pm pl rt co vr cN ca lt lv se st me ty pp va) : ∀ e k ph, k + e = pk → wL_law_126 post L xs mk (nI mc) (nI pk) kc ks (e + 1) (nI k) (nI 16) (nI 32) (nI mc) ph (nI 0) (nI 1) rs nm pm pl rt co vr cN ca lt lv se st me ty pp va := by
  intro e
  induction e with
  | zero =>
    intro k ph hk
    exact br_t (nI_le (by omega) (by omega)) (fin ph)
  | succ e ih =>
    intro k ph hk
    have hn : la_pv ((la_c L xs (42 + 2 * k)).toUInt32 >>> ((2 : Int32).toUInt32 &&& Int32.toUInt32 31)).toInt32 5 < 5 := la_pv_lt _ (by decide)
    have hx : la_pv (la_c L xs (42 + 2 * k)) 3 < 3 := la_pv_lt _ (by decide)
    refine br_f (nI_ge (by omega) (by omega)) (la_cell hL (la_ix 42 2 k) (by omega) (la_pos (m := 3) rfl (by decide) (by decide) (la_pos (m := 5) rfl (by decide) (by decide) (la_cell hL (la_ix 43 2 k) (by omega) (la_enc (by omega) ?_)))))
    have hV := la_enc_V (la_c L xs (43 + 2 * k)) (k := la_pv ((la_c L xs (42 + 2 * k)).toUInt32 >>> ((2 : Int32).toUInt32 &&& Int32.toUInt32 31)).toInt32 5) (by omega)
    refine xs_pick h16 hB.1 hV (by omega) (fun d r hd hr => br_f ?_ ⟨4, ?_⟩)
    · rcases ov_Ch_v hr with ⟨m, hm, rfl⟩ | rfl | rfl
      · exact fun z => la_n4 (k := m) (by omega) z.symm
      · decide
      · decide
    · exact la_214 hL hA hJ h16 hB hV hd hr (ih (k + 1) (nI d) (by omega)) 3 1 (by omega) (by omega) (fun b b1 b2 => absurd b1 (by omega))
theorem la_bits : ∀ j, j < 10 → ∀ b, b < 64 → ((1 : Int64) <<< ((nI j).toInt64 &&& 63)).toBitVec.getLsbD b = decide (b = j) := by decide +kernel
theorem la_At_s {mk : Int64} {aj : Nat → Nat} {mc J : Nat} (hA : la_At mk aj mc J) (hJ : J < 10) : la_At (mk ||| ((1 : Int64) <<< ((nI J).toInt64 &&& 63))) (fun m => if m = mc then J else aj m) (mc + 1) (J + 1) := by
  refine ⟨fun m hm => ?_, fun m q hmq hq => ?_, fun b hb => ?_⟩
  · dsimp only
    by_cases e : m = mc
    · rw [if_pos e]
      omega
    · rw [if_neg e]
      have := hA.1 m (by omega)
      omega
  · dsimp only
    rw [if_neg (by omega : ¬ m = mc)]
    by_cases e : q = mc
    · rw [if_pos e]
      exact hA.1 m (by omega)
    · rw [if_neg e]
      exact hA.2.1 m q hmq (by omega)
  · rw [Int64.toBitVec_or, BitVec.getLsbD_or, la_bits J hJ b hb]
    constructor
    · intro h
      by_cases e : b = J
      · exact ⟨mc, by omega, by dsimp only; rw [if_pos rfl, e]⟩
      · rw [decide_eq_false e, Bool.or_false] at h
        obtain ⟨m, hm, em⟩ := (hA.2.2 b hb).mp h
        exact ⟨m, by omega, by dsimp only; rw [if_neg (by omega)]; exact em⟩
    · intro h
      obtain ⟨m, hm, em⟩ := h
      dsimp only at em
      by_cases e : m = mc
      · rw [if_pos e] at em
        rw [decide_eq_true em.symm, Bool.or_true]
      · rw [if_neg e] at em
        rw [(hA.2.2 b hb).mpr ⟨m, by omega, em⟩, Bool.true_or]
theorem la_At_k {mk : Int64} {aj : Nat → Nat} {mc J : Nat} (hA : la_At mk aj mc J) : la_At mk aj mc (J + 1) := ⟨fun m hm => by have := hA.1 m hm; omega, hA.2.1, hA.2.2⟩
end
theorem la_Tb_s {L : Nat} {xs : Nat → Int32} {aj : Nat → Nat} {mc j : Nat} {nm pm pl vr : Nat → Int32} {ln : Nat → Nat} {y : Int32} {M : Nat} (h : la_Tb L xs aj mc nm pm pl vr ln) (hV : ov_V (la_pa L xs j) M) (hR : ov_R (la_pa L xs j) y M) (h1 : ¬ la_vz L xs j = 0 → 1 ≤ la_k L xs j) : la_Tb L xs (fun m => if m = mc then j else aj m) (mc + 1) (upd nm mc (nI (la_nm L xs j))) (upd pm mc (la_pa L xs j)) (upd pl mc y) (upd vr mc (la_vz L xs j)) (fun m => if m = mc then la_k L xs j else ln m) := by
  have eM : M = la_k L xs j := ov_V_u hV (la_pa_V L xs j)
  subst eM
  refine ⟨fun m hm => ?_, fun m hm => ?_⟩
  · by_cases e : m = mc
    · subst e
      rw [pk_us, pk_us, pk_us]
      dsimp only
      rw [if_pos rfl]
      refine ⟨hV, ?_, hR⟩
      rcases la_vz01 (L := L) (xs := xs) j with z | z
      · exact Or.inl z
      · exact Or.inr ⟨z, h1 (by rw [z]; decide)⟩
    · rw [pk_un e, pk_un e, pk_un e]
      dsimp only
      rw [if_neg e]
      exact h.1 m (by omega)
  · by_cases e : m = mc
    · subst e
      rw [pk_us, pk_us, pk_us]
      dsimp only
      rw [if_pos rfl, if_pos rfl]
      exact ⟨rfl, rfl, rfl, rfl⟩
    · rw [pk_un e, pk_un e, pk_un e]
      dsimp only
      rw [if_neg e, if_neg e]
      exact h.2 m (by omega)
theorem la_33 {L att kc ks : Nat} {xs : Nat → Int32} {cN ca lt : Nat → Int32} {lv : Nat → Int64} {se st me ty pp : Nat → Int32} {va : Nat → Int64} {ph : Int32} {post : Int32 → Prop} (hL : L ≤ 260) (hatt : att ≤ 10) (hp : post 1) : ∀ e j mc mk aj ln (rs : Int32) (nm pm pl rt co vr : Nat → Int32), j + e = att → mc ≤ j → la_At mk aj mc j → la_Tb L xs aj mc nm pm pl vr ln → (∀ m, m < mc → ∃ t, 1 ≤ t ∧ t ≤ 14 ∧ rt m = nI t) → wL_law_33 post L xs (nI att) kc ks (e + 1) mk (nI mc) (nI j) (nI 16) (nI 32) (nI mc) ph (nI 0) (nI 1) rs nm pm pl rt co vr cN ca lt lv se st me ty pp va := by
  intro e
  induction e with
  | zero =>
    intro j mc mk aj ln rs nm pm pl rt co vr hj hmj hA hB hrt
    refine br_t (nI_le (by omega) (by omega)) (la_cell hL (k := 41) rfl (by decide) (la_pos (m := 20) rfl (by decide) (by decide) ⟨la_pv (la_c L xs 41) 20 + 1, ?_⟩))
    have hk : la_pv (la_c L xs 41) 20 < 20 := la_pv_lt _ (by decide)
    exact la_126 hL hA (by omega) (by omega) hB hk (fun ph' => ⟨41, la_328 hL (by omega) hB.1 hrt hp 40 0 (by omega) (by omega) (fun u hu => absurd hu (by omega)) rs cN ca lt lv (fun u hu => absurd hu (by omega))⟩) _ 0 ph (by omega)
  | succ e ih =>
    intro j mc mk aj ln rs nm pm pl rt co vr hj hmj hA hB hrt
    refine br_f (nI_ge (by omega) (by omega)) (la_aName hL (by omega) (la_aParams hL (by omega) (la_aRet hL (by omega) (la_cell hL (la_ix 4 4 j) (by omega) ?_))))
    refine xs_addMethod (cm := 16) (by omega) (Nat.le_refl 16) (fun _ => br_t rfl (nm_r (nI_1 j) (ih (j + 1) mc mk aj ln rs nm pm pl rt co vr (by omega) (by omega) (la_At_k hA) hB hrt))) (fun A y M hV hR => ?_)
    refine br_f (fun z => la_n4 (k := mc) (by omega) z.symm) (br_t rfl (nm_e (nm_r (nI_1 mc) (nm_r (nI_1 j) ?_))))
    rw [la_rt_z]
    refine ih (j + 1) (mc + 1) _ _ _ _ _ _ _ _ _ _ (by omega) (by omega) (la_At_s hA (by omega)) (la_Tb_s hB hV hR (fun z => ?_)) (fun m hm => ?_)
    · obtain ⟨M', hV', hz⟩ := A.2.2.1
      have e1 := ov_V_u hV' (la_pa_V L xs j)
      have := hz (by rw [la_rt_z]; exact z)
      omega
    · by_cases em : m = mc
      · subst em
        rw [pk_us]
        have a := A.2.2.2.1
        rcases ov_rng (la_rt L xs j &&& 15) (lo := 1) (hi := 14) (by decide) (by decide) with b | b | b
        · exact absurd b a.1
        · exact absurd b.2 a.2
        · exact b
      · rw [pk_un em]
        exact hrt m (by omega)
theorem i_vc (xs : Nat → Int32) (L : Nat) (hL : L ≤ 260) : wpL_law (fun r => r = 1) L xs := by
  refine ⟨16, 416, by decide, by decide, ?_⟩
  refine ⟨by decide, by decide, by decide, by decide, by decide, by decide, by decide, by decide, by decide, by decide, by decide, by decide, by decide, by decide, by decide, by decide, by decide, by decide, by decide, by decide, by decide, by decide, by decide, by decide, by decide, by decide, by decide, by decide, by decide, by decide, by decide, by decide, ?_⟩
  refine br_t (by decide) (br_t (by decide) (br_t (by decide) (br_t (by decide) ?_)))
  have hk : la_pv (la_c L xs 0) 10 < 10 := la_pv_lt _ (by decide)
  dsimp only [wpX_emptyProgram]
  refine la_cell hL (k := 0) rfl (by decide) ?_
  refine la_pos (m := 10) rfl (by decide) (by decide) ?_
  refine nm_r (e' := nI (1 + la_pv (la_c L xs 0) 10)) (nI_add 1 _) ?_
  refine ⟨1 + la_pv (la_c L xs 0) 10 + 1, ?_⟩
  exact la_33 (post := fun r => r = 1) (xs := xs) (att := 1 + la_pv (la_c L xs 0) 10) hL (by omega) rfl (1 + la_pv (la_c L xs 0) 10) 0 0 0 (fun _ => 0) (fun _ => 0) 0 (fun _ => 0) (fun _ => 0) (fun _ => 0) (fun _ => 0) (fun _ => 0) (fun _ => 0) (by omega) (by omega) ⟨fun m hm => absurd hm (by omega), fun m q _ hq => absurd hq (by omega), fun b _ => ⟨fun h => absurd h (by simp), fun h => by obtain ⟨m, hm, _⟩ := h; omega⟩⟩ ⟨fun m hm => absurd hm (by omega), fun m hm => absurd hm (by omega)⟩ (fun m hm => absurd hm (by omega))
