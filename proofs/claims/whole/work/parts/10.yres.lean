/-! ===== Y: resolve ===== -/
section
variable {y_capM y_capN y_mCount y_nCount y_pend y_lastPh y_resPh y_resolved : Int32} {y_mName y_mParams y_mRet y_mVar y_mConst y_nKind y_nA y_nB : Nat → Int32} {y_nLit : Nat → Int64} {y_nStat y_nMeth y_nType y_nPh : Nat → Int32} {y_nVal : Nat → Int64}
theorem ye_loop {post : Int32 → Prop} {nc j e : Nat} {g P : Nat → Nat} (hn : nc ≤ 32) (hP : ov_P g P nc) (hg : ∀ k, k < nc → y_nB k = nI (g k) ∧ g k ≤ 4) (hE : ov_E P j e) (he : e ≤ nc) (h : post (nI e)) : ∀ d k, k + d + 1 = e → j ≤ k → wY_subEnd_4 post y_capM y_capN y_mCount (nI nc) y_pend y_lastPh y_resPh y_resolved y_mName y_mParams y_mRet y_mVar y_mConst y_nKind y_nA y_nB y_nLit y_nStat y_nMeth y_nType y_nPh y_nVal (d + 1) (nI (P k + 1 - P j)) (nI k) := by
  have hb := ov_P_le hP (fun k hk => (hg k hk).2)
  have step : ∀ k, j ≤ k → k < e → nI (P k + 1 - P j) - 1 + nI (g k) = nI (P (k + 1) + 1 - P j) := by
    intro k h1 h2
    have a := hE.2.2 k h1 h2
    have b := (hP.2 k (by omega)).2
    show nI (P k + 1 - P j) - nI 1 + nI (g k) = _
    rw [pk_sub (by omega), nI_add]
    exact congrArg nI (by omega)
  intro d
  induction d with
  | zero =>
    intro k hk hj
    have ec : (nI k).toNatClampNeg = k := nI_clamp (by omega)
    have hv : vp_in (nI k) 32 := vp_in_nI (by omega) (by omega)
    have ee : k + 1 = e := by omega
    refine br_f (nI_ge (by omega) (by omega)) ⟨hv, nm_r (e' := nI (P (k + 1) + 1 - P j)) ?_ ?_⟩
    · rw [ec, (hg k (by omega)).1]
      exact step k hj (by omega)
    · have z : P (k + 1) + 1 - P j = 0 := by
        rw [ee]
        have := hE.2.1
        omega
      rw [z]
      refine br_t rfl ?_
      rw [nI_1, ee]
      exact h
  | succ d ih =>
    intro k hk hj
    have ec : (nI k).toNatClampNeg = k := nI_clamp (by omega)
    have hv : vp_in (nI k) 32 := vp_in_nI (by omega) (by omega)
    have c1 := hE.2.2 (k + 1) (by omega) (by omega)
    have c2 := hb (k + 1) (by omega)
    refine br_f (nI_ge (by omega) (by omega)) ⟨hv, nm_r (e' := nI (P (k + 1) + 1 - P j)) ?_ ?_⟩
    · rw [ec, (hg k (by omega)).1]
      exact step k hj (by omega)
    · exact br_f (nI_ne0 (by omega) (by omega)) (nm_r (nI_1 k) (ih (k + 1) (by omega) (by omega)))
theorem ys_subEnd {post : Int32 → Prop} {nc j e : Nat} {g P : Nat → Nat} (hn : nc ≤ 32) (hP : ov_P g P nc) (hg : ∀ k, k < nc → y_nB k = nI (g k) ∧ g k ≤ 4) (hE : ov_E P j e) (he : e ≤ nc) (h : post (nI e)) : wpY_subEnd post (y_capM, y_capN, y_mCount, nI nc, y_pend, y_lastPh, y_resPh, y_resolved, y_mName, y_mParams, y_mRet, y_mVar, y_mConst, y_nKind, y_nA, y_nB, y_nLit, y_nStat, y_nMeth, y_nType, y_nPh, y_nVal) (nI j) := by
  have a := hE.1
  have key : wY_subEnd_4 post y_capM y_capN y_mCount (nI nc) y_pend y_lastPh y_resPh y_resolved y_mName y_mParams y_mRet y_mVar y_mConst y_nKind y_nA y_nB y_nLit y_nStat y_nMeth y_nType y_nPh y_nVal (e - j - 1 + 1) (nI (P j + 1 - P j)) (nI j) := ye_loop hn hP hg hE he h (e - j - 1) j (by omega) (Nat.le_refl j)
  rw [show P j + 1 - P j = 1 from by omega] at key
  exact ⟨_, key⟩
theorem yr_157 {post : SY → Prop} {mc i c : Nat} {ln q : Nat → Nat} {pl : Nat → Int32} {x5 f : Int32} {x6 : Int64} (h16 : mc ≤ 16) (hM : ov_M mc y_mParams pl y_mVar ln) (hrt : ∀ m, m < mc → ∃ t, 1 ≤ t ∧ t ≤ 14 ∧ y_mRet m = nI t) (hi : i < 32) (hc : c ≤ 4) (hT : ∀ a, a < c → y_nStat (q a) = 1 → ∃ t, 1 ≤ t ∧ t ≤ 14 ∧ y_nType (q a) = nI t) (hL : ov_L q y_nStat y_nType y_nVal c x5 x6 f) (h : ∀ s m t p w rp, ov_O mc y_mName pl y_mVar y_mRet y_mConst ln (y_nA i) (ov_bad q y_nStat c) (nI (ov_zt (ov_tq y_nType q) c)) c (ov_sm (ov_vq y_nVal q) c) s m t p w → post (y_capM, y_capN, nI mc, y_nCount, y_pend, y_lastPh, rp, y_resolved, y_mName, y_mParams, y_mRet, y_mVar, y_mConst, y_nKind, y_nA, y_nB, y_nLit, upd y_nStat i s, upd y_nMeth i m, upd y_nType i t, upd y_nPh i p, vp_updL y_nVal i w)) : wY_resolveNode_157 post (nI i) f x5 x6 y_capM y_capN (nI mc) y_nCount y_pend y_lastPh y_resPh y_resolved y_mName y_mParams y_mRet y_mVar y_mConst y_nKind y_nA y_nB y_nLit y_nStat y_nMeth y_nType y_nPh y_nVal := by
  have ec : (nI i).toNatClampNeg = i := nI_clamp (by omega)
  have hv : vp_in (nI i) 32 := vp_in_nI hi (by omega)
  unfold wY_resolveNode_157
  rcases hL with ⟨rfl, hs, rfl, rfl⟩ | ⟨rfl, hb⟩
  · have nb : ¬ ov_bad q y_nStat c := fun z => by
      obtain ⟨b, hb, z⟩ := z
      exact z (hs b hb)
    have hV : ov_V (nI (ov_zt (ov_tq y_nType q) c)) c := by
      refine ov_zt_V _ (ov_tq_lt y_nType q) c hc (fun b hb => ?_)
      obtain ⟨t, t1, t2, e⟩ := hT b hb (hs b hb)
      rw [ov_tq_eq e t2]
      exact ⟨t1, t2⟩
    refine br_t rfl ⟨hv, ?_⟩
    rw [ec]
    refine ys_choose h16 hM hV (fun d r hd hr => ?_)
    rcases ov_Ch_v hr with ⟨k, hk, rfl⟩ | e
    · have ek : (nI k).toNatClampNeg = k := nI_clamp (by omega)
      have hvk : vp_in (nI k) 16 := vp_in_nI (by omega) (by omega)
      obtain ⟨τ, τ1, τ2, et⟩ := hrt k hk
      refine br_f (nI_pos (by omega)) ⟨hv, ?_⟩
      refine nm_r (e' := upd y_nStat i 1) rfl ⟨hv, ?_⟩
      refine nm_r (e' := upd y_nMeth i (nI k)) rfl ⟨hvk, hv, ?_⟩
      rw [ek, et]
      refine nm_r (e' := upd y_nType i (nI τ)) rfl ⟨hv, ?_⟩
      refine nm_r (e' := upd y_nPh i (nI d)) rfl ⟨hvk, hvk, ?_⟩
      refine ys_narrow τ1 τ2 ⟨hv, ?_⟩
      refine nm_r (e' := vp_updL y_nVal i (ov_N τ ((y_mConst k).toInt64 + ov_sm (ov_vq y_nVal q) c))) rfl ?_
      exact h 1 (nI k) (nI τ) (nI d) _ (nI d) (Or.inr ⟨nb, d, nI k, hd, hr, rfl, Or.inl ⟨k, τ, hk, rfl, τ1, τ2, et, rfl, rfl, rfl, rfl⟩⟩)
    · have n0 : r < 0 := by
        rcases e with e | e <;> rw [e] <;> decide
      refine br_t n0 ⟨hv, ?_⟩
      refine nm_r (e' := upd y_nStat i r) rfl ⟨hv, ?_⟩
      refine nm_r (e' := upd y_nMeth i (-1)) rfl ⟨hv, ?_⟩
      refine nm_r (e' := upd y_nType i 0) rfl ⟨hv, ?_⟩
      refine nm_r (e' := upd y_nPh i (nI d)) rfl ⟨hv, ?_⟩
      refine nm_r (e' := vp_updL y_nVal i 0) rfl ?_
      exact h r (-1) 0 (nI d) 0 (nI d) (Or.inr ⟨nb, d, r, hd, hr, rfl, Or.inr ⟨e, rfl, rfl, rfl, rfl⟩⟩)
  · refine br_f (by decide) ⟨hv, ?_⟩
    rw [ec]
    refine nm_r (e' := upd y_nStat i (-3)) rfl ⟨hv, ?_⟩
    refine nm_r (e' := upd y_nMeth i (-1)) rfl ⟨hv, ?_⟩
    refine nm_r (e' := upd y_nType i 0) rfl ⟨hv, ?_⟩
    refine nm_r (e' := upd y_nPh i 0) rfl ⟨hv, ?_⟩
    refine nm_r (e' := vp_updL y_nVal i 0) rfl ?_
    exact h (-3) (-1) 0 0 0 y_resPh (Or.inl ⟨hb, rfl, rfl, rfl, rfl, rfl⟩)
theorem yr_loop {post : SY → Prop} {nc i c : Nat} {q g P : Nat → Nat} (hn : nc ≤ 32) (hP : ov_P g P nc) (hg : ∀ k, k < nc → y_nB k = nI (g k) ∧ g k ≤ 4) (hc : c ≤ 4) (hq : ∀ a, a < c → q a < nc) (hE : ∀ a, a < c → ov_E P (q a) (q (a + 1)) ∧ q (a + 1) ≤ nc) (hT : ∀ a, a < c → y_nStat (q a) = 1 → ∃ t, 1 ≤ t ∧ t ≤ 14 ∧ y_nType (q a) = nI t) (hfin : ∀ x5 x6 f, ov_L q y_nStat y_nType y_nVal c x5 x6 f → wY_resolveNode_157 post (nI i) f x5 x6 y_capM y_capN y_mCount (nI nc) y_pend y_lastPh y_resPh y_resolved y_mName y_mParams y_mRet y_mVar y_mConst y_nKind y_nA y_nB y_nLit y_nStat y_nMeth y_nType y_nPh y_nVal) : ∀ d a x5 x6 f, a + d = c → ov_L q y_nStat y_nType y_nVal a x5 x6 f → wY_resolveNode_78 post (nI i) (nI c) y_capM y_capN y_mCount (nI nc) y_pend y_lastPh y_resPh y_resolved y_mName y_mParams y_mRet y_mVar y_mConst y_nKind y_nA y_nB y_nLit y_nStat y_nMeth y_nType y_nPh y_nVal (d + 1) (nI (q a)) f x5 x6 (nI a) := by
  intro d
  induction d with
  | zero =>
    intro a x5 x6 f ha hL
    have e : a = c := by omega
    subst e
    exact br_t (nI_le (Nat.le_refl a) (by omega)) (hfin x5 x6 f hL)
  | succ d ih =>
    intro a x5 x6 f ha hL
    have hqa := hq a (by omega)
    have eq : (nI (q a)).toNatClampNeg = q a := nI_clamp (by omega)
    have hvq : vp_in (nI (q a)) 32 := vp_in_nI (by omega) (by omega)
    have hs := hE a (by omega)
    have next : ∀ z y5 y6, ov_L q y_nStat y_nType y_nVal (a + 1) y5 y6 z → wY_resolveNode_145 post (wY_resolveNode_78 post (nI i) (nI c) y_capM y_capN y_mCount (nI nc) y_pend y_lastPh y_resPh y_resolved y_mName y_mParams y_mRet y_mVar y_mConst y_nKind y_nA y_nB y_nLit y_nStat y_nMeth y_nType y_nPh y_nVal (d + 1)) (nI i) (nI c) (nI (q a)) z y5 y6 (nI a) y_capM y_capN y_mCount (nI nc) y_pend y_lastPh y_resPh y_resolved y_mName y_mParams y_mRet y_mVar y_mConst y_nKind y_nA y_nB y_nLit y_nStat y_nMeth y_nType y_nPh y_nVal := by
      intro z y5 y6 hL'
      exact ys_subEnd hn hP hg hs.1 hs.2 (nm_r (nI_1 a) (ih (a + 1) y5 y6 z (by omega) hL'))
    refine br_f (nI_ge (by omega) (by omega)) (br_f (nI_pos (by omega)) (br_t (nI_lt hqa (by omega)) ⟨hvq, ?_⟩))
    rw [eq]
    rcases hL with ⟨rfl, hs', rfl, rfl⟩ | ⟨rfl, hb⟩
    · refine br_c (fun s1 => ⟨hvq, nm_e ⟨hvq, nm_e ?_⟩⟩) (fun s1 => next 1 _ _ (ov_L_b _ _ s1))
      obtain ⟨t, t1, t2, e⟩ := hT a (by omega) s1
      exact next 0 _ _ (ov_L_g (by omega) hs' s1 t2 e)
    · exact br_c (fun s1 => ⟨hvq, nm_e ⟨hvq, nm_e (next 1 _ _ (ov_L_k _ _ hb))⟩⟩) (fun s1 => next 1 _ _ (ov_L_k _ _ hb))
theorem ys_resolveCall {post : SY → Prop} {mc nc i c : Nat} {ln g P E : Nat → Nat} {pl : Nat → Int32} (h16 : mc ≤ 16) (hM : ov_M mc y_mParams pl y_mVar ln) (hrt : ∀ m, m < mc → ∃ t, 1 ≤ t ∧ t ≤ 14 ∧ y_mRet m = nI t) (hn : nc ≤ 32) (hi : i < nc) (hk : y_nKind i = 1) (hP : ov_P g P nc) (hg : ∀ k, k < nc → y_nB k = nI (g k) ∧ g k ≤ 4) (ec' : g i = c) (hq : ∀ a, a < c → ov_cs E i a < nc) (hE : ∀ a, a < c → ov_E P (ov_cs E i a) (ov_cs E i (a + 1)) ∧ ov_cs E i (a + 1) ≤ nc) (hT : ∀ a, a < c → y_nStat (ov_cs E i a) = 1 → ∃ t, 1 ≤ t ∧ t ≤ 14 ∧ y_nType (ov_cs E i a) = nI t) (h : ∀ s m t p w rp, ov_O mc y_mName pl y_mVar y_mRet y_mConst ln (y_nA i) (ov_bad (ov_cs E i) y_nStat c) (nI (ov_zt (ov_tq y_nType (ov_cs E i)) c)) c (ov_sm (ov_vq y_nVal (ov_cs E i)) c) s m t p w → post (y_capM, y_capN, nI mc, nI nc, y_pend, y_lastPh, rp, y_resolved, y_mName, y_mParams, y_mRet, y_mVar, y_mConst, y_nKind, y_nA, y_nB, y_nLit, upd y_nStat i s, upd y_nMeth i m, upd y_nType i t, upd y_nPh i p, vp_updL y_nVal i w)) : wpY_resolveNode post (y_capM, y_capN, nI mc, nI nc, y_pend, y_lastPh, y_resPh, y_resolved, y_mName, y_mParams, y_mRet, y_mVar, y_mConst, y_nKind, y_nA, y_nB, y_nLit, y_nStat, y_nMeth, y_nType, y_nPh, y_nVal) (nI i) := by
  have ec : (nI i).toNatClampNeg = i := nI_clamp (by omega)
  have hv : vp_in (nI i) 32 := vp_in_nI (by omega) (by omega)
  have hc := (hg i hi).2
  unfold wpY_resolveNode
  refine ⟨hv, ?_⟩
  rw [ec]
  refine br_f (by rw [hk]; decide) ⟨hv, nm_r (e' := nI c) (by rw [(hg i hi).1, ec']) (nm_r (nI_1 i) ⟨c + 1, ?_⟩)⟩
  exact yr_loop (q := ov_cs E i) hn hP hg (by omega) hq hE hT (fun x5 x6 f hL => yr_157 h16 hM hrt (by omega) (by omega) hT hL h) c 0 0 0 0 (by omega) ov_L_0
theorem ys_resolveLit {post : SY → Prop} {i : Nat} (hi : i < 32) (hk : y_nKind i = 0) (h : post (y_capM, y_capN, y_mCount, y_nCount, y_pend, y_lastPh, y_resPh, y_resolved, y_mName, y_mParams, y_mRet, y_mVar, y_mConst, y_nKind, y_nA, y_nB, y_nLit, upd y_nStat i 1, upd y_nMeth i (-1), upd y_nType i (y_nA i), upd y_nPh i 0, vp_updL y_nVal i (y_nLit i))) : wpY_resolveNode post (y_capM, y_capN, y_mCount, y_nCount, y_pend, y_lastPh, y_resPh, y_resolved, y_mName, y_mParams, y_mRet, y_mVar, y_mConst, y_nKind, y_nA, y_nB, y_nLit, y_nStat, y_nMeth, y_nType, y_nPh, y_nVal) (nI i) := by
  have ec : (nI i).toNatClampNeg = i := nI_clamp (by omega)
  have hv : vp_in (nI i) 32 := vp_in_nI hi (by omega)
  unfold wpY_resolveNode
  refine ⟨hv, ?_⟩
  rw [ec]
  refine br_t hk ⟨hv, ?_⟩
  refine nm_r (e' := upd y_nStat i 1) rfl ⟨hv, ?_⟩
  refine nm_r (e' := upd y_nMeth i (-1)) rfl ⟨hv, hv, ?_⟩
  refine nm_r (e' := upd y_nType i (y_nA i)) rfl ⟨hv, ?_⟩
  refine nm_r (e' := upd y_nPh i 0) rfl ⟨hv, hv, ?_⟩
  exact nm_r (e' := vp_updL y_nVal i (y_nLit i)) rfl h
end
