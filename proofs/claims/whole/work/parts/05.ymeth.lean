/-! ===== Y: lists, subtypes, choice ===== -/
section
variable {y_capM y_capN y_mCount y_nCount y_pend y_lastPh y_resPh y_resolved : Int32} {y_mName y_mParams y_mRet y_mVar y_mConst y_nKind y_nA y_nB : Nat → Int32} {y_nLit : Nat → Int64} {y_nStat y_nMeth y_nType y_nPh : Nat → Int32} {y_nVal : Nat → Int64}
theorem ys_nib {post : Int32 → Prop} {x' x p : Int32} {i : Nat} (hx : x' = x) (hp : p = nI i) (hi : i < 8) (h : post (nI (ov_nb x i))) : wpY_nib post (y_capM, y_capN, y_mCount, y_nCount, y_pend, y_lastPh, y_resPh, y_resolved, y_mName, y_mParams, y_mRet, y_mVar, y_mConst, y_nKind, y_nA, y_nB, y_nLit, y_nStat, y_nMeth, y_nType, y_nPh, y_nVal) x' p := by
  subst hx hp
  unfold wpY_nib
  show post (((x'.toUInt32 >>> ((4 * nI i).toUInt32 &&& Int32.toUInt32 31)).toInt32) &&& 15)
  rw [ov_ty x' hi]
  exact h
theorem yv_loop {post : Int32 → Prop} {x : Int32} (h1 : ∀ L, ov_V x L → post 1) (h0 : (∀ L, ¬ ov_V x L) → post 0) : ∀ d i n z, i + d = 8 → n ≤ i → (∀ j, j < n → 1 ≤ ov_nb x j ∧ ov_nb x j ≤ 14) → (∀ j, n ≤ j → j < i → ov_nb x j = 0) → ((z = 0 ∧ n = i) ∨ (z = 1 ∧ n < i)) → wY_validList_13 post x y_capM y_capN y_mCount y_nCount y_pend y_lastPh y_resPh y_resolved y_mName y_mParams y_mRet y_mVar y_mConst y_nKind y_nA y_nB y_nLit y_nStat y_nMeth y_nType y_nPh y_nVal (d + 1) (nI z) (nI n) (nI i) := by
  intro d
  induction d with
  | zero =>
    intro i n z hi hn ha hb hz
    refine br_t (nI_le (a := 8) (by omega) (by omega)) ?_
    refine pk_lt 4 n (fun c => h0 (fun L hL => ?_)) (fun c => h1 n ⟨c, ov_top x (8 - n) n (by omega) (fun j h2 h3 => hb j h2 (by omega)), ha⟩)
    have a := hL.1
    have b := ov_hi hL.2.1 (Nat.le_refl L)
    have e := ha L (by omega)
    omega
  | succ d ih =>
    intro i n z hi hn ha hb hz
    have hl := ov_nb_lt x i
    refine br_f (nI_ge (b := 8) (by omega) (by decide)) (ys_nib rfl rfl (by omega) ?_)
    refine pk_eq (ov_nb x i) 0 (fun c => nm_r (nI_1 i) (ih (i + 1) n 1 (by omega) (by omega) ha (fun j h2 h3 => ?_) (Or.inr ⟨rfl, by omega⟩))) (fun c => ?_)
    · by_cases e : j = i
      · rw [e]; exact c
      · exact hb j h2 (by omega)
    · refine pk_eq z 0 (fun e => ?_) (fun e => h0 (fun L hL => ?_)) rfl rfl (by omega)
      · have en : n = i := by omega
        refine pk_le (ov_nb x i) 14 (fun f => nm_r (nI_1 n) (nm_r (nI_1 i) (ih (i + 1) (n + 1) z (by omega) (by omega) (fun j hj => ?_) (fun j h2 h3 => absurd h2 (by omega)) (Or.inl ⟨e, by omega⟩)))) (fun f => h0 (fun L hL => ?_))
        · by_cases ej : j = i
          · rw [ej]; exact ⟨by omega, f⟩
          · exact ha j (by omega)
        · rcases Nat.lt_or_ge i L with g | g
          · have := hL.2.2 i g
            omega
          · exact c (ov_hi hL.2.1 g)
      · have hni : n < i := by omega
        have e0 := hb n (Nat.le_refl n) hni
        rcases Nat.lt_or_ge i L with g | g
        · have := hL.2.2 n (by omega)
          omega
        · exact c (ov_hi hL.2.1 g)
theorem ys_validList {post : Int32 → Prop} {x : Int32} (h1 : ∀ L, ov_V x L → post 1) (h0 : (∀ L, ¬ ov_V x L) → post 0) : wpY_validList post (y_capM, y_capN, y_mCount, y_nCount, y_pend, y_lastPh, y_resPh, y_resolved, y_mName, y_mParams, y_mRet, y_mVar, y_mConst, y_nKind, y_nA, y_nB, y_nLit, y_nStat, y_nMeth, y_nType, y_nPh, y_nVal) x := by
  unfold wpY_validList
  refine br_c (fun c => ⟨9, ?_⟩) (fun c => h0 (fun L hL => c (Int32.not_lt.mp (ov_V_n hL))))
  exact yv_loop h1 h0 8 0 0 0 (by omega) (by omega) (fun j hj => absurd hj (by omega)) (fun j h2 h3 => absurd h3 (by omega)) (Or.inl ⟨rfl, rfl⟩)
theorem yl_loop {post : Int32 → Prop} {x : Int32} {L : Nat} (hV : ov_V x L) (h : post (nI L)) : ∀ d i, i + d = L → wY_listLen_4 post x y_capM y_capN y_mCount y_nCount y_pend y_lastPh y_resPh y_resolved y_mName y_mParams y_mRet y_mVar y_mConst y_nKind y_nA y_nB y_nLit y_nStat y_nMeth y_nType y_nPh y_nVal (d + 1) (nI i) (nI i) := by
  have h4 := hV.1
  intro d
  induction d with
  | zero =>
    intro i hi
    have e : i = L := by omega
    subst e
    refine br_f (nI_ge (b := 8) (by omega) (by decide)) (ys_nib rfl rfl (by omega) ?_)
    rw [ov_hi hV.2.1 (Nat.le_refl i)]
    exact br_t rfl h
  | succ d ih =>
    intro i hi
    have hl := ov_nb_lt x i
    have h1 := hV.2.2 i (by omega)
    refine br_f (nI_ge (b := 8) (by omega) (by decide)) (ys_nib rfl rfl (by omega) ?_)
    exact pk_eq (ov_nb x i) 0 (fun c => absurd c (by omega)) (fun c => nm_r (nI_1 i) (nm_r (nI_1 i) (ih (i + 1) (by omega))))
theorem ys_listLen {post : Int32 → Prop} {x : Int32} {L : Nat} (hV : ov_V x L) (h : post (nI L)) : wpY_listLen post (y_capM, y_capN, y_mCount, y_nCount, y_pend, y_lastPh, y_resPh, y_resolved, y_mName, y_mParams, y_mRet, y_mVar, y_mConst, y_nKind, y_nA, y_nB, y_nLit, y_nStat, y_nMeth, y_nType, y_nPh, y_nVal) x :=
  ⟨L + 1, yl_loop hV h L 0 (by omega)⟩
theorem ys_sub {post : Int32 → Prop} {s t : Nat} (s1 : 1 ≤ s) (s2 : s ≤ 14) (t1 : 1 ≤ t) (t2 : t ≤ 14) (h1 : ov_S s t → post 1) (h0 : ¬ ov_S s t → post 0) : wpY_sub post (y_capM, y_capN, y_mCount, y_nCount, y_pend, y_lastPh, y_resPh, y_resolved, y_mName, y_mParams, y_mRet, y_mVar, y_mConst, y_nKind, y_nA, y_nB, y_nLit, y_nStat, y_nMeth, y_nType, y_nPh, y_nVal) (nI s) (nI t) := by
  unfold ov_S at h1 h0
  have k119 : ¬ (s = t) → ¬ (s ≤ 5 ∧ t ≤ 5 ∧ (t = 4 ∧ s < 4 ∨ t = 5 ∧ s < 5 ∨ t = 2 ∧ s = 1)) → ¬ (t = 13 ∧ (s = 7 ∨ s = 8 ∨ s = 10 ∨ s = 11)) → wY_sub_119 post (nI s) (nI t) y_capM y_capN y_mCount y_nCount y_pend y_lastPh y_resPh y_resolved y_mName y_mParams y_mRet y_mVar y_mConst y_nKind y_nA y_nB y_nLit y_nStat y_nMeth y_nType y_nPh y_nVal := by
    intro n1 n2 n3
    refine pk_lt s 7 (fun a => h0 (by omega)) (fun a => pk_lt 13 s (fun b => h0 (by omega)) (fun b => pk_eq t 14 (fun c => h1 (by omega)) (fun c => h0 (by omega))))
  have k87 : ¬ (s = t) → ¬ (s ≤ 5 ∧ t ≤ 5 ∧ (t = 4 ∧ s < 4 ∨ t = 5 ∧ s < 5 ∨ t = 2 ∧ s = 1)) → wY_sub_87 post (nI s) (nI t) y_capM y_capN y_mCount y_nCount y_pend y_lastPh y_resPh y_resolved y_mName y_mParams y_mRet y_mVar y_mConst y_nKind y_nA y_nB y_nLit y_nStat y_nMeth y_nType y_nPh y_nVal := by
    intro n1 n2
    refine pk_eq s 7 (fun a => ?_) (fun a7 => pk_eq s 8 (fun a => ?_) (fun a8 => pk_eq s 10 (fun a => ?_) (fun a10 => pk_eq s 11 (fun a => ?_) (fun a11 => k119 n1 n2 (by omega)))))
    all_goals exact pk_eq t 13 (fun b => h1 (by omega)) (fun b => k119 n1 n2 (by omega))
  have k75 : ¬ (s = t) → ¬ (t ≤ 5 ∧ s ≤ 3 ∧ (t = 4 ∧ s < 4 ∨ t = 5 ∧ s < 5 ∨ t = 2 ∧ s = 1)) → wY_sub_75 post (nI s) (nI t) y_capM y_capN y_mCount y_nCount y_pend y_lastPh y_resPh y_resolved y_mName y_mParams y_mRet y_mVar y_mConst y_nKind y_nA y_nB y_nLit y_nStat y_nMeth y_nType y_nPh y_nVal := by
    intro n1 n2
    exact pk_eq s 4 (fun a => pk_eq t 5 (fun b => h1 (by omega)) (fun b => k87 n1 (by omega))) (fun a => k87 n1 (by omega))
  have k53 : ¬ (s = t) → ¬ (s = 1 ∧ (t = 2 ∨ t = 4 ∨ t = 5)) → wY_sub_53 post (nI s) (nI t) y_capM y_capN y_mCount y_nCount y_pend y_lastPh y_resPh y_resolved y_mName y_mParams y_mRet y_mVar y_mConst y_nKind y_nA y_nB y_nLit y_nStat y_nMeth y_nType y_nPh y_nVal := by
    intro n1 n2
    refine pk_eq s 2 (fun a => ?_) (fun a2 => pk_eq s 3 (fun a => ?_) (fun a3 => k75 n1 (by omega)))
    all_goals exact pk_eq t 4 (fun b => h1 (by omega)) (fun b4 => pk_eq t 5 (fun b => h1 (by omega)) (fun b5 => k75 n1 (by omega)))
  unfold wpY_sub
  refine pk_lt s 1 (fun a => h0 (by omega)) (fun a => pk_lt 14 s (fun b => h0 (by omega)) (fun b => pk_lt t 1 (fun c => h0 (by omega)) (fun c => pk_le t 14 (fun d => ?_) (fun d => h0 (by omega)))))
  refine pk_eq s t (fun e => h1 (by omega)) (fun e => pk_eq s 1 (fun f => ?_) (fun f => k53 e (by omega)))
  exact pk_eq t 2 (fun g => h1 (by omega)) (fun g2 => pk_eq t 4 (fun g => h1 (by omega)) (fun g4 => pk_eq t 5 (fun g => h1 (by omega)) (fun g5 => k53 e (by omega))))
theorem ys_loose {post : Int32 → Prop} {a p : Nat} (a1 : 1 ≤ a) (a2 : a ≤ 14) (p1 : 1 ≤ p) (p2 : p ≤ 14) (h1 : ov_C a p 2 → post 1) (h0 : ¬ ov_C a p 2 → post 0) : wpY_loose post (y_capM, y_capN, y_mCount, y_nCount, y_pend, y_lastPh, y_resPh, y_resolved, y_mName, y_mParams, y_mRet, y_mVar, y_mConst, y_nKind, y_nA, y_nB, y_nLit, y_nStat, y_nMeth, y_nType, y_nPh, y_nVal) (nI a) (nI p) := by
  unfold ov_C at h1 h0
  have k36 : ¬ ov_S a p → ¬ (a ≤ 6 ∧ ov_S (a + 6) p) → wY_loose_36 post (nI a) (nI p) y_capM y_capN y_mCount y_nCount y_pend y_lastPh y_resPh y_resolved y_mName y_mParams y_mRet y_mVar y_mConst y_nKind y_nA y_nB y_nLit y_nStat y_nMeth y_nType y_nPh y_nVal := by
    intro n1 n2
    refine pk_lt a 7 (fun b => h0 (fun c => c.elim n1 (fun c => c.2.elim n2 (fun c => by omega)))) (fun b => pk_lt 12 a (fun d => h0 (fun c => c.elim n1 (fun c => c.2.elim n2 (fun c => by omega)))) (fun d => ?_))
    show wpY_sub _ (y_capM, y_capN, y_mCount, y_nCount, y_pend, y_lastPh, y_resPh, y_resolved, y_mName, y_mParams, y_mRet, y_mVar, y_mConst, y_nKind, y_nA, y_nB, y_nLit, y_nStat, y_nMeth, y_nType, y_nPh, y_nVal) (nI a - nI 6) (nI p)
    rw [pk_sub (by omega)]
    exact ys_sub (by omega) (by omega) p1 p2 (fun c => br_f (by decide) (h1 (Or.inr ⟨by decide, Or.inr ⟨by omega, d, c⟩⟩))) (fun c => br_t rfl (h0 (fun e => e.elim n1 (fun e => e.2.elim n2 (fun e => c e.2.2)))))
  unfold wpY_loose
  refine ys_sub a1 a2 p1 p2 (fun s => br_f (by decide) (h1 (Or.inl s))) (fun s => br_t rfl ?_)
  refine pk_lt a 1 (fun b => absurd b (by omega)) (fun b => pk_lt 6 a (fun d => k36 s (fun c => by omega)) (fun d => ?_))
  show wpY_sub _ (y_capM, y_capN, y_mCount, y_nCount, y_pend, y_lastPh, y_resPh, y_resolved, y_mName, y_mParams, y_mRet, y_mVar, y_mConst, y_nKind, y_nA, y_nB, y_nLit, y_nStat, y_nMeth, y_nType, y_nPh, y_nVal) (nI a + nI 6) (nI p)
  rw [nI_add]
  exact ys_sub (by omega) (by omega) p1 p2 (fun c => br_f (by decide) (h1 (Or.inr ⟨by decide, Or.inl ⟨by omega, c⟩⟩))) (fun c => br_t rfl (k36 s (fun e => c e.2)))
theorem ys_compat {post : Int32 → Prop} {a p ph : Nat} (a1 : 1 ≤ a) (a2 : a ≤ 14) (p1 : 1 ≤ p) (p2 : p ≤ 14) (hp : ph < 4) (h1 : ov_C a p ph → post 1) (h0 : ¬ ov_C a p ph → post 0) : wpY_compat post (y_capM, y_capN, y_mCount, y_nCount, y_pend, y_lastPh, y_resPh, y_resolved, y_mName, y_mParams, y_mRet, y_mVar, y_mConst, y_nKind, y_nA, y_nB, y_nLit, y_nStat, y_nMeth, y_nType, y_nPh, y_nVal) (nI a) (nI p) (nI ph) := by
  unfold wpY_compat
  refine pk_eq ph 1 (fun e => ?_) (fun e => ?_)
  · exact ys_sub a1 a2 p1 p2 (fun c => ⟨rfl, h1 (Or.inl c)⟩) (fun c => ⟨rfl, h0 (fun d => d.elim c (fun d => d.1 e))⟩)
  · exact ys_loose a1 a2 p1 p2 (fun c => ⟨rfl, h1 (c.elim Or.inl (fun c => Or.inr ⟨e, c.2⟩))⟩) (fun c => ⟨rfl, h0 (fun d => c (d.elim Or.inl (fun d => Or.inr ⟨by decide, d.2⟩)))⟩)
theorem ys_paramAt {post : Int32 → Prop} {mc m i : Nat} {ln : Nat → Nat} {pl : Nat → Int32} (hm : m < mc) (h16 : mc ≤ 16) (hM : ov_M mc y_mParams pl y_mVar ln) (hi : i ≤ 4) (hx : i < ln m ∨ ¬ y_mVar m = 0) (h : post (nI (ov_nb (pl m) i))) : wpY_paramAt post (y_capM, y_capN, y_mCount, y_nCount, y_pend, y_lastPh, y_resPh, y_resolved, y_mName, y_mParams, y_mRet, y_mVar, y_mConst, y_nKind, y_nA, y_nB, y_nLit, y_nStat, y_nMeth, y_nType, y_nPh, y_nVal) (nI m) (nI (i + 1)) := by
  have ec : (nI m).toNatClampNeg = m := nI_clamp (by omega)
  obtain ⟨hV, hv, hR⟩ := hM m hm
  have hL := hV.1
  have near : i < ln m → wY_paramAt_25 post (nI m) (nI (i + 1)) y_capM y_capN y_mCount y_nCount y_pend y_lastPh y_resPh y_resolved y_mName y_mParams y_mRet y_mVar y_mConst y_nKind y_nA y_nB y_nLit y_nStat y_nMeth y_nType y_nPh y_nVal := by
    intro c
    refine ⟨vp_in_nI (by omega) (by omega), ys_nib (congrArg y_mParams ec) (nI_pred i) (by omega) ?_⟩
    rw [← hR.1 i c]
    exact h
  unfold wpY_paramAt
  refine ⟨vp_in_nI (by omega) (by omega), ys_listLen (L := ln m) (by rw [ec]; exact hV) ⟨vp_in_nI (by omega) (by omega), ?_⟩⟩
  rw [ec]
  rcases hv with e | ⟨e, el⟩
  · exact br_t e (near (hx.elim id (fun c => absurd e c)))
  · refine br_f (by rw [e]; decide) (pk_le (ln m) (i + 1) (fun c => ⟨vp_in_nI (by omega) (by omega), ys_nib rfl (pk_sub (b := 1) el) (by omega) ?_⟩) (fun c => near (by omega)))
    rcases Nat.lt_or_ge i (ln m) with d | d
    · rw [show ln m - 1 = i from by omega, ← hR.1 i d]
      exact h
    · rw [← hR.2 el i d hi]
      exact h
theorem ya_loop {post : Int32 → Prop} {mc m n ph : Nat} {ln : Nat → Nat} {pl : Nat → Int32} {ty : Int32} (hm : m < mc) (h16 : mc ≤ 16) (hM : ov_M mc y_mParams pl y_mVar ln) (hV : ov_V ty n) (hp : ph < 4) (hx : n ≤ ln m ∨ ¬ y_mVar m = 0) (h1 : (∀ i, i < n → ov_C (ov_nb ty i) (ov_nb (pl m) i) ph) → post 1) (h0 : ¬ (∀ i, i < n → ov_C (ov_nb ty i) (ov_nb (pl m) i) ph) → post 0) : ∀ d i, i + d = n → (∀ j, j < i → ov_C (ov_nb ty j) (ov_nb (pl m) j) ph) → wY_applicable_71 post (nI m) ty (nI n) (nI ph) y_capM y_capN y_mCount y_nCount y_pend y_lastPh y_resPh y_resolved y_mName y_mParams y_mRet y_mVar y_mConst y_nKind y_nA y_nB y_nLit y_nStat y_nMeth y_nType y_nPh y_nVal (d + 1) (nI (i + 1)) := by
  have h4 := hV.1
  intro d
  induction d with
  | zero =>
    intro i hi hj
    exact br_t (nI_lt (by omega) (by omega)) (h1 (fun j hj' => hj j (by omega)))
  | succ d ih =>
    intro i hi hj
    have ht := hV.2.2 i (by omega)
    have hc : i < ln m ∨ ¬ y_mVar m = 0 := hx.elim (fun c => Or.inl (by omega)) Or.inr
    have hq := ov_M_ty hM hm (i := i) (by omega) hc
    refine br_f (nI_nlt (by omega) (by omega)) (ys_nib rfl (nI_pred i) (by omega) (ys_paramAt hm h16 hM (by omega) hc ?_))
    exact ys_compat ht.1 ht.2 hq.1 hq.2 hp (fun c => br_f (by decide) (nm_r (nI_1 (i + 1)) (ih (i + 1) (by omega) (ov_lt_s hj c)))) (fun c => br_t rfl (h0 (fun z => c (z i (by omega)))))
theorem ys_applicable {post : Int32 → Prop} {mc m n ph : Nat} {ln : Nat → Nat} {pl : Nat → Int32} {x ty : Int32} (hm : m < mc) (h16 : mc ≤ 16) (hM : ov_M mc y_mParams pl y_mVar ln) (hV : ov_V ty n) (hp : ph < 4) (h1 : ov_T y_mName pl y_mVar ln x ty n ph m → post 1) (h0 : ¬ ov_T y_mName pl y_mVar ln x ty n ph m → post 0) : wpY_applicable post (y_capM, y_capN, y_mCount, y_nCount, y_pend, y_lastPh, y_resPh, y_resolved, y_mName, y_mParams, y_mRet, y_mVar, y_mConst, y_nKind, y_nA, y_nB, y_nLit, y_nStat, y_nMeth, y_nType, y_nPh, y_nVal) (nI m) x ty (nI n) (nI ph) := by
  have ec : (nI m).toNatClampNeg = m := nI_clamp (by omega)
  have h4 := hV.1
  have hL := (hM m hm).1.1
  unfold wpY_applicable
  refine ⟨vp_in_nI (by omega) (by omega), ?_⟩
  rw [ec]
  refine br_c (fun en => ⟨vp_in_nI (by omega) (by omega), ys_listLen (L := ln m) (hM m hm).1 ?_⟩) (fun en => h0 (fun t => en t.1))
  rcases (hM m hm).2.1 with e | ⟨e, el⟩
  · refine pk_eq ph 3 (fun z => ⟨vp_in_nI (by omega) (by omega), br_t e (h0 (fun t => (t.2.1 z).1 e))⟩) (fun z => ⟨vp_in_nI (by omega) (by omega), br_t e ?_⟩)
    refine pk_eq (ln m) n (fun q => ⟨n + 1, ?_⟩) (fun q => h0 (fun t => q (t.2.2.1 z).2))
    exact ya_loop hm h16 hM hV hp (Or.inl (by omega)) (fun c => h1 ⟨en, fun y => absurd y z, fun _ => ⟨e, q⟩, c⟩) (fun c => h0 (fun t => c t.2.2.2)) n 0 (by omega) (fun j hj => absurd hj (by omega))
  · have e0 : ¬ y_mVar m = 0 := by rw [e]; decide
    refine pk_eq ph 3 (fun z => ⟨vp_in_nI (by omega) (by omega), br_f e0 ?_⟩) (fun z => ⟨vp_in_nI (by omega) (by omega), br_f e0 (h0 (fun t => e0 (t.2.2.1 z).1))⟩)
    refine pk_le (ln m - 1) n (fun q => ⟨n + 1, ?_⟩) (fun q => h0 (fun t => absurd (t.2.1 z).2 (by omega))) (pk_sub (b := 1) el)
    exact ya_loop hm h16 hM hV hp (Or.inr e0) (fun c => h1 ⟨en, fun _ => ⟨e0, by omega⟩, fun y => absurd z y, c⟩) (fun c => h0 (fun t => c t.2.2.2)) n 0 (by omega) (fun j hj => absurd hj (by omega))
theorem yp_loop {post : Int32 → Prop} {mc m o lim : Nat} {ln : Nat → Nat} {pl : Nat → Int32} (h16 : mc ≤ 16) (hM : ov_M mc y_mParams pl y_mVar ln) (hm : m < mc) (ho : o < mc) (hl : lim ≤ 5) (cm : lim ≤ ln m ∨ ¬ y_mVar m = 0) (co : lim ≤ ln o ∨ ¬ y_mVar o = 0) (h1 : ov_MS pl lim m o → post 1) (h0 : ¬ ov_MS pl lim m o → post 0) : ∀ d i, i + d = lim → (∀ j, j < i → ov_S (ov_nb (pl m) j) (ov_nb (pl o) j)) → wY_moreSpec_17 post (nI m) (nI o) (nI lim) y_capM y_capN y_mCount y_nCount y_pend y_lastPh y_resPh y_resolved y_mName y_mParams y_mRet y_mVar y_mConst y_nKind y_nA y_nB y_nLit y_nStat y_nMeth y_nType y_nPh y_nVal (d + 1) (nI (i + 1)) := by
  intro d
  induction d with
  | zero =>
    intro i hi hj
    exact br_t (nI_lt (by omega) (by omega)) (h1 (fun j hj' => hj j (by omega)))
  | succ d ih =>
    intro i hi hj
    have dm : i < ln m ∨ ¬ y_mVar m = 0 := cm.elim (fun c => Or.inl (by omega)) Or.inr
    have dn : i < ln o ∨ ¬ y_mVar o = 0 := co.elim (fun c => Or.inl (by omega)) Or.inr
    have a := ov_M_ty hM hm (i := i) (by omega) dm
    have b := ov_M_ty hM ho (i := i) (by omega) dn
    refine br_f (nI_nlt (by omega) (by omega)) (ys_paramAt hm h16 hM (by omega) dm (ys_paramAt ho h16 hM (by omega) dn ?_))
    exact ys_sub a.1 a.2 b.1 b.2 (fun c => br_f (by decide) (nm_r (nI_1 (i + 1)) (ih (i + 1) (by omega) (ov_lt_s hj c)))) (fun c => br_t rfl (h0 (fun z => c (z i (by omega)))))
theorem ov_A_lim {pl vr : Nat → Int32} {ln : Nat → Nat} {ty : Int32} {n ph m : Nat} (h : ov_A pl vr ln ty n ph m) : ov_lim n ph ≤ ln m ∨ ¬ vr m = 0 := by
  unfold ov_lim
  by_cases e : ph = 3
  · exact Or.inr (h.1 e).1
  · rw [if_neg e]
    have := (h.2.1 e).2
    exact Or.inl (by omega)
theorem ys_moreSpec {post : Int32 → Prop} {mc m o n ph : Nat} {ln : Nat → Nat} {pl : Nat → Int32} {ty : Int32} (h16 : mc ≤ 16) (hM : ov_M mc y_mParams pl y_mVar ln) (hm : m < mc) (ho : o < mc) (hn : n ≤ 4) (hp : ph < 4) (am : ov_A pl y_mVar ln ty n ph m) (ao : ov_A pl y_mVar ln ty n ph o) (h1 : ov_MS pl (ov_lim n ph) m o → post 1) (h0 : ¬ ov_MS pl (ov_lim n ph) m o → post 0) : wpY_moreSpec post (y_capM, y_capN, y_mCount, y_nCount, y_pend, y_lastPh, y_resPh, y_resolved, y_mName, y_mParams, y_mRet, y_mVar, y_mConst, y_nKind, y_nA, y_nB, y_nLit, y_nStat, y_nMeth, y_nType, y_nPh, y_nVal) (nI m) (nI o) (nI n) (nI ph) := by
  have key : wY_moreSpec_17 post (nI m) (nI o) (nI (ov_lim n ph)) y_capM y_capN y_mCount y_nCount y_pend y_lastPh y_resPh y_resolved y_mName y_mParams y_mRet y_mVar y_mConst y_nKind y_nA y_nB y_nLit y_nStat y_nMeth y_nType y_nPh y_nVal (ov_lim n ph + 1) (nI (0 + 1)) := yp_loop h16 hM hm ho (ov_lim_le hn) (ov_A_lim am) (ov_A_lim ao) h1 h0 (ov_lim n ph) 0 (by omega) (fun j hj => absurd hj (by omega))
  unfold wpY_moreSpec
  refine pk_eq ph 3 (fun z => nm_r (nI_1 n) ⟨n + 1 + 1, ?_⟩) (fun z => ⟨n + 1, ?_⟩)
  · rw [show ov_lim n ph = n + 1 from if_pos z] at key
    exact key
  · rw [show ov_lim n ph = n from if_neg z] at key
    exact key
theorem yb_loop {post : Int32 → Prop} {mc m n ph : Nat} {ln : Nat → Nat} {pl : Nat → Int32} {x ty : Int32} (h16 : mc ≤ 16) (hM : ov_M mc y_mParams pl y_mVar ln) (hV : ov_V ty n) (hp : ph < 4) (hm : m < mc) (tm : ov_T y_mName pl y_mVar ln x ty n ph m) (h1 : ov_B mc (ov_T y_mName pl y_mVar ln x ty n ph) (ov_MS pl (ov_lim n ph)) m → post 1) (h0 : ¬ ov_B mc (ov_T y_mName pl y_mVar ln x ty n ph) (ov_MS pl (ov_lim n ph)) m → post 0) : ∀ d o, o + d = mc → (∀ q, q < o → q ≠ m → ov_T y_mName pl y_mVar ln x ty n ph q → ov_MS pl (ov_lim n ph) m q ∧ ¬ ov_MS pl (ov_lim n ph) q m) → wY_beatsAll_3 post (nI m) x ty (nI n) (nI ph) y_capM y_capN (nI mc) y_nCount y_pend y_lastPh y_resPh y_resolved y_mName y_mParams y_mRet y_mVar y_mConst y_nKind y_nA y_nB y_nLit y_nStat y_nMeth y_nType y_nPh y_nVal (d + 1) (nI o) := by
  have h4 := hV.1
  intro d
  induction d with
  | zero =>
    intro o ho hq
    exact br_t (nI_le (by omega) (by omega)) (h1 (fun q h => hq q (by omega)))
  | succ d ih =>
    intro o ho hq
    refine br_f (nI_ge (by omega) (by omega)) ?_
    refine pk_eq o m (fun e => nm_r (nI_1 o) (ih (o + 1) (by omega) (ov_lt_s hq (fun z => absurd e z)))) (fun ne => ?_)
    refine ys_applicable (by omega) h16 hM hV hp (fun t => br_f (by decide) ?_) (fun t => br_t rfl (nm_r (nI_1 o) (ih (o + 1) (by omega) (ov_lt_s hq (fun _ g => absurd g t)))))
    refine ys_moreSpec h16 hM hm (by omega) h4 hp tm.2 t.2 (fun a => br_f (by decide) ?_) (fun a => br_t rfl (h0 (fun B => a (B o (by omega) ne t).1)))
    exact ys_moreSpec h16 hM (by omega) hm h4 hp t.2 tm.2 (fun b => br_f (by decide) (h0 (fun B => (B o (by omega) ne t).2 b))) (fun b => br_t rfl (nm_r (nI_1 o) (ih (o + 1) (by omega) (ov_lt_s hq (fun _ _ => ⟨a, b⟩)))))
theorem yc_pick {post : Int32 → SY → Prop} {mc n ph : Nat} {ln : Nat → Nat} {pl : Nat → Int32} {x ty : Int32} (h16 : mc ≤ 16) (hM : ov_M mc y_mParams pl y_mVar ln) (hV : ov_V ty n) (hp : ph < 4) (hp1 : 1 ≤ ph) (h : ∀ r, ov_Ch mc (ov_W y_mName pl y_mVar ln mc x ty n ph) ph r → post r (y_capM, y_capN, nI mc, y_nCount, y_pend, y_lastPh, y_resPh, y_resolved, y_mName, y_mParams, y_mRet, y_mVar, y_mConst, y_nKind, y_nA, y_nB, y_nLit, y_nStat, y_nMeth, y_nType, y_nPh, y_nVal)) : ∀ e m, m + e = mc → (∀ q, q < m → ¬ ov_W y_mName pl y_mVar ln mc x ty n ph q) → wY_choose_67 post x ty (nI n) (nI ph) y_capM y_capN (nI mc) y_nCount y_pend y_lastPh y_resPh y_resolved y_mName y_mParams y_mRet y_mVar y_mConst y_nKind y_nA y_nB y_nLit y_nStat y_nMeth y_nType y_nPh y_nVal (e + 1) (nI m) := by
  intro e
  induction e with
  | zero =>
    intro m hm hq
    exact br_t (nI_le (by omega) (by omega)) (h _ (Or.inr ⟨hp1, Or.inr ⟨rfl, fun q h => hq q (by omega)⟩⟩))
  | succ e ih =>
    intro m hm hq
    refine br_f (nI_ge (by omega) (by omega)) ?_
    refine ys_applicable (by omega) h16 hM hV hp (fun t => br_f (by decide) ⟨mc + 1, ?_⟩) (fun t => br_t rfl (nm_r (nI_1 m) (ih (m + 1) (by omega) (ov_lt_s hq (fun g => t g.1)))))
    exact yb_loop h16 hM hV hp (by omega) t (fun b => br_f (by decide) (h _ (Or.inr ⟨hp1, Or.inl ⟨m, by omega, rfl, ⟨t, b⟩, hq⟩⟩))) (fun b => br_t rfl (nm_r (nI_1 m) (ih (m + 1) (by omega) (ov_lt_s hq (fun g => b g.2))))) mc 0 (by omega) (fun q hq' => absurd hq' (by omega))
theorem yc_cnt {post : Int32 → SY → Prop} {J : Int32 → Prop} {mc n ph : Nat} {ln : Nat → Nat} {pl : Nat → Int32} {x ty : Int32} (h16 : mc ≤ 16) (hM : ov_M mc y_mParams pl y_mVar ln) (hV : ov_V ty n) (hp : ph < 4) (hp1 : 1 ≤ ph) (hJ : (∀ m, m < mc → ¬ ov_T y_mName pl y_mVar ln x ty n ph m) → J (nI (ph + 1))) (h : (∃ m, m < mc ∧ ov_T y_mName pl y_mVar ln x ty n ph m) → ∀ r, ov_Ch mc (ov_W y_mName pl y_mVar ln mc x ty n ph) ph r → post r (y_capM, y_capN, nI mc, y_nCount, y_pend, y_lastPh, nI ph, y_resolved, y_mName, y_mParams, y_mRet, y_mVar, y_mConst, y_nKind, y_nA, y_nB, y_nLit, y_nStat, y_nMeth, y_nType, y_nPh, y_nVal)) : ∀ e m c, m + e = mc → c ≤ m → (c = 0 ↔ ∀ q, q < m → ¬ ov_T y_mName pl y_mVar ln x ty n ph q) → wY_choose_21 post J x ty (nI n) (nI ph) y_capM y_capN (nI mc) y_nCount y_pend y_lastPh y_resPh y_resolved y_mName y_mParams y_mRet y_mVar y_mConst y_nKind y_nA y_nB y_nLit y_nStat y_nMeth y_nType y_nPh y_nVal (e + 1) (nI c) (nI m) := by
  intro e
  induction e with
  | zero =>
    intro m c hm hc hq
    have em : m = mc := by omega
    subst em
    refine br_t (nI_le (by omega) (by omega)) (pk_le c 0 (fun z => nm_r (nI_1 ph) (hJ (hq.mp (by omega)))) (fun z => ⟨m + 1, ?_⟩))
    have ex : ∃ q, q < m ∧ ov_T y_mName pl y_mVar ln x ty n ph q := by
      by_cases w : ∃ q, q < m ∧ ov_T y_mName pl y_mVar ln x ty n ph q
      · exact w
      · exact absurd (hq.mpr (fun q hq' t => w ⟨q, hq', t⟩)) (by omega)
    exact yc_pick h16 hM hV hp hp1 (h ex) m 0 (by omega) (fun q hq' => absurd hq' (by omega))
  | succ e ih =>
    intro m c hm hc hq
    refine br_f (nI_ge (by omega) (by omega)) ?_
    refine ys_applicable (by omega) h16 hM hV hp (fun t => br_f (by decide) (nm_r (nI_1 c) (nm_r (nI_1 m) (ih (m + 1) (c + 1) (by omega) (by omega) ⟨fun z => absurd z (by omega), fun z => absurd t (z m (by omega))⟩)))) (fun t => br_t rfl (nm_r (nI_1 m) (ih (m + 1) c (by omega) (by omega) ⟨fun z => ov_lt_s (hq.mp z) t, fun z => hq.mpr (fun q hq' => z q (by omega))⟩)))
theorem yc_out {post : Int32 → SY → Prop} {mc n : Nat} {ln : Nat → Nat} {pl : Nat → Int32} {x ty : Int32} (h16 : mc ≤ 16) (hM : ov_M mc y_mParams pl y_mVar ln) (hV : ov_V ty n) (h : ∀ d r, ov_Ph mc (ov_T y_mName pl y_mVar ln x ty n) d → ov_Ch mc (ov_W y_mName pl y_mVar ln mc x ty n d) d r → post r (y_capM, y_capN, nI mc, y_nCount, y_pend, y_lastPh, nI d, y_resolved, y_mName, y_mParams, y_mRet, y_mVar, y_mConst, y_nKind, y_nA, y_nB, y_nLit, y_nStat, y_nMeth, y_nType, y_nPh, y_nVal)) : ∀ e ph, ph + e = 4 → 1 ≤ ph → (∀ p, 1 ≤ p → p < ph → ∀ m, m < mc → ¬ ov_T y_mName pl y_mVar ln x ty n p m) → wY_choose_9 post x ty (nI n) y_capM y_capN (nI mc) y_nCount y_pend y_lastPh y_resPh y_resolved y_mName y_mParams y_mRet y_mVar y_mConst y_nKind y_nA y_nB y_nLit y_nStat y_nMeth y_nType y_nPh y_nVal (e + 1) (nI ph) := by
  intro e
  induction e with
  | zero =>
    intro ph hd h1 hq
    exact br_t (nI_lt (a := 3) (by omega) (by omega)) (h 0 _ (Or.inl ⟨rfl, fun p p1 p3 => hq p p1 (by omega)⟩) (Or.inl ⟨rfl, rfl⟩))
  | succ e ih =>
    intro ph hd h1 hq
    refine br_f (nI_nlt (a := 3) (by omega) (by omega)) ⟨mc + 1, ?_⟩
    refine yc_cnt h16 hM hV (by omega) h1 (fun c => ih (ph + 1) (by omega) (by omega) (fun p p1 p2 => ?_)) (fun c r hr => h ph r (Or.inr ⟨h1, by omega, c, hq⟩) hr) mc 0 0 (by omega) (by omega) ⟨fun _ q hq' => absurd hq' (by omega), fun _ => rfl⟩
    by_cases ep : p = ph
    · rw [ep]; exact c
    · exact hq p p1 (by omega)
theorem ys_choose {post : Int32 → SY → Prop} {mc n : Nat} {ln : Nat → Nat} {pl : Nat → Int32} {x ty : Int32} (h16 : mc ≤ 16) (hM : ov_M mc y_mParams pl y_mVar ln) (hV : ov_V ty n) (h : ∀ d r, ov_Ph mc (ov_T y_mName pl y_mVar ln x ty n) d → ov_Ch mc (ov_W y_mName pl y_mVar ln mc x ty n d) d r → post r (y_capM, y_capN, nI mc, y_nCount, y_pend, y_lastPh, nI d, y_resolved, y_mName, y_mParams, y_mRet, y_mVar, y_mConst, y_nKind, y_nA, y_nB, y_nLit, y_nStat, y_nMeth, y_nType, y_nPh, y_nVal)) : wpY_choose post (y_capM, y_capN, nI mc, y_nCount, y_pend, y_lastPh, y_resPh, y_resolved, y_mName, y_mParams, y_mRet, y_mVar, y_mConst, y_nKind, y_nA, y_nB, y_nLit, y_nStat, y_nMeth, y_nType, y_nPh, y_nVal) x ty := by
  unfold wpY_choose
  exact ys_listLen hV ⟨4, yc_out h16 hM hV h 3 1 (by omega) (by omega) (fun p p1 p2 => absurd p1 (by omega))⟩
theorem ys_narrow {post : Int64 → Prop} {t : Nat} {v : Int64} (t1 : 1 ≤ t) (t2 : t ≤ 14) (h : post (ov_N t v)) : wpY_narrow post (y_capM, y_capN, y_mCount, y_nCount, y_pend, y_lastPh, y_resPh, y_resolved, y_mName, y_mParams, y_mRet, y_mVar, y_mConst, y_nKind, y_nA, y_nB, y_nLit, y_nStat, y_nMeth, y_nType, y_nPh, y_nVal) (nI t) v := by
  unfold wpY_narrow
  refine pk_eq t 1 (fun e => ?_) (fun d1 => pk_eq t 7 (fun e => ?_) (fun d7 => pk_eq t 2 (fun e => ?_) (fun d2 => pk_eq t 8 (fun e => ?_) (fun d8 => pk_eq t 3 (fun e => ?_) (fun d3 => pk_eq t 9 (fun e => ?_) (fun d9 => pk_eq t 4 (fun e => ?_) (fun d4 => pk_eq t 10 (fun e => ?_) (fun d10 => pk_eq t 6 (fun e => ?_) (fun d6 => pk_eq t 12 (fun e => ?_) (fun d12 => ?_))))))))))
  rotate_right
  · have c : t = 5 ∨ t = 11 ∨ t = 13 ∨ t = 14 := by omega
    rcases c with rfl | rfl | rfl | rfl <;> exact h
  all_goals (subst e; exact h)
end
