/-! ===== X: resolve keeps la_J ===== -/
theorem la_run {cm cn mc nc : Nat} {ln g P nmx : Nat → Nat} {ph rs : Int32} {nm pm pl rt co vr cN ca lt : Nat → Int32} {lv : Nat → Int64} {post : Int32 → St2 → Prop} (h16 : mc ≤ 16) (h32 : nc ≤ 32) (hM : ov_M mc pm pl vr ln) (hrt : ∀ m, m < mc → ∃ t, 1 ≤ t ∧ t ≤ 14 ∧ rt m = nI t) (hNd : la_Nd nc cN ca lt g nmx) (hP : ov_P g P nc) (h0 : P nc = 0) (hpost : ∀ (se' st' me' ty' pp' : Nat → Int32) (va' : Nat → Int64), ov_Inv P nc 0 se' st' ty' → la_J mc nc 0 nm pl vr ln g P cN st' me' ty' → post (st' 0) (nI cm, nI cn, nI mc, ph, nI nc, nI (P nc), 1, nm, pm, pl, rt, co, vr, cN, ca, lt, lv, se', st', me', ty', pp', va')) : ∀ k, k ≤ nc → ∀ (se st me ty pp : Nat → Int32) (va : Nat → Int64), ov_Inv P nc k se st ty → la_J mc nc k nm pl vr ln g P cN st me ty → wX_resolve_17 post (k + 1) (nI k + (-1)) (nI cm) (nI cn) (nI mc) ph (nI nc) (nI (P nc)) rs nm pm pl rt co vr cN ca lt lv se st me ty pp va := by
  intro k
  induction k with
  | zero =>
    intro _ se st me ty pp va hI hJ
    have z : nI 0 + (-1) < 0 := by decide
    exact br_t z (hpost se st me ty pp va hI hJ)
  | succ k ih =>
    intro hk se st me ty pp va hI hJ
    have ec : (nI k).toNatClampNeg = k := nI_clamp (by omega)
    have hv : vp_in (nI k) 32 := vp_in_nI (by omega) (by omega)
    have hn : ¬ nI k < 0 := nI_pos (by omega)
    obtain ⟨hca, hg4, hnode⟩ := hNd k (by omega)
    rw [pk_m1]
    refine br_f hn ⟨hv, ?_⟩
    rw [ec]
    rcases hnode with ⟨g0, c0, t, t1, t2, lt0⟩ | ⟨g1, c1, c2⟩
    · have hE : ov_E P k (k + 1) := by
        have := ov_K_0 hP (i := k) (by omega)
        rw [g0] at this
        exact ov_K_e this
      refine br_t c0 ⟨hv, nm_r (e' := upd se k (nI (k + 1))) (by rw [nI_1]) ⟨hv, hv, xs_setResult (by omega) ?_⟩⟩
      exact nm_e (ih (by omega) _ _ _ _ _ _ (ov_Inv_s hI hk hE (fun _ => ⟨t, t1, t2, lt0⟩)) (la_J_s hJ (fun z => absurd c0 z)))
    · have hE : ∀ j, k < j → j < nc → se j = nI (se j).toNatClampNeg ∧ (se j).toNatClampNeg ≤ nc ∧ ov_E P j (se j).toNatClampNeg := by
        intro j h1 h2
        obtain ⟨⟨e, e1, e2, e3⟩, _⟩ := hI j h1 h2
        have e4 : (se j).toNatClampNeg = e := by
          rw [e2]
          exact nI_clamp (by omega)
        rw [e4]
        exact ⟨e2, e1, e3⟩
      have hQ := ov_q (E := fun j => (se j).toNatClampNeg) hP h0 (i := k) (by omega) (fun j h1 h2 => (hE j h1 h2).2)
      generalize hEE : (fun j => (se j).toNatClampNeg) = E at hQ
      have hE' : ∀ j, k < j → j < nc → se j = nI (E j) ∧ E j ≤ nc ∧ ov_E P j (E j) := by
        rw [← hEE]
        exact hE
      have hq : ∀ a, a < g k → ov_cs E k a < nc := fun a ha => ov_K_in hP h0 (by omega) (hQ a (by omega)).1 ha (hQ a (by omega)).2
      have hgt : ∀ a, a < g k → k < ov_cs E k a := fun a ha => (hQ a (by omega)).1.1
      have hse : ∀ a, a < g k → se (ov_cs E k a) = nI (ov_cs E k (a + 1)) := fun a ha => (hE' _ (hgt a ha) (hq a ha)).1
      have hEa : ∀ a, a < g k → ov_E P (ov_cs E k a) (ov_cs E k (a + 1)) := fun a ha => (hE' _ (hgt a ha) (hq a ha)).2.2
      have hT : ∀ a, a < g k → st (ov_cs E k a) = 1 → ∃ t, 1 ≤ t ∧ t ≤ 14 ∧ ty (ov_cs E k a) = nI t := fun a ha => (hI _ (hgt a ha) (hq a ha)).2
      refine br_f c2 (xs_resolveCall h16 hM hrt h32 (by omega) hg4 hca hq hse hT (fun s m t p w hO => ?_))
      refine nm_e (ih (by omega) _ _ _ _ _ _ (ov_Inv_s hI (hQ (g k) (Nat.le_refl _)).2 (ov_K_e (hQ (g k) (Nat.le_refl _)).1) (ov_O_t hO)) (la_J_s hJ (fun _ hs q q0 hqq => ?_)))
      have hqe := la_q_u q0 hqq hEa
      obtain ⟨nb, d, hd, hr⟩ := la_O_m hO hs
      have ez : ov_zt (ov_tq ty q) (g k) = ov_zt (ov_tq ty (ov_cs E k)) (g k) := ov_zt_c _ (fun b hb => by
        show min (ty (q b)).toNatClampNeg 15 = min (ty (ov_cs E k b)).toNatClampNeg 15
        rw [hqe b (by omega)])
      rw [ez]
      refine ⟨fun a ha => ?_, d, hd, hr⟩
      rw [hqe a (by omega)]
      by_cases w1 : st (ov_cs E k a) = 1
      · exact w1
      · exact absurd ⟨a, ha, w1⟩ nb
theorem xs_resolve {cm cn mc nc : Nat} {ln g P nmx : Nat → Nat} {ph rs : Int32} {nm pm pl rt co vr cN ca lt : Nat → Int32} {lv : Nat → Int64} {se st me ty pp : Nat → Int32} {va : Nat → Int64} {post : Int32 → St2 → Prop} (h16 : mc ≤ 16) (h32 : nc ≤ 32) (hb : P nc ≤ 97) (hM : ov_M mc pm pl vr ln) (hrt : ∀ m, m < mc → ∃ t, 1 ≤ t ∧ t ≤ 14 ∧ rt m = nI t) (hNd : la_Nd nc cN ca lt g nmx) (hP : ov_P g P nc) (href : post (-4) (nI cm, nI cn, nI mc, ph, nI nc, nI (P nc), rs, nm, pm, pl, rt, co, vr, cN, ca, lt, lv, se, st, me, ty, pp, va)) (hpost : P nc = 0 → ∀ (se' st' me' ty' pp' : Nat → Int32) (va' : Nat → Int64), ov_Inv P nc 0 se' st' ty' → la_J mc nc 0 nm pl vr ln g P cN st' me' ty' → post (st' 0) (nI cm, nI cn, nI mc, ph, nI nc, nI (P nc), 1, nm, pm, pl, rt, co, vr, cN, ca, lt, lv, se', st', me', ty', pp', va')) : wpX_resolve post (nI cm, nI cn, nI mc, ph, nI nc, nI (P nc), rs, nm, pm, pl, rt, co, vr, cN, ca, lt, lv, se, st, me, ty, pp, va) := by
  unfold wpX_resolve
  refine xs_isComplete h32 hb (fun c => br_f (by decide) ?_) (fun c => br_t rfl href)
  refine nm_r (Int32.sub_eq_add_neg _ _) ⟨nc + 1, ?_⟩
  exact la_run h16 h32 hM hrt hNd hP c.2 (hpost c.2) nc (Nat.le_refl nc) se st me ty pp va (fun j h1 h2 => absurd h2 (by omega)) (fun j h1 h2 => absurd h2 (by omega))
