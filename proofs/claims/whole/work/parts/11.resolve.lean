/-! ===== resolve ===== -/
def ov_Inv (P : Nat → Nat) (nc k : Nat) (se st ty : Nat → Int32) : Prop := ∀ j, k ≤ j → j < nc → (∃ e, e ≤ nc ∧ se j = nI e ∧ ov_E P j e) ∧ (st j = 1 → ∃ t, 1 ≤ t ∧ t ≤ 14 ∧ ty j = nI t)
theorem ov_Inv_s {P : Nat → Nat} {nc k e : Nat} {se st ty : Nat → Int32} {s t : Int32} (h : ov_Inv P nc (k + 1) se st ty) (he : e ≤ nc) (hE : ov_E P k e) (ht : s = 1 → ∃ τ, 1 ≤ τ ∧ τ ≤ 14 ∧ t = nI τ) : ov_Inv P nc k (upd se k (nI e)) (upd st k s) (upd ty k t) := by
  intro j h1 h2
  by_cases q : j = k
  · subst q
    rw [pk_us, pk_us, pk_us]
    exact ⟨⟨e, he, rfl, hE⟩, ht⟩
  · rw [pk_un q, pk_un q, pk_un q]
    exact h j (by omega) h2
theorem ov_run {cm cn mc nc : Nat} {ln g P : Nat → Nat} {ph rs : Int32} {nm pm pl rt co vr cN ca lt nk na : Nat → Int32} {lv nl : Nat → Int64} (h16 : mc ≤ 16) (h32 : nc ≤ 32) (hM : ov_M mc pm pl vr ln) (hrt : ∀ m, m < mc → ∃ t, 1 ≤ t ∧ t ≤ 14 ∧ rt m = nI t) (hNd : ov_Nd nc cN ca lt nk na lv nl g) (hP : ov_P g P nc) (h0 : P nc = 0) : ∀ k, k ≤ nc → ∀ (se st me ty pp : Nat → Int32) (va : Nat → Int64), ov_Inv P nc k se st ty → ∃ (se' st' me' ty' pp' : Nat → Int32) (va' : Nat → Int64), (∀ post : Int32 → SX → Prop, post (st' 0) (nI cm, nI cn, nI mc, ph, nI nc, nI (P nc), 1, nm, pm, pl, rt, co, vr, cN, ca, lt, lv, se', st', me', ty', pp', va') → wX_resolve_17 post (k + 1) (nI k + (-1)) (nI cm) (nI cn) (nI mc) ph (nI nc) (nI (P nc)) rs nm pm pl rt co vr cN ca lt lv se st me ty pp va) ∧ (∀ (rp : Int32) (post : Int32 → SY → Prop), (∀ rp', post (st' 0) (nI cm, nI cn, nI mc, nI nc, nI (P nc), ph, rp', 1, nm, pm, rt, vr, co, nk, na, ca, nl, st', me', ty', pp', va')) → wY_resolve_17 post (k + 1) (nI k + (-1)) (nI cm) (nI cn) (nI mc) (nI nc) (nI (P nc)) ph rp rs nm pm rt vr co nk na ca nl st me ty pp va) := by
  intro k
  induction k with
  | zero =>
    intro _ se st me ty pp va _
    have z : nI 0 + (-1) < 0 := by decide
    exact ⟨se, st, me, ty, pp, va, fun post h => br_t z h, fun rp post h => br_t z (h rp)⟩
  | succ k ih =>
    intro hk se st me ty pp va hI
    have ec : (nI k).toNatClampNeg = k := nI_clamp (by omega)
    have hv : vp_in (nI k) 32 := vp_in_nI (by omega) (by omega)
    have hn : ¬ nI k < 0 := nI_pos (by omega)
    obtain ⟨hca, hg4, hnode⟩ := hNd k (by omega)
    rcases hnode with ⟨k0, c0, lt0, lv0, g0, t, t1, t2, na0⟩ | ⟨k1, c1, c2⟩
    · have hE : ov_E P k (k + 1) := by
        have := ov_K_0 hP (i := k) (by omega)
        rw [g0] at this
        exact ov_K_e this
      obtain ⟨se', st', me', ty', pp', va', hX, hY⟩ := ih (by omega) (upd se k (nI (k + 1))) (upd st k 1) (upd me k (-1)) (upd ty k (na k)) (upd pp k 0) (vp_updL va k (nl k)) (ov_Inv_s hI hk hE (fun _ => ⟨t, t1, t2, na0⟩))
      refine ⟨se', st', me', ty', pp', va', fun post h => ?_, fun rp post h => ?_⟩
      · rw [pk_m1]
        refine br_f hn ⟨hv, ?_⟩
        rw [ec, lt0, lv0]
        refine br_t c0 ⟨hv, nm_r (e' := upd se k (nI (k + 1))) (by rw [nI_1]) ⟨hv, hv, xs_setResult (by omega) ?_⟩⟩
        exact nm_e (hX post h)
      · rw [pk_m1]
        refine br_f hn (ys_resolveLit (by omega) k0 ?_)
        exact nm_e (hY rp post h)
    · have hE : ∀ j, k < j → j < nc → se j = nI (se j).toNatClampNeg ∧ (se j).toNatClampNeg ≤ nc ∧ ov_E P j (se j).toNatClampNeg := by
        intro j h1 h2
        obtain ⟨⟨e, e1, e2, e3⟩, _⟩ := hI j h1 h2
        have e4 : (se j).toNatClampNeg = e := by
          rw [e2]
          exact nI_clamp (by omega)
        rw [e4]
        exact ⟨e2, e1, e3⟩
      have hQ := ov_q (E := fun j => (se j).toNatClampNeg) hP h0 (i := k) (by omega) (fun j h1 h2 => (hE j h1 h2).2)
      generalize hEE : (fun j => (se j).toNatClampNeg) = E at hQ
      have hE' : ∀ j, k < j → j < nc → se j = nI (E j) ∧ E j ≤ nc ∧ ov_E P j (E j) := by
        rw [← hEE]
        exact hE
      have hq : ∀ a, a < g k → ov_cs E k a < nc := fun a ha => ov_K_in hP h0 (by omega) (hQ a (by omega)).1 ha (hQ a (by omega)).2
      have hgt : ∀ a, a < g k → k < ov_cs E k a := fun a ha => (hQ a (by omega)).1.1
      have hse : ∀ a, a < g k → se (ov_cs E k a) = nI (ov_cs E k (a + 1)) := fun a ha => (hE' _ (hgt a ha) (hq a ha)).1
      have hEa : ∀ a, a < g k → ov_E P (ov_cs E k a) (ov_cs E k (a + 1)) ∧ ov_cs E k (a + 1) ≤ nc := fun a ha => ⟨(hE' _ (hgt a ha) (hq a ha)).2.2, (hE' _ (hgt a ha) (hq a ha)).2.1⟩
      have hT : ∀ a, a < g k → st (ov_cs E k a) = 1 → ∃ t, 1 ≤ t ∧ t ≤ 14 ∧ ty (ov_cs E k a) = nI t := fun a ha => (hI _ (hgt a ha) (hq a ha)).2
      obtain ⟨s, m, t, p, w, hO⟩ := ov_O_ex mc nm pl vr rt co ln (cN k) (ov_bad (ov_cs E k) st (g k)) (nI (ov_zt (ov_tq ty (ov_cs E k)) (g k))) (g k) (ov_sm (ov_vq va (ov_cs E k)) (g k)) hrt
      obtain ⟨se', st', me', ty', pp', va', hX, hY⟩ := ih (by omega) (upd se k (nI (ov_cs E k (g k)))) (upd st k s) (upd me k m) (upd ty k t) (upd pp k p) (vp_updL va k w) (ov_Inv_s hI (hQ (g k) (Nat.le_refl _)).2 (ov_K_e (hQ (g k) (Nat.le_refl _)).1) (ov_O_t hO))
      refine ⟨se', st', me', ty', pp', va', fun post h => ?_, fun rp post h => ?_⟩
      · rw [pk_m1]
        refine br_f hn ⟨hv, ?_⟩
        rw [ec]
        refine br_f c2 (xs_resolveCall h16 hM hrt h32 (by omega) hg4 hca hq hse hT (fun s' m' t' p' w' hO' => ?_))
        obtain ⟨rfl, rfl, rfl, rfl, rfl⟩ := ov_O_u h16 hO hO'
        exact nm_e (hX post h)
      · rw [pk_m1]
        refine br_f hn (ys_resolveCall h16 hM hrt h32 (by omega) k1 hP (fun j hj => ⟨(hNd j hj).1, (hNd j hj).2.1⟩) rfl hq hEa hT (fun s' m' t' p' w' rp' hO' => ?_))
        rw [← c1] at hO'
        obtain ⟨rfl, rfl, rfl, rfl, rfl⟩ := ov_O_u h16 hO hO'
        exact nm_e (hY rp' post h)
theorem i_vc_resolve {k : Nat} {u : SX} {v : SY} (I : i_Rel k u v) (hk : k + 5 ≤ 2562) : wpX_resolve (fun r u' => wpY_resolve (fun r' v' => r' = r ∧ i_Rel (k + 5) u' v') v) u := by
  have J : i_Rel (k + 5) u v := I
  obtain ⟨cm, cn, mc, nc, ln, g, P, ph, rp, rs, nm, pm, pl, rt, co, vr, cN, ca, lt, nk, na, lv, nl, se, st, me, ty, pp, va, rfl, rfl, h16, h32, hmc, hnc, hM, hrt, hNd, hP⟩ := I
  have o0 : ¬ ((1 : Int32) = 0) := by decide
  have hb := ov_P_b hNd hP hnc h32
  unfold wpX_resolve
  refine xs_isComplete (by omega) hb (fun c => br_f o0 ?_) (fun c => br_t rfl ?_)
  · obtain ⟨se', st', me', ty', pp', va', hX, hY⟩ := ov_run (cm := cm) (cn := cn) (ph := ph) (rs := rs) (co := co) (lt := lt) (lv := lv) (by omega) (by omega) hM hrt hNd hP c.2 nc (Nat.le_refl nc) se st me ty pp va (fun j h1 h2 => absurd h2 (by omega))
    refine nm_r (Int32.sub_eq_add_neg _ _) ⟨nc + 1, hX _ ?_⟩
    show wpY_resolve (fun r' v' => r' = st' 0 ∧ i_Rel (k + 5) _ v') _
    unfold wpY_resolve
    refine ys_complete (by omega) hb (fun _ => br_f o0 (nm_r (Int32.sub_eq_add_neg _ _) ⟨nc + 1, hY rp _ (fun rp' => ⟨rfl, ?_⟩)⟩)) (fun d => absurd c d)
    exact ⟨cm, cn, mc, nc, ln, g, P, ph, rp', 1, nm, pm, pl, rt, co, vr, cN, ca, lt, nk, na, lv, nl, se', st', me', ty', pp', va', rfl, rfl, h16, h32, hmc, hnc, hM, hrt, hNd, hP⟩
  · unfold wpY_resolve
    exact ys_complete (by omega) hb (fun d => absurd d c) (fun _ => br_t rfl ⟨rfl, J⟩)
