/-! ===== the law's own applicability and choice ===== -/
theorem la_nib {post : Int32 → Prop} {x' x p : Int32} {i : Nat} (hx : x' = x) (hp : p = nI (i + 1)) (hi : i < 8) (h : post (nI (ov_nb x i))) : wpL_nib post () x' p := by
  subst hx hp
  unfold wpL_nib
  rw [nI_pred, ov_ty x' hi]
  exact h
theorem la_sub {post : Int32 → Prop} {s t : Nat} (s1 : 1 ≤ s) (s2 : s ≤ 14) (t1 : 1 ≤ t) (t2 : t ≤ 14) (h1 : ov_S s t → post 1) (h0 : ¬ ov_S s t → post 0) : wpL_sub post () (nI s) (nI t) := by
  unfold ov_S at h1 h0
  have k101 : ¬ (s = t) → ¬ (s ≤ 5 ∧ t ≤ 5 ∧ (t = 4 ∧ s < 4 ∨ t = 5 ∧ s < 5 ∨ t = 2 ∧ s = 1)) → ¬ (t = 13 ∧ (s = 7 ∨ s = 8 ∨ s = 10 ∨ s = 11)) → wL_sub_101 post (nI s) (nI t) := by
    intro n1 n2 n3
    refine pk_lt s 7 (fun a => h0 (by omega)) (fun a => pk_lt 13 s (fun b => h0 (by omega)) (fun b => pk_eq t 14 (fun c => h1 (by omega)) (fun c => h0 (by omega))))
  have k69 : ¬ (s = t) → ¬ (s ≤ 5 ∧ t ≤ 5 ∧ (t = 4 ∧ s < 4 ∨ t = 5 ∧ s < 5 ∨ t = 2 ∧ s = 1)) → wL_sub_69 post (nI s) (nI t) := by
    intro n1 n2
    refine pk_eq s 7 (fun a => ?_) (fun a7 => pk_eq s 8 (fun a => ?_) (fun a8 => pk_eq s 10 (fun a => ?_) (fun a10 => pk_eq s 11 (fun a => ?_) (fun a11 => k101 n1 n2 (by omega)))))
    all_goals exact pk_eq t 13 (fun b => h1 (by omega)) (fun b => k101 n1 n2 (by omega))
  have k57 : ¬ (s = t) → ¬ (t ≤ 5 ∧ s ≤ 3 ∧ (t = 4 ∧ s < 4 ∨ t = 5 ∧ s < 5 ∨ t = 2 ∧ s = 1)) → wL_sub_57 post (nI s) (nI t) := by
    intro n1 n2
    exact pk_eq s 4 (fun a => pk_eq t 5 (fun b => h1 (by omega)) (fun b => k69 n1 (by omega))) (fun a => k69 n1 (by omega))
  have k42 : ¬ (s = t) → ¬ (t ≤ 5 ∧ s ≤ 2 ∧ (t = 4 ∧ s < 4 ∨ t = 5 ∧ s < 5 ∨ t = 2 ∧ s = 1)) → wL_sub_42 post (nI s) (nI t) := by
    intro n1 n2
    exact pk_eq s 3 (fun a => pk_eq t 4 (fun b => h1 (by omega)) (fun b4 => pk_eq t 5 (fun b => h1 (by omega)) (fun b5 => k57 n1 (by omega)))) (fun a => k57 n1 (by omega))
  have k27 : ¬ (s = t) → ¬ (s = 1 ∧ (t = 2 ∨ t = 4 ∨ t = 5)) → wL_sub_27 post (nI s) (nI t) := by
    intro n1 n2
    exact pk_eq s 2 (fun a => pk_eq t 4 (fun b => h1 (by omega)) (fun b4 => pk_eq t 5 (fun b => h1 (by omega)) (fun b5 => k42 n1 (by omega)))) (fun a => k42 n1 (by omega))
  unfold wpL_sub
  refine pk_eq s t (fun e => h1 (by omega)) (fun e => pk_eq s 1 (fun f => ?_) (fun f => k27 e (by omega)))
  exact pk_eq t 2 (fun g => h1 (by omega)) (fun g2 => pk_eq t 4 (fun g => h1 (by omega)) (fun g4 => pk_eq t 5 (fun g => h1 (by omega)) (fun g5 => k27 e (by omega))))
theorem la_loose {post : Int32 → Prop} {a p ph : Nat} (a1 : 1 ≤ a) (a2 : a ≤ 14) (p1 : 1 ≤ p) (p2 : p ≤ 14) (hp : ph ≠ 1) (h1 : ov_C a p ph → post 1) (h0 : ¬ ov_C a p ph → post 0) : wpL_loose post () (nI a) (nI p) := by
  unfold ov_C at h1 h0
  have k30 : ¬ ov_S a p → ¬ (a ≤ 6 ∧ ov_S (a + 6) p) → wL_loose_30 post (nI a) (nI p) := by
    intro n1 n2
    refine pk_lt a 7 (fun b => h0 (fun c => c.elim n1 (fun c => c.2.elim n2 (fun c => by omega)))) (fun b => pk_lt 12 a (fun d => h0 (fun c => c.elim n1 (fun c => c.2.elim n2 (fun c => by omega)))) (fun d => ?_))
    show wpL_sub _ () (nI a - nI 6) (nI p)
    rw [pk_sub (by omega)]
    exact la_sub (by omega) (by omega) p1 p2 (fun c => br_f (by decide) (h1 (Or.inr ⟨hp, Or.inr ⟨by omega, d, c⟩⟩))) (fun c => br_t rfl (h0 (fun e => e.elim n1 (fun e => e.2.elim n2 (fun e => c e.2.2)))))
  unfold wpL_loose
  refine la_sub a1 a2 p1 p2 (fun s => br_f (by decide) (h1 (Or.inl s))) (fun s => br_t rfl ?_)
  refine pk_lt a 1 (fun b => absurd b (by omega)) (fun b => pk_lt 6 a (fun d => k30 s (fun c => by omega)) (fun d => ?_))
  show wpL_sub _ () (nI a + nI 6) (nI p)
  rw [nI_add]
  exact la_sub (by omega) (by omega) p1 p2 (fun c => br_f (by decide) (h1 (Or.inr ⟨hp, Or.inl ⟨by omega, c⟩⟩))) (fun c => br_t rfl (k30 s (fun e => c e.2)))
/-- the table of methods is made of the accepted attempts -/
def la_Tb (L : Nat) (xs : Nat → Int32) (aj : Nat → Nat) (mc : Nat) (nm pm pl vr : Nat → Int32) (ln : Nat → Nat) : Prop := ov_M mc pm pl vr ln ∧ ∀ m, m < mc → nm m = nI (la_nm L xs (aj m)) ∧ pm m = la_pa L xs (aj m) ∧ vr m = la_vz L xs (aj m) ∧ ln m = la_k L xs (aj m)
theorem la_pl {mc : Nat} {pm pl vr : Nat → Int32} {ln : Nat → Nat} (hM : ov_M mc pm pl vr ln) {m i : Nat} (hm : m < mc) (hi : i ≤ 4) (h1 : 1 ≤ ln m) (hl : ln m ≤ i + 1) : ov_nb (pl m) i = ov_nb (pm m) (ln m - 1) := by
  obtain ⟨hV, hv, hR⟩ := hM m hm
  rcases Nat.lt_or_ge i (ln m) with c | c
  · rw [hR.1 i c, show ln m - 1 = i from by omega]
  · exact hR.2 h1 i c hi
section
variable {L : Nat} {xs : Nat → Int32} {mk : Int64} {aj : Nat → Nat} {mc J : Nat} {nm pm pl vr : Nat → Int32} {ln : Nat → Nat}
theorem la_app152 {post : Int32 → Prop} {m n : Nat} {ty : Int32} (hM : ov_M mc pm pl vr ln) (hm : m < mc) (hV : ov_V ty n) (h1l : 1 ≤ ln m) (h1 : (∀ i, i < n → ov_C (ov_nb ty i) (ov_nb (pl m) i) 3) → post 1) (h0 : ¬ (∀ i, i < n → ov_C (ov_nb ty i) (ov_nb (pl m) i) 3) → post 0) (hvr : ¬ vr m = 0) : ∀ d i, i + d = n → (∀ j, j < i → ov_C (ov_nb ty j) (ov_nb (pl m) j) 3) → wL_app_152 post L xs ty (nI n) (nI (ln m)) (pm m) (d + 1) (nI (i + 1)) := by
  have h4 := hV.1
  have hl := (hM m hm).1.1
  intro d
  induction d with
  | zero =>
    intro i hi hj
    exact br_t (nI_lt (by omega) (by omega)) (h1 (fun j hj' => hj j (by omega)))
  | succ d ih =>
    intro i hi hj
    have ht := hV.2.2 i (by omega)
    have hq := ov_M_ty hM hm (i := i) (by omega) (Or.inr hvr)
    have k185 : wL_app_185 post L xs (wL_app_152 post L xs ty (nI n) (nI (ln m)) (pm m) (d + 1)) ty (nI n) (nI (ln m)) (pm m) (nI (i + 1)) (nI (ov_nb (pl m) i)) := by
      refine la_nib rfl rfl (by omega) ?_
      exact la_loose ht.1 ht.2 hq.1 hq.2 (by decide) (fun c => br_f (by decide) (nm_r (nI_1 (i + 1)) (ih (i + 1) (by omega) (ov_lt_s hj c)))) (fun c => br_t rfl (h0 (fun z => c (z i (by omega)))))
    refine br_f (nI_nlt (by omega) (by omega)) (pk_lt (ln m - 1) (i + 1) (fun c => la_nib rfl (i := ln m - 1) (by rw [show ln m - 1 + 1 = ln m from by omega]) (by omega) ?_) (fun c => la_nib rfl rfl (by omega) ?_) (pk_sub (b := 1) h1l))
    · rw [← la_pl hM hm (i := i) (by omega) h1l (by omega)]
      exact k185
    · rw [← (hM m hm).2.2.1 i (by omega)]
      exact k185
theorem la_app67 {post : Int32 → Prop} {m n ph : Nat} {ty : Int32} (hM : ov_M mc pm pl vr ln) (hm : m < mc) (hV : ov_V ty n) (hp : ph < 4) (hl : ln m = n) (h1 : (∀ i, i < n → ov_C (ov_nb ty i) (ov_nb (pl m) i) ph) → post 1) (h0 : ¬ (∀ i, i < n → ov_C (ov_nb ty i) (ov_nb (pl m) i) ph) → post 0) : ∀ d i, i + d = n → (∀ j, j < i → ov_C (ov_nb ty j) (ov_nb (pl m) j) ph) → wL_app_67 post L xs ty (nI n) (nI ph) (pm m) (d + 1) (nI (i + 1)) := by
  have h4 := hV.1
  intro d
  induction d with
  | zero =>
    intro i hi hj
    exact br_t (nI_lt (by omega) (by omega)) (h1 (fun j hj' => hj j (by omega)))
  | succ d ih =>
    intro i hi hj
    have ht := hV.2.2 i (by omega)
    have hq := ov_M_ty hM hm (i := i) (by omega) (Or.inl (by omega))
    have e := (hM m hm).2.2.1 i (by omega)
    have go : ov_C (ov_nb ty i) (ov_nb (pl m) i) ph → ∀ x, x = nI (i + 1) + 1 → wL_app_67 post L xs ty (nI n) (nI ph) (pm m) (d + 1) x := fun c => nm_r (nI_1 (i + 1)) (ih (i + 1) (by omega) (ov_lt_s hj c))
    have no : ¬ ov_C (ov_nb ty i) (ov_nb (pl m) i) ph → post 0 := fun c => h0 (fun z => c (z i (by omega)))
    refine br_f (nI_nlt (by omega) (by omega)) (pk_eq ph 1 (fun p => la_nib rfl rfl (by omega) (la_nib rfl rfl (by omega) ?_)) (fun p => la_nib rfl rfl (by omega) (la_nib rfl rfl (by omega) ?_)))
    · rw [← e]
      exact la_sub ht.1 ht.2 hq.1 hq.2 (fun c => br_f (by decide) (go (Or.inl c))) (fun c => br_t rfl (no (fun z => z.elim c (fun z => z.1 p))))
    · rw [← e]
      exact la_loose ht.1 ht.2 hq.1 hq.2 p (fun c => br_f (by decide) (go c)) (fun c => br_t rfl (no c))
theorem la_app {post : Int32 → Prop} {m n ph : Nat} {x ty : Int32} (hL : L ≤ 260) (hA : la_At mk aj mc J) (hJ : J ≤ 10) (h16 : mc ≤ 16) (hB : la_Tb L xs aj mc nm pm pl vr ln) (hm : m < mc) (hV : ov_V ty n) (hp : ph < 4) (h1 : ov_T nm pl vr ln x ty n ph m → post 1) (h0 : ¬ ov_T nm pl vr ln x ty n ph m → post 0) : wpL_app post L xs () mk (nI m) x ty (nI n) (nI ph) := by
  obtain ⟨hM, hb⟩ := hB
  obtain ⟨e1, e2, e3, e4⟩ := hb m hm
  have hj : aj m < 1000 := by have := hA.1 m hm; omega
  have h4 := hV.1
  have hl := (hM m hm).1.1
  unfold wpL_app
  refine la_attemptOf hA hJ hm h16 (la_aName hL hj ?_)
  rw [← e1]
  refine br_c (fun en => la_aK hL hj ?_) (fun en => h0 (fun t => en t.1))
  refine la_aParams hL hj (la_aVar hL hj ?_)
  rw [← e2, ← e3, ← e4]
  rcases (hM m hm).2.1 with e | ⟨e, el⟩
  · refine pk_le 3 ph (fun z => br_t e (h0 (fun t => (t.2.1 (by omega)).1 e))) (fun z => br_t e ?_)
    have z' : ¬ ph = 3 := by omega
    refine pk_eq (ln m) n (fun q => ⟨n + 1, ?_⟩) (fun q => h0 (fun t => q (t.2.2.1 z').2))
    exact la_app67 hM hm hV hp q (fun c => h1 ⟨en, fun y => absurd y z', fun _ => ⟨e, q⟩, c⟩) (fun c => h0 (fun t => c t.2.2.2)) n 0 (by omega) (fun j hj => absurd hj (by omega))
  · have e0 : ¬ vr m = 0 := by rw [e]; decide
    refine pk_le 3 ph (fun z => br_f e0 ?_) (fun z => br_f e0 (h0 (fun t => e0 (t.2.2.1 (by omega)).1)))
    have z' : ph = 3 := by omega
    subst z'
    refine pk_le (ln m - 1) n (fun q => ⟨n + 1, ?_⟩) (fun q => h0 (fun t => absurd (t.2.1 rfl).2 (by omega))) (pk_sub (b := 1) el)
    exact la_app152 hM hm hV el (fun c => h1 ⟨en, fun _ => ⟨e0, by omega⟩, fun y => absurd rfl y, c⟩) (fun c => h0 (fun t => c t.2.2.2)) e0 n 0 (by omega) (fun j hj => absurd hj (by omega))
theorem la_geq96 {post : Int32 → Prop} {m o n : Nat} (hM : ov_M mc pm pl vr ln) (hm : m < mc) (ho : o < mc) (hn : n ≤ 4) (vm : ¬ vr m = 0) (vo : ¬ vr o = 0) (lm : 1 ≤ ln m) (lo : 1 ≤ ln o) (h1 : ov_MS pl (n + 1) m o → post 1) (h0 : ¬ ov_MS pl (n + 1) m o → post 0) : ∀ d i, i + d = n + 1 → (∀ j, j < i → ov_S (ov_nb (pl m) j) (ov_nb (pl o) j)) → wL_geq_96 post L xs (nI n) (pm m) (pm o) (nI (ln m)) (nI (ln o)) (d + 1) (nI (i + 1)) := by
  have hlm := (hM m hm).1.1
  have hlo := (hM o ho).1.1
  intro d
  induction d with
  | zero =>
    intro i hi hj
    refine br_t ?_ (h1 (fun j hj' => hj j (by omega)))
    rw [nI_1]
    exact nI_lt (by omega) (by omega)
  | succ d ih =>
    intro i hi hj
    have a := ov_M_ty hM hm (i := i) (by omega) (Or.inr vm)
    have b := ov_M_ty hM ho (i := i) (by omega) (Or.inr vo)
    have k159 : wL_geq_159 post L xs (wL_geq_96 post L xs (nI n) (pm m) (pm o) (nI (ln m)) (nI (ln o)) (d + 1)) (nI n) (pm m) (pm o) (nI (ln m)) (nI (ln o)) (nI (i + 1)) (nI (ov_nb (pl m) i)) (nI (ov_nb (pl o) i)) :=
      la_sub a.1 a.2 b.1 b.2 (fun c => br_f (by decide) (nm_r (nI_1 (i + 1)) (ih (i + 1) (by omega) (ov_lt_s hj c)))) (fun c => br_t rfl (h0 (fun z => c (z i (by omega)))))
    have k131 : wL_geq_131 post L xs (wL_geq_96 post L xs (nI n) (pm m) (pm o) (nI (ln m)) (nI (ln o)) (d + 1)) (nI n) (pm m) (pm o) (nI (ln m)) (nI (ln o)) (nI (i + 1)) (nI (ov_nb (pl m) i)) := by
      refine pk_lt (ln o - 1) (i + 1) (fun c => la_nib rfl (i := ln o - 1) (by rw [show ln o - 1 + 1 = ln o from by omega]) (by omega) ?_) (fun c => la_nib rfl rfl (by omega) ?_) (pk_sub (b := 1) lo)
      · rw [← la_pl hM ho (i := i) (by omega) lo (by omega)]
        exact k159
      · rw [← (hM o ho).2.2.1 i (by omega)]
        exact k159
    refine br_f (by rw [nI_1]; exact nI_nlt (by omega) (by omega)) ?_
    refine pk_lt (ln m - 1) (i + 1) (fun c => la_nib rfl (i := ln m - 1) (by rw [show ln m - 1 + 1 = ln m from by omega]) (by omega) ?_) (fun c => la_nib rfl rfl (by omega) ?_) (pk_sub (b := 1) lm)
    · rw [← la_pl hM hm (i := i) (by omega) lm (by omega)]
      exact k131
    · rw [← (hM m hm).2.2.1 i (by omega)]
      exact k131
theorem la_geq56 {post : Int32 → Prop} {m o n : Nat} (hM : ov_M mc pm pl vr ln) (hm : m < mc) (ho : o < mc) (hn : n ≤ 4) (lm : ln m = n) (lo : ln o = n) (h1 : ov_MS pl n m o → post 1) (h0 : ¬ ov_MS pl n m o → post 0) : ∀ d i, i + d = n → (∀ j, j < i → ov_S (ov_nb (pl m) j) (ov_nb (pl o) j)) → wL_geq_56 post L xs (nI n) (pm m) (pm o) (d + 1) (nI (i + 1)) := by
  intro d
  induction d with
  | zero =>
    intro i hi hj
    exact br_t (nI_lt (by omega) (by omega)) (h1 (fun j hj' => hj j (by omega)))
  | succ d ih =>
    intro i hi hj
    have a := ov_M_ty hM hm (i := i) (by omega) (Or.inl (by omega))
    have b := ov_M_ty hM ho (i := i) (by omega) (Or.inl (by omega))
    refine br_f (nI_nlt (by omega) (by omega)) (la_nib rfl rfl (by omega) (la_nib rfl rfl (by omega) ?_))
    rw [← (hM m hm).2.2.1 i (by omega), ← (hM o ho).2.2.1 i (by omega)]
    exact la_sub a.1 a.2 b.1 b.2 (fun c => br_f (by decide) (nm_r (nI_1 (i + 1)) (ih (i + 1) (by omega) (ov_lt_s hj c)))) (fun c => br_t rfl (h0 (fun z => c (z i (by omega)))))
theorem la_geq {post : Int32 → Prop} {m o n ph : Nat} {ty : Int32} (hL : L ≤ 260) (hA : la_At mk aj mc J) (hJ : J ≤ 10) (h16 : mc ≤ 16) (hB : la_Tb L xs aj mc nm pm pl vr ln) (hm : m < mc) (ho : o < mc) (hn : n ≤ 4) (hp : ph < 4) (am : ov_A pl vr ln ty n ph m) (ao : ov_A pl vr ln ty n ph o) (h1 : ov_MS pl (ov_lim n ph) m o → post 1) (h0 : ¬ ov_MS pl (ov_lim n ph) m o → post 0) : wpL_geq post L xs () mk (nI m) (nI o) (nI n) (nI ph) := by
  obtain ⟨hM, hb⟩ := hB
  obtain ⟨_, e2, e3, e4⟩ := hb m hm
  obtain ⟨_, f2, f3, f4⟩ := hb o ho
  have hj : aj m < 1000 := by have := hA.1 m hm; omega
  have hk : aj o < 1000 := by have := hA.1 o ho; omega
  unfold wpL_geq
  refine la_attemptOf hA hJ hm h16 (la_attemptOf hA hJ ho h16 (la_aParams hL hj (la_aParams hL hk (la_aK hL hj (la_aK hL hk ?_)))))
  rw [← e2, ← e4, ← f2, ← f4]
  refine pk_le 3 ph (fun z => ⟨n + 1 + 1, ?_⟩) (fun z => ⟨n + 1, ?_⟩)
  · have z' : ph = 3 := by omega
    rw [show ov_lim n ph = n + 1 from if_pos z'] at h1 h0
    have vm := (am.1 z').1
    have vo := (ao.1 z').1
    have lm : 1 ≤ ln m := by
      rcases (hM m hm).2.1 with e | e
      · exact absurd e vm
      · exact e.2
    have lo : 1 ≤ ln o := by
      rcases (hM o ho).2.1 with e | e
      · exact absurd e vo
      · exact e.2
    exact la_geq96 hM hm ho hn vm vo lm lo h1 h0 (n + 1) 0 (by omega) (fun j hj => absurd hj (by omega))
  · have z' : ¬ ph = 3 := by omega
    rw [show ov_lim n ph = n from if_neg z'] at h1 h0
    exact la_geq56 hM hm ho hn (am.2.1 z').2 (ao.2.1 z').2 h1 h0 n 0 (by omega) (fun j hj => absurd hj (by omega))
theorem la_any_loop {post : Int32 → Prop} {n ph : Nat} {x ty : Int32} (hL : L ≤ 260) (hA : la_At mk aj mc J) (hJ : J ≤ 10) (h16 : mc ≤ 16) (hB : la_Tb L xs aj mc nm pm pl vr ln) (hV : ov_V ty n) (hp : ph < 4) (h1 : (∃ m, m < mc ∧ ov_T nm pl vr ln x ty n ph m) → post 1) (h0 : (∀ m, m < mc → ¬ ov_T nm pl vr ln x ty n ph m) → post 0) : ∀ d m, m + d = mc → (∀ q, q < m → ¬ ov_T nm pl vr ln x ty n ph q) → wL_anyApp_3 post L xs mk (nI mc) x ty (nI n) (nI ph) (d + 1) (nI m) := by
  intro d
  induction d with
  | zero =>
    intro m hm hq
    exact br_t (nI_le (by omega) (by omega)) (h0 (fun q h => hq q (by omega)))
  | succ d ih =>
    intro m hm hq
    refine br_f (nI_ge (by omega) (by omega)) ?_
    exact la_app hL hA hJ h16 hB (by omega) hV hp (fun t => br_f (by decide) (h1 ⟨m, by omega, t⟩)) (fun t => br_t rfl (nm_r (nI_1 m) (ih (m + 1) (by omega) (ov_lt_s hq t))))
theorem la_anyApp {post : Int32 → Prop} {n ph : Nat} {x ty : Int32} (hL : L ≤ 260) (hA : la_At mk aj mc J) (hJ : J ≤ 10) (h16 : mc ≤ 16) (hB : la_Tb L xs aj mc nm pm pl vr ln) (hV : ov_V ty n) (hp : ph < 4) (h1 : (∃ m, m < mc ∧ ov_T nm pl vr ln x ty n ph m) → post 1) (h0 : (∀ m, m < mc → ¬ ov_T nm pl vr ln x ty n ph m) → post 0) : wpL_anyApp post L xs () mk (nI mc) x ty (nI n) (nI ph) :=
  ⟨mc + 1, la_any_loop hL hA hJ h16 hB hV hp h1 h0 mc 0 (by omega) (fun q hq => absurd hq (by omega))⟩
theorem la_win36 {post J3 : Int32 → Prop} {m n ph : Nat} {x ty : Int32} (hL : L ≤ 260) (hA : la_At mk aj mc J) (hJ : J ≤ 10) (h16 : mc ≤ 16) (hB : la_Tb L xs aj mc nm pm pl vr ln) (hV : ov_V ty n) (hp : ph < 4) (hm : m < mc) (tm : ov_T nm pl vr ln x ty n ph m) (h1 : ov_B mc (ov_T nm pl vr ln x ty n ph) (ov_MS pl (ov_lim n ph)) m → post (nI m)) (h0 : ¬ ov_B mc (ov_T nm pl vr ln x ty n ph) (ov_MS pl (ov_lim n ph)) m → J3 (nI (m + 1))) : ∀ d o f, o + d = mc → ((f = 1 ∧ ∀ q, q < o → q ≠ m → ov_T nm pl vr ln x ty n ph q → ov_MS pl (ov_lim n ph) m q ∧ ¬ ov_MS pl (ov_lim n ph) q m) ∨ (f = 0 ∧ ¬ ov_B mc (ov_T nm pl vr ln x ty n ph) (ov_MS pl (ov_lim n ph)) m)) → wL_winner_36 post L xs J3 mk (nI mc) x ty (nI n) (nI ph) (nI m) (d + 1) f (nI o) := by
  have h4 := hV.1
  have bad : ¬ ov_B mc (ov_T nm pl vr ln x ty n ph) (ov_MS pl (ov_lim n ph)) m → wL_winner_116 post L xs J3 mk (nI mc) x ty (nI n) (nI ph) (nI m) 0 := fun nb => br_t rfl (nm_r (nI_1 m) (h0 nb))
  intro d
  induction d with
  | zero =>
    intro o f ho hf
    refine br_t (nI_le (by omega) (by omega)) ?_
    rcases hf with ⟨rfl, hq⟩ | ⟨rfl, nb⟩
    · exact br_f (by decide) (h1 (fun q h => hq q (by omega)))
    · exact bad nb
  | succ d ih =>
    intro o f ho hf
    refine br_f (nI_ge (by omega) (by omega)) ?_
    rcases hf with ⟨rfl, hq⟩ | ⟨rfl, nb⟩
    · refine br_f (by decide) ?_
      refine pk_eq o m (fun e => nm_r (nI_1 o) (ih (o + 1) 1 (by omega) (Or.inl ⟨rfl, ov_lt_s hq (fun z => absurd e z)⟩))) (fun ne => ?_)
      refine la_app hL hA hJ h16 hB (by omega) hV hp (fun t => br_f (by decide) ?_) (fun t => br_t rfl (nm_r (nI_1 o) (ih (o + 1) 1 (by omega) (Or.inl ⟨rfl, ov_lt_s hq (fun _ g => absurd g t)⟩))))
      refine la_geq hL hA hJ h16 hB hm (by omega) h4 hp tm.2 t.2 (fun a => br_f (by decide) ?_) (fun a => br_t rfl (nm_r (nI_1 o) (ih (o + 1) 0 (by omega) (Or.inr ⟨rfl, fun B => a (B o (by omega) ne t).1⟩))))
      exact la_geq hL hA hJ h16 hB (by omega) hm h4 hp t.2 tm.2 (fun b => br_f (by decide) (nm_r (nI_1 o) (ih (o + 1) 0 (by omega) (Or.inr ⟨rfl, fun B => (B o (by omega) ne t).2 b⟩)))) (fun b => br_t rfl (nm_r (nI_1 o) (ih (o + 1) 1 (by omega) (Or.inl ⟨rfl, ov_lt_s hq (fun _ _ => ⟨a, b⟩)⟩))))
    · exact br_t rfl (bad nb)
theorem la_win3 {post : Int32 → Prop} {n ph : Nat} {x ty : Int32} (hL : L ≤ 260) (hA : la_At mk aj mc J) (hJ : J ≤ 10) (h16 : mc ≤ 16) (hB : la_Tb L xs aj mc nm pm pl vr ln) (hV : ov_V ty n) (hp : ph < 4) (h1 : ∀ m, m < mc → ov_W nm pl vr ln mc x ty n ph m → (∀ q, q < m → ¬ ov_W nm pl vr ln mc x ty n ph q) → post (nI m)) (h0 : (∀ q, q < mc → ¬ ov_W nm pl vr ln mc x ty n ph q) → post (-1)) : ∀ d m, m + d = mc → (∀ q, q < m → ¬ ov_W nm pl vr ln mc x ty n ph q) → wL_winner_3 post L xs mk (nI mc) x ty (nI n) (nI ph) (d + 1) (nI m) := by
  intro d
  induction d with
  | zero =>
    intro m hm hq
    exact br_t (nI_le (by omega) (by omega)) (h0 (fun q h => hq q (by omega)))
  | succ d ih =>
    intro m hm hq
    refine br_f (nI_ge (by omega) (by omega)) ?_
    refine la_app hL hA hJ h16 hB (by omega) hV hp (fun t => br_f (by decide) ⟨mc + 1, ?_⟩) (fun t => br_t rfl (nm_r (nI_1 m) (ih (m + 1) (by omega) (ov_lt_s hq (fun g => t g.1)))))
    exact la_win36 hL hA hJ h16 hB hV hp (by omega) t (fun b => h1 m (by omega) ⟨t, b⟩ hq) (fun b => ih (m + 1) (by omega) (ov_lt_s hq (fun g => b g.2))) mc 0 1 (by omega) (Or.inl ⟨rfl, fun q hq' => absurd hq' (by omega)⟩)
theorem la_winner {post : Int32 → Prop} {n ph : Nat} {x ty : Int32} (hL : L ≤ 260) (hA : la_At mk aj mc J) (hJ : J ≤ 10) (h16 : mc ≤ 16) (hB : la_Tb L xs aj mc nm pm pl vr ln) (hV : ov_V ty n) (hp : ph < 4) (h1 : ∀ m, m < mc → ov_W nm pl vr ln mc x ty n ph m → (∀ q, q < m → ¬ ov_W nm pl vr ln mc x ty n ph q) → post (nI m)) (h0 : (∀ q, q < mc → ¬ ov_W nm pl vr ln mc x ty n ph q) → post (-1)) : wpL_winner post L xs () mk (nI mc) x ty (nI n) (nI ph) :=
  ⟨mc + 1, la_win3 hL hA hJ h16 hB hV hp h1 h0 mc 0 (by omega) (fun q hq => absurd hq (by omega))⟩
end
