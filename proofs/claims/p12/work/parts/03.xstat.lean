/-! ===== X: what needs no state ===== -/
def ov_S (s t : Nat) : Prop := s = t ∨ (t = 2 ∧ s = 1) ∨ (t = 4 ∧ s < 4) ∨ (t = 5 ∧ s < 5) ∨ (t = 13 ∧ (s = 7 ∨ s = 8 ∨ s = 10 ∨ s = 11)) ∨ (t = 14 ∧ 7 ≤ s)
def ov_C (a p ph : Nat) : Prop := ov_S a p ∨ (ph ≠ 1 ∧ ((a ≤ 6 ∧ ov_S (a + 6) p) ∨ (7 ≤ a ∧ a ≤ 12 ∧ ov_S (a - 6) p)))
def ov_N (t : Nat) (v : Int64) : Int64 := if t = 1 ∨ t = 7 then v.toInt32.toInt8.toInt32.toInt64 else if t = 2 ∨ t = 8 then v.toInt32.toInt16.toInt32.toInt64 else if t = 3 ∨ t = 9 then v &&& 65535 else if t = 4 ∨ t = 10 then v.toInt32.toInt64 else if t = 6 ∨ t = 12 then v &&& 1 else v
theorem ov_ec {m : Nat} (h : m < 2 ^ 31) : (nI m).toNatClampNeg = m := nI_clamp h
theorem xs_typeAt {post : Int32 → Prop} {x' x p : Int32} {i : Nat} (hx : x' = x) (hp : p = nI i) (hi : i < 8) (h : post (nI (ov_nb x i))) : wpX_typeAt post () x' p := by
  subst hx hp
  unfold wpX_typeAt
  rw [ov_tx x' hi]
  exact h
theorem xs_isTypeN {post : Int32 → Prop} {n : Nat} (hn : n < 2 ^ 31) (h1 : 1 ≤ n → n ≤ 14 → post 1) (h0 : (n < 1 ∨ 14 < n) → post 0) : wpX_isType post () (nI n) :=
  pk_lt n 1 (fun a => h0 (Or.inl a)) (fun a => pk_lt 14 n (fun b => h0 (Or.inr b)) (fun b => h1 a b))
theorem xs_ll {post : Int32 → Prop} {x : Int32} (h : ∀ l, l ≤ 4 → (∀ i, i < l → ov_nb x i ≠ 0) → (l < 4 → ov_nb x l = 0) → post (nI l)) : ∀ d l, l + d = 4 → (∀ i, i < l → ov_nb x i ≠ 0) → wX_listLength_2 post x (d + 1) (nI l) := by
  intro d
  induction d with
  | zero =>
    intro l hl ha
    exact br_t (nI_le (a := 4) (by omega) (by omega)) (h l (by omega) ha (by omega))
  | succ d ih =>
    intro l hl ha
    have hb := ov_nb_lt x l
    refine br_f (nI_ge (b := 4) (by omega) (by decide)) (xs_typeAt rfl rfl (by omega) ?_)
    refine pk_eq (ov_nb x l) 0 (fun z => h l (by omega) ha (fun _ => z)) (fun z => nm_r (nI_1 l) (ih (l + 1) (by omega) (fun i hi => ?_)))
    by_cases e : i = l
    · rw [e]; exact z
    · exact ha i (by omega)
theorem xs_listLength {post : Int32 → Prop} {x : Int32} (h : ∀ l, l ≤ 4 → (∀ i, i < l → ov_nb x i ≠ 0) → (l < 4 → ov_nb x l = 0) → post (nI l)) : wpX_listLength post () x :=
  ⟨5, xs_ll h 4 0 rfl (fun i hi => absurd hi (by omega))⟩
theorem xs_listLength_V {post : Int32 → Prop} {x : Int32} {L : Nat} (hV : ov_V x L) (h : post (nI L)) : wpX_listLength post () x :=
  xs_listLength (fun l _ ha hb => by rw [← ov_V_x hV ha hb]; exact h)
theorem xs_isTypeList {post : Int32 → Prop} {x : Int32} (h1 : ∀ L, ov_V x L → post 1) (h0 : (∀ L, ¬ ov_V x L) → post 0) : wpX_isTypeList post () x := by
  unfold wpX_isTypeList
  refine xs_listLength (fun l h4 ha hb => ⟨l + 1, ?_⟩)
  have key : ∀ d i, i + d = l → (∀ j, j < i → 1 ≤ ov_nb x j ∧ ov_nb x j ≤ 14) → wX_isTypeList_7 post x (nI l) (d + 1) (nI i) := by
    intro d
    induction d with
    | zero =>
      intro i hi hj
      refine br_t (nI_le (by omega) (by omega)) ?_
      refine br_c (fun z => h1 l ⟨h4, (ov_sz x (by omega)).mp z, fun j hj' => hj j (by omega)⟩) (fun z => h0 (fun L hL => z ((ov_sz x (by omega)).mpr ?_)))
      rw [← ov_V_x hL ha hb]
      exact hL.2.1
    | succ d ih =>
      intro i hi hj
      have hn := ov_nb_lt x i
      have hz := ha i (by omega)
      refine br_f (nI_ge (by omega) (by omega)) (xs_typeAt rfl rfl (by omega) ?_)
      refine xs_isTypeN (by omega) (fun t1 t2 => br_f (by decide) (nm_r (nI_1 i) (ih (i + 1) (by omega) (fun j hj' => ?_)))) (fun z => br_t rfl (h0 (fun L hL => ?_)))
      · by_cases e : j = i
        · rw [e]; exact ⟨t1, t2⟩
        · exact hj j (by omega)
      · have e := ov_V_x hL ha hb
        have c := hL.2.2 i (by omega)
        omega
  exact key l 0 (by omega) (fun j hj => absurd hj (by omega))
/-- z: the places of the list p of k types -/
def ov_R (p z : Int32) (k : Nat) : Prop := (∀ j, j < k → ov_nb z j = ov_nb p j) ∧ (1 ≤ k → ∀ j, k ≤ j → j ≤ 4 → ov_nb z j = ov_nb p (k - 1))
theorem xs_rl {post : Int32 → Prop} {p : Int32} {k : Nat} (hV : ov_V p k) (hk : 1 ≤ k) (h : ∀ z, ov_R p z k → post z) : ∀ d i z, i + d = 5 → k ≤ i → z < 2 ^ (4 * i) → (∀ j, j < k → ov_nb (nI z) j = ov_nb p j) → (∀ j, k ≤ j → j < i → ov_nb (nI z) j = ov_nb p (k - 1)) → wX_repeatLast_9 post p (nI k) (d + 1) (nI z) (nI i) := by
  intro d
  induction d with
  | zero =>
    intro i z hi hki hz ha hb
    exact br_f (nI_nle (by omega) (by omega)) (br_t (nI_lt (a := 4) (by omega) (by omega)) (h _ ⟨ha, fun _ j h1 h2 => hb j h1 (by omega)⟩))
  | succ d ih =>
    intro i z hi hki hz ha hb
    have ht := ov_nb_lt p (k - 1)
    refine br_f (nI_nle (by omega) (by omega)) (br_f (nI_nlt (a := 4) (by omega) (by omega)) ?_)
    refine xs_typeAt rfl (pk_sub (b := 1) hk) (by have := hV.1; omega) ?_
    refine nm_r (ov_put (by omega) hz ht) (nm_r (nI_1 i) (ih (i + 1) _ (by omega) (by omega) (ov_putlt hz ht) (fun j hj => ?_) (fun j h1 h2 => ?_)))
    · rw [ov_put_lo (by omega) hz ht (by omega)]
      exact ha j hj
    · by_cases e : j = i
      · rw [e, ov_put_at (by omega) hz ht]
      · rw [ov_put_lo (by omega) hz ht (by omega)]
        exact hb j h1 (by omega)
theorem xs_repeatLast {post : Int32 → Prop} {p : Int32} {k : Nat} (hV : ov_V p k) (h : ∀ z, ov_R p z k → post z) : wpX_repeatLast post () p := by
  unfold wpX_repeatLast
  refine xs_listLength_V hV ?_
  rcases Nat.eq_zero_or_pos k with e | e
  · subst e
    exact ⟨1, br_t (nI_le (a := 0) (b := 0) (by omega) (by omega)) (h p ⟨fun j hj => absurd hj (by omega), fun hj => absurd hj (by omega)⟩)⟩
  · refine ⟨(5 - k) + 1, ?_⟩
    have hp := ov_e p
    have := xs_rl hV e h (5 - k) k p.toBitVec.toNat (by have := hV.1; omega) (Nat.le_refl k) hV.2.1 (fun j hj => by rw [← hp]) (fun j h1 h2 => absurd h1 (by omega))
    rw [← hp] at this
    exact this
theorem xs_sub {post : Int32 → Prop} {s t : Nat} (s1 : 1 ≤ s) (s2 : s ≤ 14) (t1 : 1 ≤ t) (t2 : t ≤ 14) (h1 : ov_S s t → post 1) (h0 : ¬ ov_S s t → post 0) : wpX_isSubtype post () (nI s) (nI t) := by
  unfold ov_S at h1 h0
  refine pk_eq s t (fun a => ?_) (fun a => pk_lt t 2 (fun b => ?_) (fun b => pk_lt 14 t (fun c => ?_) (fun c => pk_eq t 2 (fun d => pk_eq s 1 (fun e => ?_) (fun e => ?_)) (fun d2 => pk_eq t 3 (fun e => ?_) (fun d3 => pk_eq t 4 (fun e => pk_le 4 s (fun f => ?_) (fun f => ?_)) (fun d4 => pk_eq t 5 (fun e => pk_le 5 s (fun f => ?_) (fun f => ?_)) (fun d5 => pk_eq t 6 (fun e => ?_) (fun d6 => pk_eq t 7 (fun e => ?_) (fun d7 => pk_eq t 8 (fun e => ?_) (fun d8 => pk_eq t 9 (fun e => ?_) (fun d9 => pk_eq t 10 (fun e => ?_) (fun d10 => pk_eq t 11 (fun e => ?_) (fun d11 => pk_eq t 12 (fun e => ?_) (fun d12 => pk_eq t 13 (fun e => pk_eq s 7 (fun f => ?_) (fun f7 => pk_eq s 8 (fun f => ?_) (fun f8 => pk_eq s 10 (fun f => ?_) (fun f10 => pk_eq s 11 (fun f => ?_) (fun f => ?_))))) (fun d13 => pk_eq t 14 (fun e => pk_lt s 7 (fun f => ?_) (fun f => ?_)) (fun d14 => trivial))))))))))))))))
  all_goals first | exact h1 (by omega) | exact h0 (by omega)
theorem ov_C1 {a p ph : Nat} (h : ov_S a p) : ov_C a p ph := Or.inl h
theorem xs_compat {post : Int32 → Prop} {a p ph : Nat} (a1 : 1 ≤ a) (a2 : a ≤ 14) (p1 : 1 ≤ p) (p2 : p ≤ 14) (hp : ph < 4) (h1 : ov_C a p ph → post 1) (h0 : ¬ ov_C a p ph → post 0) : wpX_isCompatible post () (nI a) (nI p) (nI ph) := by
  unfold wpX_isCompatible
  unfold ov_C at h1 h0
  refine xs_sub a1 a2 p1 p2 (fun s => br_f (by decide) (h1 (Or.inl s))) (fun s => br_t rfl ?_)
  refine pk_eq ph 1 (fun e => h0 (fun c => c.elim s (fun c => c.1 e))) (fun e => ?_)
  refine pk_le a 12 (fun f => ?_) (fun f => h0 (fun c => c.elim s (fun c => c.2.elim (fun c => by omega) (fun c => by omega))))
  refine pk_lt 6 a (fun g => br_t rfl ?_) (fun g => br_f (by decide) ?_)
  · show wX_isCompatible_50 post (nI p) (nI a - nI 6)
    rw [pk_sub (by omega)]
    exact xs_sub (by omega) (by omega) p1 p2 (fun c => ⟨rfl, h1 (Or.inr ⟨e, Or.inr ⟨by omega, f, c⟩⟩)⟩) (fun c => ⟨rfl, h0 (fun d => d.elim s (fun d => d.2.elim (fun d => by omega) (fun d => c d.2.2)))⟩)
  · show wX_isCompatible_50 post (nI p) (nI a + nI 6)
    rw [nI_add]
    exact xs_sub (by omega) (by omega) p1 p2 (fun c => ⟨rfl, h1 (Or.inr ⟨e, Or.inl ⟨by omega, c⟩⟩)⟩) (fun c => ⟨rfl, h0 (fun d => d.elim s (fun d => d.2.elim (fun d => c d.2) (fun d => by omega)))⟩)
theorem xs_narrow {post : Int64 → Prop} {t : Nat} {v : Int64} (t1 : 1 ≤ t) (t2 : t ≤ 14) (h : post (ov_N t v)) : wpX_narrow post () (nI t) v := by
  refine pk_lt t 1 (fun a => absurd a (by omega)) (fun a => pk_lt 12 t (fun b => ?_) (fun b => pk_eq t 1 (fun e => ?_) (fun d1 => pk_eq t 2 (fun e => ?_) (fun d2 => pk_eq t 3 (fun e => ?_) (fun d3 => pk_eq t 4 (fun e => ?_) (fun d4 => pk_eq t 5 (fun e => ?_) (fun d5 => pk_eq t 6 (fun e => ?_) (fun d6 => pk_eq t 7 (fun e => ?_) (fun d7 => pk_eq t 8 (fun e => ?_) (fun d8 => pk_eq t 9 (fun e => ?_) (fun d9 => pk_eq t 10 (fun e => ?_) (fun d10 => pk_eq t 11 (fun e => ?_) (fun d11 => pk_eq t 12 (fun e => ?_) (fun d12 => trivial))))))))))))))
  · have c : t = 13 ∨ t = 14 := by omega
    rcases c with rfl | rfl <;> exact h
  all_goals (subst e; exact h)
