
/-! ===== the deciding phase, the choice ===== -/
def ov_Ph (mc : Nat) (A : Nat → Nat → Prop) (d : Nat) : Prop :=
  (d = 0 ∧ ∀ p, 1 ≤ p → p ≤ 3 → ∀ m, m < mc → ¬ A p m) ∨ (1 ≤ d ∧ d ≤ 3 ∧ (∃ m, m < mc ∧ A d m) ∧ ∀ p, 1 ≤ p → p < d → ∀ m, m < mc → ¬ A p m)
theorem ov_Ph_le {mc : Nat} {A : Nat → Nat → Prop} {d : Nat} (h : ov_Ph mc A d) : d ≤ 3 := by
  rcases h with ⟨h, _⟩ | ⟨_, h, _⟩
  · omega
  · exact h
theorem ov_Ph_u {mc : Nat} {A : Nat → Nat → Prop} {d e : Nat} (h : ov_Ph mc A d) (g : ov_Ph mc A e) : d = e := by
  rcases h with ⟨h0, h⟩ | ⟨h1, h3, ⟨m, hm, ha⟩, h⟩
  · rcases g with ⟨g0, g⟩ | ⟨g1, g3, ⟨q, hq, qa⟩, g⟩
    · omega
    · exact absurd qa (h e g1 g3 q hq)
  · rcases g with ⟨g0, g⟩ | ⟨g1, g3, ⟨q, hq, qa⟩, g⟩
    · exact absurd ha (g d h1 h3 m hm)
    · rcases Nat.lt_trichotomy d e with c | c | c
      · exact absurd ha (g d h1 c m hm)
      · exact c
      · exact absurd qa (h e g1 c q hq)
theorem ov_Ph_ex (mc : Nat) (A : Nat → Nat → Prop) : ∃ d, ov_Ph mc A d := by
  by_cases c : ∃ p, 1 ≤ p ∧ p ≤ 3 ∧ ∃ m, m < mc ∧ A p m
  · obtain ⟨d, ⟨h1, h3, hm⟩, hl⟩ := pk_least _ c
    refine ⟨d, Or.inr ⟨h1, h3, hm, fun p p1 pd m hm' ha => hl p pd ⟨p1, by omega, m, hm', ha⟩⟩⟩
  · exact ⟨0, Or.inl ⟨rfl, fun p p1 p3 m hm ha => c ⟨p, p1, p3, m, hm, ha⟩⟩⟩
def ov_B (mc : Nat) (A : Nat → Prop) (M : Nat → Nat → Prop) (m : Nat) : Prop := ∀ o, o < mc → o ≠ m → A o → M m o ∧ ¬ M o m
def ov_G (mc : Nat) (A : Nat → Prop) (M : Nat → Nat → Prop) (m : Nat) : Prop := A m ∧ ov_B mc A M m
def ov_Ch (mc : Nat) (G : Nat → Prop) (d : Nat) (r : Int32) : Prop :=
  (d = 0 ∧ r = -1) ∨ (1 ≤ d ∧ ((∃ m, m < mc ∧ r = nI m ∧ G m ∧ ∀ q, q < m → ¬ G q) ∨ (r = -2 ∧ ∀ q, q < mc → ¬ G q)))
theorem ov_Ch_u {mc : Nat} {G : Nat → Prop} {d : Nat} {r s : Int32} (h : ov_Ch mc G d r) (g : ov_Ch mc G d s) : r = s := by
  rcases h with ⟨h0, h⟩ | ⟨h1, h⟩
  · rcases g with ⟨g0, g⟩ | ⟨g1, g⟩
    · rw [h, g]
    · omega
  · rcases g with ⟨g0, g⟩ | ⟨g1, g⟩
    · omega
    · rcases h with ⟨m, hm, e, hG, hl⟩ | ⟨e, hn⟩
      · rcases g with ⟨q, hq, f, qG, ql⟩ | ⟨f, qn⟩
        · rcases Nat.lt_trichotomy m q with c | c | c
          · exact absurd hG (ql m c)
          · rw [e, f, c]
          · exact absurd qG (hl q c)
        · exact absurd hG (qn m hm)
      · rcases g with ⟨q, hq, f, qG, ql⟩ | ⟨f, qn⟩
        · exact absurd qG (hn q hq)
        · rw [e, f]
theorem ov_Ch_ex (mc : Nat) (G : Nat → Prop) (d : Nat) : ∃ r, ov_Ch mc G d r := by
  rcases Nat.eq_zero_or_pos d with h | h
  · exact ⟨-1, Or.inl ⟨h, rfl⟩⟩
  · by_cases c : ∃ m, m < mc ∧ G m
    · obtain ⟨m, ⟨h1, h2⟩, hl⟩ := pk_least _ c
      exact ⟨nI m, Or.inr ⟨h, Or.inl ⟨m, h1, rfl, h2, fun q hq g => hl q hq ⟨by omega, g⟩⟩⟩⟩
    · exact ⟨-2, Or.inr ⟨h, Or.inr ⟨rfl, fun q hq g => c ⟨q, hq, g⟩⟩⟩⟩
theorem ov_Ch_v {mc : Nat} {G : Nat → Prop} {d : Nat} {r : Int32} (h : ov_Ch mc G d r) : (∃ m, m < mc ∧ r = nI m) ∨ r = -1 ∨ r = -2 := by
  rcases h with ⟨_, h⟩ | ⟨_, ⟨m, hm, e, _⟩ | ⟨e, _⟩⟩
  · exact Or.inr (Or.inl h)
  · exact Or.inl ⟨m, hm, e⟩
  · exact Or.inr (Or.inr e)
/-! ===== sets of methods as bits ===== -/
theorem ov_one : ∀ m, m < 32 → ∀ j, j < 32 → bt ((1 : Int32) <<< (nI m &&& 31)) j = decide (j = m) := by decide +kernel
theorem ov_bit (k : Int32) {m : Nat} (hm : m < 32) : (k &&& ((1 : Int32) <<< (nI m &&& 31))) = 0 ↔ bt k m = false := by
  rw [← Int32.toBitVec_inj, Int32.toBitVec_and, nf_sh m hm, BitVec.and_twoPow]
  unfold bt
  show _ = 0#32 ↔ _
  cases hb : k.toBitVec.getLsbD m
  · exact ⟨fun _ => rfl, fun _ => by simp⟩
  · exact ⟨fun z => absurd ((if_pos rfl).symm.trans z) (nf_tp m hm), fun z => absurd z (by decide)⟩
theorem ov_set (k : Int32) {m j : Nat} (hm : m < 32) (hj : j < 32) : bt (k ||| ((1 : Int32) <<< (nI m &&& 31))) j = (bt k j || decide (j = m)) := by
  rw [b_or, ov_one m hm j hj]
/-! ===== a program in its order: P j nodes are wanting ahead of node j ===== -/
def ov_P (g P : Nat → Nat) (nc : Nat) : Prop := P 0 = 1 ∧ ∀ j, j < nc → 1 ≤ P j ∧ P (j + 1) + 1 = P j + g j
def ov_E (P : Nat → Nat) (j e : Nat) : Prop := j < e ∧ P e + 1 = P j ∧ ∀ k, j ≤ k → k < e → P j ≤ P k
theorem ov_P_le {g P : Nat → Nat} {nc : Nat} (h : ov_P g P nc) (hg : ∀ j, j < nc → g j ≤ 4) : ∀ j, j ≤ nc → P j ≤ 1 + 3 * j := by
  intro j
  induction j with
  | zero => intro _; rw [h.1]; omega
  | succ j ih =>
    intro hj
    have a := ih (by omega)
    have b := (h.2 j (by omega)).2
    have c := hg j (by omega)
    omega
theorem ov_E_u {P : Nat → Nat} {j e f : Nat} (h : ov_E P j e) (g : ov_E P j f) : e = f := by
  obtain ⟨h1, h2, h3⟩ := h
  obtain ⟨g1, g2, g3⟩ := g
  rcases Nat.lt_trichotomy e f with c | c | c
  · have := g3 e (by omega) c
    omega
  · exact c
  · have := h3 f (by omega) c
    omega
/-- a children so far: the next place ch, c of them in all -/
def ov_K (P : Nat → Nat) (i c a ch : Nat) : Prop := i < ch ∧ P ch + a + 1 = P i + c ∧ ∀ k, i ≤ k → k < ch → P i ≤ P k
theorem ov_K_0 {g P : Nat → Nat} {nc i : Nat} (h : ov_P g P nc) (hi : i < nc) : ov_K P i (g i) 0 (i + 1) := by
  have a := (h.2 i hi).2
  refine ⟨by omega, by omega, fun k h1 h2 => ?_⟩
  have : k = i := by omega
  subst this
  exact Nat.le_refl _
theorem ov_K_s {P : Nat → Nat} {i c a ch e : Nat} (h : ov_K P i c a ch) (ha : a < c) (he : ov_E P ch e) : ov_K P i c (a + 1) e := by
  obtain ⟨h1, h2, h3⟩ := h
  obtain ⟨g1, g2, g3⟩ := he
  refine ⟨by omega, by omega, fun k k1 k2 => ?_⟩
  rcases Nat.lt_or_ge k ch with z | z
  · exact h3 k k1 z
  · have := g3 k z k2
    omega
theorem ov_K_in {g P : Nat → Nat} {nc i c a ch : Nat} (h : ov_P g P nc) (h0 : P nc = 0) (hi : i < nc) (hk : ov_K P i c a ch) (ha : a < c) (hc : ch ≤ nc) : ch < nc := by
  have p := (h.2 i hi).1
  have q := hk.2.1
  rcases Nat.lt_or_ge ch nc with z | z
  · exact z
  · have : ch = nc := by omega
    subst this
    omega
theorem ov_K_e {P : Nat → Nat} {i c ch : Nat} (h : ov_K P i c c ch) : ov_E P i ch := ⟨h.1, by have := h.2.1; omega, h.2.2⟩
/-! ===== the arguments of a call ===== -/
def ov_cs (E : Nat → Nat) (i : Nat) : Nat → Nat
  | 0 => i + 1
  | a + 1 => E (ov_cs E i a)
def ov_sm (v : Nat → Int64) : Nat → Int64
  | 0 => 0
  | a + 1 => ov_sm v a + v a
def ov_zt (t : Nat → Nat) : Nat → Nat
  | 0 => 0
  | a + 1 => ov_zt t a + t a * 2 ^ (4 * a)
theorem ov_zt_lt (t : Nat → Nat) (ht : ∀ b, t b < 16) : ∀ a, ov_zt t a < 2 ^ (4 * a) := by
  intro a
  induction a with
  | zero => exact Nat.one_pos
  | succ a ih => exact ov_putlt ih (ht a)
theorem ov_zt_V (t : Nat → Nat) (ht : ∀ b, t b < 16) : ∀ a, a ≤ 4 → (∀ b, b < a → 1 ≤ t b ∧ t b ≤ 14) → ov_V (nI (ov_zt t a)) a := by
  intro a
  induction a with
  | zero => intro _ _; exact ov_V_0
  | succ a ih =>
    intro h4 h
    exact ov_V_put (ih (by omega) (fun b hb => h b (by omega))) (ov_zt_lt t ht a) (by omega) (h a (by omega)).1 (h a (by omega)).2
