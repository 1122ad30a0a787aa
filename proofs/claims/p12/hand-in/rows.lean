section
def bt (x : Int32) (i : Nat) : Bool := x.toBitVec.getLsbD i
theorem b_or (x y : Int32) (i : Nat) : bt (x ||| y) i = (bt x i || bt y i) := by unfold bt; rw [Int32.toBitVec_or, BitVec.getLsbD_or]
theorem b_and (x y : Int32) (i : Nat) : bt (x &&& y) i = (bt x i && bt y i) := by unfold bt; rw [Int32.toBitVec_and, BitVec.getLsbD_and]
theorem b_0 (i : Nat) : bt 0 i = false := BitVec.getLsbD_zero
theorem nx_and (a b : Nat) : nI a &&& nI b = nI (a &&& b) := by
  apply Int32.toBitVec_inj.1
  show BitVec.ofNat 32 a &&& BitVec.ofNat 32 b = BitVec.ofNat 32 (a &&& b)
  apply BitVec.eq_of_getLsbD_eq
  intro i hi
  simp [hi]
theorem nf_sh : ∀ l, l < 32 → ((1 : Int32) <<< (nI l &&& 31)).toBitVec = BitVec.twoPow 32 l := by decide +kernel
theorem nf_tp : ∀ l, l < 32 → BitVec.twoPow 32 l ≠ 0#32 := by decide +kernel
/-! ===== four bits of a list: ov_nb x i ===== -/
def ov_nb (x : Int32) (i : Nat) : Nat := x.toBitVec.toNat / 2 ^ (4 * i) % 16
theorem ov_nb_lt (x : Int32) (i : Nat) : ov_nb x i < 16 := Nat.mod_lt _ (by decide)
theorem ov_sl : ∀ i, i < 8 → (((4 : Int32) * nI i &&& 31).toBitVec.smod 32).toNat = 4 * i := by decide +kernel
theorem ov_su : ∀ i, i < 8 → ((((4 : Int32) * nI i).toUInt32 &&& Int32.toUInt32 31).toBitVec % 32).toNat = 4 * i := by decide +kernel
theorem ov_tp (y z : Nat) (hy : y < 2 ^ 32) (hz : z < 2 ^ 32) : ∀ i, i < 8 → ((if 2 * y < 2 ^ 32 then (y : Int) else (y : Int) - ((2 ^ 32 : Nat) : Int)) = (if 2 * z < 2 ^ 32 then (z : Int) else (z : Int) - ((2 ^ 32 : Nat) : Int)) / ((2 ^ (4 * i) : Nat) : Int)) → y % 2 ^ 4 = z / 2 ^ (4 * i) % 16 := by
  intro i hi
  have c : i = 0 ∨ i = 1 ∨ i = 2 ∨ i = 3 ∨ i = 4 ∨ i = 5 ∨ i = 6 ∨ i = 7 := by omega
  rcases c with rfl | rfl | rfl | rfl | rfl | rfl | rfl | rfl <;> (intro h; simp only [Nat.reduceMul, Nat.reducePow] at h hy hz ⊢; split at h <;> split at h <;> omega)
theorem ov_cond (x : Int32) : x.toInt = if 2 * x.toBitVec.toNat < 2 ^ 32 then (x.toBitVec.toNat : Int) else (x.toBitVec.toNat : Int) - ((2 ^ 32 : Nat) : Int) := BitVec.toInt_eq_toNat_cond _
theorem ov_tx (x : Int32) {i : Nat} (hi : i < 8) : (x >>> (4 * nI i &&& 31)) &&& 15 = nI (ov_nb x i) := by
  rw [pk_and _ 4 (by decide)]
  apply congrArg nI
  have hs := pk_shr x (4 * nI i &&& 31) (4 * i) (ov_sl i hi)
  rw [Int.shiftRight_eq_div_pow] at hs
  have hx := x.toBitVec.isLt
  have hy := (x >>> (4 * nI i &&& 31)).toBitVec.isLt
  unfold ov_nb
  rw [ov_cond x, ov_cond (x >>> (4 * nI i &&& 31))] at hs
  exact ov_tp _ _ hy hx i hi hs
theorem ov_ty (x : Int32) {i : Nat} (hi : i < 8) : ((x.toUInt32 >>> ((4 * nI i).toUInt32 &&& Int32.toUInt32 31)).toInt32) &&& 15 = nI (ov_nb x i) := by
  rw [pk_and _ 4 (by decide), pk_ushr x (4 * nI i) (4 * i) (ov_su i hi)]
  rfl
theorem ov_e (x : Int32) : x = nI x.toBitVec.toNat := by
  apply Int32.toBitVec_inj.1
  show x.toBitVec = BitVec.ofNat 32 x.toBitVec.toNat
  simp
theorem ov_nbN {n : Nat} (h : n < 2 ^ 32) (i : Nat) : ov_nb (nI n) i = n / 2 ^ (4 * i) % 16 := by
  unfold ov_nb
  rw [pk_tn h]
theorem ov_szp (z : Nat) (hz : z < 2 ^ 32) : ∀ i, i < 5 → ((if 2 * z < 2 ^ 32 then (z : Int) else (z : Int) - ((2 ^ 32 : Nat) : Int)) / ((2 ^ (4 * i) : Nat) : Int) = 0 ↔ z < 2 ^ (4 * i)) := by
  intro i hi
  have c : i = 0 ∨ i = 1 ∨ i = 2 ∨ i = 3 ∨ i = 4 := by omega
  rcases c with rfl | rfl | rfl | rfl | rfl <;> (simp only [Nat.reduceMul, Nat.reducePow] at hz ⊢; split <;> omega)
theorem ov_sz (x : Int32) {i : Nat} (h : i < 5) : x >>> (4 * nI i &&& 31) = 0 ↔ x.toBitVec.toNat < 2 ^ (4 * i) := by
  rw [← Int32.toInt_inj, pk_shr x _ (4 * i) (ov_sl i (by omega)), show (0 : Int32).toInt = 0 from by decide, Int.shiftRight_eq_div_pow, ov_cond x]
  exact ov_szp _ x.toBitVec.isLt i h
/-! ===== a list of L types ===== -/
def ov_V (x : Int32) (L : Nat) : Prop := L ≤ 4 ∧ x.toBitVec.toNat < 2 ^ (4 * L) ∧ ∀ i, i < L → 1 ≤ ov_nb x i ∧ ov_nb x i ≤ 14
theorem ov_hi {x : Int32} {L : Nat} (h : x.toBitVec.toNat < 2 ^ (4 * L)) {i : Nat} (hi : L ≤ i) : ov_nb x i = 0 := by
  unfold ov_nb
  have h2 : 2 ^ (4 * L) ≤ 2 ^ (4 * i) := Nat.pow_le_pow_right (by decide) (by omega)
  rw [Nat.div_eq_of_lt (Nat.lt_of_lt_of_le h h2)]
theorem ov_V_u {x : Int32} {L M : Nat} (h : ov_V x L) (g : ov_V x M) : L = M := by
  rcases Nat.lt_trichotomy L M with c | c | c
  · have a := ov_hi h.2.1 (Nat.le_refl L)
    have b := g.2.2 L c
    omega
  · exact c
  · have a := ov_hi g.2.1 (Nat.le_refl M)
    have b := h.2.2 M c
    omega
theorem ov_V_len {x : Int32} {L l : Nat} (h : ov_V x L) (ha : ∀ i, i < l → ov_nb x i ≠ 0) (hb : l < 4 → ov_nb x l = 0) : L ≤ l → L = l := by
  intro hl
  rcases Nat.lt_or_ge L l with c | c
  · exact absurd (ov_hi h.2.1 (Nat.le_refl L)) (ha L c)
  · omega
theorem ov_V_x {x : Int32} {L l : Nat} (h : ov_V x L) (ha : ∀ i, i < l → ov_nb x i ≠ 0) (hb : l < 4 → ov_nb x l = 0) : L = l := by
  rcases Nat.lt_or_ge l L with c | c
  · have a := h.2.2 l c
    have b := hb (by have := h.1; omega)
    omega
  · exact ov_V_len h ha hb c
theorem ov_V_16 {x : Int32} {L : Nat} (h : ov_V x L) : x.toBitVec.toNat < 65536 :=
  Nat.lt_of_lt_of_le h.2.1 (Nat.pow_le_pow_right (n := 2) (by decide) (by have := h.1; omega : 4 * L ≤ 16))
theorem ov_V_n {x : Int32} {L : Nat} (h : ov_V x L) : ¬ x < 0 := by
  have a := ov_V_16 h
  rw [Int32.lt_iff_toInt_lt, ov_cond x, show (0 : Int32).toInt = 0 from by decide, if_pos (by omega)]
  omega
theorem ov_V_0 : ov_V 0 0 := ⟨by decide, by decide, fun i hi => absurd hi (by omega)⟩
theorem ov_V_z {x : Int32} {L : Nat} (h : ov_V x L) : x = 0 ↔ L = 0 := by
  constructor
  · intro e
    subst e
    exact ov_V_u h ov_V_0
  · intro e
    subst e
    have a := h.2.1
    rw [ov_e x, show x.toBitVec.toNat = 0 from by simpa using a]
    rfl
theorem ov_top (x : Int32) : ∀ d n, n + d = 8 → (∀ j, n ≤ j → j < 8 → ov_nb x j = 0) → x.toBitVec.toNat < 2 ^ (4 * n) := by
  intro d
  induction d with
  | zero =>
    intro n hn _
    have e : n = 8 := by omega
    subst e
    exact x.toBitVec.isLt
  | succ d ih =>
    intro n hn h
    have a := ih (n + 1) (by omega) (fun j h1 h2 => h j (by omega) h2)
    have b := h n (Nat.le_refl n) (by omega)
    unfold ov_nb at b
    rw [show 4 * (n + 1) = 4 * n + 4 from by omega, Nat.pow_add] at a
    have c : x.toBitVec.toNat / 2 ^ (4 * n) < 16 := Nat.div_lt_of_lt_mul a
    rw [Nat.mod_eq_of_lt c] at b
    exact Nat.lt_of_div_eq_zero (Nat.two_pow_pos _) b
/-! ===== a further type in front ===== -/
theorem ov_or (a b : Nat) : nI a ||| nI b = nI (a ||| b) := by
  apply Int32.toBitVec_inj.1
  show BitVec.ofNat 32 a ||| BitVec.ofNat 32 b = BitVec.ofNat 32 (a ||| b)
  apply BitVec.eq_of_getLsbD_eq
  intro i hi
  simp [hi]
theorem ov_lt8 {t i : Nat} (hi : i < 8) (ht : t < 16) : t * 2 ^ (4 * i) < 2 ^ 32 := by
  have c : i = 0 ∨ i = 1 ∨ i = 2 ∨ i = 3 ∨ i = 4 ∨ i = 5 ∨ i = 6 ∨ i = 7 := by omega
  rcases c with rfl | rfl | rfl | rfl | rfl | rfl | rfl | rfl <;> (simp only [Nat.reduceMul, Nat.reducePow]; omega)
theorem ov_put {z t i : Nat} (hi : i < 8) (hz : z < 2 ^ (4 * i)) (ht : t < 16) : nI z ||| (nI t <<< (4 * nI i &&& 31)) = nI (z + t * 2 ^ (4 * i)) := by
  rw [pk_shlN (4 * nI i &&& 31) (4 * i) (ov_sl i hi) (ov_lt8 hi ht), ov_or]
  apply congrArg nI
  rw [Nat.or_comm, Nat.mul_comm t, ← Nat.two_pow_add_eq_or_of_lt hz t, Nat.add_comm]
theorem ov_p4 (i : Nat) : 2 ^ (4 * (i + 1)) = 2 ^ (4 * i) * 16 := by
  rw [show 4 * (i + 1) = 4 * i + 4 from by omega, Nat.pow_add]
theorem ov_putlt {z t i : Nat} (hz : z < 2 ^ (4 * i)) (ht : t < 16) : z + t * 2 ^ (4 * i) < 2 ^ (4 * (i + 1)) := by
  rw [ov_p4]
  have a : t * 2 ^ (4 * i) ≤ 15 * 2 ^ (4 * i) := Nat.mul_le_mul_right _ (by omega)
  generalize 2 ^ (4 * i) = P at *
  omega
theorem ov_lt32 {z i : Nat} (hi : i ≤ 8) (hz : z < 2 ^ (4 * i)) : z < 2 ^ 32 :=
  Nat.lt_of_lt_of_le hz (Nat.pow_le_pow_right (n := 2) (by decide) (by omega : 4 * i ≤ 32))
theorem ov_put_at {z t i : Nat} (hi : i < 8) (hz : z < 2 ^ (4 * i)) (ht : t < 16) : ov_nb (nI (z + t * 2 ^ (4 * i))) i = t := by
  rw [ov_nbN (ov_lt32 (by omega) (ov_putlt hz ht)), Nat.mul_comm t, Nat.add_mul_div_left _ _ (Nat.two_pow_pos _), Nat.div_eq_of_lt hz, Nat.zero_add, Nat.mod_eq_of_lt ht]
theorem ov_put_lo {z t i j : Nat} (hi : i < 8) (hz : z < 2 ^ (4 * i)) (ht : t < 16) (hj : j < i) : ov_nb (nI (z + t * 2 ^ (4 * i))) j = ov_nb (nI z) j := by
  rw [ov_nbN (ov_lt32 (by omega) (ov_putlt hz ht)), ov_nbN (ov_lt32 (i := i) (by omega) hz)]
  have e : 2 ^ (4 * i) = 2 ^ (4 * j) * (16 * 2 ^ (4 * (i - j - 1))) := by
    rw [show 4 * i = 4 * j + (4 + 4 * (i - j - 1)) from by omega, Nat.pow_add, Nat.pow_add]
  have e2 : t * 2 ^ (4 * i) = 2 ^ (4 * j) * (16 * (t * 2 ^ (4 * (i - j - 1)))) := by
    rw [e, Nat.mul_left_comm, Nat.mul_left_comm t 16]
  rw [e2, Nat.add_mul_div_left _ _ (Nat.two_pow_pos _), Nat.add_mul_mod_self_left]
theorem ov_V_put {z t k : Nat} (hV : ov_V (nI z) k) (hz : z < 2 ^ (4 * k)) (hk : k < 4) (h1 : 1 ≤ t) (h2 : t ≤ 14) : ov_V (nI (z + t * 2 ^ (4 * k))) (k + 1) := by
  have hp := ov_putlt (i := k) hz (by omega : t < 16)
  refine ⟨by omega, ?_, ?_⟩
  · rw [pk_tn (ov_lt32 (i := k + 1) (by omega) hp)]
    exact hp
  · intro i hi
    by_cases e : i = k
    · subst e
      rw [ov_put_at (by omega) hz (by omega)]
      exact ⟨h1, h2⟩
    · rw [ov_put_lo (by omega) hz (by omega) (by omega)]
      exact hV.2.2 i (by omega)
end
section

/-! ===== the deciding phase, the choice ===== -/
def ov_Ph (mc : Nat) (A : Nat → Nat → Prop) (d : Nat) : Prop :=
  (d = 0 ∧ ∀ p, 1 ≤ p → p ≤ 3 → ∀ m, m < mc → ¬ A p m) ∨ (1 ≤ d ∧ d ≤ 3 ∧ (∃ m, m < mc ∧ A d m) ∧ ∀ p, 1 ≤ p → p < d → ∀ m, m < mc → ¬ A p m)
theorem ov_Ph_le {mc : Nat} {A : Nat → Nat → Prop} {d : Nat} (h : ov_Ph mc A d) : d ≤ 3 := by
  rcases h with ⟨h, _⟩ | ⟨_, h, _⟩
  · omega
  · exact h
theorem ov_Ph_u {mc : Nat} {A : Nat → Nat → Prop} {d e : Nat} (h : ov_Ph mc A d) (g : ov_Ph mc A e) : d = e := by
  rcases h with ⟨h0, h⟩ | ⟨h1, h3, ⟨m, hm, ha⟩, h⟩
  · rcases g with ⟨g0, g⟩ | ⟨g1, g3, ⟨q, hq, qa⟩, g⟩
    · omega
    · exact absurd qa (h e g1 g3 q hq)
  · rcases g with ⟨g0, g⟩ | ⟨g1, g3, ⟨q, hq, qa⟩, g⟩
    · exact absurd ha (g d h1 h3 m hm)
    · rcases Nat.lt_trichotomy d e with c | c | c
      · exact absurd ha (g d h1 c m hm)
      · exact c
      · exact absurd qa (h e g1 c q hq)
theorem ov_Ph_ex (mc : Nat) (A : Nat → Nat → Prop) : ∃ d, ov_Ph mc A d := by
  by_cases c : ∃ p, 1 ≤ p ∧ p ≤ 3 ∧ ∃ m, m < mc ∧ A p m
  · obtain ⟨d, ⟨h1, h3, hm⟩, hl⟩ := pk_least _ c
    refine ⟨d, Or.inr ⟨h1, h3, hm, fun p p1 pd m hm' ha => hl p pd ⟨p1, by omega, m, hm', ha⟩⟩⟩
  · exact ⟨0, Or.inl ⟨rfl, fun p p1 p3 m hm ha => c ⟨p, p1, p3, m, hm, ha⟩⟩⟩
def ov_B (mc : Nat) (A : Nat → Prop) (M : Nat → Nat → Prop) (m : Nat) : Prop := ∀ o, o < mc → o ≠ m → A o → M m o ∧ ¬ M o m
def ov_G (mc : Nat) (A : Nat → Prop) (M : Nat → Nat → Prop) (m : Nat) : Prop := A m ∧ ov_B mc A M m
def ov_Ch (mc : Nat) (G : Nat → Prop) (d : Nat) (r : Int32) : Prop :=
  (d = 0 ∧ r = -1) ∨ (1 ≤ d ∧ ((∃ m, m < mc ∧ r = nI m ∧ G m ∧ ∀ q, q < m → ¬ G q) ∨ (r = -2 ∧ ∀ q, q < mc → ¬ G q)))
theorem ov_Ch_u {mc : Nat} {G : Nat → Prop} {d : Nat} {r s : Int32} (h : ov_Ch mc G d r) (g : ov_Ch mc G d s) : r = s := by
  rcases h with ⟨h0, h⟩ | ⟨h1, h⟩
  · rcases g with ⟨g0, g⟩ | ⟨g1, g⟩
    · rw [h, g]
    · omega
  · rcases g with ⟨g0, g⟩ | ⟨g1, g⟩
    · omega
    · rcases h with ⟨m, hm, e, hG, hl⟩ | ⟨e, hn⟩
      · rcases g with ⟨q, hq, f, qG, ql⟩ | ⟨f, qn⟩
        · rcases Nat.lt_trichotomy m q with c | c | c
          · exact absurd hG (ql m c)
          · rw [e, f, c]
          · exact absurd qG (hl q c)
        · exact absurd hG (qn m hm)
      · rcases g with ⟨q, hq, f, qG, ql⟩ | ⟨f, qn⟩
        · exact absurd qG (hn q hq)
        · rw [e, f]
theorem ov_Ch_ex (mc : Nat) (G : Nat → Prop) (d : Nat) : ∃ r, ov_Ch mc G d r := by
  rcases Nat.eq_zero_or_pos d with h | h
  · exact ⟨-1, Or.inl ⟨h, rfl⟩⟩
  · by_cases c : ∃ m, m < mc ∧ G m
    · obtain ⟨m, ⟨h1, h2⟩, hl⟩ := pk_least _ c
      exact ⟨nI m, Or.inr ⟨h, Or.inl ⟨m, h1, rfl, h2, fun q hq g => hl q hq ⟨by omega, g⟩⟩⟩⟩
    · exact ⟨-2, Or.inr ⟨h, Or.inr ⟨rfl, fun q hq g => c ⟨q, hq, g⟩⟩⟩⟩
theorem ov_Ch_v {mc : Nat} {G : Nat → Prop} {d : Nat} {r : Int32} (h : ov_Ch mc G d r) : (∃ m, m < mc ∧ r = nI m) ∨ r = -1 ∨ r = -2 := by
  rcases h with ⟨_, h⟩ | ⟨_, ⟨m, hm, e, _⟩ | ⟨e, _⟩⟩
  · exact Or.inr (Or.inl h)
  · exact Or.inl ⟨m, hm, e⟩
  · exact Or.inr (Or.inr e)
/-! ===== sets of methods as bits ===== -/
theorem ov_one : ∀ m, m < 32 → ∀ j, j < 32 → bt ((1 : Int32) <<< (nI m &&& 31)) j = decide (j = m) := by decide +kernel
theorem ov_bit (k : Int32) {m : Nat} (hm : m < 32) : (k &&& ((1 : Int32) <<< (nI m &&& 31))) = 0 ↔ bt k m = false := by
  rw [← Int32.toBitVec_inj, Int32.toBitVec_and, nf_sh m hm, BitVec.and_twoPow]
  unfold bt
  show _ = 0#32 ↔ _
  cases hb : k.toBitVec.getLsbD m
  · exact ⟨fun _ => rfl, fun _ => by simp⟩
  · exact ⟨fun z => absurd ((if_pos rfl).symm.trans z) (nf_tp m hm), fun z => absurd z (by decide)⟩
theorem ov_set (k : Int32) {m j : Nat} (hm : m < 32) (hj : j < 32) : bt (k ||| ((1 : Int32) <<< (nI m &&& 31))) j = (bt k j || decide (j = m)) := by
  rw [b_or, ov_one m hm j hj]
/-! ===== a program in its order: P j nodes are wanting ahead of node j ===== -/
def ov_P (g P : Nat → Nat) (nc : Nat) : Prop := P 0 = 1 ∧ ∀ j, j < nc → 1 ≤ P j ∧ P (j + 1) + 1 = P j + g j
def ov_E (P : Nat → Nat) (j e : Nat) : Prop := j < e ∧ P e + 1 = P j ∧ ∀ k, j ≤ k → k < e → P j ≤ P k
theorem ov_P_le {g P : Nat → Nat} {nc : Nat} (h : ov_P g P nc) (hg : ∀ j, j < nc → g j ≤ 4) : ∀ j, j ≤ nc → P j ≤ 1 + 3 * j := by
  intro j
  induction j with
  | zero => intro _; rw [h.1]; omega
  | succ j ih =>
    intro hj
    have a := ih (by omega)
    have b := (h.2 j (by omega)).2
    have c := hg j (by omega)
    omega
theorem ov_E_u {P : Nat → Nat} {j e f : Nat} (h : ov_E P j e) (g : ov_E P j f) : e = f := by
  obtain ⟨h1, h2, h3⟩ := h
  obtain ⟨g1, g2, g3⟩ := g
  rcases Nat.lt_trichotomy e f with c | c | c
  · have := g3 e (by omega) c
    omega
  · exact c
  · have := h3 f (by omega) c
    omega
/-- a children so far: the next place ch, c of them in all -/
def ov_K (P : Nat → Nat) (i c a ch : Nat) : Prop := i < ch ∧ P ch + a + 1 = P i + c ∧ ∀ k, i ≤ k → k < ch → P i ≤ P k
theorem ov_K_0 {g P : Nat → Nat} {nc i : Nat} (h : ov_P g P nc) (hi : i < nc) : ov_K P i (g i) 0 (i + 1) := by
  have a := (h.2 i hi).2
  refine ⟨by omega, by omega, fun k h1 h2 => ?_⟩
  have : k = i := by omega
  subst this
  exact Nat.le_refl _
theorem ov_K_s {P : Nat → Nat} {i c a ch e : Nat} (h : ov_K P i c a ch) (ha : a < c) (he : ov_E P ch e) : ov_K P i c (a + 1) e := by
  obtain ⟨h1, h2, h3⟩ := h
  obtain ⟨g1, g2, g3⟩ := he
  refine ⟨by omega, by omega, fun k k1 k2 => ?_⟩
  rcases Nat.lt_or_ge k ch with z | z
  · exact h3 k k1 z
  · have := g3 k z k2
    omega
theorem ov_K_in {g P : Nat → Nat} {nc i c a ch : Nat} (h : ov_P g P nc) (h0 : P nc = 0) (hi : i < nc) (hk : ov_K P i c a ch) (ha : a < c) (hc : ch ≤ nc) : ch < nc := by
  have p := (h.2 i hi).1
  have q := hk.2.1
  rcases Nat.lt_or_ge ch nc with z | z
  · exact z
  · have : ch = nc := by omega
    subst this
    omega
theorem ov_K_e {P : Nat → Nat} {i c ch : Nat} (h : ov_K P i c c ch) : ov_E P i ch := ⟨h.1, by have := h.2.1; omega, h.2.2⟩
/-! ===== the arguments of a call ===== -/
def ov_cs (E : Nat → Nat) (i : Nat) : Nat → Nat
  | 0 => i + 1
  | a + 1 => E (ov_cs E i a)
def ov_sm (v : Nat → Int64) : Nat → Int64
  | 0 => 0
  | a + 1 => ov_sm v a + v a
def ov_zt (t : Nat → Nat) : Nat → Nat
  | 0 => 0
  | a + 1 => ov_zt t a + t a * 2 ^ (4 * a)
theorem ov_zt_lt (t : Nat → Nat) (ht : ∀ b, t b < 16) : ∀ a, ov_zt t a < 2 ^ (4 * a) := by
  intro a
  induction a with
  | zero => exact Nat.one_pos
  | succ a ih => exact ov_putlt ih (ht a)
theorem ov_zt_V (t : Nat → Nat) (ht : ∀ b, t b < 16) : ∀ a, a ≤ 4 → (∀ b, b < a → 1 ≤ t b ∧ t b ≤ 14) → ov_V (nI (ov_zt t a)) a := by
  intro a
  induction a with
  | zero => intro _ _; exact ov_V_0
  | succ a ih =>
    intro h4 h
    exact ov_V_put (ih (by omega) (fun b hb => h b (by omega))) (ov_zt_lt t ht a) (by omega) (h a (by omega)).1 (h a (by omega)).2
end
section
/-! ===== X: what needs no state ===== -/
def ov_S (s t : Nat) : Prop := s = t ∨ (t = 2 ∧ s = 1) ∨ (t = 4 ∧ s < 4) ∨ (t = 5 ∧ s < 5) ∨ (t = 13 ∧ (s = 7 ∨ s = 8 ∨ s = 10 ∨ s = 11)) ∨ (t = 14 ∧ 7 ≤ s)
def ov_C (a p ph : Nat) : Prop := ov_S a p ∨ (ph ≠ 1 ∧ ((a ≤ 6 ∧ ov_S (a + 6) p) ∨ (7 ≤ a ∧ a ≤ 12 ∧ ov_S (a - 6) p)))
def ov_N (t : Nat) (v : Int64) : Int64 := if t = 1 ∨ t = 7 then v.toInt32.toInt8.toInt32.toInt64 else if t = 2 ∨ t = 8 then v.toInt32.toInt16.toInt32.toInt64 else if t = 3 ∨ t = 9 then v &&& 65535 else if t = 4 ∨ t = 10 then v.toInt32.toInt64 else if t = 6 ∨ t = 12 then v &&& 1 else v
theorem ov_ec {m : Nat} (h : m < 2 ^ 31) : (nI m).toNatClampNeg = m := nI_clamp h
theorem xs_typeAt {post : Int32 → Prop} {x' x p : Int32} {i : Nat} (hx : x' = x) (hp : p = nI i) (hi : i < 8) (h : post (nI (ov_nb x i))) : wpX_typeAt post () x' p := by
  subst hx hp
  unfold wpX_typeAt
  rw [ov_tx x' hi]
  exact h
theorem xs_isTypeN {post : Int32 → Prop} {n : Nat} (hn : n < 2 ^ 31) (h1 : 1 ≤ n → n ≤ 14 → post 1) (h0 : (n < 1 ∨ 14 < n) → post 0) : wpX_isType post () (nI n) :=
  pk_lt n 1 (fun a => h0 (Or.inl a)) (fun a => pk_lt 14 n (fun b => h0 (Or.inr b)) (fun b => h1 a b))
theorem xs_ll {post : Int32 → Prop} {x : Int32} (h : ∀ l, l ≤ 4 → (∀ i, i < l → ov_nb x i ≠ 0) → (l < 4 → ov_nb x l = 0) → post (nI l)) : ∀ d l, l + d = 4 → (∀ i, i < l → ov_nb x i ≠ 0) → wX_listLength_2 post x (d + 1) (nI l) := by
  intro d
  induction d with
  | zero =>
    intro l hl ha
    exact br_t (nI_le (a := 4) (by omega) (by omega)) (h l (by omega) ha (by omega))
  | succ d ih =>
    intro l hl ha
    have hb := ov_nb_lt x l
    refine br_f (nI_ge (b := 4) (by omega) (by decide)) (xs_typeAt rfl rfl (by omega) ?_)
    refine pk_eq (ov_nb x l) 0 (fun z => h l (by omega) ha (fun _ => z)) (fun z => nm_r (nI_1 l) (ih (l + 1) (by omega) (fun i hi => ?_)))
    by_cases e : i = l
    · rw [e]; exact z
    · exact ha i (by omega)
theorem xs_listLength {post : Int32 → Prop} {x : Int32} (h : ∀ l, l ≤ 4 → (∀ i, i < l → ov_nb x i ≠ 0) → (l < 4 → ov_nb x l = 0) → post (nI l)) : wpX_listLength post () x :=
  ⟨5, xs_ll h 4 0 rfl (fun i hi => absurd hi (by omega))⟩
theorem xs_listLength_V {post : Int32 → Prop} {x : Int32} {L : Nat} (hV : ov_V x L) (h : post (nI L)) : wpX_listLength post () x :=
  xs_listLength (fun l _ ha hb => by rw [← ov_V_x hV ha hb]; exact h)
theorem xs_isTypeList {post : Int32 → Prop} {x : Int32} (h1 : ∀ L, ov_V x L → post 1) (h0 : (∀ L, ¬ ov_V x L) → post 0) : wpX_isTypeList post () x := by
  unfold wpX_isTypeList
  refine xs_listLength (fun l h4 ha hb => ⟨l + 1, ?_⟩)
  have key : ∀ d i, i + d = l → (∀ j, j < i → 1 ≤ ov_nb x j ∧ ov_nb x j ≤ 14) → wX_isTypeList_7 post x (nI l) (d + 1) (nI i) := by
    intro d
    induction d with
    | zero =>
      intro i hi hj
      refine br_t (nI_le (by omega) (by omega)) ?_
      refine br_c (fun z => h1 l ⟨h4, (ov_sz x (by omega)).mp z, fun j hj' => hj j (by omega)⟩) (fun z => h0 (fun L hL => z ((ov_sz x (by omega)).mpr ?_)))
      rw [← ov_V_x hL ha hb]
      exact hL.2.1
    | succ d ih =>
      intro i hi hj
      have hn := ov_nb_lt x i
      have hz := ha i (by omega)
      refine br_f (nI_ge (by omega) (by omega)) (xs_typeAt rfl rfl (by omega) ?_)
      refine xs_isTypeN (by omega) (fun t1 t2 => br_f (by decide) (nm_r (nI_1 i) (ih (i + 1) (by omega) (fun j hj' => ?_)))) (fun z => br_t rfl (h0 (fun L hL => ?_)))
      · by_cases e : j = i
        · rw [e]; exact ⟨t1, t2⟩
        · exact hj j (by omega)
      · have e := ov_V_x hL ha hb
        have c := hL.2.2 i (by omega)
        omega
  exact key l 0 (by omega) (fun j hj => absurd hj (by omega))
/-- z: the places of the list p of k types -/
def ov_R (p z : Int32) (k : Nat) : Prop := (∀ j, j < k → ov_nb z j = ov_nb p j) ∧ (1 ≤ k → ∀ j, k ≤ j → j ≤ 4 → ov_nb z j = ov_nb p (k - 1))
theorem xs_rl {post : Int32 → Prop} {p : Int32} {k : Nat} (hV : ov_V p k) (hk : 1 ≤ k) (h : ∀ z, ov_R p z k → post z) : ∀ d i z, i + d = 5 → k ≤ i → z < 2 ^ (4 * i) → (∀ j, j < k → ov_nb (nI z) j = ov_nb p j) → (∀ j, k ≤ j → j < i → ov_nb (nI z) j = ov_nb p (k - 1)) → wX_repeatLast_9 post p (nI k) (d + 1) (nI z) (nI i) := by
  intro d
  induction d with
  | zero =>
    intro i z hi hki hz ha hb
    exact br_f (nI_nle (by omega) (by omega)) (br_t (nI_lt (a := 4) (by omega) (by omega)) (h _ ⟨ha, fun _ j h1 h2 => hb j h1 (by omega)⟩))
  | succ d ih =>
    intro i z hi hki hz ha hb
    have ht := ov_nb_lt p (k - 1)
    refine br_f (nI_nle (by omega) (by omega)) (br_f (nI_nlt (a := 4) (by omega) (by omega)) ?_)
    refine xs_typeAt rfl (pk_sub (b := 1) hk) (by have := hV.1; omega) ?_
    refine nm_r (ov_put (by omega) hz ht) (nm_r (nI_1 i) (ih (i + 1) _ (by omega) (by omega) (ov_putlt hz ht) (fun j hj => ?_) (fun j h1 h2 => ?_)))
    · rw [ov_put_lo (by omega) hz ht (by omega)]
      exact ha j hj
    · by_cases e : j = i
      · rw [e, ov_put_at (by omega) hz ht]
      · rw [ov_put_lo (by omega) hz ht (by omega)]
        exact hb j h1 (by omega)
theorem xs_repeatLast {post : Int32 → Prop} {p : Int32} {k : Nat} (hV : ov_V p k) (h : ∀ z, ov_R p z k → post z) : wpX_repeatLast post () p := by
  unfold wpX_repeatLast
  refine xs_listLength_V hV ?_
  rcases Nat.eq_zero_or_pos k with e | e
  · subst e
    exact ⟨1, br_t (nI_le (a := 0) (b := 0) (by omega) (by omega)) (h p ⟨fun j hj => absurd hj (by omega), fun hj => absurd hj (by omega)⟩)⟩
  · refine ⟨(5 - k) + 1, ?_⟩
    have hp := ov_e p
    have := xs_rl hV e h (5 - k) k p.toBitVec.toNat (by have := hV.1; omega) (Nat.le_refl k) hV.2.1 (fun j hj => by rw [← hp]) (fun j h1 h2 => absurd h1 (by omega))
    rw [← hp] at this
    exact this
theorem xs_sub {post : Int32 → Prop} {s t : Nat} (s1 : 1 ≤ s) (s2 : s ≤ 14) (t1 : 1 ≤ t) (t2 : t ≤ 14) (h1 : ov_S s t → post 1) (h0 : ¬ ov_S s t → post 0) : wpX_isSubtype post () (nI s) (nI t) := by
  unfold ov_S at h1 h0
  refine pk_eq s t (fun a => ?_) (fun a => pk_lt t 2 (fun b => ?_) (fun b => pk_lt 14 t (fun c => ?_) (fun c => pk_eq t 2 (fun d => pk_eq s 1 (fun e => ?_) (fun e => ?_)) (fun d2 => pk_eq t 3 (fun e => ?_) (fun d3 => pk_eq t 4 (fun e => pk_le 4 s (fun f => ?_) (fun f => ?_)) (fun d4 => pk_eq t 5 (fun e => pk_le 5 s (fun f => ?_) (fun f => ?_)) (fun d5 => pk_eq t 6 (fun e => ?_) (fun d6 => pk_eq t 7 (fun e => ?_) (fun d7 => pk_eq t 8 (fun e => ?_) (fun d8 => pk_eq t 9 (fun e => ?_) (fun d9 => pk_eq t 10 (fun e => ?_) (fun d10 => pk_eq t 11 (fun e => ?_) (fun d11 => pk_eq t 12 (fun e => ?_) (fun d12 => pk_eq t 13 (fun e => pk_eq s 7 (fun f => ?_) (fun f7 => pk_eq s 8 (fun f => ?_) (fun f8 => pk_eq s 10 (fun f => ?_) (fun f10 => pk_eq s 11 (fun f => ?_) (fun f => ?_))))) (fun d13 => pk_eq t 14 (fun e => pk_lt s 7 (fun f => ?_) (fun f => ?_)) (fun d14 => trivial))))))))))))))))
  all_goals first | exact h1 (by omega) | exact h0 (by omega)
theorem ov_C1 {a p ph : Nat} (h : ov_S a p) : ov_C a p ph := Or.inl h
theorem xs_compat {post : Int32 → Prop} {a p ph : Nat} (a1 : 1 ≤ a) (a2 : a ≤ 14) (p1 : 1 ≤ p) (p2 : p ≤ 14) (hp : ph < 4) (h1 : ov_C a p ph → post 1) (h0 : ¬ ov_C a p ph → post 0) : wpX_isCompatible post () (nI a) (nI p) (nI ph) := by
  unfold wpX_isCompatible
  unfold ov_C at h1 h0
  refine xs_sub a1 a2 p1 p2 (fun s => br_f (by decide) (h1 (Or.inl s))) (fun s => br_t rfl ?_)
  refine pk_eq ph 1 (fun e => h0 (fun c => c.elim s (fun c => c.1 e))) (fun e => ?_)
  refine pk_le a 12 (fun f => ?_) (fun f => h0 (fun c => c.elim s (fun c => c.2.elim (fun c => by omega) (fun c => by omega))))
  refine pk_lt 6 a (fun g => br_t rfl ?_) (fun g => br_f (by decide) ?_)
  · show wX_isCompatible_50 post (nI p) (nI a - nI 6)
    rw [pk_sub (by omega)]
    exact xs_sub (by omega) (by omega) p1 p2 (fun c => ⟨rfl, h1 (Or.inr ⟨e, Or.inr ⟨by omega, f, c⟩⟩)⟩) (fun c => ⟨rfl, h0 (fun d => d.elim s (fun d => d.2.elim (fun d => by omega) (fun d => c d.2.2)))⟩)
  · show wX_isCompatible_50 post (nI p) (nI a + nI 6)
    rw [nI_add]
    exact xs_sub (by omega) (by omega) p1 p2 (fun c => ⟨rfl, h1 (Or.inr ⟨e, Or.inl ⟨by omega, c⟩⟩)⟩) (fun c => ⟨rfl, h0 (fun d => d.elim s (fun d => d.2.elim (fun d => c d.2) (fun d => by omega)))⟩)
theorem xs_narrow {post : Int64 → Prop} {t : Nat} {v : Int64} (t1 : 1 ≤ t) (t2 : t ≤ 14) (h : post (ov_N t v)) : wpX_narrow post () (nI t) v := by
  refine pk_lt t 1 (fun a => absurd a (by omega)) (fun a => pk_lt 12 t (fun b => ?_) (fun b => pk_eq t 1 (fun e => ?_) (fun d1 => pk_eq t 2 (fun e => ?_) (fun d2 => pk_eq t 3 (fun e => ?_) (fun d3 => pk_eq t 4 (fun e => ?_) (fun d4 => pk_eq t 5 (fun e => ?_) (fun d5 => pk_eq t 6 (fun e => ?_) (fun d6 => pk_eq t 7 (fun e => ?_) (fun d7 => pk_eq t 8 (fun e => ?_) (fun d8 => pk_eq t 9 (fun e => ?_) (fun d9 => pk_eq t 10 (fun e => ?_) (fun d10 => pk_eq t 11 (fun e => ?_) (fun d11 => pk_eq t 12 (fun e => ?_) (fun d12 => trivial))))))))))))))
  · have c : t = 13 ∨ t = 14 := by omega
    rcases c with rfl | rfl <;> exact h
  all_goals (subst e; exact h)
end
section
/-! ===== the table of methods: ln m types each ===== -/
def ov_M (mc : Nat) (pm pl vr : Nat → Int32) (ln : Nat → Nat) : Prop := ∀ m, m < mc → ov_V (pm m) (ln m) ∧ (vr m = 0 ∨ (vr m = 1 ∧ 1 ≤ ln m)) ∧ ov_R (pm m) (pl m) (ln m)
theorem ov_M_ty {mc : Nat} {pm pl vr : Nat → Int32} {ln : Nat → Nat} (hM : ov_M mc pm pl vr ln) {m i : Nat} (hm : m < mc) (hi : i ≤ 4) (h : i < ln m ∨ ¬ vr m = 0) : 1 ≤ ov_nb (pl m) i ∧ ov_nb (pl m) i ≤ 14 := by
  obtain ⟨hV, hv, hR⟩ := hM m hm
  rcases Nat.lt_or_ge i (ln m) with c | c
  · rw [hR.1 i c]
    exact hV.2.2 i c
  · have hl : 1 ≤ ln m := by
      rcases hv with e | e
      · rcases h with h | h
        · omega
        · exact absurd e h
      · exact e.2
    rw [hR.2 hl i c hi]
    exact hV.2.2 _ (by omega)
def ov_A (pl vr : Nat → Int32) (ln : Nat → Nat) (ty : Int32) (n ph m : Nat) : Prop := (ph = 3 → ¬ vr m = 0 ∧ ln m ≤ n + 1) ∧ (¬ ph = 3 → vr m = 0 ∧ ln m = n) ∧ ∀ i, i < n → ov_C (ov_nb ty i) (ov_nb (pl m) i) ph
def ov_T (nm pl vr : Nat → Int32) (ln : Nat → Nat) (x ty : Int32) (n ph m : Nat) : Prop := nm m = x ∧ ov_A pl vr ln ty n ph m
def ov_lim (n ph : Nat) : Nat := if ph = 3 then n + 1 else n
def ov_MS (pl : Nat → Int32) (lim m o : Nat) : Prop := ∀ i, i < lim → ov_S (ov_nb (pl m) i) (ov_nb (pl o) i)
def ov_W (nm pl vr : Nat → Int32) (ln : Nat → Nat) (mc : Nat) (x ty : Int32) (n ph m : Nat) : Prop := ov_G mc (ov_T nm pl vr ln x ty n ph) (ov_MS pl (ov_lim n ph)) m
theorem ov_A_in {mc : Nat} {pm pl vr : Nat → Int32} {ln : Nat → Nat} {ty : Int32} {n ph m : Nat} (hM : ov_M mc pm pl vr ln) (hm : m < mc) (hn : n ≤ 4) (h : ov_A pl vr ln ty n ph m) : ∀ i, i < ov_lim n ph → 1 ≤ ov_nb (pl m) i ∧ ov_nb (pl m) i ≤ 14 := by
  intro i hi
  unfold ov_lim at hi
  by_cases e : ph = 3
  · rw [if_pos e] at hi
    exact ov_M_ty hM hm (by omega) (Or.inr (h.1 e).1)
  · rw [if_neg e] at hi
    have := (h.2.1 e).2
    exact ov_M_ty hM hm (by omega) (Or.inl (by omega))
theorem ov_lim_le {n ph : Nat} (hn : n ≤ 4) : ov_lim n ph ≤ 5 := by
  unfold ov_lim
  by_cases e : ph = 3
  · rw [if_pos e]; omega
  · rw [if_neg e]; omega
theorem ov_lt_s {p : Nat → Prop} {i : Nat} (h : ∀ j, j < i → p j) (hi : p i) : ∀ j, j < i + 1 → p j := by
  intro j hj
  by_cases e : j = i
  · rw [e]; exact hi
  · exact h j (by omega)
section
variable {x_methodCapacity x_nodeCapacity x_methods x_pickedPhase x_nodes x_missingNodes x_resolved : Int32} {x_methodName x_methodParams x_methodPlaces x_methodReturn x_methodConstant x_methodVarargs x_callName x_callArgc x_literalType : Nat → Int32} {x_literalValue : Nat → Int64} {x_subtreeEnd x_resultStatus x_resultMethod x_resultType x_resultPhase : Nat → Int32} {x_resultValue : Nat → Int64}
theorem xa_loop {post : Int32 → Prop} {mc m n ph : Nat} {ln : Nat → Nat} {ty : Int32} (hm : m < mc) (h16 : mc ≤ 16) (hM : ov_M mc x_methodParams x_methodPlaces x_methodVarargs ln) (hV : ov_V ty n) (hp : ph < 4) (hx : n ≤ ln m ∨ ¬ x_methodVarargs m = 0) (h1 : (∀ i, i < n → ov_C (ov_nb ty i) (ov_nb (x_methodPlaces m) i) ph) → post 1) (h0 : ¬ (∀ i, i < n → ov_C (ov_nb ty i) (ov_nb (x_methodPlaces m) i) ph) → post 0) : ∀ d i, i + d = n → (∀ j, j < i → ov_C (ov_nb ty j) (ov_nb (x_methodPlaces m) j) ph) → wX_isApplicable_71 post (nI m) ty (nI ph) (nI n) x_methodCapacity x_nodeCapacity x_methods x_pickedPhase x_nodes x_missingNodes x_resolved x_methodName x_methodParams x_methodPlaces x_methodReturn x_methodConstant x_methodVarargs x_callName x_callArgc x_literalType x_literalValue x_subtreeEnd x_resultStatus x_resultMethod x_resultType x_resultPhase x_resultValue (d + 1) (nI i) := by
  have ec : (nI m).toNatClampNeg = m := nI_clamp (by omega)
  have h4 := hV.1
  intro d
  induction d with
  | zero =>
    intro i hi hj
    exact br_t (nI_le (by omega) (by omega)) (h1 (fun j hj' => hj j (by omega)))
  | succ d ih =>
    intro i hi hj
    have ht := hV.2.2 i (by omega)
    have hq := ov_M_ty hM hm (i := i) (by omega) (hx.elim (fun c => Or.inl (by omega)) Or.inr)
    refine br_f (nI_ge (by omega) (by omega)) (xs_typeAt rfl rfl (by omega) ⟨vp_in_nI (by omega) (by omega), xs_typeAt (congrArg x_methodPlaces ec) rfl (by omega) ?_⟩)
    exact xs_compat ht.1 ht.2 hq.1 hq.2 hp (fun c => br_f (by decide) (nm_r (nI_1 i) (ih (i + 1) (by omega) (ov_lt_s hj c)))) (fun c => br_t rfl (h0 (fun z => c (z i (by omega)))))
theorem xs_isApplicable {post : Int32 → Prop} {mc m n ph : Nat} {ln : Nat → Nat} {ty : Int32} (hm : m < mc) (h16 : mc ≤ 16) (hM : ov_M mc x_methodParams x_methodPlaces x_methodVarargs ln) (hV : ov_V ty n) (hp : ph < 4) (h1 : ov_A x_methodPlaces x_methodVarargs ln ty n ph m → post 1) (h0 : ¬ ov_A x_methodPlaces x_methodVarargs ln ty n ph m → post 0) : wpX_isApplicable post (x_methodCapacity, x_nodeCapacity, x_methods, x_pickedPhase, x_nodes, x_missingNodes, x_resolved, x_methodName, x_methodParams, x_methodPlaces, x_methodReturn, x_methodConstant, x_methodVarargs, x_callName, x_callArgc, x_literalType, x_literalValue, x_subtreeEnd, x_resultStatus, x_resultMethod, x_resultType, x_resultPhase, x_resultValue) (nI m) ty (nI ph) := by
  have ec : (nI m).toNatClampNeg = m := nI_clamp (by omega)
  have h4 := hV.1
  have hL := (hM m hm).1.1
  unfold wpX_isApplicable
  refine xs_listLength_V hV ⟨vp_in_nI (by omega) (by omega), ?_⟩
  refine xs_listLength_V (L := ln m) (by rw [ec]; exact (hM m hm).1) ⟨vp_in_nI (by omega) (by omega), ?_⟩
  refine nm_r (congrArg x_methodVarargs ec) ?_
  rcases (hM m hm).2.1 with e | ⟨e, el⟩
  · refine pk_eq ph 3 (fun z => br_f (by rw [e]; decide) (h0 (fun A => (A.1 z).1 e))) (fun z => br_t e (br_t e ?_))
    refine pk_eq n (ln m) (fun q => ⟨n + 1, ?_⟩) (fun q => h0 (fun A => q (A.2.1 z).2.symm))
    exact xa_loop hm h16 hM hV hp (Or.inl (by omega)) (fun c => h1 ⟨fun y => absurd y z, fun _ => ⟨e, q.symm⟩, c⟩) (fun c => h0 (fun A => c A.2.2)) n 0 (by omega) (fun j hj => absurd hj (by omega))
  · have e0 : ¬ x_methodVarargs m = 0 := by rw [e]; decide
    refine pk_eq ph 3 (fun z => br_t e (br_f e0 ?_)) (fun z => br_f e0 (h0 (fun A => e0 (A.2.1 z).1)))
    refine pk_le (ln m - 1) n (fun q => ⟨n + 1, ?_⟩) (fun q => h0 (fun A => absurd (A.1 z).2 (by omega))) (pk_sub (b := 1) el)
    exact xa_loop hm h16 hM hV hp (Or.inr e0) (fun c => h1 ⟨fun _ => ⟨e0, by omega⟩, fun y => absurd z y, c⟩) (fun c => h0 (fun A => c A.2.2)) n 0 (by omega) (fun j hj => absurd hj (by omega))
theorem xd_in {post J : Int32 → Prop} {mc n ph : Nat} {ln : Nat → Nat} {x ty : Int32} (h16 : mc ≤ 16) (hM : ov_M mc x_methodParams x_methodPlaces x_methodVarargs ln) (hV : ov_V ty n) (hp : ph < 4) (h1 : (∃ m, m < mc ∧ ov_T x_methodName x_methodPlaces x_methodVarargs ln x ty n ph m) → post (nI ph)) (hJ : (∀ m, m < mc → ¬ ov_T x_methodName x_methodPlaces x_methodVarargs ln x ty n ph m) → J (nI (ph + 1))) : ∀ d m, m + d = mc → (∀ q, q < m → ¬ ov_T x_methodName x_methodPlaces x_methodVarargs ln x ty n ph q) → wX_decidingPhase_10 post J x ty (nI ph) x_methodCapacity x_nodeCapacity (nI mc) x_pickedPhase x_nodes x_missingNodes x_resolved x_methodName x_methodParams x_methodPlaces x_methodReturn x_methodConstant x_methodVarargs x_callName x_callArgc x_literalType x_literalValue x_subtreeEnd x_resultStatus x_resultMethod x_resultType x_resultPhase x_resultValue (d + 1) (nI m) := by
  intro d
  induction d with
  | zero =>
    intro m hm hq
    exact br_t (nI_le (by omega) (by omega)) (nm_r (nI_1 ph) (hJ (fun q h => hq q (by omega))))
  | succ d ih =>
    intro m hm hq
    have ec : (nI m).toNatClampNeg = m := nI_clamp (by omega)
    refine br_f (nI_ge (by omega) (by omega)) ⟨vp_in_nI (by omega) (by omega), br_c (fun e => ?_) (fun e => ?_)⟩
    · rw [ec] at e
      exact xs_isApplicable (by omega) h16 hM hV hp (fun a => br_f (by decide) (h1 ⟨m, by omega, e, a⟩)) (fun a => br_t rfl (nm_r (nI_1 m) (ih (m + 1) (by omega) (ov_lt_s hq (fun t => a t.2)))))
    · rw [ec] at e
      exact nm_r (nI_1 m) (ih (m + 1) (by omega) (ov_lt_s hq (fun t => e t.1)))
theorem xd_out {post : Int32 → Prop} {mc n : Nat} {ln : Nat → Nat} {x ty : Int32} (h16 : mc ≤ 16) (hM : ov_M mc x_methodParams x_methodPlaces x_methodVarargs ln) (hV : ov_V ty n) (h : ∀ d, ov_Ph mc (ov_T x_methodName x_methodPlaces x_methodVarargs ln x ty n) d → post (nI d)) : ∀ d ph, ph + d = 4 → 1 ≤ ph → (∀ p, 1 ≤ p → p < ph → ∀ m, m < mc → ¬ ov_T x_methodName x_methodPlaces x_methodVarargs ln x ty n p m) → wX_decidingPhase_2 post x ty x_methodCapacity x_nodeCapacity (nI mc) x_pickedPhase x_nodes x_missingNodes x_resolved x_methodName x_methodParams x_methodPlaces x_methodReturn x_methodConstant x_methodVarargs x_callName x_callArgc x_literalType x_literalValue x_subtreeEnd x_resultStatus x_resultMethod x_resultType x_resultPhase x_resultValue (d + 1) (nI ph) := by
  intro d
  induction d with
  | zero =>
    intro ph hd h1 hq
    exact br_t (nI_lt (a := 3) (by omega) (by omega)) (h 0 (Or.inl ⟨rfl, fun p p1 p3 => hq p p1 (by omega)⟩))
  | succ d ih =>
    intro ph hd h1 hq
    refine br_f (nI_nlt (a := 3) (by omega) (by omega)) ⟨mc + 1, ?_⟩
    refine xd_in h16 hM hV (by omega) (fun c => h ph (Or.inr ⟨h1, by omega, c, hq⟩)) (fun c => ih (ph + 1) (by omega) (by omega) (fun p p1 p2 => ?_)) mc 0 (by omega) (fun q hq' => absurd hq' (by omega))
    by_cases e : p = ph
    · rw [e]; exact c
    · exact hq p p1 (by omega)
theorem xs_decidingPhase {post : Int32 → Prop} {mc n : Nat} {ln : Nat → Nat} {x ty : Int32} (h16 : mc ≤ 16) (hM : ov_M mc x_methodParams x_methodPlaces x_methodVarargs ln) (hV : ov_V ty n) (h : ∀ d, ov_Ph mc (ov_T x_methodName x_methodPlaces x_methodVarargs ln x ty n) d → post (nI d)) : wpX_decidingPhase post (x_methodCapacity, x_nodeCapacity, nI mc, x_pickedPhase, x_nodes, x_missingNodes, x_resolved, x_methodName, x_methodParams, x_methodPlaces, x_methodReturn, x_methodConstant, x_methodVarargs, x_callName, x_callArgc, x_literalType, x_literalValue, x_subtreeEnd, x_resultStatus, x_resultMethod, x_resultType, x_resultPhase, x_resultValue) x ty :=
  ⟨4, xd_out h16 hM hV h 3 1 (by omega) (by omega) (fun p p1 p2 => absurd p1 (by omega))⟩
theorem xp_loop {post : Int32 → Prop} {m o lim : Nat} (hm : m < 16) (ho : o < 16) (hl : lim ≤ 5) (rm : ∀ i, i < lim → 1 ≤ ov_nb (x_methodPlaces m) i ∧ ov_nb (x_methodPlaces m) i ≤ 14) (ro : ∀ i, i < lim → 1 ≤ ov_nb (x_methodPlaces o) i ∧ ov_nb (x_methodPlaces o) i ≤ 14) (h1 : ov_MS x_methodPlaces lim m o → post 1) (h0 : ¬ ov_MS x_methodPlaces lim m o → post 0) : ∀ d i, i + d = lim → (∀ j, j < i → ov_S (ov_nb (x_methodPlaces m) j) (ov_nb (x_methodPlaces o) j)) → wX_isAsSpecific_3 post (nI m) (nI o) (nI lim) x_methodCapacity x_nodeCapacity x_methods x_pickedPhase x_nodes x_missingNodes x_resolved x_methodName x_methodParams x_methodPlaces x_methodReturn x_methodConstant x_methodVarargs x_callName x_callArgc x_literalType x_literalValue x_subtreeEnd x_resultStatus x_resultMethod x_resultType x_resultPhase x_resultValue (d + 1) (nI i) := by
  have em : (nI m).toNatClampNeg = m := nI_clamp (by omega)
  have eo : (nI o).toNatClampNeg = o := nI_clamp (by omega)
  intro d
  induction d with
  | zero =>
    intro i hi hj
    exact br_t (nI_le (by omega) (by omega)) (h1 (fun j hj' => hj j (by omega)))
  | succ d ih =>
    intro i hi hj
    have a := rm i (by omega)
    have b := ro i (by omega)
    refine br_f (nI_ge (by omega) (by omega)) ⟨vp_in_nI hm (by omega), xs_typeAt (congrArg x_methodPlaces em) rfl (by omega) ⟨vp_in_nI ho (by omega), xs_typeAt (congrArg x_methodPlaces eo) rfl (by omega) ?_⟩⟩
    exact xs_sub a.1 a.2 b.1 b.2 (fun c => br_f (by decide) (nm_r (nI_1 i) (ih (i + 1) (by omega) (ov_lt_s hj c)))) (fun c => br_t rfl (h0 (fun z => c (z i (by omega)))))
theorem xs_isAsSpecific {post : Int32 → Prop} {m o lim : Nat} (hm : m < 16) (ho : o < 16) (hl : lim ≤ 5) (rm : ∀ i, i < lim → 1 ≤ ov_nb (x_methodPlaces m) i ∧ ov_nb (x_methodPlaces m) i ≤ 14) (ro : ∀ i, i < lim → 1 ≤ ov_nb (x_methodPlaces o) i ∧ ov_nb (x_methodPlaces o) i ≤ 14) (h1 : ov_MS x_methodPlaces lim m o → post 1) (h0 : ¬ ov_MS x_methodPlaces lim m o → post 0) : wpX_isAsSpecific post (x_methodCapacity, x_nodeCapacity, x_methods, x_pickedPhase, x_nodes, x_missingNodes, x_resolved, x_methodName, x_methodParams, x_methodPlaces, x_methodReturn, x_methodConstant, x_methodVarargs, x_callName, x_callArgc, x_literalType, x_literalValue, x_subtreeEnd, x_resultStatus, x_resultMethod, x_resultType, x_resultPhase, x_resultValue) (nI m) (nI o) (nI lim) :=
  ⟨lim + 1, xp_loop hm ho hl rm ro h1 h0 lim 0 (by omega) (fun j hj => absurd hj (by omega))⟩
theorem xb_loop {post : Int32 → Prop} {mc m lim : Nat} {mk : Int32} {G : Nat → Prop} (h16 : mc ≤ 16) (hm : m < mc) (hl : lim ≤ 5) (hk : ∀ o, o < mc → (bt mk o = true ↔ G o)) (hG : ∀ o, o < mc → G o → ∀ i, i < lim → 1 ≤ ov_nb (x_methodPlaces o) i ∧ ov_nb (x_methodPlaces o) i ≤ 14) (gm : G m) (h1 : ov_B mc G (ov_MS x_methodPlaces lim) m → post 1) (h0 : ¬ ov_B mc G (ov_MS x_methodPlaces lim) m → post 0) : ∀ d o, o + d = mc → (∀ q, q < o → q ≠ m → G q → ov_MS x_methodPlaces lim m q ∧ ¬ ov_MS x_methodPlaces lim q m) → wX_beatsOthers_3 post (nI m) mk (nI lim) x_methodCapacity x_nodeCapacity (nI mc) x_pickedPhase x_nodes x_missingNodes x_resolved x_methodName x_methodParams x_methodPlaces x_methodReturn x_methodConstant x_methodVarargs x_callName x_callArgc x_literalType x_literalValue x_subtreeEnd x_resultStatus x_resultMethod x_resultType x_resultPhase x_resultValue (d + 1) (nI o) := by
  intro d
  induction d with
  | zero =>
    intro o ho hq
    exact br_t (nI_le (by omega) (by omega)) (h1 (fun q h => hq q (by omega)))
  | succ d ih =>
    intro o ho hq
    refine br_f (nI_ge (by omega) (by omega)) ?_
    refine pk_eq o m (fun e => nm_r (nI_1 o) (ih (o + 1) (by omega) (ov_lt_s hq (fun z => absurd e z)))) (fun ne => ?_)
    refine br_c (fun z => nm_r (nI_1 o) (ih (o + 1) (by omega) (ov_lt_s hq (fun _ g => ?_)))) (fun z => ?_)
    · rw [ov_bit mk (by omega)] at z
      rw [(hk o (by omega)).mpr g] at z
      exact absurd z (by decide)
    · rw [ov_bit mk (by omega)] at z
      have g : G o := (hk o (by omega)).mp (by revert z; cases bt mk o <;> simp)
      refine xs_isAsSpecific (by omega) (by omega) hl (hG m hm gm) (hG o (by omega) g) (fun a => br_f (by decide) ?_) (fun a => br_t rfl (h0 (fun B => a (B o (by omega) ne g).1)))
      exact xs_isAsSpecific (by omega) (by omega) hl (hG o (by omega) g) (hG m hm gm) (fun b => br_f (by decide) (h0 (fun B => (B o (by omega) ne g).2 b))) (fun b => br_t rfl (nm_r (nI_1 o) (ih (o + 1) (by omega) (ov_lt_s hq (fun _ _ => ⟨a, b⟩)))))
theorem xs_beatsOthers {post : Int32 → Prop} {mc m lim : Nat} {mk : Int32} {G : Nat → Prop} (h16 : mc ≤ 16) (hm : m < mc) (hl : lim ≤ 5) (hk : ∀ o, o < mc → (bt mk o = true ↔ G o)) (hG : ∀ o, o < mc → G o → ∀ i, i < lim → 1 ≤ ov_nb (x_methodPlaces o) i ∧ ov_nb (x_methodPlaces o) i ≤ 14) (gm : G m) (h1 : ov_B mc G (ov_MS x_methodPlaces lim) m → post 1) (h0 : ¬ ov_B mc G (ov_MS x_methodPlaces lim) m → post 0) : wpX_beatsOthers post (x_methodCapacity, x_nodeCapacity, nI mc, x_pickedPhase, x_nodes, x_missingNodes, x_resolved, x_methodName, x_methodParams, x_methodPlaces, x_methodReturn, x_methodConstant, x_methodVarargs, x_callName, x_callArgc, x_literalType, x_literalValue, x_subtreeEnd, x_resultStatus, x_resultMethod, x_resultType, x_resultPhase, x_resultValue) (nI m) mk (nI lim) :=
  ⟨mc + 1, xb_loop h16 hm hl hk hG gm h1 h0 mc 0 (by omega) (fun q hq => absurd hq (by omega))⟩
theorem xc_pick {post : Int32 → Prop} {mc lim d : Nat} {mk : Int32} {G : Nat → Prop} (h16 : mc ≤ 16) (hd : 1 ≤ d) (hl : lim ≤ 5) (hk : ∀ o, o < mc → (bt mk o = true ↔ G o)) (hG : ∀ o, o < mc → G o → ∀ i, i < lim → 1 ≤ ov_nb (x_methodPlaces o) i ∧ ov_nb (x_methodPlaces o) i ≤ 14) (h : ∀ r, ov_Ch mc (ov_G mc G (ov_MS x_methodPlaces lim)) d r → post r) : ∀ e m, m + e = mc → (∀ q, q < m → ¬ ov_G mc G (ov_MS x_methodPlaces lim) q) → wX_chooseMethod_83 post mk (nI lim) x_methodCapacity x_nodeCapacity (nI mc) x_pickedPhase x_nodes x_missingNodes x_resolved x_methodName x_methodParams x_methodPlaces x_methodReturn x_methodConstant x_methodVarargs x_callName x_callArgc x_literalType x_literalValue x_subtreeEnd x_resultStatus x_resultMethod x_resultType x_resultPhase x_resultValue (e + 1) (nI m) := by
  intro e
  induction e with
  | zero =>
    intro m hm hq
    exact br_t (nI_le (by omega) (by omega)) (h _ (Or.inr ⟨hd, Or.inr ⟨rfl, fun q h => hq q (by omega)⟩⟩))
  | succ e ih =>
    intro m hm hq
    refine br_f (nI_ge (by omega) (by omega)) (br_c (fun z => nm_r (nI_1 m) (ih (m + 1) (by omega) (ov_lt_s hq (fun g => ?_)))) (fun z => ?_))
    · rw [ov_bit mk (by omega)] at z
      rw [(hk m (by omega)).mpr g.1] at z
      exact absurd z (by decide)
    · rw [ov_bit mk (by omega)] at z
      have g : G m := (hk m (by omega)).mp (by revert z; cases bt mk m <;> simp)
      exact xs_beatsOthers h16 (by omega) hl hk hG g (fun b => br_f (by decide) (h _ (Or.inr ⟨hd, Or.inl ⟨m, by omega, rfl, ⟨g, b⟩, hq⟩⟩))) (fun b => br_t rfl (nm_r (nI_1 m) (ih (m + 1) (by omega) (ov_lt_s hq (fun g => b g.2)))))
theorem xc_mask {post : Int32 → Prop} {mc n ph : Nat} {ln : Nat → Nat} {x ty : Int32} (h16 : mc ≤ 16) (hM : ov_M mc x_methodParams x_methodPlaces x_methodVarargs ln) (hV : ov_V ty n) (hp : ph < 4) (h1 : 1 ≤ ph) (h : ∀ r, ov_Ch mc (ov_W x_methodName x_methodPlaces x_methodVarargs ln mc x ty n ph) ph r → post r) : ∀ e m mk, m + e = mc → (∀ o, o < 32 → (bt mk o = true ↔ (o < m ∧ ov_T x_methodName x_methodPlaces x_methodVarargs ln x ty n ph o))) → wX_chooseMethod_12 post x ty (nI ph) x_methodCapacity x_nodeCapacity (nI mc) x_pickedPhase x_nodes x_missingNodes x_resolved x_methodName x_methodParams x_methodPlaces x_methodReturn x_methodConstant x_methodVarargs x_callName x_callArgc x_literalType x_literalValue x_subtreeEnd x_resultStatus x_resultMethod x_resultType x_resultPhase x_resultValue (e + 1) mk (nI m) := by
  have h4 := hV.1
  intro e
  induction e with
  | zero =>
    intro m mk hm hk
    have hk' : ∀ o, o < mc → (bt mk o = true ↔ ov_T x_methodName x_methodPlaces x_methodVarargs ln x ty n ph o) := fun o ho => ⟨fun b => ((hk o (by omega)).mp b).2, fun t => (hk o (by omega)).mpr ⟨by omega, t⟩⟩
    have hG : ∀ o, o < mc → ov_T x_methodName x_methodPlaces x_methodVarargs ln x ty n ph o → ∀ i, i < ov_lim n ph → 1 ≤ ov_nb (x_methodPlaces o) i ∧ ov_nb (x_methodPlaces o) i ≤ 14 := fun o ho t => ov_A_in hM ho h4 t.2
    refine br_t (nI_le (by omega) (by omega)) (xs_listLength_V hV ?_)
    have key : wX_chooseMethod_83 post mk (nI (ov_lim n ph)) x_methodCapacity x_nodeCapacity (nI mc) x_pickedPhase x_nodes x_missingNodes x_resolved x_methodName x_methodParams x_methodPlaces x_methodReturn x_methodConstant x_methodVarargs x_callName x_callArgc x_literalType x_literalValue x_subtreeEnd x_resultStatus x_resultMethod x_resultType x_resultPhase x_resultValue (mc + 1) (nI 0) := xc_pick h16 h1 (ov_lim_le h4) hk' hG h mc 0 (by omega) (fun q hq => absurd hq (by omega))
    refine pk_eq ph 3 (fun z => nm_r (nI_1 n) ⟨mc + 1, ?_⟩) (fun z => ⟨mc + 1, ?_⟩)
    · rw [show ov_lim n ph = n + 1 from if_pos z] at key
      exact key
    · rw [show ov_lim n ph = n from if_neg z] at key
      exact key
  | succ e ih =>
    intro m mk hm hk
    have ec : (nI m).toNatClampNeg = m := nI_clamp (by omega)
    have skip : ¬ ov_T x_methodName x_methodPlaces x_methodVarargs ln x ty n ph m → ∀ o, o < 32 → (bt mk o = true ↔ (o < m + 1 ∧ ov_T x_methodName x_methodPlaces x_methodVarargs ln x ty n ph o)) := by
      intro nt o ho
      rw [hk o ho]
      constructor
      · exact fun c => ⟨by omega, c.2⟩
      · intro c
        by_cases q : o = m
        · rw [q] at c; exact absurd c.2 nt
        · exact ⟨by omega, c.2⟩
    refine br_f (nI_ge (by omega) (by omega)) ⟨vp_in_nI (by omega) (by omega), br_c (fun q => ?_) (fun q => ?_)⟩
    · rw [ec] at q
      refine xs_isApplicable (by omega) h16 hM hV hp (fun a => br_f (by decide) (nm_e (nm_r (nI_1 m) (ih (m + 1) _ (by omega) (fun o ho => ?_))))) (fun a => br_t rfl (nm_r (nI_1 m) (ih (m + 1) mk (by omega) (skip (fun t => a t.2)))))
      rw [ov_set mk (by omega) ho]
      by_cases w : o = m
      · rw [w]
        exact ⟨fun _ => ⟨by omega, q, a⟩, fun _ => by simp⟩
      · rw [show decide (o = m) = false from decide_eq_false w, Bool.or_false, hk o ho]
        exact ⟨fun c => ⟨by omega, c.2⟩, fun c => ⟨by omega, c.2⟩⟩
    · rw [ec] at q
      exact nm_r (nI_1 m) (ih (m + 1) mk (by omega) (skip (fun t => q t.1)))
theorem xs_chooseMethod {post : Int32 → Prop} {mc n d : Nat} {ln : Nat → Nat} {x ty : Int32} (h16 : mc ≤ 16) (hM : ov_M mc x_methodParams x_methodPlaces x_methodVarargs ln) (hV : ov_V ty n) (hp : d < 4) (h : ∀ r, ov_Ch mc (ov_W x_methodName x_methodPlaces x_methodVarargs ln mc x ty n d) d r → post r) : wpX_chooseMethod post (x_methodCapacity, x_nodeCapacity, nI mc, x_pickedPhase, x_nodes, x_missingNodes, x_resolved, x_methodName, x_methodParams, x_methodPlaces, x_methodReturn, x_methodConstant, x_methodVarargs, x_callName, x_callArgc, x_literalType, x_literalValue, x_subtreeEnd, x_resultStatus, x_resultMethod, x_resultType, x_resultPhase, x_resultValue) x ty (nI d) :=
  pk_eq d 0 (fun z => h _ (Or.inl ⟨z, rfl⟩)) (fun z => ⟨mc + 1, xc_mask h16 hM hV hp (by omega) h mc 0 0 (by omega) (fun o _ => ⟨fun b => absurd b (by rw [b_0]; decide), fun c => absurd c.1 (by omega)⟩)⟩)
end
end
section
def ov_Nd (nc : Nat) (cn ca lt nk na : Nat → Int32) (lv nl : Nat → Int64) (g : Nat → Nat) : Prop := ∀ i, i < nc → ca i = nI (g i) ∧ g i ≤ 4 ∧ ((nk i = 0 ∧ cn i = -1 ∧ lt i = na i ∧ lv i = nl i ∧ g i = 0 ∧ ∃ t, 1 ≤ t ∧ t ≤ 14 ∧ na i = nI t) ∨ (nk i = 1 ∧ cn i = na i ∧ ¬ cn i = -1))
theorem ov_P_b {nc cn : Nat} {cN ca lt nk na : Nat → Int32} {lv nl : Nat → Int64} {g P : Nat → Nat} (hNd : ov_Nd nc cN ca lt nk na lv nl g) (hP : ov_P g P nc) (h : nc ≤ cn) (h32 : cn ≤ 32) : P nc ≤ 97 := by
  have := ov_P_le hP (fun j hj => (hNd j hj).2.1) nc (Nat.le_refl nc)
  omega
theorem ov_rng (p : Int32) {lo hi : Nat} (hl : lo < 2 ^ 31) (hh : hi < 2 ^ 31) : p < nI lo ∨ (¬ p < nI lo ∧ nI hi < p) ∨ ∃ t, lo ≤ t ∧ t ≤ hi ∧ p = nI t := by
  by_cases a : p < nI lo
  · exact Or.inl a
  · by_cases b : nI hi < p
    · exact Or.inr (Or.inl ⟨a, b⟩)
    · have n : ¬ p < 0 := Int32.not_lt.mpr (Int32.le_trans (nI_pos' hl) (Int32.not_lt.mp a))
      obtain ⟨t, ht, rfl⟩ := nI_of n
      rw [nI_ltI ht hl] at a
      rw [nI_ltI hh ht] at b
      exact Or.inr (Or.inr ⟨t, by omega, by omega, rfl⟩)
theorem xs_isType_no {post : Int32 → Prop} {p : Int32} (h : p < nI 1 ∨ (¬ p < nI 1 ∧ nI 14 < p)) (hp : post 0) : wpX_isType post () p := by
  rcases h with a | ⟨a, b⟩
  · exact br_t a hp
  · exact br_f a (br_t b hp)
theorem xs_isType_yes {post : Int32 → Prop} {t : Nat} (t1 : 1 ≤ t) (t2 : t ≤ 14) (hp : post 1) : wpX_isType post () (nI t) :=
  xs_isTypeN (by omega) (fun _ _ => hp) (fun c => by omega)
theorem ov_8 {x : Int32} (h : nI 8 ≤ x) : ¬ x ≤ 7 := fun z => absurd (Int32.le_trans h z) (by decide)
def ov_z (c : Int32) : Int32 := if c &&& 16 = 0 then 0 else 1
def ov_Acc (mc cm : Nat) (nm pm vr : Nat → Int32) (a b c : Int32) : Prop := mc ≠ cm ∧ (¬ a < 0 ∧ ¬ 8 ≤ a) ∧ (∃ L, ov_V b L ∧ (¬ ov_z c = 0 → 1 ≤ L)) ∧ (¬ (c &&& 15) < 1 ∧ ¬ 14 < (c &&& 15)) ∧ c &&& (-32) = 0 ∧ ∀ m, m < mc → ¬ (nm m = a ∧ pm m = b ∧ vr m = ov_z c)
theorem ov_z01 (c : Int32) : ov_z c = 0 ∨ ov_z c = 1 := by
  unfold ov_z
  by_cases h : c &&& 16 = 0
  · exact Or.inl (if_pos h)
  · exact Or.inr (if_neg h)
theorem ov_zn (c : Int32) : vp_nar .boolean (ov_z c) = ov_z c := by
  rcases ov_z01 c with e | e <;> rw [e] <;> rfl
theorem ov_P_add {g P : Nat → Nat} {nc : Nat} (c : Nat) (h : ov_P g P nc) (h1 : 1 ≤ P nc) : ov_P (fun j => if j = nc then c else g j) (fun j => if j ≤ nc then P j else P nc - 1 + c) (nc + 1) := by
  refine ⟨?_, fun j hj => ?_⟩
  · show (if 0 ≤ nc then P 0 else P nc - 1 + c) = 1
    rw [if_pos (by omega)]
    exact h.1
  · show 1 ≤ (if j ≤ nc then P j else P nc - 1 + c) ∧ (if j + 1 ≤ nc then P (j + 1) else P nc - 1 + c) + 1 = (if j ≤ nc then P j else P nc - 1 + c) + (if j = nc then c else g j)
    rw [if_pos (by omega : j ≤ nc)]
    by_cases e : j = nc
    · rw [if_neg (by omega : ¬ j + 1 ≤ nc), if_pos e, e]
      exact ⟨h1, by omega⟩
    · rw [if_pos (by omega : j + 1 ≤ nc), if_neg e]
      exact h.2 j (by omega)
theorem ov_P_1 {g P : Nat → Nat} {nc : Nat} (h : ov_P g P nc) (n : ¬ (0 < nc ∧ P nc = 0)) : 1 ≤ P nc := by
  rcases Nat.eq_zero_or_pos nc with e | e
  · rw [e, h.1]
    exact Nat.le_refl 1
  · omega
section
variable {x_methodCapacity x_nodeCapacity x_methods x_pickedPhase x_nodes x_missingNodes x_resolved : Int32} {x_methodName x_methodParams x_methodPlaces x_methodReturn x_methodConstant x_methodVarargs x_callName x_callArgc x_literalType : Nat → Int32} {x_literalValue : Nat → Int64} {x_subtreeEnd x_resultStatus x_resultMethod x_resultType x_resultPhase : Nat → Int32} {x_resultValue : Nat → Int64}
theorem xs_isNode_no {post : Int32 → Prop} {p : Int32} (h : p < 0 ∨ x_nodes ≤ p) (hp : post 0) : wpX_isNode post (x_methodCapacity, x_nodeCapacity, x_methods, x_pickedPhase, x_nodes, x_missingNodes, x_resolved, x_methodName, x_methodParams, x_methodPlaces, x_methodReturn, x_methodConstant, x_methodVarargs, x_callName, x_callArgc, x_literalType, x_literalValue, x_subtreeEnd, x_resultStatus, x_resultMethod, x_resultType, x_resultPhase, x_resultValue) p := by
  unfold wpX_isNode
  exact br_c (fun _ => hp) (fun a => br_t (h.elim (fun b => absurd b a) id) hp)
theorem xs_isNode_yes {post : Int32 → Prop} {j nc : Nat} (hj : j < nc) (hn : nc ≤ 32) (hp : post 1) : wpX_isNode post (x_methodCapacity, x_nodeCapacity, x_methods, x_pickedPhase, nI nc, x_missingNodes, x_resolved, x_methodName, x_methodParams, x_methodPlaces, x_methodReturn, x_methodConstant, x_methodVarargs, x_callName, x_callArgc, x_literalType, x_literalValue, x_subtreeEnd, x_resultStatus, x_resultMethod, x_resultType, x_resultPhase, x_resultValue) (nI j) := by
  unfold wpX_isNode
  exact br_f (nI_pos (by omega)) (br_f (nI_ge hj (by omega)) hp)
theorem xs_hasResult_no {post : Int32 → Prop} {p : Int32} (h : x_resolved = 0 ∨ p < 0 ∨ x_nodes ≤ p) (hp : post 0) : wpX_hasResult post (x_methodCapacity, x_nodeCapacity, x_methods, x_pickedPhase, x_nodes, x_missingNodes, x_resolved, x_methodName, x_methodParams, x_methodPlaces, x_methodReturn, x_methodConstant, x_methodVarargs, x_callName, x_callArgc, x_literalType, x_literalValue, x_subtreeEnd, x_resultStatus, x_resultMethod, x_resultType, x_resultPhase, x_resultValue) p := by
  unfold wpX_hasResult
  exact br_c (fun _ => hp) (fun a => xs_isNode_no (h.elim (fun b => absurd b a) id) (br_t rfl hp))
theorem xs_hasResult_yes {post : Int32 → Prop} {j nc : Nat} (hr : ¬ x_resolved = 0) (hj : j < nc) (hn : nc ≤ 32) (hp : post 1) : wpX_hasResult post (x_methodCapacity, x_nodeCapacity, x_methods, x_pickedPhase, nI nc, x_missingNodes, x_resolved, x_methodName, x_methodParams, x_methodPlaces, x_methodReturn, x_methodConstant, x_methodVarargs, x_callName, x_callArgc, x_literalType, x_literalValue, x_subtreeEnd, x_resultStatus, x_resultMethod, x_resultType, x_resultPhase, x_resultValue) (nI j) := by
  unfold wpX_hasResult
  exact br_f hr (xs_isNode_yes hj hn (br_f (by decide) hp))
theorem xi_loop {post : Int32 → Prop} {mc : Nat} {a b z : Int32} (h16 : mc ≤ 16) (h1 : (∃ m, m < mc ∧ x_methodName m = a ∧ x_methodParams m = b ∧ x_methodVarargs m = z) → post 1) (h0 : (∀ m, m < mc → ¬ (x_methodName m = a ∧ x_methodParams m = b ∧ x_methodVarargs m = z)) → post 0) : ∀ d m, m + d = mc → (∀ q, q < m → ¬ (x_methodName q = a ∧ x_methodParams q = b ∧ x_methodVarargs q = z)) → wX_isDeclared_3 post a b z x_methodCapacity x_nodeCapacity (nI mc) x_pickedPhase x_nodes x_missingNodes x_resolved x_methodName x_methodParams x_methodPlaces x_methodReturn x_methodConstant x_methodVarargs x_callName x_callArgc x_literalType x_literalValue x_subtreeEnd x_resultStatus x_resultMethod x_resultType x_resultPhase x_resultValue (d + 1) (nI m) := by
  intro d
  induction d with
  | zero =>
    intro m hm hq
    exact br_t (nI_le (by omega) (by omega)) (h0 (fun q h => hq q (by omega)))
  | succ d ih =>
    intro m hm hq
    have ec : (nI m).toNatClampNeg = m := nI_clamp (by omega)
    have hv : vp_in (nI m) 16 := vp_in_nI (by omega) (by omega)
    refine br_f (nI_ge (by omega) (by omega)) ⟨hv, ?_⟩
    rw [ec]
    refine br_c (fun e1 => ⟨hv, br_c (fun e2 => ⟨hv, br_c (fun e3 => h1 ⟨m, by omega, e1, e2, e3⟩) (fun e3 => ?_)⟩) (fun e2 => ?_)⟩) (fun e1 => ?_)
    · exact nm_r (nI_1 m) (ih (m + 1) (by omega) (ov_lt_s hq (fun t => e3 t.2.2)))
    · exact nm_r (nI_1 m) (ih (m + 1) (by omega) (ov_lt_s hq (fun t => e2 t.2.1)))
    · exact nm_r (nI_1 m) (ih (m + 1) (by omega) (ov_lt_s hq (fun t => e1 t.1)))
theorem xs_isDeclared {post : Int32 → Prop} {mc : Nat} {a b z : Int32} (h16 : mc ≤ 16) (h1 : (∃ m, m < mc ∧ x_methodName m = a ∧ x_methodParams m = b ∧ x_methodVarargs m = z) → post 1) (h0 : (∀ m, m < mc → ¬ (x_methodName m = a ∧ x_methodParams m = b ∧ x_methodVarargs m = z)) → post 0) : wpX_isDeclared post (x_methodCapacity, x_nodeCapacity, nI mc, x_pickedPhase, x_nodes, x_missingNodes, x_resolved, x_methodName, x_methodParams, x_methodPlaces, x_methodReturn, x_methodConstant, x_methodVarargs, x_callName, x_callArgc, x_literalType, x_literalValue, x_subtreeEnd, x_resultStatus, x_resultMethod, x_resultType, x_resultPhase, x_resultValue) a b z :=
  ⟨mc + 1, xi_loop h16 h1 h0 mc 0 (by omega) (fun q hq => absurd hq (by omega))⟩
theorem xm_75 {post : Int32 → St2 → Prop} {mc L : Nat} {a b c d z : Int32} (hm : mc < 16) (hL : ov_V b L) (ez : ov_z c = z) (href : (∃ m, m < mc ∧ x_methodName m = a ∧ x_methodParams m = b ∧ x_methodVarargs m = ov_z c) → post (-4) (x_methodCapacity, x_nodeCapacity, nI mc, x_pickedPhase, x_nodes, x_missingNodes, x_resolved, x_methodName, x_methodParams, x_methodPlaces, x_methodReturn, x_methodConstant, x_methodVarargs, x_callName, x_callArgc, x_literalType, x_literalValue, x_subtreeEnd, x_resultStatus, x_resultMethod, x_resultType, x_resultPhase, x_resultValue)) (hacc : (∀ m, m < mc → ¬ (x_methodName m = a ∧ x_methodParams m = b ∧ x_methodVarargs m = ov_z c)) → ∀ y, ov_R b y L → post (nI mc) (x_methodCapacity, x_nodeCapacity, nI (mc + 1), x_pickedPhase, x_nodes, x_missingNodes, 0, upd x_methodName mc a, upd x_methodParams mc b, upd x_methodPlaces mc y, upd x_methodReturn mc (c &&& 15), upd x_methodConstant mc d, upd x_methodVarargs mc (ov_z c), x_callName, x_callArgc, x_literalType, x_literalValue, x_subtreeEnd, x_resultStatus, x_resultMethod, x_resultType, x_resultPhase, x_resultValue)) : wX_addMethod_75 post a b d (c &&& 15) z x_methodCapacity x_nodeCapacity (nI mc) x_pickedPhase x_nodes x_missingNodes x_resolved x_methodName x_methodParams x_methodPlaces x_methodReturn x_methodConstant x_methodVarargs x_callName x_callArgc x_literalType x_literalValue x_subtreeEnd x_resultStatus x_resultMethod x_resultType x_resultPhase x_resultValue := by
  have ec : (nI mc).toNatClampNeg = mc := nI_clamp (by omega)
  have hv : vp_in (nI mc) 16 := vp_in_nI hm (by omega)
  subst ez
  unfold wX_addMethod_75
  refine xs_isDeclared (by omega) (fun ex => br_f (by decide) (href ex)) (fun nx => br_t rfl ⟨hv, ?_⟩)
  refine nm_r (e' := upd x_methodName mc a) (by rw [ec]) ⟨hv, ?_⟩
  refine nm_r (e' := upd x_methodParams mc b) (by rw [ec]) ?_
  refine xs_repeatLast hL (fun y hy => ⟨hv, ?_⟩)
  refine nm_r (e' := upd x_methodPlaces mc y) (by rw [ec]) ⟨hv, ?_⟩
  refine nm_r (e' := upd x_methodReturn mc (c &&& 15)) (by rw [ec]) ⟨hv, ?_⟩
  refine nm_r (e' := upd x_methodConstant mc d) (by rw [ec]) ⟨hv, ?_⟩
  refine nm_r (e' := upd x_methodVarargs mc (ov_z c)) (by rw [ec, ov_zn]) ?_
  exact nm_r (nI_1 mc) (hacc nx y hy)
theorem xs_addMethod {post : Int32 → St2 → Prop} {mc cm : Nat} {a b c d : Int32} (hmc : mc ≤ cm) (hcm : cm ≤ 16) (href : ¬ ov_Acc mc cm x_methodName x_methodParams x_methodVarargs a b c → post (-4) (nI cm, x_nodeCapacity, nI mc, x_pickedPhase, x_nodes, x_missingNodes, x_resolved, x_methodName, x_methodParams, x_methodPlaces, x_methodReturn, x_methodConstant, x_methodVarargs, x_callName, x_callArgc, x_literalType, x_literalValue, x_subtreeEnd, x_resultStatus, x_resultMethod, x_resultType, x_resultPhase, x_resultValue)) (hacc : ov_Acc mc cm x_methodName x_methodParams x_methodVarargs a b c → ∀ y L, ov_V b L → ov_R b y L → post (nI mc) (nI cm, x_nodeCapacity, nI (mc + 1), x_pickedPhase, x_nodes, x_missingNodes, 0, upd x_methodName mc a, upd x_methodParams mc b, upd x_methodPlaces mc y, upd x_methodReturn mc (c &&& 15), upd x_methodConstant mc d, upd x_methodVarargs mc (ov_z c), x_callName, x_callArgc, x_literalType, x_literalValue, x_subtreeEnd, x_resultStatus, x_resultMethod, x_resultType, x_resultPhase, x_resultValue)) : wpX_addMethod post (nI cm, x_nodeCapacity, nI mc, x_pickedPhase, x_nodes, x_missingNodes, x_resolved, x_methodName, x_methodParams, x_methodPlaces, x_methodReturn, x_methodConstant, x_methodVarargs, x_callName, x_callArgc, x_literalType, x_literalValue, x_subtreeEnd, x_resultStatus, x_resultMethod, x_resultType, x_resultPhase, x_resultValue) a b c d := by
  have o0 : ¬ ((1 : Int32) = 0) := by decide
  unfold wpX_addMethod
  refine pk_eq mc cm (fun e => href (fun A => A.1 e)) (fun e => ?_)
  refine br_c (fun f => br_t rfl (href (fun A => A.2.1.1 f))) (fun f => br_c (fun h => br_t rfl (href (fun A => A.2.1.2 h))) (fun h => br_f o0 ?_))
  refine xs_isTypeList (fun L hL => br_f o0 ?_) (fun n => br_t rfl (href (fun A => A.2.2.1.elim (fun L h => n L h.1))))
  refine nm_e ?_
  refine br_c (fun p => br_t rfl (href (fun A => A.2.2.2.1.1 p))) (fun p => br_c (fun q => br_t rfl (href (fun A => A.2.2.2.1.2 q))) (fun q => br_f o0 ?_))
  refine br_c (fun w => ?_) (fun w => href (fun A => w A.2.2.2.2.1))
  have k75 : ∀ z, ov_z c = z → (¬ ov_z c = 0 → 1 ≤ L) → wX_addMethod_75 post a b d (c &&& 15) z (nI cm) x_nodeCapacity (nI mc) x_pickedPhase x_nodes x_missingNodes x_resolved x_methodName x_methodParams x_methodPlaces x_methodReturn x_methodConstant x_methodVarargs x_callName x_callArgc x_literalType x_literalValue x_subtreeEnd x_resultStatus x_resultMethod x_resultType x_resultPhase x_resultValue := by
    intro z ez hz
    refine xm_75 (by omega) hL ez (fun ex => href (fun A => ?_)) (fun nx y hy => hacc ⟨e, ⟨f, h⟩, ⟨L, hL, hz⟩, ⟨p, q⟩, w, nx⟩ y L hL hy)
    obtain ⟨m, hm, t⟩ := ex
    exact A.2.2.2.2.2 m hm t
  refine br_c (fun s => br_t rfl (k75 0 (if_pos s) (fun t => absurd (if_pos s) t))) (fun s => br_f o0 (br_c (fun t => href (fun A => ?_)) (fun t => k75 1 (if_neg s) (fun _ => ?_))))
  · obtain ⟨M, hM, hz⟩ := A.2.2.1
    have e0 := (ov_V_z hM).mp t
    have := hz (by rw [show ov_z c = 1 from if_neg s]; decide)
    omega
  · rcases Nat.eq_zero_or_pos L with e0 | e0
    · exact absurd ((ov_V_z hL).mpr e0) t
    · exact e0
theorem xs_isComplete {post : Int32 → Prop} {nc p : Nat} (hn : nc ≤ 32) (hp : p ≤ 97) (h1 : 0 < nc ∧ p = 0 → post 1) (h0 : ¬ (0 < nc ∧ p = 0) → post 0) : wpX_isComplete post (x_methodCapacity, x_nodeCapacity, x_methods, x_pickedPhase, nI nc, nI p, x_resolved, x_methodName, x_methodParams, x_methodPlaces, x_methodReturn, x_methodConstant, x_methodVarargs, x_callName, x_callArgc, x_literalType, x_literalValue, x_subtreeEnd, x_resultStatus, x_resultMethod, x_resultType, x_resultPhase, x_resultValue) := by
  unfold wpX_isComplete
  exact pk_le nc 0 (fun a => h0 (by omega)) (fun a => pk_eq p 0 (fun b => h1 (by omega)) (fun b => h0 (by omega)))
theorem xs_room {post : Int32 → Prop} {nc cn p : Nat} (hc : cn ≤ 32) (hn : nc ≤ cn) (hp : p ≤ 97) (h1 : nc ≠ cn → ¬ (0 < nc ∧ p = 0) → post 1) (h0 : ¬ (nc ≠ cn ∧ ¬ (0 < nc ∧ p = 0)) → post 0) : wpX_hasRoomForNode post (x_methodCapacity, nI cn, x_methods, x_pickedPhase, nI nc, nI p, x_resolved, x_methodName, x_methodParams, x_methodPlaces, x_methodReturn, x_methodConstant, x_methodVarargs, x_callName, x_callArgc, x_literalType, x_literalValue, x_subtreeEnd, x_resultStatus, x_resultMethod, x_resultType, x_resultPhase, x_resultValue) := by
  unfold wpX_hasRoomForNode
  exact pk_le cn nc (fun a => h0 (fun c => c.1 (by omega))) (fun a => xs_isComplete (by omega) hp (fun b => br_f (by decide) (h0 (fun c => c.2 b))) (fun b => br_t rfl (h1 (by omega) b)))
theorem xs_append {post : Int32 → St2 → Prop} {nc p c : Nat} {x : Int32} (hn : nc < 32) (hp : 1 ≤ p) (h : post (nI nc) (x_methodCapacity, x_nodeCapacity, x_methods, x_pickedPhase, nI (nc + 1), nI (p - 1 + c), 0, x_methodName, x_methodParams, x_methodPlaces, x_methodReturn, x_methodConstant, x_methodVarargs, upd x_callName nc x, upd x_callArgc nc (nI c), x_literalType, x_literalValue, x_subtreeEnd, x_resultStatus, x_resultMethod, x_resultType, x_resultPhase, x_resultValue)) : wpX_appendNode post (x_methodCapacity, x_nodeCapacity, x_methods, x_pickedPhase, nI nc, nI p, x_resolved, x_methodName, x_methodParams, x_methodPlaces, x_methodReturn, x_methodConstant, x_methodVarargs, x_callName, x_callArgc, x_literalType, x_literalValue, x_subtreeEnd, x_resultStatus, x_resultMethod, x_resultType, x_resultPhase, x_resultValue) x (nI c) := by
  have ec : (nI nc).toNatClampNeg = nc := nI_clamp (by omega)
  have hv : vp_in (nI nc) 32 := vp_in_nI hn (by omega)
  unfold wpX_appendNode
  refine ⟨hv, nm_r (e' := upd x_callName nc x) (by rw [ec]) ⟨hv, nm_r (e' := upd x_callArgc nc (nI c)) (by rw [ec]) ?_⟩⟩
  refine nm_r (nI_1 nc) (nm_r (e' := nI (p - 1 + c)) ?_ h)
  rw [← nI_add, ← pk_sub hp]
  rfl
end
end
section
/-! ===== the arguments of a call ===== -/
theorem ov_q {g P E : Nat → Nat} {nc i : Nat} (hP : ov_P g P nc) (h0 : P nc = 0) (hi : i < nc) (hE : ∀ j, i < j → j < nc → E j ≤ nc ∧ ov_E P j (E j)) : ∀ a, a ≤ g i → ov_K P i (g i) a (ov_cs E i a) ∧ ov_cs E i a ≤ nc := by
  intro a
  induction a with
  | zero =>
    intro _
    exact ⟨ov_K_0 hP hi, hi⟩
  | succ a ih =>
    intro ha
    obtain ⟨hk, hl⟩ := ih (by omega)
    have hin := ov_K_in hP h0 hi hk (by omega) hl
    obtain ⟨e1, e2⟩ := hE _ hk.1 hin
    exact ⟨ov_K_s hk (by omega) e2, e1⟩
def ov_tq (ty : Nat → Int32) (q : Nat → Nat) (b : Nat) : Nat := min (ty (q b)).toNatClampNeg 15
def ov_vq (va : Nat → Int64) (q : Nat → Nat) (b : Nat) : Int64 := va (q b)
theorem ov_tq_lt (ty : Nat → Int32) (q : Nat → Nat) (b : Nat) : ov_tq ty q b < 16 := by
  have : ov_tq ty q b ≤ 15 := Nat.min_le_right _ _
  omega
theorem ov_tq_eq {ty : Nat → Int32} {q : Nat → Nat} {b t : Nat} (h : ty (q b) = nI t) (ht : t ≤ 14) : ov_tq ty q b = t := by
  unfold ov_tq
  rw [h, nI_clamp (by omega)]
  exact Nat.min_eq_left (by omega)
/-- what is known after a arguments: all is well, and their types and sum; or one has failed -/
def ov_L (q : Nat → Nat) (st ty : Nat → Int32) (va : Nat → Int64) (a : Nat) (x2 : Int32) (x3 : Int64) (f : Int32) : Prop := (f = 0 ∧ (∀ b, b < a → st (q b) = 1) ∧ x2 = nI (ov_zt (ov_tq ty q) a) ∧ x3 = ov_sm (ov_vq va q) a) ∨ (f = 1 ∧ ∃ b, b < a ∧ ¬ st (q b) = 1)
theorem ov_L_0 {q : Nat → Nat} {st ty : Nat → Int32} {va : Nat → Int64} : ov_L q st ty va 0 0 0 0 := Or.inl ⟨rfl, fun b hb => absurd hb (by omega), rfl, rfl⟩
theorem ov_L_b {q : Nat → Nat} {st ty : Nat → Int32} {va : Nat → Int64} {a : Nat} (x2 : Int32) (x3 : Int64) (h : ¬ st (q a) = 1) : ov_L q st ty va (a + 1) x2 x3 1 := Or.inr ⟨rfl, a, by omega, h⟩
theorem ov_L_k {q : Nat → Nat} {st ty : Nat → Int32} {va : Nat → Int64} {a : Nat} (x2 : Int32) (x3 : Int64) (h : ∃ b, b < a ∧ ¬ st (q b) = 1) : ov_L q st ty va (a + 1) x2 x3 1 := by
  obtain ⟨b, hb, hs⟩ := h
  exact Or.inr ⟨rfl, b, by omega, hs⟩
theorem ov_L_g {q : Nat → Nat} {st ty : Nat → Int32} {va : Nat → Int64} {a t : Nat} (ha : a < 8) (hs : ∀ b, b < a → st (q b) = 1) (h1 : st (q a) = 1) (ht : t ≤ 14) (e : ty (q a) = nI t) : ov_L q st ty va (a + 1) (nI (ov_zt (ov_tq ty q) a) ||| (ty (q a) <<< (4 * nI a &&& 31))) (ov_sm (ov_vq va q) a + va (q a)) 0 := by
  refine Or.inl ⟨rfl, ov_lt_s hs h1, ?_, rfl⟩
  rw [e, ov_put ha (ov_zt_lt _ (ov_tq_lt ty q) a) (by omega)]
  show _ = nI (ov_zt (ov_tq ty q) a + ov_tq ty q a * 2 ^ (4 * a))
  rw [ov_tq_eq e ht]
/-- the outcome of a call node -/
def ov_O (mc : Nat) (nm pl vr rt co : Nat → Int32) (ln : Nat → Nat) (x : Int32) (bad : Prop) (z : Int32) (n : Nat) (sum : Int64) (s m t p : Int32) (w : Int64) : Prop :=
  (bad ∧ s = -3 ∧ m = -1 ∧ t = 0 ∧ p = 0 ∧ w = 0) ∨ (¬ bad ∧ ∃ d r, ov_Ph mc (ov_T nm pl vr ln x z n) d ∧ ov_Ch mc (ov_W nm pl vr ln mc x z n d) d r ∧ p = nI d ∧ ((∃ k τ, k < mc ∧ r = nI k ∧ 1 ≤ τ ∧ τ ≤ 14 ∧ rt k = nI τ ∧ s = 1 ∧ m = nI k ∧ t = nI τ ∧ w = ov_N τ ((co k).toInt64 + sum)) ∨ ((r = -1 ∨ r = -2) ∧ s = r ∧ m = -1 ∧ t = 0 ∧ w = 0)))
theorem ov_nn1 {k : Nat} (h : k < 2 ^ 31) : ¬ nI k = -1 := fun e => nI_pos h (by rw [e]; decide)
theorem ov_nn2 {k : Nat} (h : k < 2 ^ 31) : ¬ nI k = -2 := fun e => nI_pos h (by rw [e]; decide)
theorem ov_O_u {mc : Nat} (h16 : mc ≤ 16) {nm pl vr rt co : Nat → Int32} {ln : Nat → Nat} {x : Int32} {bad : Prop} {z : Int32} {n : Nat} {sum : Int64} {s m t p s' m' t' p' : Int32} {w w' : Int64} (h : ov_O mc nm pl vr rt co ln x bad z n sum s m t p w) (h' : ov_O mc nm pl vr rt co ln x bad z n sum s' m' t' p' w') : s' = s ∧ m' = m ∧ t' = t ∧ p' = p ∧ w' = w := by
  rcases h with ⟨b, rfl, rfl, rfl, rfl, rfl⟩ | ⟨b, d, r, hd, hr, rfl, h⟩
  · rcases h' with ⟨b', rfl, rfl, rfl, rfl, rfl⟩ | ⟨b', _⟩
    · exact ⟨rfl, rfl, rfl, rfl, rfl⟩
    · exact absurd b b'
  · rcases h' with ⟨b', _⟩ | ⟨b', d', r', hd', hr', rfl, h'⟩
    · exact absurd b' b
    · have e := ov_Ph_u hd hd'
      subst e
      have e2 := ov_Ch_u hr hr'
      subst e2
      rcases h with ⟨k, τ, hk, e, τ1, τ2, ht, rfl, rfl, rfl, rfl⟩ | ⟨e, rfl, rfl, rfl, rfl⟩
      · rcases h' with ⟨k', τ', hk', e', τ1', τ2', ht', rfl, rfl, rfl, rfl⟩ | ⟨e', _⟩
        · rw [e] at e'
          have ek := (nI_eq (by omega) (by omega)).mp e'
          subst ek
          rw [ht] at ht'
          have et := (nI_eq (by omega) (by omega)).mp ht'
          subst et
          exact ⟨rfl, rfl, rfl, rfl, rfl⟩
        · rcases e' with e' | e'
          · exact absurd (e.symm.trans e') (ov_nn1 (by omega))
          · exact absurd (e.symm.trans e') (ov_nn2 (by omega))
      · rcases h' with ⟨k', τ', hk', e', τ1', τ2', ht', rfl, rfl, rfl, rfl⟩ | ⟨e', rfl, rfl, rfl, rfl⟩
        · rcases e with e | e
          · exact absurd (e'.symm.trans e) (ov_nn1 (by omega))
          · exact absurd (e'.symm.trans e) (ov_nn2 (by omega))
        · exact ⟨rfl, rfl, rfl, rfl, rfl⟩
theorem ov_O_ex (mc : Nat) (nm pl vr rt co : Nat → Int32) (ln : Nat → Nat) (x : Int32) (bad : Prop) (z : Int32) (n : Nat) (sum : Int64) (hrt : ∀ m, m < mc → ∃ t, 1 ≤ t ∧ t ≤ 14 ∧ rt m = nI t) : ∃ s m t p w, ov_O mc nm pl vr rt co ln x bad z n sum s m t p w := by
  by_cases b : bad
  · exact ⟨-3, -1, 0, 0, 0, Or.inl ⟨b, rfl, rfl, rfl, rfl, rfl⟩⟩
  · obtain ⟨d, hd⟩ := ov_Ph_ex mc (ov_T nm pl vr ln x z n)
    obtain ⟨r, hr⟩ := ov_Ch_ex mc (ov_W nm pl vr ln mc x z n d) d
    rcases ov_Ch_v hr with ⟨k, hk, e⟩ | e
    · obtain ⟨τ, τ1, τ2, ht⟩ := hrt k hk
      exact ⟨1, nI k, nI τ, nI d, _, Or.inr ⟨b, d, r, hd, hr, rfl, Or.inl ⟨k, τ, hk, e, τ1, τ2, ht, rfl, rfl, rfl, rfl⟩⟩⟩
    · exact ⟨r, -1, 0, nI d, 0, Or.inr ⟨b, d, r, hd, hr, rfl, Or.inr ⟨e, rfl, rfl, rfl, rfl⟩⟩⟩
theorem ov_O_t {mc : Nat} {nm pl vr rt co : Nat → Int32} {ln : Nat → Nat} {x : Int32} {bad : Prop} {z : Int32} {n : Nat} {sum : Int64} {s m t p : Int32} {w : Int64} (h : ov_O mc nm pl vr rt co ln x bad z n sum s m t p w) (hs : s = 1) : ∃ τ, 1 ≤ τ ∧ τ ≤ 14 ∧ t = nI τ := by
  rcases h with ⟨b, e, _⟩ | ⟨b, d, r, hd, hr, _, ⟨k, τ, hk, e, τ1, τ2, ht, _, _, et, _⟩ | ⟨e, er, _⟩⟩
  · rw [e] at hs
    exact absurd hs (by decide)
  · exact ⟨τ, τ1, τ2, et⟩
  · rw [hs] at er
    rcases e with e | e
    · exact absurd (er.trans e) (by decide)
    · exact absurd (er.trans e) (by decide)
def ov_bad (q : Nat → Nat) (st : Nat → Int32) (c : Nat) : Prop := ∃ b, b < c ∧ ¬ st (q b) = 1
end
section
/-! ===== X: resolve ===== -/
section
variable {x_methodCapacity x_nodeCapacity x_methods x_pickedPhase x_nodes x_missingNodes x_resolved : Int32} {x_methodName x_methodParams x_methodPlaces x_methodReturn x_methodConstant x_methodVarargs x_callName x_callArgc x_literalType : Nat → Int32} {x_literalValue : Nat → Int64} {x_subtreeEnd x_resultStatus x_resultMethod x_resultType x_resultPhase : Nat → Int32} {x_resultValue : Nat → Int64}
theorem xs_setResult {post : St2 → Prop} {i : Nat} {s m t p : Int32} {w : Int64} (hi : i < 32) (h : post (x_methodCapacity, x_nodeCapacity, x_methods, x_pickedPhase, x_nodes, x_missingNodes, x_resolved, x_methodName, x_methodParams, x_methodPlaces, x_methodReturn, x_methodConstant, x_methodVarargs, x_callName, x_callArgc, x_literalType, x_literalValue, x_subtreeEnd, upd x_resultStatus i s, upd x_resultMethod i m, upd x_resultType i t, upd x_resultPhase i p, vp_updL x_resultValue i w)) : wpX_setResult post (x_methodCapacity, x_nodeCapacity, x_methods, x_pickedPhase, x_nodes, x_missingNodes, x_resolved, x_methodName, x_methodParams, x_methodPlaces, x_methodReturn, x_methodConstant, x_methodVarargs, x_callName, x_callArgc, x_literalType, x_literalValue, x_subtreeEnd, x_resultStatus, x_resultMethod, x_resultType, x_resultPhase, x_resultValue) (nI i) s m t p w := by
  have ec : (nI i).toNatClampNeg = i := nI_clamp (by omega)
  have hv : vp_in (nI i) 32 := vp_in_nI hi (by omega)
  unfold wpX_setResult
  refine ⟨hv, nm_r (e' := upd x_resultStatus i s) (by rw [ec]) ⟨hv, nm_r (e' := upd x_resultMethod i m) (by rw [ec]) ⟨hv, nm_r (e' := upd x_resultType i t) (by rw [ec]) ⟨hv, nm_r (e' := upd x_resultPhase i p) (by rw [ec]) ⟨hv, nm_r (e' := vp_updL x_resultValue i w) (by rw [ec]) ?_⟩⟩⟩⟩⟩
  exact h
theorem xr_98 {post : St2 → Prop} {mc i c : Nat} {ln q : Nat → Nat} {x2 f x6 : Int32} {x3 : Int64} (h16 : mc ≤ 16) (hM : ov_M mc x_methodParams x_methodPlaces x_methodVarargs ln) (hrt : ∀ m, m < mc → ∃ t, 1 ≤ t ∧ t ≤ 14 ∧ x_methodReturn m = nI t) (hi : i < 32) (hc : c ≤ 4) (hT : ∀ a, a < c → x_resultStatus (q a) = 1 → ∃ t, 1 ≤ t ∧ t ≤ 14 ∧ x_resultType (q a) = nI t) (hL : ov_L q x_resultStatus x_resultType x_resultValue c x2 x3 f) (h : ∀ s m t p w, ov_O mc x_methodName x_methodPlaces x_methodVarargs x_methodReturn x_methodConstant ln (x_callName i) (ov_bad q x_resultStatus c) (nI (ov_zt (ov_tq x_resultType q) c)) c (ov_sm (ov_vq x_resultValue q) c) s m t p w → post (x_methodCapacity, x_nodeCapacity, nI mc, x_pickedPhase, x_nodes, x_missingNodes, x_resolved, x_methodName, x_methodParams, x_methodPlaces, x_methodReturn, x_methodConstant, x_methodVarargs, x_callName, x_callArgc, x_literalType, x_literalValue, upd x_subtreeEnd i x6, upd x_resultStatus i s, upd x_resultMethod i m, upd x_resultType i t, upd x_resultPhase i p, vp_updL x_resultValue i w)) : wX_resolveCall_98 post (nI i) x2 x3 f x6 x_methodCapacity x_nodeCapacity (nI mc) x_pickedPhase x_nodes x_missingNodes x_resolved x_methodName x_methodParams x_methodPlaces x_methodReturn x_methodConstant x_methodVarargs x_callName x_callArgc x_literalType x_literalValue x_subtreeEnd x_resultStatus x_resultMethod x_resultType x_resultPhase x_resultValue := by
  have ec : (nI i).toNatClampNeg = i := nI_clamp (by omega)
  have hv : vp_in (nI i) 32 := vp_in_nI hi (by omega)
  unfold wX_resolveCall_98
  refine ⟨hv, nm_r (e' := upd x_subtreeEnd i x6) (by rw [ec]) ?_⟩
  rcases hL with ⟨rfl, hs, rfl, rfl⟩ | ⟨rfl, hb⟩
  · have nb : ¬ ov_bad q x_resultStatus c := fun z => by
      obtain ⟨b, hb, z⟩ := z
      exact z (hs b hb)
    have hV : ov_V (nI (ov_zt (ov_tq x_resultType q) c)) c := by
      refine ov_zt_V _ (ov_tq_lt x_resultType q) c hc (fun b hb => ?_)
      obtain ⟨t, t1, t2, e⟩ := hT b hb (hs b hb)
      rw [ov_tq_eq e t2]
      exact ⟨t1, t2⟩
    refine br_t rfl ⟨hv, ?_⟩
    rw [ec]
    refine xs_decidingPhase h16 hM hV (fun d hd => ⟨hv, ?_⟩)
    refine xs_chooseMethod h16 hM hV (by have := ov_Ph_le hd; omega) (fun r hr => ?_)
    rcases ov_Ch_v hr with ⟨k, hk, rfl⟩ | e
    · have ek : (nI k).toNatClampNeg = k := nI_clamp (by omega)
      have hvk : vp_in (nI k) 16 := vp_in_nI (by omega) (by omega)
      obtain ⟨τ, τ1, τ2, et⟩ := hrt k hk
      refine br_t (nI_pos' (by omega)) ⟨hvk, nm_r (e' := nI τ) (by rw [ek, et]) ⟨hvk, ?_⟩⟩
      rw [ek]
      refine xs_narrow τ1 τ2 (xs_setResult hi ?_)
      exact h 1 (nI k) (nI τ) (nI d) _ (Or.inr ⟨nb, d, nI k, hd, hr, rfl, Or.inl ⟨k, τ, hk, rfl, τ1, τ2, et, rfl, rfl, rfl, rfl⟩⟩)
    · have n0 : ¬ 0 ≤ r := by
        rcases e with e | e <;> rw [e] <;> decide
      refine br_f n0 (xs_setResult hi ?_)
      exact h r (-1) 0 (nI d) 0 (Or.inr ⟨nb, d, r, hd, hr, rfl, Or.inr ⟨e, rfl, rfl, rfl, rfl⟩⟩)
  · refine br_f (by decide) (xs_setResult hi ?_)
    exact h (-3) (-1) 0 0 0 (Or.inl ⟨hb, rfl, rfl, rfl, rfl, rfl⟩)
theorem xr_loop {post : St2 → Prop} {nc i c : Nat} {q : Nat → Nat} (hn : nc ≤ 32) (hi : i < nc) (hc : c ≤ 4) (hca : x_callArgc i = nI c) (hq : ∀ a, a < c → q a < nc) (hse : ∀ a, a < c → x_subtreeEnd (q a) = nI (q (a + 1))) (hT : ∀ a, a < c → x_resultStatus (q a) = 1 → ∃ t, 1 ≤ t ∧ t ≤ 14 ∧ x_resultType (q a) = nI t) (hfin : ∀ x2 x3 f, ov_L q x_resultStatus x_resultType x_resultValue c x2 x3 f → wX_resolveCall_98 post (nI i) x2 x3 f (nI (q c)) x_methodCapacity x_nodeCapacity x_methods x_pickedPhase (nI nc) x_missingNodes x_resolved x_methodName x_methodParams x_methodPlaces x_methodReturn x_methodConstant x_methodVarargs x_callName x_callArgc x_literalType x_literalValue x_subtreeEnd x_resultStatus x_resultMethod x_resultType x_resultPhase x_resultValue) : ∀ d a x2 x3 f, a + d = c → ov_L q x_resultStatus x_resultType x_resultValue a x2 x3 f → wX_resolveCall_15 post (nI i) x_methodCapacity x_nodeCapacity x_methods x_pickedPhase (nI nc) x_missingNodes x_resolved x_methodName x_methodParams x_methodPlaces x_methodReturn x_methodConstant x_methodVarargs x_callName x_callArgc x_literalType x_literalValue x_subtreeEnd x_resultStatus x_resultMethod x_resultType x_resultPhase x_resultValue (d + 1) x2 x3 f (nI (q a)) (nI a) := by
  have ec : (nI i).toNatClampNeg = i := nI_clamp (by omega)
  have hv : vp_in (nI i) 32 := vp_in_nI (by omega) (by omega)
  intro d
  induction d with
  | zero =>
    intro a x2 x3 f ha hL
    have e : a = c := by omega
    subst e
    refine ⟨hv, ?_⟩
    rw [ec, hca]
    exact br_t (nI_le (Nat.le_refl a) (by omega)) (hfin x2 x3 f hL)
  | succ d ih =>
    intro a x2 x3 f ha hL
    have hqa := hq a (by omega)
    have eq : (nI (q a)).toNatClampNeg = q a := nI_clamp (by omega)
    have hvq : vp_in (nI (q a)) 32 := vp_in_nI (by omega) (by omega)
    have hs := hse a (by omega)
    have next : ∀ y2 y3 z0, ov_L q x_resultStatus x_resultType x_resultValue (a + 1) y2 y3 z0 → wX_resolveCall_81 post (wX_resolveCall_15 post (nI i) x_methodCapacity x_nodeCapacity x_methods x_pickedPhase (nI nc) x_missingNodes x_resolved x_methodName x_methodParams x_methodPlaces x_methodReturn x_methodConstant x_methodVarargs x_callName x_callArgc x_literalType x_literalValue x_subtreeEnd x_resultStatus x_resultMethod x_resultType x_resultPhase x_resultValue (d + 1)) (nI i) y2 y3 (nI (q a)) (nI a) z0 x_methodCapacity x_nodeCapacity x_methods x_pickedPhase (nI nc) x_missingNodes x_resolved x_methodName x_methodParams x_methodPlaces x_methodReturn x_methodConstant x_methodVarargs x_callName x_callArgc x_literalType x_literalValue x_subtreeEnd x_resultStatus x_resultMethod x_resultType x_resultPhase x_resultValue := by
      intro y2 y3 z0 hL'
      exact ⟨hvq, nm_r (e' := nI (q (a + 1))) (by rw [eq]; exact hs) (nm_r (nI_1 a) (ih (a + 1) y2 y3 z0 (by omega) hL'))⟩
    refine ⟨hv, ?_⟩
    rw [ec, hca]
    refine br_f (nI_ge (by omega) (by omega)) (br_f (nI_ge hqa (by omega)) ⟨hvq, ?_⟩)
    rw [eq]
    refine nm_e ⟨hvq, nm_e ?_⟩
    rcases hL with ⟨rfl, hs', rfl, rfl⟩ | ⟨rfl, hb⟩
    · refine br_t rfl ⟨hvq, br_c (fun s1 => ?_) (fun s1 => next _ _ 1 (ov_L_b _ _ s1))⟩
      obtain ⟨t, t1, t2, e⟩ := hT a (by omega) s1
      exact next _ _ 0 (ov_L_g (by omega) hs' s1 t2 e)
    · exact br_f (by decide) (next _ _ 1 (ov_L_k _ _ hb))
theorem xs_resolveCall {post : St2 → Prop} {mc nc i c : Nat} {ln E : Nat → Nat} (h16 : mc ≤ 16) (hM : ov_M mc x_methodParams x_methodPlaces x_methodVarargs ln) (hrt : ∀ m, m < mc → ∃ t, 1 ≤ t ∧ t ≤ 14 ∧ x_methodReturn m = nI t) (hn : nc ≤ 32) (hi : i < nc) (hc : c ≤ 4) (hca : x_callArgc i = nI c) (hq : ∀ a, a < c → ov_cs E i a < nc) (hse : ∀ a, a < c → x_subtreeEnd (ov_cs E i a) = nI (ov_cs E i (a + 1))) (hT : ∀ a, a < c → x_resultStatus (ov_cs E i a) = 1 → ∃ t, 1 ≤ t ∧ t ≤ 14 ∧ x_resultType (ov_cs E i a) = nI t) (h : ∀ s m t p w, ov_O mc x_methodName x_methodPlaces x_methodVarargs x_methodReturn x_methodConstant ln (x_callName i) (ov_bad (ov_cs E i) x_resultStatus c) (nI (ov_zt (ov_tq x_resultType (ov_cs E i)) c)) c (ov_sm (ov_vq x_resultValue (ov_cs E i)) c) s m t p w → post (x_methodCapacity, x_nodeCapacity, nI mc, x_pickedPhase, nI nc, x_missingNodes, x_resolved, x_methodName, x_methodParams, x_methodPlaces, x_methodReturn, x_methodConstant, x_methodVarargs, x_callName, x_callArgc, x_literalType, x_literalValue, upd x_subtreeEnd i (nI (ov_cs E i c)), upd x_resultStatus i s, upd x_resultMethod i m, upd x_resultType i t, upd x_resultPhase i p, vp_updL x_resultValue i w)) : wpX_resolveCall post (x_methodCapacity, x_nodeCapacity, nI mc, x_pickedPhase, nI nc, x_missingNodes, x_resolved, x_methodName, x_methodParams, x_methodPlaces, x_methodReturn, x_methodConstant, x_methodVarargs, x_callName, x_callArgc, x_literalType, x_literalValue, x_subtreeEnd, x_resultStatus, x_resultMethod, x_resultType, x_resultPhase, x_resultValue) (nI i) := by
  unfold wpX_resolveCall
  refine nm_r (nI_1 i) ⟨c + 1, ?_⟩
  exact xr_loop (q := ov_cs E i) hn hi hc hca hq hse hT (fun x2 x3 f hL => xr_98 h16 hM hrt (by omega) hc hT hL h) c 0 0 0 0 (by omega) ov_L_0
end
end
section
def ov_Inv (P : Nat → Nat) (nc k : Nat) (se st ty : Nat → Int32) : Prop := ∀ j, k ≤ j → j < nc → (∃ e, e ≤ nc ∧ se j = nI e ∧ ov_E P j e) ∧ (st j = 1 → ∃ t, 1 ≤ t ∧ t ≤ 14 ∧ ty j = nI t)
theorem ov_Inv_s {P : Nat → Nat} {nc k e : Nat} {se st ty : Nat → Int32} {s t : Int32} (h : ov_Inv P nc (k + 1) se st ty) (he : e ≤ nc) (hE : ov_E P k e) (ht : s = 1 → ∃ τ, 1 ≤ τ ∧ τ ≤ 14 ∧ t = nI τ) : ov_Inv P nc k (upd se k (nI e)) (upd st k s) (upd ty k t) := by
  intro j h1 h2
  by_cases q : j = k
  · subst q
    rw [pk_us, pk_us, pk_us]
    exact ⟨⟨e, he, rfl, hE⟩, ht⟩
  · rw [pk_un q, pk_un q, pk_un q]
    exact h j (by omega) h2
end
section
theorem ts_bit {w : Int64} {s : UInt64} {j : Nat} (hj : j < 64) (hs : s.toNat = j) : ((w.toUInt64 >>> s).toInt64 &&& 1) = 0 ↔ w.toBitVec.getLsbD j = false := by
  have e : (w.toUInt64 >>> s).toInt64.toBitVec = w.toBitVec >>> j := by
    apply BitVec.eq_of_toNat_eq
    show (w.toUInt64 >>> s).toNat = _
    rw [UInt64.toNat_shiftRight, hs, Nat.mod_eq_of_lt hj, BitVec.toNat_ushiftRight]
    rfl
  rw [← Int64.toBitVec_inj, Int64.toBitVec_and, e]
  show w.toBitVec >>> j &&& 1#64 = 0#64 ↔ _
  constructor
  · intro h
    have t := congrArg (fun x => x.getLsbD 0) h
    simpa using t
  · intro h
    apply BitVec.eq_of_getLsbD_eq
    intro i hi
    cases i with
    | zero => simp [h]
    | succ i => simp
theorem wb_cu : ∀ k, k < 64 → ((nI k).toInt64.toUInt64 &&& Int64.toUInt64 63) = UInt64.ofNat k := by decide +kernel
/-! ===== the law's readings of the script ===== -/
def la_c (L : Nat) (xs : Nat → Int32) (k : Nat) : Int32 := if k < L then xs k else 0
theorem la_cell {post : Int32 → Prop} {L k : Nat} {xs : Nat → Int32} {p : Int32} (hL : L ≤ 260) (hp : p = nI k) (hk : k < 2 ^ 30) (h : post (la_c L xs k)) : wpL_cell post L xs () p := by
  subst hp
  unfold la_c at h
  refine pk_le L k (fun a => ?_) (fun a => ⟨vp_in_nI a (by omega), ?_⟩)
  · rw [if_neg (by omega)] at h
    exact h
  · rw [if_pos a] at h
    rw [nI_clamp (by omega)]
    exact h
def la_pv (x : Int32) (m : Nat) : Nat := x.toBitVec.toNat % 2 ^ 31 % m
theorem la_pv_lt (x : Int32) {m : Nat} (h : 0 < m) : la_pv x m < m := Nat.mod_lt _ h
theorem la_pos {post : Int32 → Prop} {x p : Int32} {m : Nat} (hp : p = nI m) (h0 : 0 < m) (hm : m < 2 ^ 31) (h : post (nI (la_pv x m))) : wpL_pos post () x p := by
  subst hp
  refine ⟨nI_ne0 h0 hm, ?_⟩
  have hx : x.toBitVec.toNat % 2 ^ 31 < 2 ^ 31 := Nat.mod_lt _ (by decide)
  rw [pk_and x 31 (by decide), pk_rem hx h0 hm]
  exact h
def la_tt (x : Int32) (i : Nat) : Nat := ov_nb x i % 14 + 1
theorem la_tt_in (x : Int32) (i : Nat) : 1 ≤ la_tt x i ∧ la_tt x i ≤ 14 := by
  unfold la_tt
  have := Nat.mod_lt (ov_nb x i) (by decide : 14 > 0)
  omega
theorem la_tt_lt (x : Int32) (i : Nat) : la_tt x i < 16 := by
  have := la_tt_in x i
  omega
theorem la_enc_loop {post : Int32 → Prop} {x : Int32} {k : Nat} (hk : k ≤ 4) (h : post (nI (ov_zt (la_tt x) k))) : ∀ d i, i + d = k → wL_enc_4 post x (nI k) (d + 1) (nI (ov_zt (la_tt x) i)) (nI i) := by
  intro d
  induction d with
  | zero =>
    intro i hi
    have e : i = k := by omega
    subst e
    exact br_t (nI_le (Nat.le_refl i) (by omega)) h
  | succ d ih =>
    intro i hi
    have hn := ov_nb_lt x i
    refine br_f (nI_ge (by omega) (by omega)) ⟨by decide, ?_⟩
    refine nm_r (e' := nI (la_tt x i)) ?_ (nm_r (ov_put (by omega) (ov_zt_lt _ (la_tt_lt x) i) (la_tt_lt x i)) (nm_r (nI_1 i) (ih (i + 1) (by omega))))
    rw [ov_ty x (by omega)]
    show nI (ov_nb x i) - nI (ov_nb x i) / nI 14 * nI 14 + 1 = _
    rw [pk_rem (by omega) (by decide) (by decide), nI_1]
    rfl
theorem la_enc {post : Int32 → Prop} {x : Int32} {k : Nat} (hk : k ≤ 4) (h : post (nI (ov_zt (la_tt x) k))) : wpL_enc post () x (nI k) :=
  ⟨k + 1, la_enc_loop hk h k 0 (by omega)⟩
theorem la_enc_V (x : Int32) {k : Nat} (hk : k ≤ 4) : ov_V (nI (ov_zt (la_tt x) k)) k := ov_zt_V _ (la_tt_lt x) k hk (fun b _ => la_tt_in x b)
def la_nm (L : Nat) (xs : Nat → Int32) (j : Nat) : Nat := la_pv (la_c L xs (1 + 4 * j)) 3
def la_k (L : Nat) (xs : Nat → Int32) (j : Nat) : Nat := la_pv (la_c L xs (2 + 4 * j)) 5
def la_pa (L : Nat) (xs : Nat → Int32) (j : Nat) : Int32 := nI (ov_zt (la_tt (la_c L xs (3 + 4 * j))) (la_k L xs j))
def la_vz (L : Nat) (xs : Nat → Int32) (j : Nat) : Int32 := if 0 < la_k L xs j ∧ (la_c L xs (4 + 4 * j)) &&& 1 = 1 then 1 else 0
def la_r0 (L : Nat) (xs : Nat → Int32) (j : Nat) : Nat := la_pv ((la_c L xs (4 + 4 * j)).toUInt32 >>> ((1 : Int32).toUInt32 &&& Int32.toUInt32 31)).toInt32 14
def la_rt (L : Nat) (xs : Nat → Int32) (j : Nat) : Int32 := if la_vz L xs j = 0 then (nI (la_r0 L xs j) + 1) ||| 0 else (nI (la_r0 L xs j) + 1) ||| 16
theorem la_k_le (L : Nat) (xs : Nat → Int32) (j : Nat) : la_k L xs j ≤ 4 := by
  have := la_pv_lt (la_c L xs (2 + 4 * j)) (m := 5) (by decide)
  unfold la_k
  omega
theorem la_pa_V (L : Nat) (xs : Nat → Int32) (j : Nat) : ov_V (la_pa L xs j) (la_k L xs j) := la_enc_V _ (la_k_le L xs j)
theorem la_ix (a b j : Nat) : nI a + nI b * nI j = nI (a + b * j) := by rw [pk_mul, nI_add]
section
variable {L : Nat} {xs : Nat → Int32}
theorem la_aName {post : Int32 → Prop} {j : Nat} (hL : L ≤ 260) (hj : j < 1000) (h : post (nI (la_nm L xs j))) : wpL_aName post L xs () (nI j) :=
  la_cell hL (la_ix 1 4 j) (by omega) (la_pos (m := 3) rfl (by decide) (by decide) h)
theorem la_aK {post : Int32 → Prop} {j : Nat} (hL : L ≤ 260) (hj : j < 1000) (h : post (nI (la_k L xs j))) : wpL_aK post L xs () (nI j) :=
  la_cell hL (la_ix 2 4 j) (by omega) (la_pos (m := 5) rfl (by decide) (by decide) h)
theorem la_aParams {post : Int32 → Prop} {j : Nat} (hL : L ≤ 260) (hj : j < 1000) (h : post (la_pa L xs j)) : wpL_aParams post L xs () (nI j) :=
  la_cell hL (la_ix 3 4 j) (by omega) (la_aK hL hj (la_enc (la_k_le L xs j) h))
theorem la_aVar {post : Int32 → Prop} {j : Nat} (hL : L ≤ 260) (hj : j < 1000) (h : post (la_vz L xs j)) : wpL_aVar post L xs () (nI j) := by
  unfold la_vz at h
  have hk := la_k_le L xs j
  refine la_aK hL hj (pk_le (la_k L xs j) 0 (fun a => ?_) (fun a => la_cell hL (la_ix 4 4 j) (by omega) (br_c (fun b => ?_) (fun b => ?_))))
  · rw [if_neg (fun z => absurd z.1 (by omega))] at h
    exact h
  · rw [if_pos ⟨a, b⟩] at h
    exact h
  · rw [if_neg (fun z => b z.2)] at h
    exact h
theorem la_aRet {post : Int32 → Prop} {j : Nat} (hL : L ≤ 260) (hj : j < 1000) (h : post (la_rt L xs j)) : wpL_aRet post L xs () (nI j) := by
  unfold la_rt at h
  refine la_cell hL (la_ix 4 4 j) (by omega) (la_pos (m := 14) rfl (by decide) (by decide) (la_aVar hL hj (br_c (fun a => ?_) (fun a => ?_))))
  · rw [if_pos a] at h
    exact h
  · rw [if_neg a] at h
    exact h
theorem la_vz01 (j : Nat) : la_vz L xs j = 0 ∨ la_vz L xs j = 1 := by
  unfold la_vz
  by_cases h : 0 < la_k L xs j ∧ (la_c L xs (4 + 4 * j)) &&& 1 = 1
  · exact Or.inr (if_pos h)
  · exact Or.inl (if_neg h)
theorem la_z0 : ∀ t, t < 14 → ((nI t + 1) ||| 0) &&& 16 = 0 := by decide +kernel
theorem la_z1 : ∀ t, t < 14 → ¬ (((nI t + 1) ||| 16) &&& 16 = 0) := by decide +kernel
theorem la_rt_z (j : Nat) : ov_z (la_rt L xs j) = la_vz L xs j := by
  have ht : la_r0 L xs j < 14 := la_pv_lt _ (by decide)
  unfold ov_z la_rt
  rcases la_vz01 (L := L) (xs := xs) j with e | e
  · rw [if_pos e, if_pos (la_z0 _ ht), e]
  · have n : ¬ la_vz L xs j = 0 := by rw [e]; decide
    rw [if_neg n, if_neg (la_z1 _ ht), e]
end
/-! ===== the accepted attempts: aj m is the m-th ===== -/
def la_At (mk : Int64) (aj : Nat → Nat) (mc J : Nat) : Prop := (∀ m, m < mc → aj m < J) ∧ (∀ m q, m < q → q < mc → aj m < aj q) ∧ (∀ b, b < 64 → (mk.toBitVec.getLsbD b = true ↔ ∃ m, m < mc ∧ aj m = b))
theorem la_cu {k : Nat} (h : k < 64) : ((nI k).toInt64.toUInt64 &&& Int64.toUInt64 63).toNat = k := by
  rw [wb_cu k h]
  exact Nat.mod_eq_of_lt (by omega)
theorem la_att_loop {post : Int32 → Prop} {mk : Int64} {aj : Nat → Nat} {mc J m : Nat} (hA : la_At mk aj mc J) (hJ : J ≤ 10) (hm : m < mc) (h16 : mc ≤ 16) (h : post (nI (aj m))) : ∀ d j c, j + d = 10 → c ≤ m → (∀ i, i < c → aj i < j) → j ≤ aj c → wL_attemptOf_5 post mk (nI m) (d + 1) (nI c) (nI j) := by
  intro d
  induction d with
  | zero =>
    intro j c hj hc ha hb
    have := hA.1 c (by omega)
    omega
  | succ d ih =>
    intro j c hj hc ha hb
    refine br_f (nI_ge (b := 10) (by omega) (by decide)) (br_c (fun z => ?_) (fun z => ?_))
    · rw [ts_bit (by omega) (la_cu (by omega))] at z
      refine nm_r (nI_1 j) (ih (j + 1) c (by omega) hc (fun i hi => by have := ha i hi; omega) ?_)
      have ne : aj c ≠ j := fun e => by
        have := (hA.2.2 j (by omega)).mpr ⟨c, by omega, e⟩
        rw [this] at z
        exact absurd z (by decide)
      omega
    · rw [ts_bit (by omega) (la_cu (by omega))] at z
      obtain ⟨q, hq, eq⟩ := (hA.2.2 j (by omega)).mp (by revert z; cases mk.toBitVec.getLsbD j <;> simp)
      have cq : c ≤ q := by
        rcases Nat.lt_or_ge q c with w | w
        · have := ha q w
          omega
        · exact w
      have ec : aj c = j := by
        rcases Nat.lt_or_ge c q with w | w
        · have := hA.2.1 c q w hq
          omega
        · have : c = q := by omega
          rw [this]
          exact eq
      refine pk_eq c m (fun e => ?_) (fun e => nm_r (nI_1 c) (nm_r (nI_1 j) (ih (j + 1) (c + 1) (by omega) (by omega) (fun i hi => ?_) ?_)))
      · rw [← ec, e]
        exact h
      · by_cases ei : i = c
        · rw [ei, ec]
          omega
        · have := ha i (by omega)
          omega
      · have := hA.2.1 c (c + 1) (by omega) (by omega)
        omega
theorem la_attemptOf {post : Int32 → Prop} {mk : Int64} {aj : Nat → Nat} {mc J m : Nat} (hA : la_At mk aj mc J) (hJ : J ≤ 10) (hm : m < mc) (h16 : mc ≤ 16) (h : post (nI (aj m))) : wpL_attemptOf post () mk (nI m) :=
  ⟨11, la_att_loop hA hJ hm h16 h 10 0 0 (by omega) (by omega) (fun i hi => absurd hi (by omega)) (by omega)⟩
end
section
/-! ===== the law's own applicability and choice ===== -/
theorem la_nib {post : Int32 → Prop} {x' x p : Int32} {i : Nat} (hx : x' = x) (hp : p = nI (i + 1)) (hi : i < 8) (h : post (nI (ov_nb x i))) : wpL_nib post () x' p := by
  subst hx hp
  unfold wpL_nib
  rw [nI_pred, ov_ty x' hi]
  exact h
theorem la_sub {post : Int32 → Prop} {s t : Nat} (s1 : 1 ≤ s) (s2 : s ≤ 14) (t1 : 1 ≤ t) (t2 : t ≤ 14) (h1 : ov_S s t → post 1) (h0 : ¬ ov_S s t → post 0) : wpL_sub post () (nI s) (nI t) := by
  unfold ov_S at h1 h0
  have k101 : ¬ (s = t) → ¬ (s ≤ 5 ∧ t ≤ 5 ∧ (t = 4 ∧ s < 4 ∨ t = 5 ∧ s < 5 ∨ t = 2 ∧ s = 1)) → ¬ (t = 13 ∧ (s = 7 ∨ s = 8 ∨ s = 10 ∨ s = 11)) → wL_sub_101 post (nI s) (nI t) := by
    intro n1 n2 n3
    refine pk_lt s 7 (fun a => h0 (by omega)) (fun a => pk_lt 13 s (fun b => h0 (by omega)) (fun b => pk_eq t 14 (fun c => h1 (by omega)) (fun c => h0 (by omega))))
  have k69 : ¬ (s = t) → ¬ (s ≤ 5 ∧ t ≤ 5 ∧ (t = 4 ∧ s < 4 ∨ t = 5 ∧ s < 5 ∨ t = 2 ∧ s = 1)) → wL_sub_69 post (nI s) (nI t) := by
    intro n1 n2
    refine pk_eq s 7 (fun a => ?_) (fun a7 => pk_eq s 8 (fun a => ?_) (fun a8 => pk_eq s 10 (fun a => ?_) (fun a10 => pk_eq s 11 (fun a => ?_) (fun a11 => k101 n1 n2 (by omega)))))
    all_goals exact pk_eq t 13 (fun b => h1 (by omega)) (fun b => k101 n1 n2 (by omega))
  have k57 : ¬ (s = t) → ¬ (t ≤ 5 ∧ s ≤ 3 ∧ (t = 4 ∧ s < 4 ∨ t = 5 ∧ s < 5 ∨ t = 2 ∧ s = 1)) → wL_sub_57 post (nI s) (nI t) := by
    intro n1 n2
    exact pk_eq s 4 (fun a => pk_eq t 5 (fun b => h1 (by omega)) (fun b => k69 n1 (by omega))) (fun a => k69 n1 (by omega))
  have k42 : ¬ (s = t) → ¬ (t ≤ 5 ∧ s ≤ 2 ∧ (t = 4 ∧ s < 4 ∨ t = 5 ∧ s < 5 ∨ t = 2 ∧ s = 1)) → wL_sub_42 post (nI s) (nI t) := by
    intro n1 n2
    exact pk_eq s 3 (fun a => pk_eq t 4 (fun b => h1 (by omega)) (fun b4 => pk_eq t 5 (fun b => h1 (by omega)) (fun b5 => k57 n1 (by omega)))) (fun a => k57 n1 (by omega))
  have k27 : ¬ (s = t) → ¬ (s = 1 ∧ (t = 2 ∨ t = 4 ∨ t = 5)) → wL_sub_27 post (nI s) (nI t) := by
    intro n1 n2
    exact pk_eq s 2 (fun a => pk_eq t 4 (fun b => h1 (by omega)) (fun b4 => pk_eq t 5 (fun b => h1 (by omega)) (fun b5 => k42 n1 (by omega)))) (fun a => k42 n1 (by omega))
  unfold wpL_sub
  refine pk_eq s t (fun e => h1 (by omega)) (fun e => pk_eq s 1 (fun f => ?_) (fun f => k27 e (by omega)))
  exact pk_eq t 2 (fun g => h1 (by omega)) (fun g2 => pk_eq t 4 (fun g => h1 (by omega)) (fun g4 => pk_eq t 5 (fun g => h1 (by omega)) (fun g5 => k27 e (by omega))))
theorem la_loose {post : Int32 → Prop} {a p ph : Nat} (a1 : 1 ≤ a) (a2 : a ≤ 14) (p1 : 1 ≤ p) (p2 : p ≤ 14) (hp : ph ≠ 1) (h1 : ov_C a p ph → post 1) (h0 : ¬ ov_C a p ph → post 0) : wpL_loose post () (nI a) (nI p) := by
  unfold ov_C at h1 h0
  have k30 : ¬ ov_S a p → ¬ (a ≤ 6 ∧ ov_S (a + 6) p) → wL_loose_30 post (nI a) (nI p) := by
    intro n1 n2
    refine pk_lt a 7 (fun b => h0 (fun c => c.elim n1 (fun c => c.2.elim n2 (fun c => by omega)))) (fun b => pk_lt 12 a (fun d => h0 (fun c => c.elim n1 (fun c => c.2.elim n2 (fun c => by omega)))) (fun d => ?_))
    show wpL_sub _ () (nI a - nI 6) (nI p)
    rw [pk_sub (by omega)]
    exact la_sub (by omega) (by omega) p1 p2 (fun c => br_f (by decide) (h1 (Or.inr ⟨hp, Or.inr ⟨by omega, d, c⟩⟩))) (fun c => br_t rfl (h0 (fun e => e.elim n1 (fun e => e.2.elim n2 (fun e => c e.2.2)))))
  unfold wpL_loose
  refine la_sub a1 a2 p1 p2 (fun s => br_f (by decide) (h1 (Or.inl s))) (fun s => br_t rfl ?_)
  refine pk_lt a 1 (fun b => absurd b (by omega)) (fun b => pk_lt 6 a (fun d => k30 s (fun c => by omega)) (fun d => ?_))
  show wpL_sub _ () (nI a + nI 6) (nI p)
  rw [nI_add]
  exact la_sub (by omega) (by omega) p1 p2 (fun c => br_f (by decide) (h1 (Or.inr ⟨hp, Or.inl ⟨by omega, c⟩⟩))) (fun c => br_t rfl (k30 s (fun e => c e.2)))
/-- the table of methods is made of the accepted attempts -/
def la_Tb (L : Nat) (xs : Nat → Int32) (aj : Nat → Nat) (mc : Nat) (nm pm pl vr : Nat → Int32) (ln : Nat → Nat) : Prop := ov_M mc pm pl vr ln ∧ ∀ m, m < mc → nm m = nI (la_nm L xs (aj m)) ∧ pm m = la_pa L xs (aj m) ∧ vr m = la_vz L xs (aj m) ∧ ln m = la_k L xs (aj m)
theorem la_pl {mc : Nat} {pm pl vr : Nat → Int32} {ln : Nat → Nat} (hM : ov_M mc pm pl vr ln) {m i : Nat} (hm : m < mc) (hi : i ≤ 4) (h1 : 1 ≤ ln m) (hl : ln m ≤ i + 1) : ov_nb (pl m) i = ov_nb (pm m) (ln m - 1) := by
  obtain ⟨hV, hv, hR⟩ := hM m hm
  rcases Nat.lt_or_ge i (ln m) with c | c
  · rw [hR.1 i c, show ln m - 1 = i from by omega]
  · exact hR.2 h1 i c hi
section
variable {L : Nat} {xs : Nat → Int32} {mk : Int64} {aj : Nat → Nat} {mc J : Nat} {nm pm pl vr : Nat → Int32} {ln : Nat → Nat}
theorem la_app152 {post : Int32 → Prop} {m n : Nat} {ty : Int32} (hM : ov_M mc pm pl vr ln) (hm : m < mc) (hV : ov_V ty n) (h1l : 1 ≤ ln m) (h1 : (∀ i, i < n → ov_C (ov_nb ty i) (ov_nb (pl m) i) 3) → post 1) (h0 : ¬ (∀ i, i < n → ov_C (ov_nb ty i) (ov_nb (pl m) i) 3) → post 0) (hvr : ¬ vr m = 0) : ∀ d i, i + d = n → (∀ j, j < i → ov_C (ov_nb ty j) (ov_nb (pl m) j) 3) → wL_app_152 post L xs ty (nI n) (nI (ln m)) (pm m) (d + 1) (nI (i + 1)) := by
  have h4 := hV.1
  have hl := (hM m hm).1.1
  intro d
  induction d with
  | zero =>
    intro i hi hj
    exact br_t (nI_lt (by omega) (by omega)) (h1 (fun j hj' => hj j (by omega)))
  | succ d ih =>
    intro i hi hj
    have ht := hV.2.2 i (by omega)
    have hq := ov_M_ty hM hm (i := i) (by omega) (Or.inr hvr)
    have k185 : wL_app_185 post L xs (wL_app_152 post L xs ty (nI n) (nI (ln m)) (pm m) (d + 1)) ty (nI n) (nI (ln m)) (pm m) (nI (i + 1)) (nI (ov_nb (pl m) i)) := by
      refine la_nib rfl rfl (by omega) ?_
      exact la_loose ht.1 ht.2 hq.1 hq.2 (by decide) (fun c => br_f (by decide) (nm_r (nI_1 (i + 1)) (ih (i + 1) (by omega) (ov_lt_s hj c)))) (fun c => br_t rfl (h0 (fun z => c (z i (by omega)))))
    refine br_f (nI_nlt (by omega) (by omega)) (pk_lt (ln m - 1) (i + 1) (fun c => la_nib rfl (i := ln m - 1) (by rw [show ln m - 1 + 1 = ln m from by omega]) (by omega) ?_) (fun c => la_nib rfl rfl (by omega) ?_) (pk_sub (b := 1) h1l))
    · rw [← la_pl hM hm (i := i) (by omega) h1l (by omega)]
      exact k185
    · rw [← (hM m hm).2.2.1 i (by omega)]
      exact k185
theorem la_app67 {post : Int32 → Prop} {m n ph : Nat} {ty : Int32} (hM : ov_M mc pm pl vr ln) (hm : m < mc) (hV : ov_V ty n) (hp : ph < 4) (hl : ln m = n) (h1 : (∀ i, i < n → ov_C (ov_nb ty i) (ov_nb (pl m) i) ph) → post 1) (h0 : ¬ (∀ i, i < n → ov_C (ov_nb ty i) (ov_nb (pl m) i) ph) → post 0) : ∀ d i, i + d = n → (∀ j, j < i → ov_C (ov_nb ty j) (ov_nb (pl m) j) ph) → wL_app_67 post L xs ty (nI n) (nI ph) (pm m) (d + 1) (nI (i + 1)) := by
  have h4 := hV.1
  intro d
  induction d with
  | zero =>
    intro i hi hj
    exact br_t (nI_lt (by omega) (by omega)) (h1 (fun j hj' => hj j (by omega)))
  | succ d ih =>
    intro i hi hj
    have ht := hV.2.2 i (by omega)
    have hq := ov_M_ty hM hm (i := i) (by omega) (Or.inl (by omega))
    have e := (hM m hm).2.2.1 i (by omega)
    have go : ov_C (ov_nb ty i) (ov_nb (pl m) i) ph → ∀ x, x = nI (i + 1) + 1 → wL_app_67 post L xs ty (nI n) (nI ph) (pm m) (d + 1) x := fun c => nm_r (nI_1 (i + 1)) (ih (i + 1) (by omega) (ov_lt_s hj c))
    have no : ¬ ov_C (ov_nb ty i) (ov_nb (pl m) i) ph → post 0 := fun c => h0 (fun z => c (z i (by omega)))
    refine br_f (nI_nlt (by omega) (by omega)) (pk_eq ph 1 (fun p => la_nib rfl rfl (by omega) (la_nib rfl rfl (by omega) ?_)) (fun p => la_nib rfl rfl (by omega) (la_nib rfl rfl (by omega) ?_)))
    · rw [← e]
      exact la_sub ht.1 ht.2 hq.1 hq.2 (fun c => br_f (by decide) (go (Or.inl c))) (fun c => br_t rfl (no (fun z => z.elim c (fun z => z.1 p))))
    · rw [← e]
      exact la_loose ht.1 ht.2 hq.1 hq.2 p (fun c => br_f (by decide) (go c)) (fun c => br_t rfl (no c))
theorem la_app {post : Int32 → Prop} {m n ph : Nat} {x ty : Int32} (hL : L ≤ 260) (hA : la_At mk aj mc J) (hJ : J ≤ 10) (h16 : mc ≤ 16) (hB : la_Tb L xs aj mc nm pm pl vr ln) (hm : m < mc) (hV : ov_V ty n) (hp : ph < 4) (h1 : ov_T nm pl vr ln x ty n ph m → post 1) (h0 : ¬ ov_T nm pl vr ln x ty n ph m → post 0) : wpL_app post L xs () mk (nI m) x ty (nI n) (nI ph) := by
  obtain ⟨hM, hb⟩ := hB
  obtain ⟨e1, e2, e3, e4⟩ := hb m hm
  have hj : aj m < 1000 := by have := hA.1 m hm; omega
  have h4 := hV.1
  have hl := (hM m hm).1.1
  unfold wpL_app
  refine la_attemptOf hA hJ hm h16 (la_aName hL hj ?_)
  rw [← e1]
  refine br_c (fun en => la_aK hL hj ?_) (fun en => h0 (fun t => en t.1))
  refine la_aParams hL hj (la_aVar hL hj ?_)
  rw [← e2, ← e3, ← e4]
  rcases (hM m hm).2.1 with e | ⟨e, el⟩
  · refine pk_le 3 ph (fun z => br_t e (h0 (fun t => (t.2.1 (by omega)).1 e))) (fun z => br_t e ?_)
    have z' : ¬ ph = 3 := by omega
    refine pk_eq (ln m) n (fun q => ⟨n + 1, ?_⟩) (fun q => h0 (fun t => q (t.2.2.1 z').2))
    exact la_app67 hM hm hV hp q (fun c => h1 ⟨en, fun y => absurd y z', fun _ => ⟨e, q⟩, c⟩) (fun c => h0 (fun t => c t.2.2.2)) n 0 (by omega) (fun j hj => absurd hj (by omega))
  · have e0 : ¬ vr m = 0 := by rw [e]; decide
    refine pk_le 3 ph (fun z => br_f e0 ?_) (fun z => br_f e0 (h0 (fun t => e0 (t.2.2.1 (by omega)).1)))
    have z' : ph = 3 := by omega
    subst z'
    refine pk_le (ln m - 1) n (fun q => ⟨n + 1, ?_⟩) (fun q => h0 (fun t => absurd (t.2.1 rfl).2 (by omega))) (pk_sub (b := 1) el)
    exact la_app152 hM hm hV el (fun c => h1 ⟨en, fun _ => ⟨e0, by omega⟩, fun y => absurd rfl y, c⟩) (fun c => h0 (fun t => c t.2.2.2)) e0 n 0 (by omega) (fun j hj => absurd hj (by omega))
theorem la_geq96 {post : Int32 → Prop} {m o n : Nat} (hM : ov_M mc pm pl vr ln) (hm : m < mc) (ho : o < mc) (hn : n ≤ 4) (vm : ¬ vr m = 0) (vo : ¬ vr o = 0) (lm : 1 ≤ ln m) (lo : 1 ≤ ln o) (h1 : ov_MS pl (n + 1) m o → post 1) (h0 : ¬ ov_MS pl (n + 1) m o → post 0) : ∀ d i, i + d = n + 1 → (∀ j, j < i → ov_S (ov_nb (pl m) j) (ov_nb (pl o) j)) → wL_geq_96 post L xs (nI n) (pm m) (pm o) (nI (ln m)) (nI (ln o)) (d + 1) (nI (i + 1)) := by
  have hlm := (hM m hm).1.1
  have hlo := (hM o ho).1.1
  intro d
  induction d with
  | zero =>
    intro i hi hj
    refine br_t ?_ (h1 (fun j hj' => hj j (by omega)))
    rw [nI_1]
    exact nI_lt (by omega) (by omega)
  | succ d ih =>
    intro i hi hj
    have a := ov_M_ty hM hm (i := i) (by omega) (Or.inr vm)
    have b := ov_M_ty hM ho (i := i) (by omega) (Or.inr vo)
    have k159 : wL_geq_159 post L xs (wL_geq_96 post L xs (nI n) (pm m) (pm o) (nI (ln m)) (nI (ln o)) (d + 1)) (nI n) (pm m) (pm o) (nI (ln m)) (nI (ln o)) (nI (i + 1)) (nI (ov_nb (pl m) i)) (nI (ov_nb (pl o) i)) :=
      la_sub a.1 a.2 b.1 b.2 (fun c => br_f (by decide) (nm_r (nI_1 (i + 1)) (ih (i + 1) (by omega) (ov_lt_s hj c)))) (fun c => br_t rfl (h0 (fun z => c (z i (by omega)))))
    have k131 : wL_geq_131 post L xs (wL_geq_96 post L xs (nI n) (pm m) (pm o) (nI (ln m)) (nI (ln o)) (d + 1)) (nI n) (pm m) (pm o) (nI (ln m)) (nI (ln o)) (nI (i + 1)) (nI (ov_nb (pl m) i)) := by
      refine pk_lt (ln o - 1) (i + 1) (fun c => la_nib rfl (i := ln o - 1) (by rw [show ln o - 1 + 1 = ln o from by omega]) (by omega) ?_) (fun c => la_nib rfl rfl (by omega) ?_) (pk_sub (b := 1) lo)
      · rw [← la_pl hM ho (i := i) (by omega) lo (by omega)]
        exact k159
      · rw [← (hM o ho).2.2.1 i (by omega)]
        exact k159
    refine br_f (by rw [nI_1]; exact nI_nlt (by omega) (by omega)) ?_
    refine pk_lt (ln m - 1) (i + 1) (fun c => la_nib rfl (i := ln m - 1) (by rw [show ln m - 1 + 1 = ln m from by omega]) (by omega) ?_) (fun c => la_nib rfl rfl (by omega) ?_) (pk_sub (b := 1) lm)
    · rw [← la_pl hM hm (i := i) (by omega) lm (by omega)]
      exact k131
    · rw [← (hM m hm).2.2.1 i (by omega)]
      exact k131
theorem la_geq56 {post : Int32 → Prop} {m o n : Nat} (hM : ov_M mc pm pl vr ln) (hm : m < mc) (ho : o < mc) (hn : n ≤ 4) (lm : ln m = n) (lo : ln o = n) (h1 : ov_MS pl n m o → post 1) (h0 : ¬ ov_MS pl n m o → post 0) : ∀ d i, i + d = n → (∀ j, j < i → ov_S (ov_nb (pl m) j) (ov_nb (pl o) j)) → wL_geq_56 post L xs (nI n) (pm m) (pm o) (d + 1) (nI (i + 1)) := by
  intro d
  induction d with
  | zero =>
    intro i hi hj
    exact br_t (nI_lt (by omega) (by omega)) (h1 (fun j hj' => hj j (by omega)))
  | succ d ih =>
    intro i hi hj
    have a := ov_M_ty hM hm (i := i) (by omega) (Or.inl (by omega))
    have b := ov_M_ty hM ho (i := i) (by omega) (Or.inl (by omega))
    refine br_f (nI_nlt (by omega) (by omega)) (la_nib rfl rfl (by omega) (la_nib rfl rfl (by omega) ?_))
    rw [← (hM m hm).2.2.1 i (by omega), ← (hM o ho).2.2.1 i (by omega)]
    exact la_sub a.1 a.2 b.1 b.2 (fun c => br_f (by decide) (nm_r (nI_1 (i + 1)) (ih (i + 1) (by omega) (ov_lt_s hj c)))) (fun c => br_t rfl (h0 (fun z => c (z i (by omega)))))
theorem la_geq {post : Int32 → Prop} {m o n ph : Nat} {ty : Int32} (hL : L ≤ 260) (hA : la_At mk aj mc J) (hJ : J ≤ 10) (h16 : mc ≤ 16) (hB : la_Tb L xs aj mc nm pm pl vr ln) (hm : m < mc) (ho : o < mc) (hn : n ≤ 4) (hp : ph < 4) (am : ov_A pl vr ln ty n ph m) (ao : ov_A pl vr ln ty n ph o) (h1 : ov_MS pl (ov_lim n ph) m o → post 1) (h0 : ¬ ov_MS pl (ov_lim n ph) m o → post 0) : wpL_geq post L xs () mk (nI m) (nI o) (nI n) (nI ph) := by
  obtain ⟨hM, hb⟩ := hB
  obtain ⟨_, e2, e3, e4⟩ := hb m hm
  obtain ⟨_, f2, f3, f4⟩ := hb o ho
  have hj : aj m < 1000 := by have := hA.1 m hm; omega
  have hk : aj o < 1000 := by have := hA.1 o ho; omega
  unfold wpL_geq
  refine la_attemptOf hA hJ hm h16 (la_attemptOf hA hJ ho h16 (la_aParams hL hj (la_aParams hL hk (la_aK hL hj (la_aK hL hk ?_)))))
  rw [← e2, ← e4, ← f2, ← f4]
  refine pk_le 3 ph (fun z => ⟨n + 1 + 1, ?_⟩) (fun z => ⟨n + 1, ?_⟩)
  · have z' : ph = 3 := by omega
    rw [show ov_lim n ph = n + 1 from if_pos z'] at h1 h0
    have vm := (am.1 z').1
    have vo := (ao.1 z').1
    have lm : 1 ≤ ln m := by
      rcases (hM m hm).2.1 with e | e
      · exact absurd e vm
      · exact e.2
    have lo : 1 ≤ ln o := by
      rcases (hM o ho).2.1 with e | e
      · exact absurd e vo
      · exact e.2
    exact la_geq96 hM hm ho hn vm vo lm lo h1 h0 (n + 1) 0 (by omega) (fun j hj => absurd hj (by omega))
  · have z' : ¬ ph = 3 := by omega
    rw [show ov_lim n ph = n from if_neg z'] at h1 h0
    exact la_geq56 hM hm ho hn (am.2.1 z').2 (ao.2.1 z').2 h1 h0 n 0 (by omega) (fun j hj => absurd hj (by omega))
theorem la_any_loop {post : Int32 → Prop} {n ph : Nat} {x ty : Int32} (hL : L ≤ 260) (hA : la_At mk aj mc J) (hJ : J ≤ 10) (h16 : mc ≤ 16) (hB : la_Tb L xs aj mc nm pm pl vr ln) (hV : ov_V ty n) (hp : ph < 4) (h1 : (∃ m, m < mc ∧ ov_T nm pl vr ln x ty n ph m) → post 1) (h0 : (∀ m, m < mc → ¬ ov_T nm pl vr ln x ty n ph m) → post 0) : ∀ d m, m + d = mc → (∀ q, q < m → ¬ ov_T nm pl vr ln x ty n ph q) → wL_anyApp_3 post L xs mk (nI mc) x ty (nI n) (nI ph) (d + 1) (nI m) := by
  intro d
  induction d with
  | zero =>
    intro m hm hq
    exact br_t (nI_le (by omega) (by omega)) (h0 (fun q h => hq q (by omega)))
  | succ d ih =>
    intro m hm hq
    refine br_f (nI_ge (by omega) (by omega)) ?_
    exact la_app hL hA hJ h16 hB (by omega) hV hp (fun t => br_f (by decide) (h1 ⟨m, by omega, t⟩)) (fun t => br_t rfl (nm_r (nI_1 m) (ih (m + 1) (by omega) (ov_lt_s hq t))))
theorem la_anyApp {post : Int32 → Prop} {n ph : Nat} {x ty : Int32} (hL : L ≤ 260) (hA : la_At mk aj mc J) (hJ : J ≤ 10) (h16 : mc ≤ 16) (hB : la_Tb L xs aj mc nm pm pl vr ln) (hV : ov_V ty n) (hp : ph < 4) (h1 : (∃ m, m < mc ∧ ov_T nm pl vr ln x ty n ph m) → post 1) (h0 : (∀ m, m < mc → ¬ ov_T nm pl vr ln x ty n ph m) → post 0) : wpL_anyApp post L xs () mk (nI mc) x ty (nI n) (nI ph) :=
  ⟨mc + 1, la_any_loop hL hA hJ h16 hB hV hp h1 h0 mc 0 (by omega) (fun q hq => absurd hq (by omega))⟩
theorem la_win36 {post J3 : Int32 → Prop} {m n ph : Nat} {x ty : Int32} (hL : L ≤ 260) (hA : la_At mk aj mc J) (hJ : J ≤ 10) (h16 : mc ≤ 16) (hB : la_Tb L xs aj mc nm pm pl vr ln) (hV : ov_V ty n) (hp : ph < 4) (hm : m < mc) (tm : ov_T nm pl vr ln x ty n ph m) (h1 : ov_B mc (ov_T nm pl vr ln x ty n ph) (ov_MS pl (ov_lim n ph)) m → post (nI m)) (h0 : ¬ ov_B mc (ov_T nm pl vr ln x ty n ph) (ov_MS pl (ov_lim n ph)) m → J3 (nI (m + 1))) : ∀ d o f, o + d = mc → ((f = 1 ∧ ∀ q, q < o → q ≠ m → ov_T nm pl vr ln x ty n ph q → ov_MS pl (ov_lim n ph) m q ∧ ¬ ov_MS pl (ov_lim n ph) q m) ∨ (f = 0 ∧ ¬ ov_B mc (ov_T nm pl vr ln x ty n ph) (ov_MS pl (ov_lim n ph)) m)) → wL_winner_36 post L xs J3 mk (nI mc) x ty (nI n) (nI ph) (nI m) (d + 1) f (nI o) := by
  have h4 := hV.1
  have bad : ¬ ov_B mc (ov_T nm pl vr ln x ty n ph) (ov_MS pl (ov_lim n ph)) m → wL_winner_116 post L xs J3 mk (nI mc) x ty (nI n) (nI ph) (nI m) 0 := fun nb => br_t rfl (nm_r (nI_1 m) (h0 nb))
  intro d
  induction d with
  | zero =>
    intro o f ho hf
    refine br_t (nI_le (by omega) (by omega)) ?_
    rcases hf with ⟨rfl, hq⟩ | ⟨rfl, nb⟩
    · exact br_f (by decide) (h1 (fun q h => hq q (by omega)))
    · exact bad nb
  | succ d ih =>
    intro o f ho hf
    refine br_f (nI_ge (by omega) (by omega)) ?_
    rcases hf with ⟨rfl, hq⟩ | ⟨rfl, nb⟩
    · refine br_f (by decide) ?_
      refine pk_eq o m (fun e => nm_r (nI_1 o) (ih (o + 1) 1 (by omega) (Or.inl ⟨rfl, ov_lt_s hq (fun z => absurd e z)⟩))) (fun ne => ?_)
      refine la_app hL hA hJ h16 hB (by omega) hV hp (fun t => br_f (by decide) ?_) (fun t => br_t rfl (nm_r (nI_1 o) (ih (o + 1) 1 (by omega) (Or.inl ⟨rfl, ov_lt_s hq (fun _ g => absurd g t)⟩))))
      refine la_geq hL hA hJ h16 hB hm (by omega) h4 hp tm.2 t.2 (fun a => br_f (by decide) ?_) (fun a => br_t rfl (nm_r (nI_1 o) (ih (o + 1) 0 (by omega) (Or.inr ⟨rfl, fun B => a (B o (by omega) ne t).1⟩))))
      exact la_geq hL hA hJ h16 hB (by omega) hm h4 hp t.2 tm.2 (fun b => br_f (by decide) (nm_r (nI_1 o) (ih (o + 1) 0 (by omega) (Or.inr ⟨rfl, fun B => (B o (by omega) ne t).2 b⟩)))) (fun b => br_t rfl (nm_r (nI_1 o) (ih (o + 1) 1 (by omega) (Or.inl ⟨rfl, ov_lt_s hq (fun _ _ => ⟨a, b⟩)⟩))))
    · exact br_t rfl (bad nb)
theorem la_win3 {post : Int32 → Prop} {n ph : Nat} {x ty : Int32} (hL : L ≤ 260) (hA : la_At mk aj mc J) (hJ : J ≤ 10) (h16 : mc ≤ 16) (hB : la_Tb L xs aj mc nm pm pl vr ln) (hV : ov_V ty n) (hp : ph < 4) (h1 : ∀ m, m < mc → ov_W nm pl vr ln mc x ty n ph m → (∀ q, q < m → ¬ ov_W nm pl vr ln mc x ty n ph q) → post (nI m)) (h0 : (∀ q, q < mc → ¬ ov_W nm pl vr ln mc x ty n ph q) → post (-1)) : ∀ d m, m + d = mc → (∀ q, q < m → ¬ ov_W nm pl vr ln mc x ty n ph q) → wL_winner_3 post L xs mk (nI mc) x ty (nI n) (nI ph) (d + 1) (nI m) := by
  intro d
  induction d with
  | zero =>
    intro m hm hq
    exact br_t (nI_le (by omega) (by omega)) (h0 (fun q h => hq q (by omega)))
  | succ d ih =>
    intro m hm hq
    refine br_f (nI_ge (by omega) (by omega)) ?_
    refine la_app hL hA hJ h16 hB (by omega) hV hp (fun t => br_f (by decide) ⟨mc + 1, ?_⟩) (fun t => br_t rfl (nm_r (nI_1 m) (ih (m + 1) (by omega) (ov_lt_s hq (fun g => t g.1)))))
    exact la_win36 hL hA hJ h16 hB hV hp (by omega) t (fun b => h1 m (by omega) ⟨t, b⟩ hq) (fun b => ih (m + 1) (by omega) (ov_lt_s hq (fun g => b g.2))) mc 0 1 (by omega) (Or.inl ⟨rfl, fun q hq' => absurd hq' (by omega)⟩)
theorem la_winner {post : Int32 → Prop} {n ph : Nat} {x ty : Int32} (hL : L ≤ 260) (hA : la_At mk aj mc J) (hJ : J ≤ 10) (h16 : mc ≤ 16) (hB : la_Tb L xs aj mc nm pm pl vr ln) (hV : ov_V ty n) (hp : ph < 4) (h1 : ∀ m, m < mc → ov_W nm pl vr ln mc x ty n ph m → (∀ q, q < m → ¬ ov_W nm pl vr ln mc x ty n ph q) → post (nI m)) (h0 : (∀ q, q < mc → ¬ ov_W nm pl vr ln mc x ty n ph q) → post (-1)) : wpL_winner post L xs () mk (nI mc) x ty (nI n) (nI ph) :=
  ⟨mc + 1, la_win3 hL hA hJ h16 hB hV hp h1 h0 mc 0 (by omega) (fun q hq => absurd hq (by omega))⟩
end
end
section
/-! ===== the nodes of the law: la_ac j arguments, la_pd j wanting ahead of node j ===== -/
def la_f (L : Nat) (xs : Nat → Int32) (u p : Nat) : Nat := if u < 14 ∧ (la_c L xs (82 + u)) &&& 1 = 1 ∧ u + p < 10 then la_pv ((la_c L xs (82 + u)).toUInt32 >>> ((1 : Int32).toUInt32 &&& Int32.toUInt32 31)).toInt32 3 else 0
def la_pd (L : Nat) (xs : Nat → Int32) : Nat → Nat
  | 0 => 1
  | u + 1 => la_pd L xs u - 1 + la_f L xs u (la_pd L xs u)
def la_ac (L : Nat) (xs : Nat → Int32) (u : Nat) : Nat := la_f L xs u (la_pd L xs u)
def la_cn (L : Nat) (xs : Nat → Int32) (u : Nat) : Nat := la_pv ((la_c L xs (82 + u)).toUInt32 >>> ((3 : Int32).toUInt32 &&& Int32.toUInt32 31)).toInt32 3
theorem la_f_le (L : Nat) (xs : Nat → Int32) (u p : Nat) : la_f L xs u p ≤ 2 := by
  unfold la_f
  by_cases h : u < 14 ∧ (la_c L xs (82 + u)) &&& 1 = 1 ∧ u + p < 10
  · rw [if_pos h]
    have := la_pv_lt ((la_c L xs (82 + u)).toUInt32 >>> ((1 : Int32).toUInt32 &&& Int32.toUInt32 31)).toInt32 (m := 3) (by decide)
    omega
  · rw [if_neg h]
    omega
theorem la_pd_le (L : Nat) (xs : Nat → Int32) : ∀ u, la_pd L xs u ≤ 1 + u := by
  intro u
  induction u with
  | zero => exact Nat.le_refl 1
  | succ u ih =>
    have a := la_f_le L xs u (la_pd L xs u)
    show la_pd L xs u - 1 + la_f L xs u (la_pd L xs u) ≤ 1 + (u + 1)
    omega
theorem la_P {L : Nat} {xs : Nat → Int32} {nc : Nat} (h : ∀ u, u < nc → 1 ≤ la_pd L xs u) : ov_P (la_ac L xs) (la_pd L xs) nc := by
  refine ⟨rfl, fun j hj => ⟨h j hj, ?_⟩⟩
  have a := h j hj
  show la_pd L xs j - 1 + la_f L xs j (la_pd L xs j) + 1 = la_pd L xs j + la_f L xs j (la_pd L xs j)
  omega
section
variable {L : Nat} {xs : Nat → Int32}
theorem la_argc_body {post : Int32 → Prop} {n t u p : Nat} (hL : L ≤ 260) (hu : u ≤ t) (ht : t ≤ 64) (hp : p ≤ 1 + u) (k53 : wL_argcOf_53 post L xs (wL_argcOf_4 post L xs (nI t) n) (nI t) (nI p) (nI u) (nI (la_f L xs u p))) : wL_argcOf_4 post L xs (nI t) (n + 1) (nI p) (nI u) := by
  have k0 : ¬ (u < 14 ∧ (la_c L xs (82 + u)) &&& 1 = 1 ∧ u + p < 10) → wL_argcOf_53 post L xs (wL_argcOf_4 post L xs (nI t) n) (nI t) (nI p) (nI u) (nI 0) := by
    intro h
    rw [show la_f L xs u p = 0 from if_neg h] at k53
    exact k53
  refine br_f (nI_nlt hu (by omega)) (la_cell hL (nI_add 82 u) (by omega) ?_)
  refine pk_le 14 u (fun a => k0 (by omega)) (fun a => br_c (fun b => ?_) (fun b => k0 (fun z => b z.2.1)))
  refine pk_le 10 (u + p) (fun c => k0 (by omega)) (fun c => la_pos (m := 3) rfl (by decide) (by decide) ?_) rfl (nI_add u p)
  rw [show la_f L xs u p = la_pv ((la_c L xs (82 + u)).toUInt32 >>> ((1 : Int32).toUInt32 &&& Int32.toUInt32 31)).toInt32 3 from if_pos ⟨a, b, c⟩] at k53
  exact k53
theorem la_argc_loop {post : Int32 → Prop} {t : Nat} (hL : L ≤ 260) (ht : t ≤ 64) (hpd : ∀ u, u < t → 1 ≤ la_pd L xs u) (h : post (nI (la_ac L xs t))) : ∀ d u, u + d = t → wL_argcOf_4 post L xs (nI t) (d + 1) (nI (la_pd L xs u)) (nI u) := by
  intro d
  induction d with
  | zero =>
    intro u hu
    have e : u = t := by omega
    subst e
    exact la_argc_body hL (Nat.le_refl u) ht (la_pd_le L xs u) (br_t rfl h)
  | succ d ih =>
    intro u hu
    have a := hpd u (by omega)
    refine la_argc_body hL (by omega) ht (la_pd_le L xs u) (br_f (fun z => ?_) (nm_r (e' := nI (la_pd L xs (u + 1))) ?_ (nm_r (nI_1 u) (ih (u + 1) (by omega)))))
    · have := (nI_eq (by omega) (by omega)).mp z
      omega
    · show nI (la_pd L xs u) - nI 1 + nI (la_f L xs u (la_pd L xs u)) = nI (la_pd L xs u - 1 + la_f L xs u (la_pd L xs u))
      rw [pk_sub a, nI_add]
theorem la_argcOf {post : Int32 → Prop} {t : Nat} (hL : L ≤ 260) (ht : t ≤ 64) (hpd : ∀ u, u < t → 1 ≤ la_pd L xs u) (h : post (nI (la_ac L xs t))) : wpL_argcOf post L xs () (nI t) :=
  ⟨t + 1, la_argc_loop hL ht hpd h t 0 (by omega)⟩
theorem la_skip_loop {post : Int32 → Prop} {nc j e : Nat} (hL : L ≤ 260) (h32 : nc ≤ 32) (hpd : ∀ u, u < nc → 1 ≤ la_pd L xs u) (hE : ov_E (la_pd L xs) j e) (he : e ≤ nc) (h : post (nI e)) : ∀ d k, k + d = e → j ≤ k → wL_skipEnd_2 post L xs (d + 1) (nI k) (nI (la_pd L xs k + 1 - la_pd L xs j)) := by
  intro d
  induction d with
  | zero =>
    intro k hk hj
    have e0 : k = e := by omega
    subst e0
    have z : la_pd L xs k + 1 - la_pd L xs j = 0 := by
      have := hE.2.1
      omega
    rw [z]
    exact br_t (by decide) h
  | succ d ih =>
    intro k hk hj
    have a := hE.2.2 k hj (by omega)
    have b := la_pd_le L xs k
    have c := hpd k (by omega)
    refine br_f (nI_nle (by omega) (by omega)) (br_f (nI_ge (b := 64) (by omega) (by decide)) (la_argcOf hL (by omega) (fun u hu => hpd u (by omega)) ?_))
    refine nm_r (e' := nI (la_pd L xs (k + 1) + 1 - la_pd L xs j)) ?_ (nm_r (nI_1 k) (ih (k + 1) (by omega) (by omega)))
    show nI (la_pd L xs k + 1 - la_pd L xs j) - nI 1 + nI (la_f L xs k (la_pd L xs k)) = nI (la_pd L xs k - 1 + la_f L xs k (la_pd L xs k) + 1 - la_pd L xs j)
    rw [pk_sub (by omega), nI_add]
    exact congrArg nI (by omega)
theorem la_skipEnd {post : Int32 → Prop} {nc j e : Nat} (hL : L ≤ 260) (h32 : nc ≤ 32) (hpd : ∀ u, u < nc → 1 ≤ la_pd L xs u) (hE : ov_E (la_pd L xs) j e) (he : e ≤ nc) (h : post (nI e)) : wpL_skipEnd post L xs () (nI j) := by
  have a := hE.1
  have key : wL_skipEnd_2 post L xs (e - j + 1) (nI j) (nI (la_pd L xs j + 1 - la_pd L xs j)) := la_skip_loop hL h32 hpd hE he h (e - j) j (by omega) (Nat.le_refl j)
  rw [show la_pd L xs j + 1 - la_pd L xs j = 1 from by omega] at key
  exact ⟨_, key⟩
end
/-! ===== X: pick, addLiteral, addCall, resolve ===== -/
section
variable {x_methodCapacity x_nodeCapacity x_methods x_pickedPhase x_nodes x_missingNodes x_resolved : Int32} {x_methodName x_methodParams x_methodPlaces x_methodReturn x_methodConstant x_methodVarargs x_callName x_callArgc x_literalType : Nat → Int32} {x_literalValue : Nat → Int64} {x_subtreeEnd x_resultStatus x_resultMethod x_resultType x_resultPhase : Nat → Int32} {x_resultValue : Nat → Int64}
theorem xs_pick {post : Int32 → St2 → Prop} {mc n x : Nat} {ln : Nat → Nat} {ty : Int32} (h16 : mc ≤ 16) (hM : ov_M mc x_methodParams x_methodPlaces x_methodVarargs ln) (hV : ov_V ty n) (hx : x < 8) (h : ∀ d r, ov_Ph mc (ov_T x_methodName x_methodPlaces x_methodVarargs ln (nI x) ty n) d → ov_Ch mc (ov_W x_methodName x_methodPlaces x_methodVarargs ln mc (nI x) ty n d) d r → post r (x_methodCapacity, x_nodeCapacity, nI mc, nI d, x_nodes, x_missingNodes, x_resolved, x_methodName, x_methodParams, x_methodPlaces, x_methodReturn, x_methodConstant, x_methodVarargs, x_callName, x_callArgc, x_literalType, x_literalValue, x_subtreeEnd, x_resultStatus, x_resultMethod, x_resultType, x_resultPhase, x_resultValue)) : wpX_pick post (x_methodCapacity, x_nodeCapacity, nI mc, x_pickedPhase, x_nodes, x_missingNodes, x_resolved, x_methodName, x_methodParams, x_methodPlaces, x_methodReturn, x_methodConstant, x_methodVarargs, x_callName, x_callArgc, x_literalType, x_literalValue, x_subtreeEnd, x_resultStatus, x_resultMethod, x_resultType, x_resultPhase, x_resultValue) (nI x) ty := by
  have o0 : ¬ ((1 : Int32) = 0) := by decide
  unfold wpX_pick
  refine br_f (nI_pos (by omega)) (br_f (nI_ge (b := 8) hx (by decide)) (br_f o0 ?_))
  refine xs_isTypeList (fun M _ => br_f o0 ?_) (fun z => absurd hV (z n))
  refine xs_decidingPhase h16 hM hV (fun d hd => ?_)
  exact xs_chooseMethod h16 hM hV (by have := ov_Ph_le hd; omega) (fun r hr => h d r hd hr)
theorem xs_addLiteral {post : Int32 → St2 → Prop} {nc p t : Nat} {v : Int32} (hn : nc ≤ 32) (hp : p ≤ 97) (hp1 : ¬ (0 < nc ∧ p = 0) → 1 ≤ p) (t1 : 1 ≤ t) (t2 : t ≤ 14) (href : post (-4) (x_methodCapacity, nI 32, x_methods, x_pickedPhase, nI nc, nI p, x_resolved, x_methodName, x_methodParams, x_methodPlaces, x_methodReturn, x_methodConstant, x_methodVarargs, x_callName, x_callArgc, x_literalType, x_literalValue, x_subtreeEnd, x_resultStatus, x_resultMethod, x_resultType, x_resultPhase, x_resultValue)) (hacc : nc < 32 → 1 ≤ p → post (nI nc) (x_methodCapacity, nI 32, x_methods, x_pickedPhase, nI (nc + 1), nI (p - 1 + 0), 0, x_methodName, x_methodParams, x_methodPlaces, x_methodReturn, x_methodConstant, x_methodVarargs, upd x_callName nc (-1), upd x_callArgc nc (nI 0), upd x_literalType nc (nI t), vp_updL x_literalValue nc (ov_N t v.toInt64), x_subtreeEnd, x_resultStatus, x_resultMethod, x_resultType, x_resultPhase, x_resultValue)) : wpX_addLiteral post (x_methodCapacity, nI 32, x_methods, x_pickedPhase, nI nc, nI p, x_resolved, x_methodName, x_methodParams, x_methodPlaces, x_methodReturn, x_methodConstant, x_methodVarargs, x_callName, x_callArgc, x_literalType, x_literalValue, x_subtreeEnd, x_resultStatus, x_resultMethod, x_resultType, x_resultPhase, x_resultValue) (nI t) v := by
  have o0 : ¬ ((1 : Int32) = 0) := by decide
  unfold wpX_addLiteral
  refine xs_isType_yes t1 t2 (br_f o0 ?_)
  refine xs_room (Nat.le_refl 32) hn hp (fun a b => br_f o0 ?_) (fun a => br_t rfl href)
  have ec : (nI nc).toNatClampNeg = nc := nI_clamp (by omega)
  have hv : vp_in (nI nc) 32 := vp_in_nI (by omega) (by omega)
  refine ⟨hv, nm_r (e' := upd x_literalType nc (nI t)) (by rw [ec]) ?_⟩
  refine xs_narrow t1 t2 ⟨hv, nm_r (e' := vp_updL x_literalValue nc (ov_N t v.toInt64)) (by rw [ec]) ?_⟩
  exact xs_append (c := 0) (by omega) (hp1 b) (hacc (by omega) (hp1 b))
theorem xs_addCall {post : Int32 → St2 → Prop} {nc p x c : Nat} (hn : nc ≤ 32) (hp : p ≤ 97) (hp1 : ¬ (0 < nc ∧ p = 0) → 1 ≤ p) (hx : x < 8) (hc : c ≤ 4) (href : post (-4) (x_methodCapacity, nI 32, x_methods, x_pickedPhase, nI nc, nI p, x_resolved, x_methodName, x_methodParams, x_methodPlaces, x_methodReturn, x_methodConstant, x_methodVarargs, x_callName, x_callArgc, x_literalType, x_literalValue, x_subtreeEnd, x_resultStatus, x_resultMethod, x_resultType, x_resultPhase, x_resultValue)) (hacc : nc < 32 → 1 ≤ p → post (nI nc) (x_methodCapacity, nI 32, x_methods, x_pickedPhase, nI (nc + 1), nI (p - 1 + c), 0, x_methodName, x_methodParams, x_methodPlaces, x_methodReturn, x_methodConstant, x_methodVarargs, upd x_callName nc (nI x), upd x_callArgc nc (nI c), x_literalType, x_literalValue, x_subtreeEnd, x_resultStatus, x_resultMethod, x_resultType, x_resultPhase, x_resultValue)) : wpX_addCall post (x_methodCapacity, nI 32, x_methods, x_pickedPhase, nI nc, nI p, x_resolved, x_methodName, x_methodParams, x_methodPlaces, x_methodReturn, x_methodConstant, x_methodVarargs, x_callName, x_callArgc, x_literalType, x_literalValue, x_subtreeEnd, x_resultStatus, x_resultMethod, x_resultType, x_resultPhase, x_resultValue) (nI x) (nI c) := by
  have o0 : ¬ ((1 : Int32) = 0) := by decide
  unfold wpX_addCall
  refine br_f (nI_pos (by omega)) (br_f (nI_ge (b := 8) hx (by decide)) (br_f o0 ?_))
  refine br_f (nI_pos (by omega)) (br_f (nI_nlt (a := 4) hc (by decide)) ?_)
  refine xs_room (Nat.le_refl 32) hn hp (fun a b => br_f o0 ?_) (fun a => br_t rfl href)
  exact xs_append (by omega) (hp1 b) (hacc (by omega) (hp1 b))
end
def la_Nd (nc : Nat) (cN ca lt : Nat → Int32) (g cn : Nat → Nat) : Prop := ∀ j, j < nc → ca j = nI (g j) ∧ g j ≤ 4 ∧ ((g j = 0 ∧ cN j = -1 ∧ ∃ t, 1 ≤ t ∧ t ≤ 14 ∧ lt j = nI t) ∨ (0 < g j ∧ cN j = nI (cn j) ∧ ¬ cN j = -1))
/-- what a resolved call node keeps: its arguments are well, its method is the choice for their types -/
def la_J (mc nc k : Nat) (nm pl vr : Nat → Int32) (ln g P : Nat → Nat) (cN st me ty : Nat → Int32) : Prop := ∀ j, k ≤ j → j < nc → ¬ cN j = -1 → st j = 1 → ∀ q : Nat → Nat, q 0 = j + 1 → (∀ a, a < g j → ov_E P (q a) (q (a + 1))) → (∀ a, a < g j → st (q a) = 1) ∧ ∃ d, ov_Ph mc (ov_T nm pl vr ln (cN j) (nI (ov_zt (ov_tq ty q) (g j))) (g j)) d ∧ ov_Ch mc (ov_W nm pl vr ln mc (cN j) (nI (ov_zt (ov_tq ty q) (g j))) (g j) d) d (me j)
theorem ov_zt_c {t u : Nat → Nat} : ∀ a, (∀ b, b < a → t b = u b) → ov_zt t a = ov_zt u a := by
  intro a
  induction a with
  | zero => intro _; rfl
  | succ a ih =>
    intro h
    show ov_zt t a + t a * 2 ^ (4 * a) = ov_zt u a + u a * 2 ^ (4 * a)
    rw [ih (fun b hb => h b (by omega)), h a (by omega)]
theorem la_gt {P q : Nat → Nat} {j c : Nat} (q0 : q 0 = j + 1) (hq : ∀ a, a < c → ov_E P (q a) (q (a + 1))) : ∀ a, a ≤ c → j < q a := by
  intro a
  induction a with
  | zero => intro _; omega
  | succ a ih =>
    intro ha
    have b := ih (by omega)
    have d := (hq a (by omega)).1
    omega
theorem la_tq_n {ty : Nat → Int32} {q : Nat → Nat} {k b : Nat} {t : Int32} (h : q b ≠ k) : ov_tq (upd ty k t) q b = ov_tq ty q b := by
  unfold ov_tq
  rw [pk_un h]
theorem la_J_s {mc nc k : Nat} {nm pl vr : Nat → Int32} {ln g P : Nat → Nat} {cN st me ty : Nat → Int32} {s m t : Int32} (h : la_J mc nc (k + 1) nm pl vr ln g P cN st me ty) (hk : ¬ cN k = -1 → s = 1 → ∀ q : Nat → Nat, q 0 = k + 1 → (∀ a, a < g k → ov_E P (q a) (q (a + 1))) → (∀ a, a < g k → st (q a) = 1) ∧ ∃ d, ov_Ph mc (ov_T nm pl vr ln (cN k) (nI (ov_zt (ov_tq ty q) (g k))) (g k)) d ∧ ov_Ch mc (ov_W nm pl vr ln mc (cN k) (nI (ov_zt (ov_tq ty q) (g k))) (g k) d) d m) : la_J mc nc k nm pl vr ln g P cN (upd st k s) (upd me k m) (upd ty k t) := by
  intro j h1 h2 hc hs q q0 hq
  have gt := la_gt q0 hq
  have ez : ov_zt (ov_tq (upd ty k t) q) (g j) = ov_zt (ov_tq ty q) (g j) := ov_zt_c _ (fun b hb => la_tq_n (by have := gt b (by omega); omega))
  rw [ez]
  by_cases e : j = k
  · subst e
    rw [pk_us] at hs
    rw [pk_us]
    obtain ⟨a1, a2⟩ := hk hc hs q q0 hq
    refine ⟨fun a ha => ?_, a2⟩
    rw [pk_un (by have := gt a (by omega); omega)]
    exact a1 a ha
  · rw [pk_un e] at hs
    rw [pk_un e]
    obtain ⟨a1, a2⟩ := h j (by omega) h2 hc hs q q0 hq
    refine ⟨fun a ha => ?_, a2⟩
    rw [pk_un (by have := gt a (by omega); omega)]
    exact a1 a ha
theorem la_O_m {mc : Nat} {nm pl vr rt co : Nat → Int32} {ln : Nat → Nat} {x : Int32} {bad : Prop} {z : Int32} {n : Nat} {sum : Int64} {s m t p : Int32} {w : Int64} (h : ov_O mc nm pl vr rt co ln x bad z n sum s m t p w) (hs : s = 1) : ¬ bad ∧ ∃ d, ov_Ph mc (ov_T nm pl vr ln x z n) d ∧ ov_Ch mc (ov_W nm pl vr ln mc x z n d) d m := by
  rcases h with ⟨b, e, _⟩ | ⟨b, d, r, hd, hr, _, ⟨k, τ, hk, e, τ1, τ2, ht, _, em, _, _⟩ | ⟨e, er, _⟩⟩
  · rw [e] at hs
    exact absurd hs (by decide)
  · refine ⟨b, d, hd, ?_⟩
    rw [em, ← e]
    exact hr
  · rw [hs] at er
    rcases e with e | e
    · exact absurd (er.trans e) (by decide)
    · exact absurd (er.trans e) (by decide)
theorem la_q_u {P q E : Nat → Nat} {k c : Nat} (q0 : q 0 = k + 1) (hq : ∀ a, a < c → ov_E P (q a) (q (a + 1))) (hE : ∀ a, a < c → ov_E P (ov_cs E k a) (ov_cs E k (a + 1))) : ∀ a, a ≤ c → q a = ov_cs E k a := by
  intro a
  induction a with
  | zero => intro _; exact q0
  | succ a ih =>
    intro ha
    have b := ih (by omega)
    have d := hq a (by omega)
    rw [b] at d
    exact ov_E_u d (hE a (by omega))
end
section
/-! ===== X: resolve keeps la_J ===== -/
theorem la_run {cm cn mc nc : Nat} {ln g P nmx : Nat → Nat} {ph rs : Int32} {nm pm pl rt co vr cN ca lt : Nat → Int32} {lv : Nat → Int64} {post : Int32 → St2 → Prop} (h16 : mc ≤ 16) (h32 : nc ≤ 32) (hM : ov_M mc pm pl vr ln) (hrt : ∀ m, m < mc → ∃ t, 1 ≤ t ∧ t ≤ 14 ∧ rt m = nI t) (hNd : la_Nd nc cN ca lt g nmx) (hP : ov_P g P nc) (h0 : P nc = 0) (hpost : ∀ (se' st' me' ty' pp' : Nat → Int32) (va' : Nat → Int64), ov_Inv P nc 0 se' st' ty' → la_J mc nc 0 nm pl vr ln g P cN st' me' ty' → post (st' 0) (nI cm, nI cn, nI mc, ph, nI nc, nI (P nc), 1, nm, pm, pl, rt, co, vr, cN, ca, lt, lv, se', st', me', ty', pp', va')) : ∀ k, k ≤ nc → ∀ (se st me ty pp : Nat → Int32) (va : Nat → Int64), ov_Inv P nc k se st ty → la_J mc nc k nm pl vr ln g P cN st me ty → wX_resolve_17 post (k + 1) (nI k + (-1)) (nI cm) (nI cn) (nI mc) ph (nI nc) (nI (P nc)) rs nm pm pl rt co vr cN ca lt lv se st me ty pp va := by
  intro k
  induction k with
  | zero =>
    intro _ se st me ty pp va hI hJ
    have z : nI 0 + (-1) < 0 := by decide
    exact br_t z (hpost se st me ty pp va hI hJ)
  | succ k ih =>
    intro hk se st me ty pp va hI hJ
    have ec : (nI k).toNatClampNeg = k := nI_clamp (by omega)
    have hv : vp_in (nI k) 32 := vp_in_nI (by omega) (by omega)
    have hn : ¬ nI k < 0 := nI_pos (by omega)
    obtain ⟨hca, hg4, hnode⟩ := hNd k (by omega)
    rw [pk_m1]
    refine br_f hn ⟨hv, ?_⟩
    rw [ec]
    rcases hnode with ⟨g0, c0, t, t1, t2, lt0⟩ | ⟨g1, c1, c2⟩
    · have hE : ov_E P k (k + 1) := by
        have := ov_K_0 hP (i := k) (by omega)
        rw [g0] at this
        exact ov_K_e this
      refine br_t c0 ⟨hv, nm_r (e' := upd se k (nI (k + 1))) (by rw [nI_1]) ⟨hv, hv, xs_setResult (by omega) ?_⟩⟩
      exact nm_e (ih (by omega) _ _ _ _ _ _ (ov_Inv_s hI hk hE (fun _ => ⟨t, t1, t2, lt0⟩)) (la_J_s hJ (fun z => absurd c0 z)))
    · have hE : ∀ j, k < j → j < nc → se j = nI (se j).toNatClampNeg ∧ (se j).toNatClampNeg ≤ nc ∧ ov_E P j (se j).toNatClampNeg := by
        intro j h1 h2
        obtain ⟨⟨e, e1, e2, e3⟩, _⟩ := hI j h1 h2
        have e4 : (se j).toNatClampNeg = e := by
          rw [e2]
          exact nI_clamp (by omega)
        rw [e4]
        exact ⟨e2, e1, e3⟩
      have hQ := ov_q (E := fun j => (se j).toNatClampNeg) hP h0 (i := k) (by omega) (fun j h1 h2 => (hE j h1 h2).2)
      generalize hEE : (fun j => (se j).toNatClampNeg) = E at hQ
      have hE' : ∀ j, k < j → j < nc → se j = nI (E j) ∧ E j ≤ nc ∧ ov_E P j (E j) := by
        rw [← hEE]
        exact hE
      have hq : ∀ a, a < g k → ov_cs E k a < nc := fun a ha => ov_K_in hP h0 (by omega) (hQ a (by omega)).1 ha (hQ a (by omega)).2
      have hgt : ∀ a, a < g k → k < ov_cs E k a := fun a ha => (hQ a (by omega)).1.1
      have hse : ∀ a, a < g k → se (ov_cs E k a) = nI (ov_cs E k (a + 1)) := fun a ha => (hE' _ (hgt a ha) (hq a ha)).1
      have hEa : ∀ a, a < g k → ov_E P (ov_cs E k a) (ov_cs E k (a + 1)) := fun a ha => (hE' _ (hgt a ha) (hq a ha)).2.2
      have hT : ∀ a, a < g k → st (ov_cs E k a) = 1 → ∃ t, 1 ≤ t ∧ t ≤ 14 ∧ ty (ov_cs E k a) = nI t := fun a ha => (hI _ (hgt a ha) (hq a ha)).2
      refine br_f c2 (xs_resolveCall h16 hM hrt h32 (by omega) hg4 hca hq hse hT (fun s m t p w hO => ?_))
      refine nm_e (ih (by omega) _ _ _ _ _ _ (ov_Inv_s hI (hQ (g k) (Nat.le_refl _)).2 (ov_K_e (hQ (g k) (Nat.le_refl _)).1) (ov_O_t hO)) (la_J_s hJ (fun _ hs q q0 hqq => ?_)))
      have hqe := la_q_u q0 hqq hEa
      obtain ⟨nb, d, hd, hr⟩ := la_O_m hO hs
      have ez : ov_zt (ov_tq ty q) (g k) = ov_zt (ov_tq ty (ov_cs E k)) (g k) := ov_zt_c _ (fun b hb => by
        show min (ty (q b)).toNatClampNeg 15 = min (ty (ov_cs E k b)).toNatClampNeg 15
        rw [hqe b (by omega)])
      rw [ez]
      refine ⟨fun a ha => ?_, d, hd, hr⟩
      rw [hqe a (by omega)]
      by_cases w1 : st (ov_cs E k a) = 1
      · exact w1
      · exact absurd ⟨a, ha, w1⟩ nb
theorem xs_resolve {cm cn mc nc : Nat} {ln g P nmx : Nat → Nat} {ph rs : Int32} {nm pm pl rt co vr cN ca lt : Nat → Int32} {lv : Nat → Int64} {se st me ty pp : Nat → Int32} {va : Nat → Int64} {post : Int32 → St2 → Prop} (h16 : mc ≤ 16) (h32 : nc ≤ 32) (hb : P nc ≤ 97) (hM : ov_M mc pm pl vr ln) (hrt : ∀ m, m < mc → ∃ t, 1 ≤ t ∧ t ≤ 14 ∧ rt m = nI t) (hNd : la_Nd nc cN ca lt g nmx) (hP : ov_P g P nc) (href : post (-4) (nI cm, nI cn, nI mc, ph, nI nc, nI (P nc), rs, nm, pm, pl, rt, co, vr, cN, ca, lt, lv, se, st, me, ty, pp, va)) (hpost : P nc = 0 → ∀ (se' st' me' ty' pp' : Nat → Int32) (va' : Nat → Int64), ov_Inv P nc 0 se' st' ty' → la_J mc nc 0 nm pl vr ln g P cN st' me' ty' → post (st' 0) (nI cm, nI cn, nI mc, ph, nI nc, nI (P nc), 1, nm, pm, pl, rt, co, vr, cN, ca, lt, lv, se', st', me', ty', pp', va')) : wpX_resolve post (nI cm, nI cn, nI mc, ph, nI nc, nI (P nc), rs, nm, pm, pl, rt, co, vr, cN, ca, lt, lv, se, st, me, ty, pp, va) := by
  unfold wpX_resolve
  refine xs_isComplete h32 hb (fun c => br_f (by decide) ?_) (fun c => br_t rfl href)
  refine nm_r (Int32.sub_eq_add_neg _ _) ⟨nc + 1, ?_⟩
  exact la_run h16 h32 hM hrt hNd hP c.2 (hpost c.2) nc (Nat.le_refl nc) se st me ty pp va (fun j h1 h2 => absurd h2 (by omega)) (fun j h1 h2 => absurd h2 (by omega))
end
section
/-! ===== the law's last loops ===== -/
section
variable {x_methodCapacity x_nodeCapacity x_methods x_pickedPhase x_nodes x_missingNodes x_resolved : Int32} {x_methodName x_methodParams x_methodPlaces x_methodReturn x_methodConstant x_methodVarargs x_callName x_callArgc x_literalType : Nat → Int32} {x_literalValue : Nat → Int64} {x_subtreeEnd x_resultStatus x_resultMethod x_resultType x_resultPhase : Nat → Int32} {x_resultValue : Nat → Int64}
theorem xs_nodeType {post : Int32 → Prop} {j nc : Nat} (hr : ¬ x_resolved = 0) (hj : j < nc) (hn : nc ≤ 32) (h : post (x_resultType j)) : wpX_nodeType post (x_methodCapacity, x_nodeCapacity, x_methods, x_pickedPhase, nI nc, x_missingNodes, x_resolved, x_methodName, x_methodParams, x_methodPlaces, x_methodReturn, x_methodConstant, x_methodVarargs, x_callName, x_callArgc, x_literalType, x_literalValue, x_subtreeEnd, x_resultStatus, x_resultMethod, x_resultType, x_resultPhase, x_resultValue) (nI j) := by
  have ec : (nI j).toNatClampNeg = j := nI_clamp (by omega)
  unfold wpX_nodeType
  refine xs_hasResult_yes hr hj hn (br_f (by decide) ⟨vp_in_nI (by omega) (by omega), ?_⟩)
  rw [ec]
  exact h
theorem xs_nodeMethod {post : Int32 → Prop} {j nc : Nat} (hr : ¬ x_resolved = 0) (hj : j < nc) (hn : nc ≤ 32) (h : post (x_resultMethod j)) : wpX_nodeMethod post (x_methodCapacity, x_nodeCapacity, x_methods, x_pickedPhase, nI nc, x_missingNodes, x_resolved, x_methodName, x_methodParams, x_methodPlaces, x_methodReturn, x_methodConstant, x_methodVarargs, x_callName, x_callArgc, x_literalType, x_literalValue, x_subtreeEnd, x_resultStatus, x_resultMethod, x_resultType, x_resultPhase, x_resultValue) (nI j) := by
  have ec : (nI j).toNatClampNeg = j := nI_clamp (by omega)
  unfold wpX_nodeMethod
  refine xs_hasResult_yes hr hj hn (br_f (by decide) ⟨vp_in_nI (by omega) (by omega), ?_⟩)
  rw [ec]
  exact h
theorem xs_nodeStatus {post : Int32 → Prop} {j nc : Nat} (hr : ¬ x_resolved = 0) (hj : j < nc) (hn : nc ≤ 32) (h : post (x_resultStatus j)) : wpX_nodeStatus post (x_methodCapacity, x_nodeCapacity, x_methods, x_pickedPhase, nI nc, x_missingNodes, x_resolved, x_methodName, x_methodParams, x_methodPlaces, x_methodReturn, x_methodConstant, x_methodVarargs, x_callName, x_callArgc, x_literalType, x_literalValue, x_subtreeEnd, x_resultStatus, x_resultMethod, x_resultType, x_resultPhase, x_resultValue) (nI j) := by
  have ec : (nI j).toNatClampNeg = j := nI_clamp (by omega)
  unfold wpX_nodeStatus
  refine xs_isNode_yes hj hn (br_f (by decide) (br_f hr ⟨vp_in_nI (by omega) (by omega), ?_⟩))
  rw [ec]
  exact h
end
section
variable {L : Nat} {xs : Nat → Int32} {mk : Int64} {aj : Nat → Nat} {mc J kc ks : Nat} {nm pm pl rt co vr cN ca lt : Nat → Int32} {lv : Nat → Int64} {se st me ty pp : Nat → Int32} {va : Nat → Int64} {ln : Nat → Nat} {ph rs : Int32} {post : Int32 → Prop}
theorem la_497 {nc i nf d : Nat} {q : Nat → Nat} (hL : L ≤ 260) (h16 : mc ≤ 16) (h32 : nc ≤ 32) (hM : ov_M mc pm pl vr ln) (hpd : ∀ u, u < nc → 1 ≤ la_pd L xs u) (hi : i < nc) (hq : ∀ a, a < la_ac L xs i → ov_E (la_pd L xs) (q a) (q (a + 1)) ∧ q a < nc ∧ q (a + 1) ≤ nc) (hty : ∀ a, a < la_ac L xs i → ∃ t, 1 ≤ t ∧ t ≤ 14 ∧ ty (q a) = nI t) (hd : ov_Ph mc (ov_T nm pl vr ln (nI (la_cn L xs i)) (nI (ov_zt (ov_tq ty q) (la_ac L xs i))) (la_ac L xs i)) d) (hr : ov_Ch mc (ov_W nm pl vr ln mc (nI (la_cn L xs i)) (nI (ov_zt (ov_tq ty q) (la_ac L xs i))) (la_ac L xs i) d) d (me i)) (next : ∀ ph', wL_law_452 post L xs (nI nc) kc ks nf (nI (i + 1)) (nI 16) (nI 32) (nI mc) ph' (nI nc) (nI (la_pd L xs nc)) 1 nm pm pl rt co vr cN ca lt lv se st me ty pp va) : ∀ e b, b + e = la_ac L xs i → wL_law_497 post L xs (wL_law_452 post L xs (nI nc) kc ks nf) (nI nc) (nI i) (nI (la_ac L xs i)) kc ks (nI 16) (nI 32) (nI mc) ph (nI nc) (nI (la_pd L xs nc)) 1 nm pm pl rt co vr cN ca lt lv se st me ty pp va (e + 1) (nI (ov_zt (ov_tq ty q) b)) (nI (q b)) (nI b) := by
  have hac := la_f_le L xs i (la_pd L xs i)
  have hac2 : la_ac L xs i ≤ 2 := hac
  have o0 : ¬ ((1 : Int32) = 0) := by decide
  intro e
  induction e with
  | zero =>
    intro b hb
    have eb : b = la_ac L xs i := by omega
    subst eb
    have hV : ov_V (nI (ov_zt (ov_tq ty q) (la_ac L xs i))) (la_ac L xs i) := by
      refine ov_zt_V _ (ov_tq_lt ty q) _ (by omega) (fun b hb => ?_)
      obtain ⟨t, t1, t2, e⟩ := hty b hb
      rw [ov_tq_eq e t2]
      exact ⟨t1, t2⟩
    refine br_t (nI_le (Nat.le_refl _) (by omega)) (la_cell hL (nI_add 82 i) (by omega) (la_pos (m := 3) rfl (by decide) (by decide) ?_))
    have hcn : la_cn L xs i < 3 := la_pv_lt _ (by decide)
    refine xs_pick (x := la_cn L xs i) h16 hM hV (by omega) (fun d' r' hd' hr' => ?_)
    have e1 := ov_Ph_u hd hd'
    subst e1
    have e2 := ov_Ch_u hr hr'
    refine xs_nodeMethod o0 hi h32 (br_t e2 (nm_r (nI_1 i) (next (nI d))))
  | succ e ih =>
    intro b hb
    obtain ⟨hE, h1, h2⟩ := hq b (by omega)
    obtain ⟨t, t1, t2, et⟩ := hty b (by omega)
    refine br_f (nI_ge (by omega) (by omega)) (xs_nodeType o0 h1 h32 (nm_r (e' := nI (ov_zt (ov_tq ty q) (b + 1))) ?_ (la_skipEnd hL h32 hpd hE h2 (nm_r (nI_1 b) (ih (b + 1) (by omega))))))
    rw [et, ov_put (by omega) (ov_zt_lt _ (ov_tq_lt ty q) b) (by omega)]
    show _ = nI (ov_zt (ov_tq ty q) b + ov_tq ty q b * 2 ^ (4 * b))
    rw [ov_tq_eq et t2]
theorem la_452 {nc : Nat} (hL : L ≤ 260) (h16 : mc ≤ 16) (h32 : nc ≤ 32) (hM : ov_M mc pm pl vr ln) (hpd : ∀ u, u < nc → 1 ≤ la_pd L xs u) (h0 : la_pd L xs nc = 0) (hNd : la_Nd nc cN ca lt (la_ac L xs) (la_cn L xs)) (hI : ov_Inv (la_pd L xs) nc 0 se st ty) (hJ : la_J mc nc 0 nm pl vr ln (la_ac L xs) (la_pd L xs) cN st me ty) (hp : post 1) : ∀ e i ph, i + e = nc → wL_law_452 post L xs (nI nc) kc ks (e + 1) (nI i) (nI 16) (nI 32) (nI mc) ph (nI nc) (nI (la_pd L xs nc)) 1 nm pm pl rt co vr cN ca lt lv se st me ty pp va := by
  have hP := la_P hpd
  have o0 : ¬ ((1 : Int32) = 0) := by decide
  intro e
  induction e with
  | zero =>
    intro i ph hi
    exact br_t (nI_le (by omega) (by omega)) hp
  | succ e ih =>
    intro i ph hi
    have hil : i < nc := by omega
    have hac2 : la_ac L xs i ≤ 2 := la_f_le L xs i (la_pd L xs i)
    refine br_f (nI_ge (by omega) (by omega)) (la_argcOf hL (by omega) (fun u hu => hpd u (by omega)) ?_)
    refine pk_eq (la_ac L xs i) 0 (fun z => nm_r (nI_1 i) (ih (i + 1) ph (by omega))) (fun z => xs_nodeStatus o0 hil h32 (br_c (fun s1 => nm_r (nI_1 i) ⟨la_ac L xs i + 1, ?_⟩) (fun s1 => nm_r (nI_1 i) (ih (i + 1) ph (by omega)))))
    obtain ⟨_, _, hnode⟩ := hNd i hil
    rcases hnode with ⟨g0, _⟩ | ⟨g1, c1, c2⟩
    · exact absurd g0 z
    have hE : ∀ j, i < j → j < nc → (se j).toNatClampNeg ≤ nc ∧ ov_E (la_pd L xs) j (se j).toNatClampNeg := by
      intro j h1 h2
      obtain ⟨⟨e', e1, e2, e3⟩, _⟩ := hI j (by omega) h2
      have e4 : (se j).toNatClampNeg = e' := by
        rw [e2]
        exact nI_clamp (by omega)
      rw [e4]
      exact ⟨e1, e3⟩
    have hQ := ov_q (E := fun j => (se j).toNatClampNeg) hP h0 hil hE
    have hq : ∀ a, a < la_ac L xs i → ov_cs (fun j => (se j).toNatClampNeg) i a < nc := fun a ha => ov_K_in hP h0 hil (hQ a (by omega)).1 ha (hQ a (by omega)).2
    have hgt : ∀ a, a < la_ac L xs i → i < ov_cs (fun j => (se j).toNatClampNeg) i a := fun a ha => (hQ a (by omega)).1.1
    have hEa : ∀ a, a < la_ac L xs i → ov_E (la_pd L xs) (ov_cs (fun j => (se j).toNatClampNeg) i a) (ov_cs (fun j => (se j).toNatClampNeg) i (a + 1)) := fun a ha => (hE _ (hgt a ha) (hq a ha)).2
    obtain ⟨hst, d, hd, hr⟩ := hJ i (by omega) hil c2 s1 (ov_cs (fun j => (se j).toNatClampNeg) i) rfl hEa
    rw [c1] at hd hr
    exact la_497 hL h16 h32 hM hpd hil (fun a ha => ⟨hEa a ha, hq a ha, (hQ (a + 1) (by omega)).2⟩) (fun a ha => (hI _ (by omega) (hq a ha)).2 (hst a ha)) hd hr (fun ph' => ih (i + 1) ph' (by omega)) (la_ac L xs i) 0 (by omega)
theorem la_433 {nc : Nat} (hL : L ≤ 260) (h16 : mc ≤ 16) (h32 : nc ≤ 32) (hM : ov_M mc pm pl vr ln) (hrt : ∀ m, m < mc → ∃ t, 1 ≤ t ∧ t ≤ 14 ∧ rt m = nI t) (hpd : ∀ u, u < nc → 1 ≤ la_pd L xs u) (hNd : la_Nd nc cN ca lt (la_ac L xs) (la_cn L xs)) (hp : post 1) : wL_law_433 post L xs (nI nc) 1 kc ks (nI 16) (nI 32) (nI mc) ph (nI nc) (nI (la_pd L xs nc)) rs nm pm pl rt co vr cN ca lt lv se st me ty pp va := by
  have hb := la_pd_le L xs nc
  refine br_f (by decide) ?_
  refine xs_resolve (P := la_pd L xs) h16 h32 (by omega) hM hrt hNd (la_P hpd) (br_t rfl hp) (fun h0 se' st' me' ty' pp' va' hI hJ => br_c (fun _ => hp) (fun _ => ⟨nc + 1, ?_⟩))
  exact la_452 hL h16 h32 hM hpd h0 hNd hI hJ hp nc 0 _ (by omega)
theorem la_Nd_l {nc : Nat} {cN ca lt : Nat → Int32} {g cn : Nat → Nat} {t : Nat} (h : la_Nd nc cN ca lt g cn) (hg : g nc = 0) (t1 : 1 ≤ t) (t2 : t ≤ 14) : la_Nd (nc + 1) (upd cN nc (-1)) (upd ca nc (nI 0)) (upd lt nc (nI t)) g cn := by
  intro j hj
  by_cases e : j = nc
  · subst e
    rw [pk_us, pk_us, pk_us, hg]
    exact ⟨rfl, by omega, Or.inl ⟨rfl, rfl, t, t1, t2, rfl⟩⟩
  · rw [pk_un e, pk_un e, pk_un e]
    exact h j (by omega)
theorem la_Nd_c {nc : Nat} {cN ca lt : Nat → Int32} {g cn : Nat → Nat} (h : la_Nd nc cN ca lt g cn) (hg : 0 < g nc) (h4 : g nc ≤ 4) (hc : cn nc < 8) : la_Nd (nc + 1) (upd cN nc (nI (cn nc))) (upd ca nc (nI (g nc))) lt g cn := by
  intro j hj
  by_cases e : j = nc
  · subst e
    rw [pk_us, pk_us]
    exact ⟨rfl, h4, Or.inr ⟨hg, rfl, ov_nn1 (by omega)⟩⟩
  · rw [pk_un e, pk_un e]
    exact h j (by omega)
theorem la_n4 {k : Nat} (h : k < 2 ^ 31) : ¬ (-4) = nI k := fun e => nI_pos h (by rw [← e]; decide)
theorem la_328 (hL : L ≤ 260) (h16 : mc ≤ 16) (hM : ov_M mc pm pl vr ln) (hrt : ∀ m, m < mc → ∃ t, 1 ≤ t ∧ t ≤ 14 ∧ rt m = nI t) (hp : post 1) : ∀ e nc, nc + e = 40 → nc ≤ 32 → (∀ u, u < nc → 1 ≤ la_pd L xs u) → ∀ (rs : Int32) (cN ca lt : Nat → Int32) (lv : Nat → Int64), la_Nd nc cN ca lt (la_ac L xs) (la_cn L xs) → wL_law_328 post L xs 1 kc ks (e + 1) (nI (la_pd L xs nc)) (nI nc) (nI 16) (nI 32) (nI mc) ph (nI nc) (nI (la_pd L xs nc)) rs nm pm pl rt co vr cN ca lt lv se st me ty pp va := by
  intro e
  induction e with
  | zero =>
    intro nc hn h32
    omega
  | succ e ih =>
    intro nc hn h32 hpd rs cN ca lt lv hNd
    have hb := la_pd_le L xs nc
    have hac2 : la_ac L xs nc ≤ 2 := la_f_le L xs nc (la_pd L xs nc)
    refine br_f (nI_ge (b := 40) (by omega) (by decide)) (pk_le (la_pd L xs nc) 0 (fun a => la_433 hL h16 h32 hM hrt hpd hNd hp) (fun a => la_cell hL (nI_add 82 nc) (by omega) (la_argcOf hL (by omega) hpd ?_)))
    have hpd' : ∀ u, u < nc + 1 → 1 ≤ la_pd L xs u := ov_lt_s hpd a
    have eq : nI (la_pd L xs nc) - 1 + nI (la_ac L xs nc) = nI (la_pd L xs (nc + 1)) := by
      show nI (la_pd L xs nc) - nI 1 + nI (la_f L xs nc (la_pd L xs nc)) = nI (la_pd L xs nc - 1 + la_f L xs nc (la_pd L xs nc))
      rw [pk_sub a, nI_add]
    have e1 : la_pd L xs nc - 1 + la_ac L xs nc = la_pd L xs (nc + 1) := rfl
    refine pk_le (la_ac L xs nc) 0 (fun b => la_pos (m := 14) rfl (by decide) (by decide) ?_) (fun b => la_pos (m := 3) rfl (by decide) (by decide) ?_)
    · have b0 : la_ac L xs nc = 0 := by omega
      have ht : la_pv ((la_c L xs (82 + nc)).toUInt32 >>> ((3 : Int32).toUInt32 &&& Int32.toUInt32 31)).toInt32 14 < 14 := la_pv_lt _ (by decide)
      rw [nI_1]
      refine xs_addLiteral h32 (by omega) (fun _ => a) (by omega) (by omega) (br_f (la_n4 (by omega)) (br_t rfl hp)) (fun hlt _ => br_t rfl (nm_r eq (nm_r (nI_1 nc) ?_)))
      rw [show la_pd L xs nc - 1 + 0 = la_pd L xs (nc + 1) from by rw [← e1, b0]]
      exact ih (nc + 1) (by omega) (by omega) hpd' _ _ _ _ _ (la_Nd_l hNd b0 (by omega) (by omega))
    · have hc : la_cn L xs nc < 3 := la_pv_lt _ (by decide)
      refine xs_addCall (x := la_cn L xs nc) h32 (by omega) (fun _ => a) (by omega) (by omega) (br_f (la_n4 (by omega)) (br_t rfl hp)) (fun hlt _ => br_t rfl (nm_r eq (nm_r (nI_1 nc) ?_)))
      rw [e1]
      exact ih (nc + 1) (by omega) (by omega) hpd' _ _ _ _ _ (la_Nd_c hNd b (by omega) (by omega))
theorem la_253 {n d k pk nf : Nat} {x tl r : Int32} (hL : L ≤ 260) (hA : la_At mk aj mc J) (hJ : J ≤ 10) (h16 : mc ≤ 16) (hB : la_Tb L xs aj mc nm pm pl vr ln) (hV : ov_V tl n) (hd : ov_Ph mc (ov_T nm pl vr ln x tl n) d) (hr : ov_Ch mc (ov_W nm pl vr ln mc x tl n d) d r) (next : wL_law_126 post L xs mk (nI mc) (nI pk) kc ks nf (nI (k + 1)) (nI 16) (nI 32) (nI mc) ph (nI 0) (nI 1) rs nm pm pl rt co vr cN ca lt lv se st me ty pp va) : wL_law_253 post L xs (wL_law_126 post L xs mk (nI mc) (nI pk) kc ks nf) mk (nI mc) (nI pk) (nI k) x (nI n) tl r (nI d) (nI d) kc ks (nI 16) (nI 32) (nI mc) ph (nI 0) (nI 1) rs nm pm pl rt co vr cN ca lt lv se st me ty pp va := by
  have h3 := ov_Ph_le hd
  refine pk_eq d 0 (fun z => ?_) (fun z => ?_)
  · rcases hr with ⟨_, er⟩ | ⟨h1, _⟩
    · exact br_t er (nm_r (nI_1 k) next)
    · omega
  · refine la_winner hL hA hJ h16 hB hV (by omega) (fun m hm hW hl => ?_) (fun hn => ?_)
    · have er := ov_Ch_u hr (Or.inr ⟨by omega, Or.inl ⟨m, hm, rfl, hW, hl⟩⟩)
      exact br_t (nI_pos' (by omega)) (br_t er (br_t rfl (nm_r (nI_1 k) next)))
    · have er := ov_Ch_u hr (Or.inr ⟨by omega, Or.inr ⟨rfl, hn⟩⟩)
      exact br_f (by decide) (br_t er (nm_r (nI_1 k) next))
theorem la_214 {n d k pk nf : Nat} {x tl r : Int32} (hL : L ≤ 260) (hA : la_At mk aj mc J) (hJ : J ≤ 10) (h16 : mc ≤ 16) (hB : la_Tb L xs aj mc nm pm pl vr ln) (hV : ov_V tl n) (hd : ov_Ph mc (ov_T nm pl vr ln x tl n) d) (hr : ov_Ch mc (ov_W nm pl vr ln mc x tl n d) d r) (next : wL_law_126 post L xs mk (nI mc) (nI pk) kc ks nf (nI (k + 1)) (nI 16) (nI 32) (nI mc) ph (nI 0) (nI 1) rs nm pm pl rt co vr cN ca lt lv se st me ty pp va) : ∀ e p, p + e = 4 → 1 ≤ p → (∀ b, 1 ≤ b → b < p → ∀ m, m < mc → ¬ ov_T nm pl vr ln x tl n b m) → wL_law_214 post L xs (wL_law_126 post L xs mk (nI mc) (nI pk) kc ks nf) mk (nI mc) (nI pk) (nI k) x (nI n) tl r (nI d) kc ks (nI 16) (nI 32) (nI mc) ph (nI 0) (nI 1) rs nm pm pl rt co vr cN ca lt lv se st me ty pp va (e + 1) 0 (nI p) := by
  have fin := la_253 hL hA hJ h16 hB hV hd hr next
  intro e
  induction e with
  | zero =>
    intro p hp h1 hq
    have d0 : d = 0 := ov_Ph_u hd (Or.inl ⟨rfl, fun b b1 b3 => hq b b1 (by omega)⟩)
    subst d0
    exact br_t (nI_lt (a := 3) (by omega) (by omega)) fin
  | succ e ih =>
    intro p hp h1 hq
    refine br_f (nI_nlt (a := 3) (by omega) (by omega)) (br_t rfl (la_anyApp hL hA hJ h16 hB hV (by omega) (fun ex => br_f (by decide) (nm_r (nI_1 p) ?_)) (fun no => br_t rfl (nm_r (nI_1 p) (ih (p + 1) (by omega) (by omega) (fun b b1 b2 => ?_))))))
    · have dp : d = p := ov_Ph_u hd (Or.inr ⟨h1, by omega, ex, hq⟩)
      subst dp
      exact br_c (fun _ => fin) (fun _ => br_f (nI_ne0 (by omega) (by omega)) fin)
    · by_cases eb : b = p
      · rw [eb]; exact no
      · exact hq b b1 (by omega)
theorem la_126 {pk : Nat} (hL : L ≤ 260) (hA : la_At mk aj mc J) (hJ : J ≤ 10) (h16 : mc ≤ 16) (hB : la_Tb L xs aj mc nm pm pl vr ln) (hpk : pk < 20) (fin : ∀ ph, ∃ n, wL_law_328 post L xs 1 kc ks n 1 0 (nI 16) (nI 32) (nI mc) ph (nI 0) (nI 1) rs nm pm pl rt co vr cN ca lt lv se st me ty pp va) : ∀ e k ph, k + e = pk → wL_law_126 post L xs mk (nI mc) (nI pk) kc ks (e + 1) (nI k) (nI 16) (nI 32) (nI mc) ph (nI 0) (nI 1) rs nm pm pl rt co vr cN ca lt lv se st me ty pp va := by
  intro e
  induction e with
  | zero =>
    intro k ph hk
    exact br_t (nI_le (by omega) (by omega)) (fin ph)
  | succ e ih =>
    intro k ph hk
    have hn : la_pv ((la_c L xs (42 + 2 * k)).toUInt32 >>> ((2 : Int32).toUInt32 &&& Int32.toUInt32 31)).toInt32 5 < 5 := la_pv_lt _ (by decide)
    have hx : la_pv (la_c L xs (42 + 2 * k)) 3 < 3 := la_pv_lt _ (by decide)
    refine br_f (nI_ge (by omega) (by omega)) (la_cell hL (la_ix 42 2 k) (by omega) (la_pos (m := 3) rfl (by decide) (by decide) (la_pos (m := 5) rfl (by decide) (by decide) (la_cell hL (la_ix 43 2 k) (by omega) (la_enc (by omega) ?_)))))
    have hV := la_enc_V (la_c L xs (43 + 2 * k)) (k := la_pv ((la_c L xs (42 + 2 * k)).toUInt32 >>> ((2 : Int32).toUInt32 &&& Int32.toUInt32 31)).toInt32 5) (by omega)
    refine xs_pick h16 hB.1 hV (by omega) (fun d r hd hr => br_f ?_ ⟨4, ?_⟩)
    · rcases ov_Ch_v hr with ⟨m, hm, rfl⟩ | rfl | rfl
      · exact fun z => la_n4 (k := m) (by omega) z.symm
      · decide
      · decide
    · exact la_214 hL hA hJ h16 hB hV hd hr (ih (k + 1) (nI d) (by omega)) 3 1 (by omega) (by omega) (fun b b1 b2 => absurd b1 (by omega))
theorem la_bits : ∀ j, j < 10 → ∀ b, b < 64 → ((1 : Int64) <<< ((nI j).toInt64 &&& 63)).toBitVec.getLsbD b = decide (b = j) := by decide +kernel
theorem la_At_s {mk : Int64} {aj : Nat → Nat} {mc J : Nat} (hA : la_At mk aj mc J) (hJ : J < 10) : la_At (mk ||| ((1 : Int64) <<< ((nI J).toInt64 &&& 63))) (fun m => if m = mc then J else aj m) (mc + 1) (J + 1) := by
  refine ⟨fun m hm => ?_, fun m q hmq hq => ?_, fun b hb => ?_⟩
  · dsimp only
    by_cases e : m = mc
    · rw [if_pos e]
      omega
    · rw [if_neg e]
      have := hA.1 m (by omega)
      omega
  · dsimp only
    rw [if_neg (by omega : ¬ m = mc)]
    by_cases e : q = mc
    · rw [if_pos e]
      exact hA.1 m (by omega)
    · rw [if_neg e]
      exact hA.2.1 m q hmq (by omega)
  · rw [Int64.toBitVec_or, BitVec.getLsbD_or, la_bits J hJ b hb]
    constructor
    · intro h
      by_cases e : b = J
      · exact ⟨mc, by omega, by dsimp only; rw [if_pos rfl, e]⟩
      · rw [decide_eq_false e, Bool.or_false] at h
        obtain ⟨m, hm, em⟩ := (hA.2.2 b hb).mp h
        exact ⟨m, by omega, by dsimp only; rw [if_neg (by omega)]; exact em⟩
    · intro h
      obtain ⟨m, hm, em⟩ := h
      dsimp only at em
      by_cases e : m = mc
      · rw [if_pos e] at em
        rw [decide_eq_true em.symm, Bool.or_true]
      · rw [if_neg e] at em
        rw [(hA.2.2 b hb).mpr ⟨m, by omega, em⟩, Bool.true_or]
theorem la_At_k {mk : Int64} {aj : Nat → Nat} {mc J : Nat} (hA : la_At mk aj mc J) : la_At mk aj mc (J + 1) := ⟨fun m hm => by have := hA.1 m hm; omega, hA.2.1, hA.2.2⟩
end
theorem la_Tb_s {L : Nat} {xs : Nat → Int32} {aj : Nat → Nat} {mc j : Nat} {nm pm pl vr : Nat → Int32} {ln : Nat → Nat} {y : Int32} {M : Nat} (h : la_Tb L xs aj mc nm pm pl vr ln) (hV : ov_V (la_pa L xs j) M) (hR : ov_R (la_pa L xs j) y M) (h1 : ¬ la_vz L xs j = 0 → 1 ≤ la_k L xs j) : la_Tb L xs (fun m => if m = mc then j else aj m) (mc + 1) (upd nm mc (nI (la_nm L xs j))) (upd pm mc (la_pa L xs j)) (upd pl mc y) (upd vr mc (la_vz L xs j)) (fun m => if m = mc then la_k L xs j else ln m) := by
  have eM : M = la_k L xs j := ov_V_u hV (la_pa_V L xs j)
  subst eM
  refine ⟨fun m hm => ?_, fun m hm => ?_⟩
  · by_cases e : m = mc
    · subst e
      rw [pk_us, pk_us, pk_us]
      dsimp only
      rw [if_pos rfl]
      refine ⟨hV, ?_, hR⟩
      rcases la_vz01 (L := L) (xs := xs) j with z | z
      · exact Or.inl z
      · exact Or.inr ⟨z, h1 (by rw [z]; decide)⟩
    · rw [pk_un e, pk_un e, pk_un e]
      dsimp only
      rw [if_neg e]
      exact h.1 m (by omega)
  · by_cases e : m = mc
    · subst e
      rw [pk_us, pk_us, pk_us]
      dsimp only
      rw [if_pos rfl, if_pos rfl]
      exact ⟨rfl, rfl, rfl, rfl⟩
    · rw [pk_un e, pk_un e, pk_un e]
      dsimp only
      rw [if_neg e, if_neg e]
      exact h.2 m (by omega)
theorem la_33 {L att kc ks : Nat} {xs : Nat → Int32} {cN ca lt : Nat → Int32} {lv : Nat → Int64} {se st me ty pp : Nat → Int32} {va : Nat → Int64} {ph : Int32} {post : Int32 → Prop} (hL : L ≤ 260) (hatt : att ≤ 10) (hp : post 1) : ∀ e j mc mk aj ln (rs : Int32) (nm pm pl rt co vr : Nat → Int32), j + e = att → mc ≤ j → la_At mk aj mc j → la_Tb L xs aj mc nm pm pl vr ln → (∀ m, m < mc → ∃ t, 1 ≤ t ∧ t ≤ 14 ∧ rt m = nI t) → wL_law_33 post L xs (nI att) kc ks (e + 1) mk (nI mc) (nI j) (nI 16) (nI 32) (nI mc) ph (nI 0) (nI 1) rs nm pm pl rt co vr cN ca lt lv se st me ty pp va := by
  intro e
  induction e with
  | zero =>
    intro j mc mk aj ln rs nm pm pl rt co vr hj hmj hA hB hrt
    refine br_t (nI_le (by omega) (by omega)) (la_cell hL (k := 41) rfl (by decide) (la_pos (m := 20) rfl (by decide) (by decide) ⟨la_pv (la_c L xs 41) 20 + 1, ?_⟩))
    have hk : la_pv (la_c L xs 41) 20 < 20 := la_pv_lt _ (by decide)
    exact la_126 hL hA (by omega) (by omega) hB hk (fun ph' => ⟨41, la_328 hL (by omega) hB.1 hrt hp 40 0 (by omega) (by omega) (fun u hu => absurd hu (by omega)) rs cN ca lt lv (fun u hu => absurd hu (by omega))⟩) _ 0 ph (by omega)
  | succ e ih =>
    intro j mc mk aj ln rs nm pm pl rt co vr hj hmj hA hB hrt
    refine br_f (nI_ge (by omega) (by omega)) (la_aName hL (by omega) (la_aParams hL (by omega) (la_aRet hL (by omega) (la_cell hL (la_ix 4 4 j) (by omega) ?_))))
    refine xs_addMethod (cm := 16) (by omega) (Nat.le_refl 16) (fun _ => br_t rfl (nm_r (nI_1 j) (ih (j + 1) mc mk aj ln rs nm pm pl rt co vr (by omega) (by omega) (la_At_k hA) hB hrt))) (fun A y M hV hR => ?_)
    refine br_f (fun z => la_n4 (k := mc) (by omega) z.symm) (br_t rfl (nm_e (nm_r (nI_1 mc) (nm_r (nI_1 j) ?_))))
    rw [la_rt_z]
    refine ih (j + 1) (mc + 1) _ _ _ _ _ _ _ _ _ _ (by omega) (by omega) (la_At_s hA (by omega)) (la_Tb_s hB hV hR (fun z => ?_)) (fun m hm => ?_)
    · obtain ⟨M', hV', hz⟩ := A.2.2.1
      have e1 := ov_V_u hV' (la_pa_V L xs j)
      have := hz (by rw [la_rt_z]; exact z)
      omega
    · by_cases em : m = mc
      · subst em
        rw [pk_us]
        have a := A.2.2.2.1
        rcases ov_rng (la_rt L xs j &&& 15) (lo := 1) (hi := 14) (by decide) (by decide) with b | b | b
        · exact absurd b a.1
        · exact absurd b.2 a.2
        · exact b
      · rw [pk_un em]
        exact hrt m (by omega)
theorem i_vc (xs : Nat → Int32) (L : Nat) (hL : L ≤ 260) : wpL_law (fun r => r = 1) L xs := by
  refine ⟨16, 416, by decide, by decide, ?_⟩
  refine ⟨by decide, by decide, by decide, by decide, by decide, by decide, by decide, by decide, by decide, by decide, by decide, by decide, by decide, by decide, by decide, by decide, by decide, by decide, by decide, by decide, by decide, by decide, by decide, by decide, by decide, by decide, by decide, by decide, by decide, by decide, by decide, by decide, ?_⟩
  refine br_t (by decide) (br_t (by decide) (br_t (by decide) (br_t (by decide) ?_)))
  have hk : la_pv (la_c L xs 0) 10 < 10 := la_pv_lt _ (by decide)
  dsimp only [wpX_emptyProgram]
  refine la_cell hL (k := 0) rfl (by decide) ?_
  refine la_pos (m := 10) rfl (by decide) (by decide) ?_
  refine nm_r (e' := nI (1 + la_pv (la_c L xs 0) 10)) (nI_add 1 _) ?_
  refine ⟨1 + la_pv (la_c L xs 0) 10 + 1, ?_⟩
  exact la_33 (post := fun r => r = 1) (xs := xs) (att := 1 + la_pv (la_c L xs 0) 10) hL (by omega) rfl (1 + la_pv (la_c L xs 0) 10) 0 0 0 (fun _ => 0) (fun _ => 0) 0 (fun _ => 0) (fun _ => 0) (fun _ => 0) (fun _ => 0) (fun _ => 0) (fun _ => 0) (by omega) (by omega) ⟨fun m hm => absurd hm (by omega), fun m q _ hq => absurd hq (by omega), fun b _ => ⟨fun h => absurd h (by simp), fun h => by obtain ⟨m, hm, _⟩ := h; omega⟩⟩ ⟨fun m hm => absurd hm (by omega), fun m hm => absurd hm (by omega)⟩ (fun m hm => absurd hm (by omega))
end
