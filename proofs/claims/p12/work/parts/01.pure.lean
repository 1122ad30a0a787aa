def bt (x : Int32) (i : Nat) : Bool := x.toBitVec.getLsbD i
theorem b_or (x y : Int32) (i : Nat) : bt (x ||| y) i = (bt x i || bt y i) := by unfold bt; rw [Int32.toBitVec_or, BitVec.getLsbD_or]
theorem b_and (x y : Int32) (i : Nat) : bt (x &&& y) i = (bt x i && bt y i) := by unfold bt; rw [Int32.toBitVec_and, BitVec.getLsbD_and]
theorem b_0 (i : Nat) : bt 0 i = false := BitVec.getLsbD_zero
theorem nx_and (a b : Nat) : nI a &&& nI b = nI (a &&& b) := by
  apply Int32.toBitVec_inj.1
  show BitVec.ofNat 32 a &&& BitVec.ofNat 32 b = BitVec.ofNat 32 (a &&& b)
  apply BitVec.eq_of_getLsbD_eq
  intro i hi
  simp [hi]
theorem nf_sh : ∀ l, l < 32 → ((1 : Int32) <<< (nI l &&& 31)).toBitVec = BitVec.twoPow 32 l := by decide +kernel
theorem nf_tp : ∀ l, l < 32 → BitVec.twoPow 32 l ≠ 0#32 := by decide +kernel
/-! ===== four bits of a list: ov_nb x i ===== -/
def ov_nb (x : Int32) (i : Nat) : Nat := x.toBitVec.toNat / 2 ^ (4 * i) % 16
theorem ov_nb_lt (x : Int32) (i : Nat) : ov_nb x i < 16 := Nat.mod_lt _ (by decide)
theorem ov_sl : ∀ i, i < 8 → (((4 : Int32) * nI i &&& 31).toBitVec.smod 32).toNat = 4 * i := by decide +kernel
theorem ov_su : ∀ i, i < 8 → ((((4 : Int32) * nI i).toUInt32 &&& Int32.toUInt32 31).toBitVec % 32).toNat = 4 * i := by decide +kernel
theorem ov_tp (y z : Nat) (hy : y < 2 ^ 32) (hz : z < 2 ^ 32) : ∀ i, i < 8 → ((if 2 * y < 2 ^ 32 then (y : Int) else (y : Int) - ((2 ^ 32 : Nat) : Int)) = (if 2 * z < 2 ^ 32 then (z : Int) else (z : Int) - ((2 ^ 32 : Nat) : Int)) / ((2 ^ (4 * i) : Nat) : Int)) → y % 2 ^ 4 = z / 2 ^ (4 * i) % 16 := by
  intro i hi
  have c : i = 0 ∨ i = 1 ∨ i = 2 ∨ i = 3 ∨ i = 4 ∨ i = 5 ∨ i = 6 ∨ i = 7 := by omega
  rcases c with rfl | rfl | rfl | rfl | rfl | rfl | rfl | rfl <;> (intro h; simp only [Nat.reduceMul, Nat.reducePow] at h hy hz ⊢; split at h <;> split at h <;> omega)
theorem ov_cond (x : Int32) : x.toInt = if 2 * x.toBitVec.toNat < 2 ^ 32 then (x.toBitVec.toNat : Int) else (x.toBitVec.toNat : Int) - ((2 ^ 32 : Nat) : Int) := BitVec.toInt_eq_toNat_cond _
theorem ov_tx (x : Int32) {i : Nat} (hi : i < 8) : (x >>> (4 * nI i &&& 31)) &&& 15 = nI (ov_nb x i) := by
  rw [pk_and _ 4 (by decide)]
  apply congrArg nI
  have hs := pk_shr x (4 * nI i &&& 31) (4 * i) (ov_sl i hi)
  rw [Int.shiftRight_eq_div_pow] at hs
  have hx := x.toBitVec.isLt
  have hy := (x >>> (4 * nI i &&& 31)).toBitVec.isLt
  unfold ov_nb
  rw [ov_cond x, ov_cond (x >>> (4 * nI i &&& 31))] at hs
  exact ov_tp _ _ hy hx i hi hs
theorem ov_ty (x : Int32) {i : Nat} (hi : i < 8) : ((x.toUInt32 >>> ((4 * nI i).toUInt32 &&& Int32.toUInt32 31)).toInt32) &&& 15 = nI (ov_nb x i) := by
  rw [pk_and _ 4 (by decide), pk_ushr x (4 * nI i) (4 * i) (ov_su i hi)]
  rfl
theorem ov_e (x : Int32) : x = nI x.toBitVec.toNat := by
  apply Int32.toBitVec_inj.1
  show x.toBitVec = BitVec.ofNat 32 x.toBitVec.toNat
  simp
theorem ov_nbN {n : Nat} (h : n < 2 ^ 32) (i : Nat) : ov_nb (nI n) i = n / 2 ^ (4 * i) % 16 := by
  unfold ov_nb
  rw [pk_tn h]
theorem ov_szp (z : Nat) (hz : z < 2 ^ 32) : ∀ i, i < 5 → ((if 2 * z < 2 ^ 32 then (z : Int) else (z : Int) - ((2 ^ 32 : Nat) : Int)) / ((2 ^ (4 * i) : Nat) : Int) = 0 ↔ z < 2 ^ (4 * i)) := by
  intro i hi
  have c : i = 0 ∨ i = 1 ∨ i = 2 ∨ i = 3 ∨ i = 4 := by omega
  rcases c with rfl | rfl | rfl | rfl | rfl <;> (simp only [Nat.reduceMul, Nat.reducePow] at hz ⊢; split <;> omega)
theorem ov_sz (x : Int32) {i : Nat} (h : i < 5) : x >>> (4 * nI i &&& 31) = 0 ↔ x.toBitVec.toNat < 2 ^ (4 * i) := by
  rw [← Int32.toInt_inj, pk_shr x _ (4 * i) (ov_sl i (by omega)), show (0 : Int32).toInt = 0 from by decide, Int.shiftRight_eq_div_pow, ov_cond x]
  exact ov_szp _ x.toBitVec.isLt i h
/-! ===== a list of L types ===== -/
def ov_V (x : Int32) (L : Nat) : Prop := L ≤ 4 ∧ x.toBitVec.toNat < 2 ^ (4 * L) ∧ ∀ i, i < L → 1 ≤ ov_nb x i ∧ ov_nb x i ≤ 14
theorem ov_hi {x : Int32} {L : Nat} (h : x.toBitVec.toNat < 2 ^ (4 * L)) {i : Nat} (hi : L ≤ i) : ov_nb x i = 0 := by
  unfold ov_nb
  have h2 : 2 ^ (4 * L) ≤ 2 ^ (4 * i) := Nat.pow_le_pow_right (by decide) (by omega)
  rw [Nat.div_eq_of_lt (Nat.lt_of_lt_of_le h h2)]
theorem ov_V_u {x : Int32} {L M : Nat} (h : ov_V x L) (g : ov_V x M) : L = M := by
  rcases Nat.lt_trichotomy L M with c | c | c
  · have a := ov_hi h.2.1 (Nat.le_refl L)
    have b := g.2.2 L c
    omega
  · exact c
  · have a := ov_hi g.2.1 (Nat.le_refl M)
    have b := h.2.2 M c
    omega
theorem ov_V_len {x : Int32} {L l : Nat} (h : ov_V x L) (ha : ∀ i, i < l → ov_nb x i ≠ 0) (hb : l < 4 → ov_nb x l = 0) : L ≤ l → L = l := by
  intro hl
  rcases Nat.lt_or_ge L l with c | c
  · exact absurd (ov_hi h.2.1 (Nat.le_refl L)) (ha L c)
  · omega
theorem ov_V_x {x : Int32} {L l : Nat} (h : ov_V x L) (ha : ∀ i, i < l → ov_nb x i ≠ 0) (hb : l < 4 → ov_nb x l = 0) : L = l := by
  rcases Nat.lt_or_ge l L with c | c
  · have a := h.2.2 l c
    have b := hb (by have := h.1; omega)
    omega
  · exact ov_V_len h ha hb c
theorem ov_V_16 {x : Int32} {L : Nat} (h : ov_V x L) : x.toBitVec.toNat < 65536 :=
  Nat.lt_of_lt_of_le h.2.1 (Nat.pow_le_pow_right (n := 2) (by decide) (by have := h.1; omega : 4 * L ≤ 16))
theorem ov_V_n {x : Int32} {L : Nat} (h : ov_V x L) : ¬ x < 0 := by
  have a := ov_V_16 h
  rw [Int32.lt_iff_toInt_lt, ov_cond x, show (0 : Int32).toInt = 0 from by decide, if_pos (by omega)]
  omega
theorem ov_V_0 : ov_V 0 0 := ⟨by decide, by decide, fun i hi => absurd hi (by omega)⟩
theorem ov_V_z {x : Int32} {L : Nat} (h : ov_V x L) : x = 0 ↔ L = 0 := by
  constructor
  · intro e
    subst e
    exact ov_V_u h ov_V_0
  · intro e
    subst e
    have a := h.2.1
    rw [ov_e x, show x.toBitVec.toNat = 0 from by simpa using a]
    rfl
theorem ov_top (x : Int32) : ∀ d n, n + d = 8 → (∀ j, n ≤ j → j < 8 → ov_nb x j = 0) → x.toBitVec.toNat < 2 ^ (4 * n) := by
  intro d
  induction d with
  | zero =>
    intro n hn _
    have e : n = 8 := by omega
    subst e
    exact x.toBitVec.isLt
  | succ d ih =>
    intro n hn h
    have a := ih (n + 1) (by omega) (fun j h1 h2 => h j (by omega) h2)
    have b := h n (Nat.le_refl n) (by omega)
    unfold ov_nb at b
    rw [show 4 * (n + 1) = 4 * n + 4 from by omega, Nat.pow_add] at a
    have c : x.toBitVec.toNat / 2 ^ (4 * n) < 16 := Nat.div_lt_of_lt_mul a
    rw [Nat.mod_eq_of_lt c] at b
    exact Nat.lt_of_div_eq_zero (Nat.two_pow_pos _) b
/-! ===== a further type in front ===== -/
theorem ov_or (a b : Nat) : nI a ||| nI b = nI (a ||| b) := by
  apply Int32.toBitVec_inj.1
  show BitVec.ofNat 32 a ||| BitVec.ofNat 32 b = BitVec.ofNat 32 (a ||| b)
  apply BitVec.eq_of_getLsbD_eq
  intro i hi
  simp [hi]
theorem ov_lt8 {t i : Nat} (hi : i < 8) (ht : t < 16) : t * 2 ^ (4 * i) < 2 ^ 32 := by
  have c : i = 0 ∨ i = 1 ∨ i = 2 ∨ i = 3 ∨ i = 4 ∨ i = 5 ∨ i = 6 ∨ i = 7 := by omega
  rcases c with rfl | rfl | rfl | rfl | rfl | rfl | rfl | rfl <;> (simp only [Nat.reduceMul, Nat.reducePow]; omega)
theorem ov_put {z t i : Nat} (hi : i < 8) (hz : z < 2 ^ (4 * i)) (ht : t < 16) : nI z ||| (nI t <<< (4 * nI i &&& 31)) = nI (z + t * 2 ^ (4 * i)) := by
  rw [pk_shlN (4 * nI i &&& 31) (4 * i) (ov_sl i hi) (ov_lt8 hi ht), ov_or]
  apply congrArg nI
  rw [Nat.or_comm, Nat.mul_comm t, ← Nat.two_pow_add_eq_or_of_lt hz t, Nat.add_comm]
theorem ov_p4 (i : Nat) : 2 ^ (4 * (i + 1)) = 2 ^ (4 * i) * 16 := by
  rw [show 4 * (i + 1) = 4 * i + 4 from by omega, Nat.pow_add]
theorem ov_putlt {z t i : Nat} (hz : z < 2 ^ (4 * i)) (ht : t < 16) : z + t * 2 ^ (4 * i) < 2 ^ (4 * (i + 1)) := by
  rw [ov_p4]
  have a : t * 2 ^ (4 * i) ≤ 15 * 2 ^ (4 * i) := Nat.mul_le_mul_right _ (by omega)
  generalize 2 ^ (4 * i) = P at *
  omega
theorem ov_lt32 {z i : Nat} (hi : i ≤ 8) (hz : z < 2 ^ (4 * i)) : z < 2 ^ 32 :=
  Nat.lt_of_lt_of_le hz (Nat.pow_le_pow_right (n := 2) (by decide) (by omega : 4 * i ≤ 32))
theorem ov_put_at {z t i : Nat} (hi : i < 8) (hz : z < 2 ^ (4 * i)) (ht : t < 16) : ov_nb (nI (z + t * 2 ^ (4 * i))) i = t := by
  rw [ov_nbN (ov_lt32 (by omega) (ov_putlt hz ht)), Nat.mul_comm t, Nat.add_mul_div_left _ _ (Nat.two_pow_pos _), Nat.div_eq_of_lt hz, Nat.zero_add, Nat.mod_eq_of_lt ht]
theorem ov_put_lo {z t i j : Nat} (hi : i < 8) (hz : z < 2 ^ (4 * i)) (ht : t < 16) (hj : j < i) : ov_nb (nI (z + t * 2 ^ (4 * i))) j = ov_nb (nI z) j := by
  rw [ov_nbN (ov_lt32 (by omega) (ov_putlt hz ht)), ov_nbN (ov_lt32 (i := i) (by omega) hz)]
  have e : 2 ^ (4 * i) = 2 ^ (4 * j) * (16 * 2 ^ (4 * (i - j - 1))) := by
    rw [show 4 * i = 4 * j + (4 + 4 * (i - j - 1)) from by omega, Nat.pow_add, Nat.pow_add]
  have e2 : t * 2 ^ (4 * i) = 2 ^ (4 * j) * (16 * (t * 2 ^ (4 * (i - j - 1)))) := by
    rw [e, Nat.mul_left_comm, Nat.mul_left_comm t 16]
  rw [e2, Nat.add_mul_div_left _ _ (Nat.two_pow_pos _), Nat.add_mul_mod_self_left]
theorem ov_V_put {z t k : Nat} (hV : ov_V (nI z) k) (hz : z < 2 ^ (4 * k)) (hk : k < 4) (h1 : 1 ≤ t) (h2 : t ≤ 14) : ov_V (nI (z + t * 2 ^ (4 * k))) (k + 1) := by
  have hp := ov_putlt (i := k) hz (by omega : t < 16)
  refine ⟨by omega, ?_, ?_⟩
  · rw [pk_tn (ov_lt32 (i := k + 1) (by omega) hp)]
    exact hp
  · intro i hi
    by_cases e : i = k
    · subst e
      rw [ov_put_at (by omega) hz (by omega)]
      exact ⟨h1, h2⟩
    · rw [ov_put_lo (by omega) hz (by omega) (by omega)]
      exact hV.2.2 i (by omega)
