section
theorem pk_us {f : Nat → Int32} {k : Nat} {x : Int32} : upd f k x k = x := if_pos rfl
theorem pk_un {f : Nat → Int32} {k j : Nat} {x : Int32} (h : j ≠ k) : upd f k x j = f j := if_neg h
theorem pk_uLs {f : Nat → Int64} {k : Nat} {x : Int64} : vp_updL f k x k = x := if_pos rfl
theorem pk_uLn {f : Nat → Int64} {k j : Nat} {x : Int64} (h : j ≠ k) : vp_updL f k x j = f j := if_neg h
theorem pk_sub {a b : Nat} (h : b ≤ a) : nI a - nI b = nI (a - b) := by
  obtain ⟨c, rfl⟩ : ∃ c, a = c + b := ⟨a - b, by omega⟩
  rw [← nI_add, Int32.add_sub_cancel, Nat.add_sub_cancel]
theorem pk_m1 (n : Nat) : nI (n + 1) + (-1) = nI n := by
  rw [← nI_1, Int32.add_assoc, show (1 : Int32) + (-1) = 0 from rfl, Int32.add_zero]
theorem pk_mul (a b : Nat) : nI a * nI b = nI (a * b) := (Int32.ofNat_mul a b).symm
theorem pk_ix (x : Int32) {n : Nat} (hn : n < 2 ^ 31) : x < 0 ∨ nI n ≤ x ∨ ∃ j : Nat, j < n ∧ x = nI j := by
  by_cases h : x < 0
  · exact Or.inl h
  · obtain ⟨j, hj, rfl⟩ := nI_of h
    by_cases h2 : j < n
    · exact Or.inr (Or.inr ⟨j, h2, rfl⟩)
    · exact Or.inr (Or.inl (nI_le (by omega) hj))
theorem pk_le {x y : Int32} {A B : Prop} (a b : Nat) (f : a ≤ b → A) (g : b < a → B) (hx : x = nI a := by rfl) (hy : y = nI b := by rfl) (ha : a < 2 ^ 31 := by omega) (hb : b < 2 ^ 31 := by omega) : (x ≤ y → A) ∧ (¬ x ≤ y → B) := by
  subst hx hy
  rw [nI_leI ha hb]
  exact ⟨f, fun z => g (by omega)⟩
theorem pk_lt {x y : Int32} {A B : Prop} (a b : Nat) (f : a < b → A) (g : b ≤ a → B) (hx : x = nI a := by rfl) (hy : y = nI b := by rfl) (ha : a < 2 ^ 31 := by omega) (hb : b < 2 ^ 31 := by omega) : (x < y → A) ∧ (¬ x < y → B) := by
  subst hx hy
  rw [nI_ltI ha hb]
  exact ⟨f, fun z => g (by omega)⟩
theorem pk_eq {x y : Int32} {A B : Prop} (a b : Nat) (f : a = b → A) (g : a ≠ b → B) (hx : x = nI a := by rfl) (hy : y = nI b := by rfl) (ha : a < 2 ^ 31 := by omega) (hb : b < 2 ^ 31 := by omega) : (x = y → A) ∧ (¬ x = y → B) := by
  subst hx hy
  rw [nI_eq ha hb]
  exact ⟨f, g⟩
theorem pk_in {x : Int32} (n N : Nat) (h : n < N) (hx : x = nI n := by rfl) (hN : N < 2 ^ 31 := by omega) : vp_in x N := by
  subst hx
  exact vp_in_nI h hN
theorem pk_cl {x : Int32} (n : Nat) (hx : x = nI n := by rfl) (h : n < 2 ^ 31 := by omega) : x.toNatClampNeg = n := by
  subst hx
  exact nI_clamp h
theorem pk_tn {n : Nat} (h : n < 2 ^ 32) : (nI n).toBitVec.toNat = n := Nat.mod_eq_of_lt h
theorem pk_and (x : Int32) {m : Int32} (k : Nat) (hm : m.toBitVec.toNat = 2 ^ k - 1) : x &&& m = nI (x.toBitVec.toNat % 2 ^ k) := by
  apply Int32.toBitVec_inj.mp
  apply BitVec.eq_of_toNat_eq
  rw [Int32.toBitVec_and, BitVec.toNat_and, hm, Nat.and_two_pow_sub_one_eq_mod]
  show _ = (BitVec.ofNat 32 _).toNat
  rw [BitVec.toNat_ofNat]
  exact (Nat.mod_eq_of_lt (Nat.lt_of_le_of_lt (Nat.mod_le _ _) x.toBitVec.isLt)).symm
theorem pk_shl (a s : Int32) (k : Nat) (hs : (s.toBitVec.smod 32).toNat = k) : (a <<< s).toBitVec.toNat = a.toBitVec.toNat * 2 ^ k % 2 ^ 32 := by
  show (a.toBitVec <<< (s.toBitVec.smod 32).toNat).toNat = _
  rw [hs, BitVec.toNat_shiftLeft, Nat.shiftLeft_eq]
theorem pk_shlN {n : Nat} (s : Int32) (k : Nat) (hs : (s.toBitVec.smod 32).toNat = k) (h : n * 2 ^ k < 2 ^ 32) : nI n <<< s = nI (n * 2 ^ k) := by
  apply Int32.toBitVec_inj.mp
  apply BitVec.eq_of_toNat_eq
  have hn : n < 2 ^ 32 := Nat.lt_of_le_of_lt (Nat.le_mul_of_pos_right n (Nat.two_pow_pos k)) h
  rw [pk_shl _ _ k hs, pk_tn hn, pk_tn h, Nat.mod_eq_of_lt h]
theorem pk_shr (a s : Int32) (k : Nat) (hs : (s.toBitVec.smod 32).toNat = k) : (a >>> s).toInt = a.toInt >>> k := by
  show (a.toBitVec.sshiftRight (s.toBitVec.smod 32).toNat).toInt = _
  rw [hs, BitVec.toInt_sshiftRight]
  rfl
theorem pk_ushr (x s : Int32) (k : Nat) (hs : ((s.toUInt32 &&& Int32.toUInt32 31).toBitVec % 32).toNat = k) : (x.toUInt32 >>> (s.toUInt32 &&& Int32.toUInt32 31)).toInt32.toBitVec.toNat = x.toBitVec.toNat / 2 ^ k := by
  have e : (x.toUInt32 >>> (s.toUInt32 &&& Int32.toUInt32 31)).toInt32.toBitVec = x.toBitVec >>> k := by
    rw [← hs]
    exact UInt32.toBitVec_shiftRight _ _
  rw [e, BitVec.toNat_ushiftRight, Nat.shiftRight_eq_div_pow]
theorem pk_loop {σ : Type} (W : Nat → Nat → σ → Prop) (I : Nat → σ → Prop) (e i0 : Nat) (s : σ) (hi : i0 ≤ e) (h0 : I i0 s) (hx : ∀ n s, I e s → W (n + 1) e s)
    (hs : ∀ n i s, i < e → I i s → (∀ s', I (i + 1) s' → W n (i + 1) s') → W (n + 1) i s) : ∃ n, W n i0 s :=
  ⟨e + 1, loop_i W I e hx hs (e + 1) i0 s hi (by omega) h0⟩
theorem pk_loopD {σ : Type} (W : Nat → Nat → σ → Prop) (I : Nat → σ → Prop) (hx : ∀ n s, I 0 s → W (n + 1) 0 s)
    (hs : ∀ n i s, I (i + 1) s → (∀ s', I i s' → W n i s') → W (n + 1) (i + 1) s) : ∀ (e : Nat) (s : σ), I e s → W (e + 1) e s := by
  intro e
  induction e with
  | zero => exact fun s h => hx 0 s h
  | succ e ih => exact fun s h => hs (e + 1) e s h (fun s' h' => ih s' h')
theorem pk_least (P : Nat → Prop) (h : ∃ k, P k) : ∃ k, P k ∧ ∀ j, j < k → ¬ P j := by
  obtain ⟨k, hk⟩ := h
  induction k using Nat.strongRecOn with
  | ind k ih =>
    by_cases e : ∃ j, j < k ∧ P j
    · obtain ⟨j, hj, pj⟩ := e
      exact ih j hj pj
    · exact ⟨k, hk, fun j hj pj => e ⟨j, hj, pj⟩⟩
def bt (x : Int32) (i : Nat) : Bool := x.toBitVec.getLsbD i
theorem b_or (x y : Int32) (i : Nat) : bt (x ||| y) i = (bt x i || bt y i) := by unfold bt; rw [Int32.toBitVec_or, BitVec.getLsbD_or]
theorem b_and (x y : Int32) (i : Nat) : bt (x &&& y) i = (bt x i && bt y i) := by unfold bt; rw [Int32.toBitVec_and, BitVec.getLsbD_and]
theorem b_0 (i : Nat) : bt 0 i = false := BitVec.getLsbD_zero
theorem nx_and (a b : Nat) : nI a &&& nI b = nI (a &&& b) := by
  apply Int32.toBitVec_inj.1
  show BitVec.ofNat 32 a &&& BitVec.ofNat 32 b = BitVec.ofNat 32 (a &&& b)
  apply BitVec.eq_of_getLsbD_eq
  intro i hi
  simp [hi]
theorem nf_sh : ∀ l, l < 32 → ((1 : Int32) <<< (nI l &&& 31)).toBitVec = BitVec.twoPow 32 l := by decide +kernel
theorem nf_tp : ∀ l, l < 32 → BitVec.twoPow 32 l ≠ 0#32 := by decide +kernel
/-! ===== four bits of a list: ov_nb x i ===== -/
def ov_nb (x : Int32) (i : Nat) : Nat := x.toBitVec.toNat / 2 ^ (4 * i) % 16
theorem ov_nb_lt (x : Int32) (i : Nat) : ov_nb x i < 16 := Nat.mod_lt _ (by decide)
theorem ov_sl : ∀ i, i < 8 → (((4 : Int32) * nI i &&& 31).toBitVec.smod 32).toNat = 4 * i := by decide +kernel
theorem ov_su : ∀ i, i < 8 → ((((4 : Int32) * nI i).toUInt32 &&& Int32.toUInt32 31).toBitVec % 32).toNat = 4 * i := by decide +kernel
theorem ov_tp (y z : Nat) (hy : y < 2 ^ 32) (hz : z < 2 ^ 32) : ∀ i, i < 8 → ((if 2 * y < 2 ^ 32 then (y : Int) else (y : Int) - ((2 ^ 32 : Nat) : Int)) = (if 2 * z < 2 ^ 32 then (z : Int) else (z : Int) - ((2 ^ 32 : Nat) : Int)) / ((2 ^ (4 * i) : Nat) : Int)) → y % 2 ^ 4 = z / 2 ^ (4 * i) % 16 := by
  intro i hi
  have c : i = 0 ∨ i = 1 ∨ i = 2 ∨ i = 3 ∨ i = 4 ∨ i = 5 ∨ i = 6 ∨ i = 7 := by omega
  rcases c with rfl | rfl | rfl | rfl | rfl | rfl | rfl | rfl <;> (intro h; simp only [Nat.reduceMul, Nat.reducePow] at h hy hz ⊢; split at h <;> split at h <;> omega)
theorem ov_cond (x : Int32) : x.toInt = if 2 * x.toBitVec.toNat < 2 ^ 32 then (x.toBitVec.toNat : Int) else (x.toBitVec.toNat : Int) - ((2 ^ 32 : Nat) : Int) := BitVec.toInt_eq_toNat_cond _
theorem ov_tx (x : Int32) {i : Nat} (hi : i < 8) : (x >>> (4 * nI i &&& 31)) &&& 15 = nI (ov_nb x i) := by
  rw [pk_and _ 4 (by decide)]
  apply congrArg nI
  have hs := pk_shr x (4 * nI i &&& 31) (4 * i) (ov_sl i hi)
  rw [Int.shiftRight_eq_div_pow] at hs
  have hx := x.toBitVec.isLt
  have hy := (x >>> (4 * nI i &&& 31)).toBitVec.isLt
  unfold ov_nb
  rw [ov_cond x, ov_cond (x >>> (4 * nI i &&& 31))] at hs
  exact ov_tp _ _ hy hx i hi hs
theorem ov_ty (x : Int32) {i : Nat} (hi : i < 8) : ((x.toUInt32 >>> ((4 * nI i).toUInt32 &&& Int32.toUInt32 31)).toInt32) &&& 15 = nI (ov_nb x i) := by
  rw [pk_and _ 4 (by decide), pk_ushr x (4 * nI i) (4 * i) (ov_su i hi)]
  rfl
theorem ov_e (x : Int32) : x = nI x.toBitVec.toNat := by
  apply Int32.toBitVec_inj.1
  show x.toBitVec = BitVec.ofNat 32 x.toBitVec.toNat
  simp
theorem ov_nbN {n : Nat} (h : n < 2 ^ 32) (i : Nat) : ov_nb (nI n) i = n / 2 ^ (4 * i) % 16 := by
  unfold ov_nb
  rw [pk_tn h]
theorem ov_szp (z : Nat) (hz : z < 2 ^ 32) : ∀ i, i < 5 → ((if 2 * z < 2 ^ 32 then (z : Int) else (z : Int) - ((2 ^ 32 : Nat) : Int)) / ((2 ^ (4 * i) : Nat) : Int) = 0 ↔ z < 2 ^ (4 * i)) := by
  intro i hi
  have c : i = 0 ∨ i = 1 ∨ i = 2 ∨ i = 3 ∨ i = 4 := by omega
  rcases c with rfl | rfl | rfl | rfl | rfl <;> (simp only [Nat.reduceMul, Nat.reducePow] at hz ⊢; split <;> omega)
theorem ov_sz (x : Int32) {i : Nat} (h : i < 5) : x >>> (4 * nI i &&& 31) = 0 ↔ x.toBitVec.toNat < 2 ^ (4 * i) := by
  rw [← Int32.toInt_inj, pk_shr x _ (4 * i) (ov_sl i (by omega)), show (0 : Int32).toInt = 0 from by decide, Int.shiftRight_eq_div_pow, ov_cond x]
  exact ov_szp _ x.toBitVec.isLt i h
/-! ===== a list of L types ===== -/
def ov_V (x : Int32) (L : Nat) : Prop := L ≤ 4 ∧ x.toBitVec.toNat < 2 ^ (4 * L) ∧ ∀ i, i < L → 1 ≤ ov_nb x i ∧ ov_nb x i ≤ 14
theorem ov_hi {x : Int32} {L : Nat} (h : x.toBitVec.toNat < 2 ^ (4 * L)) {i : Nat} (hi : L ≤ i) : ov_nb x i = 0 := by
  unfold ov_nb
  have h2 : 2 ^ (4 * L) ≤ 2 ^ (4 * i) := Nat.pow_le_pow_right (by decide) (by omega)
  rw [Nat.div_eq_of_lt (Nat.lt_of_lt_of_le h h2)]
theorem ov_V_u {x : Int32} {L M : Nat} (h : ov_V x L) (g : ov_V x M) : L = M := by
  rcases Nat.lt_trichotomy L M with c | c | c
  · have a := ov_hi h.2.1 (Nat.le_refl L)
    have b := g.2.2 L c
    omega
  · exact c
  · have a := ov_hi g.2.1 (Nat.le_refl M)
    have b := h.2.2 M c
    omega
theorem ov_V_len {x : Int32} {L l : Nat} (h : ov_V x L) (ha : ∀ i, i < l → ov_nb x i ≠ 0) (hb : l < 4 → ov_nb x l = 0) : L ≤ l → L = l := by
  intro hl
  rcases Nat.lt_or_ge L l with c | c
  · exact absurd (ov_hi h.2.1 (Nat.le_refl L)) (ha L c)
  · omega
theorem ov_V_x {x : Int32} {L l : Nat} (h : ov_V x L) (ha : ∀ i, i < l → ov_nb x i ≠ 0) (hb : l < 4 → ov_nb x l = 0) : L = l := by
  rcases Nat.lt_or_ge l L with c | c
  · have a := h.2.2 l c
    have b := hb (by have := h.1; omega)
    omega
  · exact ov_V_len h ha hb c
theorem ov_V_16 {x : Int32} {L : Nat} (h : ov_V x L) : x.toBitVec.toNat < 65536 :=
  Nat.lt_of_lt_of_le h.2.1 (Nat.pow_le_pow_right (n := 2) (by decide) (by have := h.1; omega : 4 * L ≤ 16))
theorem ov_V_n {x : Int32} {L : Nat} (h : ov_V x L) : ¬ x < 0 := by
  have a := ov_V_16 h
  rw [Int32.lt_iff_toInt_lt, ov_cond x, show (0 : Int32).toInt = 0 from by decide, if_pos (by omega)]
  omega
theorem ov_V_0 : ov_V 0 0 := ⟨by decide, by decide, fun i hi => absurd hi (by omega)⟩
theorem ov_V_z {x : Int32} {L : Nat} (h : ov_V x L) : x = 0 ↔ L = 0 := by
  constructor
  · intro e
    subst e
    exact ov_V_u h ov_V_0
  · intro e
    subst e
    have a := h.2.1
    rw [ov_e x, show x.toBitVec.toNat = 0 from by simpa using a]
    rfl
theorem ov_top (x : Int32) : ∀ d n, n + d = 8 → (∀ j, n ≤ j → j < 8 → ov_nb x j = 0) → x.toBitVec.toNat < 2 ^ (4 * n) := by
  intro d
  induction d with
  | zero =>
    intro n hn _
    have e : n = 8 := by omega
    subst e
    exact x.toBitVec.isLt
  | succ d ih =>
    intro n hn h
    have a := ih (n + 1) (by omega) (fun j h1 h2 => h j (by omega) h2)
    have b := h n (Nat.le_refl n) (by omega)
    unfold ov_nb at b
    rw [show 4 * (n + 1) = 4 * n + 4 from by omega, Nat.pow_add] at a
    have c : x.toBitVec.toNat / 2 ^ (4 * n) < 16 := Nat.div_lt_of_lt_mul a
    rw [Nat.mod_eq_of_lt c] at b
    exact Nat.lt_of_div_eq_zero (Nat.two_pow_pos _) b
/-! ===== a further type in front ===== -/
theorem ov_or (a b : Nat) : nI a ||| nI b = nI (a ||| b) := by
  apply Int32.toBitVec_inj.1
  show BitVec.ofNat 32 a ||| BitVec.ofNat 32 b = BitVec.ofNat 32 (a ||| b)
  apply BitVec.eq_of_getLsbD_eq
  intro i hi
  simp [hi]
theorem ov_lt8 {t i : Nat} (hi : i < 8) (ht : t < 16) : t * 2 ^ (4 * i) < 2 ^ 32 := by
  have c : i = 0 ∨ i = 1 ∨ i = 2 ∨ i = 3 ∨ i = 4 ∨ i = 5 ∨ i = 6 ∨ i = 7 := by omega
  rcases c with rfl | rfl | rfl | rfl | rfl | rfl | rfl | rfl <;> (simp only [Nat.reduceMul, Nat.reducePow]; omega)
theorem ov_put {z t i : Nat} (hi : i < 8) (hz : z < 2 ^ (4 * i)) (ht : t < 16) : nI z ||| (nI t <<< (4 * nI i &&& 31)) = nI (z + t * 2 ^ (4 * i)) := by
  rw [pk_shlN (4 * nI i &&& 31) (4 * i) (ov_sl i hi) (ov_lt8 hi ht), ov_or]
  apply congrArg nI
  rw [Nat.or_comm, Nat.mul_comm t, ← Nat.two_pow_add_eq_or_of_lt hz t, Nat.add_comm]
theorem ov_p4 (i : Nat) : 2 ^ (4 * (i + 1)) = 2 ^ (4 * i) * 16 := by
  rw [show 4 * (i + 1) = 4 * i + 4 from by omega, Nat.pow_add]
theorem ov_putlt {z t i : Nat} (hz : z < 2 ^ (4 * i)) (ht : t < 16) : z + t * 2 ^ (4 * i) < 2 ^ (4 * (i + 1)) := by
  rw [ov_p4]
  have a : t * 2 ^ (4 * i) ≤ 15 * 2 ^ (4 * i) := Nat.mul_le_mul_right _ (by omega)
  generalize 2 ^ (4 * i) = P at *
  omega
theorem ov_lt32 {z i : Nat} (hi : i ≤ 8) (hz : z < 2 ^ (4 * i)) : z < 2 ^ 32 :=
  Nat.lt_of_lt_of_le hz (Nat.pow_le_pow_right (n := 2) (by decide) (by omega : 4 * i ≤ 32))
theorem ov_put_at {z t i : Nat} (hi : i < 8) (hz : z < 2 ^ (4 * i)) (ht : t < 16) : ov_nb (nI (z + t * 2 ^ (4 * i))) i = t := by
  rw [ov_nbN (ov_lt32 (by omega) (ov_putlt hz ht)), Nat.mul_comm t, Nat.add_mul_div_left _ _ (Nat.two_pow_pos _), Nat.div_eq_of_lt hz, Nat.zero_add, Nat.mod_eq_of_lt ht]
theorem ov_put_lo {z t i j : Nat} (hi : i < 8) (hz : z < 2 ^ (4 * i)) (ht : t < 16) (hj : j < i) : ov_nb (nI (z + t * 2 ^ (4 * i))) j = ov_nb (nI z) j := by
  rw [ov_nbN (ov_lt32 (by omega) (ov_putlt hz ht)), ov_nbN (ov_lt32 (i := i) (by omega) hz)]
  have e : 2 ^ (4 * i) = 2 ^ (4 * j) * (16 * 2 ^ (4 * (i - j - 1))) := by
    rw [show 4 * i = 4 * j + (4 + 4 * (i - j - 1)) from by omega, Nat.pow_add, Nat.pow_add]
  have e2 : t * 2 ^ (4 * i) = 2 ^ (4 * j) * (16 * (t * 2 ^ (4 * (i - j - 1)))) := by
    rw [e, Nat.mul_left_comm, Nat.mul_left_comm t 16]
  rw [e2, Nat.add_mul_div_left _ _ (Nat.two_pow_pos _), Nat.add_mul_mod_self_left]
theorem ov_V_put {z t k : Nat} (hV : ov_V (nI z) k) (hz : z < 2 ^ (4 * k)) (hk : k < 4) (h1 : 1 ≤ t) (h2 : t ≤ 14) : ov_V (nI (z + t * 2 ^ (4 * k))) (k + 1) := by
  have hp := ov_putlt (i := k) hz (by omega : t < 16)
  refine ⟨by omega, ?_, ?_⟩
  · rw [pk_tn (ov_lt32 (i := k + 1) (by omega) hp)]
    exact hp
  · intro i hi
    by_cases e : i = k
    · subst e
      rw [ov_put_at (by omega) hz (by omega)]
      exact ⟨h1, h2⟩
    · rw [ov_put_lo (by omega) hz (by omega) (by omega)]
      exact hV.2.2 i (by omega)
end
section

/-! ===== the deciding phase, the choice ===== -/
def ov_Ph (mc : Nat) (A : Nat → Nat → Prop) (d : Nat) : Prop :=
  (d = 0 ∧ ∀ p, 1 ≤ p → p ≤ 3 → ∀ m, m < mc → ¬ A p m) ∨ (1 ≤ d ∧ d ≤ 3 ∧ (∃ m, m < mc ∧ A d m) ∧ ∀ p, 1 ≤ p → p < d → ∀ m, m < mc → ¬ A p m)
theorem ov_Ph_le {mc : Nat} {A : Nat → Nat → Prop} {d : Nat} (h : ov_Ph mc A d) : d ≤ 3 := by
  rcases h with ⟨h, _⟩ | ⟨_, h, _⟩
  · omega
  · exact h
theorem ov_Ph_u {mc : Nat} {A : Nat → Nat → Prop} {d e : Nat} (h : ov_Ph mc A d) (g : ov_Ph mc A e) : d = e := by
  rcases h with ⟨h0, h⟩ | ⟨h1, h3, ⟨m, hm, ha⟩, h⟩
  · rcases g with ⟨g0, g⟩ | ⟨g1, g3, ⟨q, hq, qa⟩, g⟩
    · omega
    · exact absurd qa (h e g1 g3 q hq)
  · rcases g with ⟨g0, g⟩ | ⟨g1, g3, ⟨q, hq, qa⟩, g⟩
    · exact absurd ha (g d h1 h3 m hm)
    · rcases Nat.lt_trichotomy d e with c | c | c
      · exact absurd ha (g d h1 c m hm)
      · exact c
      · exact absurd qa (h e g1 c q hq)
theorem ov_Ph_ex (mc : Nat) (A : Nat → Nat → Prop) : ∃ d, ov_Ph mc A d := by
  by_cases c : ∃ p, 1 ≤ p ∧ p ≤ 3 ∧ ∃ m, m < mc ∧ A p m
  · obtain ⟨d, ⟨h1, h3, hm⟩, hl⟩ := pk_least _ c
    refine ⟨d, Or.inr ⟨h1, h3, hm, fun p p1 pd m hm' ha => hl p pd ⟨p1, by omega, m, hm', ha⟩⟩⟩
  · exact ⟨0, Or.inl ⟨rfl, fun p p1 p3 m hm ha => c ⟨p, p1, p3, m, hm, ha⟩⟩⟩
def ov_B (mc : Nat) (A : Nat → Prop) (M : Nat → Nat → Prop) (m : Nat) : Prop := ∀ o, o < mc → o ≠ m → A o → M m o ∧ ¬ M o m
def ov_G (mc : Nat) (A : Nat → Prop) (M : Nat → Nat → Prop) (m : Nat) : Prop := A m ∧ ov_B mc A M m
def ov_Ch (mc : Nat) (G : Nat → Prop) (d : Nat) (r : Int32) : Prop :=
  (d = 0 ∧ r = -1) ∨ (1 ≤ d ∧ ((∃ m, m < mc ∧ r = nI m ∧ G m ∧ ∀ q, q < m → ¬ G q) ∨ (r = -2 ∧ ∀ q, q < mc → ¬ G q)))
theorem ov_Ch_u {mc : Nat} {G : Nat → Prop} {d : Nat} {r s : Int32} (h : ov_Ch mc G d r) (g : ov_Ch mc G d s) : r = s := by
  rcases h with ⟨h0, h⟩ | ⟨h1, h⟩
  · rcases g with ⟨g0, g⟩ | ⟨g1, g⟩
    · rw [h, g]
    · omega
  · rcases g with ⟨g0, g⟩ | ⟨g1, g⟩
    · omega
    · rcases h with ⟨m, hm, e, hG, hl⟩ | ⟨e, hn⟩
      · rcases g with ⟨q, hq, f, qG, ql⟩ | ⟨f, qn⟩
        · rcases Nat.lt_trichotomy m q with c | c | c
          · exact absurd hG (ql m c)
          · rw [e, f, c]
          · exact absurd qG (hl q c)
        · exact absurd hG (qn m hm)
      · rcases g with ⟨q, hq, f, qG, ql⟩ | ⟨f, qn⟩
        · exact absurd qG (hn q hq)
        · rw [e, f]
theorem ov_Ch_ex (mc : Nat) (G : Nat → Prop) (d : Nat) : ∃ r, ov_Ch mc G d r := by
  rcases Nat.eq_zero_or_pos d with h | h
  · exact ⟨-1, Or.inl ⟨h, rfl⟩⟩
  · by_cases c : ∃ m, m < mc ∧ G m
    · obtain ⟨m, ⟨h1, h2⟩, hl⟩ := pk_least _ c
      exact ⟨nI m, Or.inr ⟨h, Or.inl ⟨m, h1, rfl, h2, fun q hq g => hl q hq ⟨by omega, g⟩⟩⟩⟩
    · exact ⟨-2, Or.inr ⟨h, Or.inr ⟨rfl, fun q hq g => c ⟨q, hq, g⟩⟩⟩⟩
theorem ov_Ch_v {mc : Nat} {G : Nat → Prop} {d : Nat} {r : Int32} (h : ov_Ch mc G d r) : (∃ m, m < mc ∧ r = nI m) ∨ r = -1 ∨ r = -2 := by
  rcases h with ⟨_, h⟩ | ⟨_, ⟨m, hm, e, _⟩ | ⟨e, _⟩⟩
  · exact Or.inr (Or.inl h)
  · exact Or.inl ⟨m, hm, e⟩
  · exact Or.inr (Or.inr e)
/-! ===== sets of methods as bits ===== -/
theorem ov_one : ∀ m, m < 32 → ∀ j, j < 32 → bt ((1 : Int32) <<< (nI m &&& 31)) j = decide (j = m) := by decide +kernel
theorem ov_bit (k : Int32) {m : Nat} (hm : m < 32) : (k &&& ((1 : Int32) <<< (nI m &&& 31))) = 0 ↔ bt k m = false := by
  rw [← Int32.toBitVec_inj, Int32.toBitVec_and, nf_sh m hm, BitVec.and_twoPow]
  unfold bt
  show _ = 0#32 ↔ _
  cases hb : k.toBitVec.getLsbD m
  · exact ⟨fun _ => rfl, fun _ => by simp⟩
  · exact ⟨fun z => absurd ((if_pos rfl).symm.trans z) (nf_tp m hm), fun z => absurd z (by decide)⟩
theorem ov_set (k : Int32) {m j : Nat} (hm : m < 32) (hj : j < 32) : bt (k ||| ((1 : Int32) <<< (nI m &&& 31))) j = (bt k j || decide (j = m)) := by
  rw [b_or, ov_one m hm j hj]
/-! ===== a program in its order: P j nodes are wanting ahead of node j ===== -/
def ov_P (g P : Nat → Nat) (nc : Nat) : Prop := P 0 = 1 ∧ ∀ j, j < nc → 1 ≤ P j ∧ P (j + 1) + 1 = P j + g j
def ov_E (P : Nat → Nat) (j e : Nat) : Prop := j < e ∧ P e + 1 = P j ∧ ∀ k, j ≤ k → k < e → P j ≤ P k
theorem ov_P_le {g P : Nat → Nat} {nc : Nat} (h : ov_P g P nc) (hg : ∀ j, j < nc → g j ≤ 4) : ∀ j, j ≤ nc → P j ≤ 1 + 3 * j := by
  intro j
  induction j with
  | zero => intro _; rw [h.1]; omega
  | succ j ih =>
    intro hj
    have a := ih (by omega)
    have b := (h.2 j (by omega)).2
    have c := hg j (by omega)
    omega
theorem ov_E_u {P : Nat → Nat} {j e f : Nat} (h : ov_E P j e) (g : ov_E P j f) : e = f := by
  obtain ⟨h1, h2, h3⟩ := h
  obtain ⟨g1, g2, g3⟩ := g
  rcases Nat.lt_trichotomy e f with c | c | c
  · have := g3 e (by omega) c
    omega
  · exact c
  · have := h3 f (by omega) c
    omega
/-- a children so far: the next place ch, c of them in all -/
def ov_K (P : Nat → Nat) (i c a ch : Nat) : Prop := i < ch ∧ P ch + a + 1 = P i + c ∧ ∀ k, i ≤ k → k < ch → P i ≤ P k
theorem ov_K_0 {g P : Nat → Nat} {nc i : Nat} (h : ov_P g P nc) (hi : i < nc) : ov_K P i (g i) 0 (i + 1) := by
  have a := (h.2 i hi).2
  refine ⟨by omega, by omega, fun k h1 h2 => ?_⟩
  have : k = i := by omega
  subst this
  exact Nat.le_refl _
theorem ov_K_s {P : Nat → Nat} {i c a ch e : Nat} (h : ov_K P i c a ch) (ha : a < c) (he : ov_E P ch e) : ov_K P i c (a + 1) e := by
  obtain ⟨h1, h2, h3⟩ := h
  obtain ⟨g1, g2, g3⟩ := he
  refine ⟨by omega, by omega, fun k k1 k2 => ?_⟩
  rcases Nat.lt_or_ge k ch with z | z
  · exact h3 k k1 z
  · have := g3 k z k2
    omega
theorem ov_K_in {g P : Nat → Nat} {nc i c a ch : Nat} (h : ov_P g P nc) (h0 : P nc = 0) (hi : i < nc) (hk : ov_K P i c a ch) (ha : a < c) (hc : ch ≤ nc) : ch < nc := by
  have p := (h.2 i hi).1
  have q := hk.2.1
  rcases Nat.lt_or_ge ch nc with z | z
  · exact z
  · have : ch = nc := by omega
    subst this
    omega
theorem ov_K_e {P : Nat → Nat} {i c ch : Nat} (h : ov_K P i c c ch) : ov_E P i ch := ⟨h.1, by have := h.2.1; omega, h.2.2⟩
/-! ===== the arguments of a call ===== -/
def ov_cs (E : Nat → Nat) (i : Nat) : Nat → Nat
  | 0 => i + 1
  | a + 1 => E (ov_cs E i a)
def ov_sm (v : Nat → Int64) : Nat → Int64
  | 0 => 0
  | a + 1 => ov_sm v a + v a
def ov_zt (t : Nat → Nat) : Nat → Nat
  | 0 => 0
  | a + 1 => ov_zt t a + t a * 2 ^ (4 * a)
theorem ov_zt_lt (t : Nat → Nat) (ht : ∀ b, t b < 16) : ∀ a, ov_zt t a < 2 ^ (4 * a) := by
  intro a
  induction a with
  | zero => exact Nat.one_pos
  | succ a ih => exact ov_putlt ih (ht a)
theorem ov_zt_V (t : Nat → Nat) (ht : ∀ b, t b < 16) : ∀ a, a ≤ 4 → (∀ b, b < a → 1 ≤ t b ∧ t b ≤ 14) → ov_V (nI (ov_zt t a)) a := by
  intro a
  induction a with
  | zero => intro _ _; exact ov_V_0
  | succ a ih =>
    intro h4 h
    exact ov_V_put (ih (by omega) (fun b hb => h b (by omega))) (ov_zt_lt t ht a) (by omega) (h a (by omega)).1 (h a (by omega)).2
end
section
/-! ===== X: what needs no state ===== -/
def ov_S (s t : Nat) : Prop := s = t ∨ (t = 2 ∧ s = 1) ∨ (t = 4 ∧ s < 4) ∨ (t = 5 ∧ s < 5) ∨ (t = 13 ∧ (s = 7 ∨ s = 8 ∨ s = 10 ∨ s = 11)) ∨ (t = 14 ∧ 7 ≤ s)
def ov_C (a p ph : Nat) : Prop := ov_S a p ∨ (ph ≠ 1 ∧ ((a ≤ 6 ∧ ov_S (a + 6) p) ∨ (7 ≤ a ∧ a ≤ 12 ∧ ov_S (a - 6) p)))
def ov_N (t : Nat) (v : Int64) : Int64 := if t = 1 ∨ t = 7 then v.toInt32.toInt8.toInt32.toInt64 else if t = 2 ∨ t = 8 then v.toInt32.toInt16.toInt32.toInt64 else if t = 3 ∨ t = 9 then v &&& 65535 else if t = 4 ∨ t = 10 then v.toInt32.toInt64 else if t = 6 ∨ t = 12 then v &&& 1 else v
theorem ov_ec {m : Nat} (h : m < 2 ^ 31) : (nI m).toNatClampNeg = m := nI_clamp h
theorem xs_typeAt {post : Int32 → Prop} {x' x p : Int32} {i : Nat} (hx : x' = x) (hp : p = nI i) (hi : i < 8) (h : post (nI (ov_nb x i))) : wpX_typeAt post x' p := by
  subst hx hp
  unfold wpX_typeAt
  rw [ov_tx x' hi]
  exact h
theorem xs_isTypeN {post : Int32 → Prop} {n : Nat} (hn : n < 2 ^ 31) (h1 : 1 ≤ n → n ≤ 14 → post 1) (h0 : (n < 1 ∨ 14 < n) → post 0) : wpX_isType post (nI n) :=
  pk_lt n 1 (fun a => h0 (Or.inl a)) (fun a => pk_lt 14 n (fun b => h0 (Or.inr b)) (fun b => h1 a b))
theorem xs_ll {post : Int32 → Prop} {x : Int32} (h : ∀ l, l ≤ 4 → (∀ i, i < l → ov_nb x i ≠ 0) → (l < 4 → ov_nb x l = 0) → post (nI l)) : ∀ d l, l + d = 4 → (∀ i, i < l → ov_nb x i ≠ 0) → wX_listLength_2 post x (d + 1) (nI l) := by
  intro d
  induction d with
  | zero =>
    intro l hl ha
    exact br_t (nI_le (a := 4) (by omega) (by omega)) (h l (by omega) ha (by omega))
  | succ d ih =>
    intro l hl ha
    have hb := ov_nb_lt x l
    refine br_f (nI_ge (b := 4) (by omega) (by decide)) (xs_typeAt rfl rfl (by omega) ?_)
    refine pk_eq (ov_nb x l) 0 (fun z => h l (by omega) ha (fun _ => z)) (fun z => nm_r (nI_1 l) (ih (l + 1) (by omega) (fun i hi => ?_)))
    by_cases e : i = l
    · rw [e]; exact z
    · exact ha i (by omega)
theorem xs_listLength {post : Int32 → Prop} {x : Int32} (h : ∀ l, l ≤ 4 → (∀ i, i < l → ov_nb x i ≠ 0) → (l < 4 → ov_nb x l = 0) → post (nI l)) : wpX_listLength post x :=
  ⟨5, xs_ll h 4 0 rfl (fun i hi => absurd hi (by omega))⟩
theorem xs_listLength_V {post : Int32 → Prop} {x : Int32} {L : Nat} (hV : ov_V x L) (h : post (nI L)) : wpX_listLength post x :=
  xs_listLength (fun l _ ha hb => by rw [← ov_V_x hV ha hb]; exact h)
theorem xs_isTypeList {post : Int32 → Prop} {x : Int32} (h1 : ∀ L, ov_V x L → post 1) (h0 : (∀ L, ¬ ov_V x L) → post 0) : wpX_isTypeList post x := by
  unfold wpX_isTypeList
  refine xs_listLength (fun l h4 ha hb => ⟨l + 1, ?_⟩)
  have key : ∀ d i, i + d = l → (∀ j, j < i → 1 ≤ ov_nb x j ∧ ov_nb x j ≤ 14) → wX_isTypeList_7 post x (nI l) (d + 1) (nI i) := by
    intro d
    induction d with
    | zero =>
      intro i hi hj
      refine br_t (nI_le (by omega) (by omega)) ?_
      refine br_c (fun z => h1 l ⟨h4, (ov_sz x (by omega)).mp z, fun j hj' => hj j (by omega)⟩) (fun z => h0 (fun L hL => z ((ov_sz x (by omega)).mpr ?_)))
      rw [← ov_V_x hL ha hb]
      exact hL.2.1
    | succ d ih =>
      intro i hi hj
      have hn := ov_nb_lt x i
      have hz := ha i (by omega)
      refine br_f (nI_ge (by omega) (by omega)) (xs_typeAt rfl rfl (by omega) ?_)
      refine xs_isTypeN (by omega) (fun t1 t2 => br_f (by decide) (nm_r (nI_1 i) (ih (i + 1) (by omega) (fun j hj' => ?_)))) (fun z => br_t rfl (h0 (fun L hL => ?_)))
      · by_cases e : j = i
        · rw [e]; exact ⟨t1, t2⟩
        · exact hj j (by omega)
      · have e := ov_V_x hL ha hb
        have c := hL.2.2 i (by omega)
        omega
  exact key l 0 (by omega) (fun j hj => absurd hj (by omega))
/-- z: the places of the list p of k types -/
def ov_R (p z : Int32) (k : Nat) : Prop := (∀ j, j < k → ov_nb z j = ov_nb p j) ∧ (1 ≤ k → ∀ j, k ≤ j → j ≤ 4 → ov_nb z j = ov_nb p (k - 1))
theorem xs_rl {post : Int32 → Prop} {p : Int32} {k : Nat} (hV : ov_V p k) (hk : 1 ≤ k) (h : ∀ z, ov_R p z k → post z) : ∀ d i z, i + d = 5 → k ≤ i → z < 2 ^ (4 * i) → (∀ j, j < k → ov_nb (nI z) j = ov_nb p j) → (∀ j, k ≤ j → j < i → ov_nb (nI z) j = ov_nb p (k - 1)) → wX_repeatLast_9 post p (nI k) (d + 1) (nI z) (nI i) := by
  intro d
  induction d with
  | zero =>
    intro i z hi hki hz ha hb
    exact br_f (nI_nle (by omega) (by omega)) (br_t (nI_lt (a := 4) (by omega) (by omega)) (h _ ⟨ha, fun _ j h1 h2 => hb j h1 (by omega)⟩))
  | succ d ih =>
    intro i z hi hki hz ha hb
    have ht := ov_nb_lt p (k - 1)
    refine br_f (nI_nle (by omega) (by omega)) (br_f (nI_nlt (a := 4) (by omega) (by omega)) ?_)
    refine xs_typeAt rfl (pk_sub (b := 1) hk) (by have := hV.1; omega) ?_
    refine nm_r (ov_put (by omega) hz ht) (nm_r (nI_1 i) (ih (i + 1) _ (by omega) (by omega) (ov_putlt hz ht) (fun j hj => ?_) (fun j h1 h2 => ?_)))
    · rw [ov_put_lo (by omega) hz ht (by omega)]
      exact ha j hj
    · by_cases e : j = i
      · rw [e, ov_put_at (by omega) hz ht]
      · rw [ov_put_lo (by omega) hz ht (by omega)]
        exact hb j h1 (by omega)
theorem xs_repeatLast {post : Int32 → Prop} {p : Int32} {k : Nat} (hV : ov_V p k) (h : ∀ z, ov_R p z k → post z) : wpX_repeatLast post p := by
  unfold wpX_repeatLast
  refine xs_listLength_V hV ?_
  rcases Nat.eq_zero_or_pos k with e | e
  · subst e
    exact ⟨1, br_t (nI_le (a := 0) (b := 0) (by omega) (by omega)) (h p ⟨fun j hj => absurd hj (by omega), fun hj => absurd hj (by omega)⟩)⟩
  · refine ⟨(5 - k) + 1, ?_⟩
    have hp := ov_e p
    have := xs_rl hV e h (5 - k) k p.toBitVec.toNat (by have := hV.1; omega) (Nat.le_refl k) hV.2.1 (fun j hj => by rw [← hp]) (fun j h1 h2 => absurd h1 (by omega))
    rw [← hp] at this
    exact this
theorem xs_sub {post : Int32 → Prop} {s t : Nat} (s1 : 1 ≤ s) (s2 : s ≤ 14) (t1 : 1 ≤ t) (t2 : t ≤ 14) (h1 : ov_S s t → post 1) (h0 : ¬ ov_S s t → post 0) : wpX_isSubtype post (nI s) (nI t) := by
  unfold ov_S at h1 h0
  refine pk_eq s t (fun a => ?_) (fun a => pk_lt t 2 (fun b => ?_) (fun b => pk_lt 14 t (fun c => ?_) (fun c => pk_eq t 2 (fun d => pk_eq s 1 (fun e => ?_) (fun e => ?_)) (fun d2 => pk_eq t 3 (fun e => ?_) (fun d3 => pk_eq t 4 (fun e => pk_le 4 s (fun f => ?_) (fun f => ?_)) (fun d4 => pk_eq t 5 (fun e => pk_le 5 s (fun f => ?_) (fun f => ?_)) (fun d5 => pk_eq t 6 (fun e => ?_) (fun d6 => pk_eq t 7 (fun e => ?_) (fun d7 => pk_eq t 8 (fun e => ?_) (fun d8 => pk_eq t 9 (fun e => ?_) (fun d9 => pk_eq t 10 (fun e => ?_) (fun d10 => pk_eq t 11 (fun e => ?_) (fun d11 => pk_eq t 12 (fun e => ?_) (fun d12 => pk_eq t 13 (fun e => pk_eq s 7 (fun f => ?_) (fun f7 => pk_eq s 8 (fun f => ?_) (fun f8 => pk_eq s 10 (fun f => ?_) (fun f10 => pk_eq s 11 (fun f => ?_) (fun f => ?_))))) (fun d13 => pk_eq t 14 (fun e => pk_lt s 7 (fun f => ?_) (fun f => ?_)) (fun d14 => trivial))))))))))))))))
  all_goals first | exact h1 (by omega) | exact h0 (by omega)
theorem ov_C1 {a p ph : Nat} (h : ov_S a p) : ov_C a p ph := Or.inl h
theorem xs_compat {post : Int32 → Prop} {a p ph : Nat} (a1 : 1 ≤ a) (a2 : a ≤ 14) (p1 : 1 ≤ p) (p2 : p ≤ 14) (hp : ph < 4) (h1 : ov_C a p ph → post 1) (h0 : ¬ ov_C a p ph → post 0) : wpX_isCompatible post (nI a) (nI p) (nI ph) := by
  unfold wpX_isCompatible
  unfold ov_C at h1 h0
  refine xs_sub a1 a2 p1 p2 (fun s => br_f (by decide) (h1 (Or.inl s))) (fun s => br_t rfl ?_)
  refine pk_eq ph 1 (fun e => h0 (fun c => c.elim s (fun c => c.1 e))) (fun e => ?_)
  refine pk_le a 12 (fun f => ?_) (fun f => h0 (fun c => c.elim s (fun c => c.2.elim (fun c => by omega) (fun c => by omega))))
  refine pk_lt 6 a (fun g => br_t rfl ?_) (fun g => br_f (by decide) ?_)
  · show wX_isCompatible_50 post (nI p) (nI a - nI 6)
    rw [pk_sub (by omega)]
    exact xs_sub (by omega) (by omega) p1 p2 (fun c => ⟨rfl, h1 (Or.inr ⟨e, Or.inr ⟨by omega, f, c⟩⟩)⟩) (fun c => ⟨rfl, h0 (fun d => d.elim s (fun d => d.2.elim (fun d => by omega) (fun d => c d.2.2)))⟩)
  · show wX_isCompatible_50 post (nI p) (nI a + nI 6)
    rw [nI_add]
    exact xs_sub (by omega) (by omega) p1 p2 (fun c => ⟨rfl, h1 (Or.inr ⟨e, Or.inl ⟨by omega, c⟩⟩)⟩) (fun c => ⟨rfl, h0 (fun d => d.elim s (fun d => d.2.elim (fun d => c d.2) (fun d => by omega)))⟩)
theorem xs_narrow {post : Int64 → Prop} {t : Nat} {v : Int64} (t1 : 1 ≤ t) (t2 : t ≤ 14) (h : post (ov_N t v)) : wpX_narrow post (nI t) v := by
  refine pk_lt t 1 (fun a => absurd a (by omega)) (fun a => pk_lt 12 t (fun b => ?_) (fun b => pk_eq t 1 (fun e => ?_) (fun d1 => pk_eq t 2 (fun e => ?_) (fun d2 => pk_eq t 3 (fun e => ?_) (fun d3 => pk_eq t 4 (fun e => ?_) (fun d4 => pk_eq t 5 (fun e => ?_) (fun d5 => pk_eq t 6 (fun e => ?_) (fun d6 => pk_eq t 7 (fun e => ?_) (fun d7 => pk_eq t 8 (fun e => ?_) (fun d8 => pk_eq t 9 (fun e => ?_) (fun d9 => pk_eq t 10 (fun e => ?_) (fun d10 => pk_eq t 11 (fun e => ?_) (fun d11 => pk_eq t 12 (fun e => ?_) (fun d12 => trivial))))))))))))))
  · have c : t = 13 ∨ t = 14 := by omega
    rcases c with rfl | rfl <;> exact h
  all_goals (subst e; exact h)
end
section
/-! ===== the table of methods: ln m types each ===== -/
def ov_M (mc : Nat) (pm pl vr : Nat → Int32) (ln : Nat → Nat) : Prop := ∀ m, m < mc → ov_V (pm m) (ln m) ∧ (vr m = 0 ∨ (vr m = 1 ∧ 1 ≤ ln m)) ∧ ov_R (pm m) (pl m) (ln m)
theorem ov_M_ty {mc : Nat} {pm pl vr : Nat → Int32} {ln : Nat → Nat} (hM : ov_M mc pm pl vr ln) {m i : Nat} (hm : m < mc) (hi : i ≤ 4) (h : i < ln m ∨ ¬ vr m = 0) : 1 ≤ ov_nb (pl m) i ∧ ov_nb (pl m) i ≤ 14 := by
  obtain ⟨hV, hv, hR⟩ := hM m hm
  rcases Nat.lt_or_ge i (ln m) with c | c
  · rw [hR.1 i c]
    exact hV.2.2 i c
  · have hl : 1 ≤ ln m := by
      rcases hv with e | e
      · rcases h with h | h
        · omega
        · exact absurd e h
      · exact e.2
    rw [hR.2 hl i c hi]
    exact hV.2.2 _ (by omega)
def ov_A (pl vr : Nat → Int32) (ln : Nat → Nat) (ty : Int32) (n ph m : Nat) : Prop := (ph = 3 → ¬ vr m = 0 ∧ ln m ≤ n + 1) ∧ (¬ ph = 3 → vr m = 0 ∧ ln m = n) ∧ ∀ i, i < n → ov_C (ov_nb ty i) (ov_nb (pl m) i) ph
def ov_T (nm pl vr : Nat → Int32) (ln : Nat → Nat) (x ty : Int32) (n ph m : Nat) : Prop := nm m = x ∧ ov_A pl vr ln ty n ph m
def ov_lim (n ph : Nat) : Nat := if ph = 3 then n + 1 else n
def ov_MS (pl : Nat → Int32) (lim m o : Nat) : Prop := ∀ i, i < lim → ov_S (ov_nb (pl m) i) (ov_nb (pl o) i)
def ov_W (nm pl vr : Nat → Int32) (ln : Nat → Nat) (mc : Nat) (x ty : Int32) (n ph m : Nat) : Prop := ov_G mc (ov_T nm pl vr ln x ty n ph) (ov_MS pl (ov_lim n ph)) m
theorem ov_A_in {mc : Nat} {pm pl vr : Nat → Int32} {ln : Nat → Nat} {ty : Int32} {n ph m : Nat} (hM : ov_M mc pm pl vr ln) (hm : m < mc) (hn : n ≤ 4) (h : ov_A pl vr ln ty n ph m) : ∀ i, i < ov_lim n ph → 1 ≤ ov_nb (pl m) i ∧ ov_nb (pl m) i ≤ 14 := by
  intro i hi
  unfold ov_lim at hi
  by_cases e : ph = 3
  · rw [if_pos e] at hi
    exact ov_M_ty hM hm (by omega) (Or.inr (h.1 e).1)
  · rw [if_neg e] at hi
    have := (h.2.1 e).2
    exact ov_M_ty hM hm (by omega) (Or.inl (by omega))
theorem ov_lim_le {n ph : Nat} (hn : n ≤ 4) : ov_lim n ph ≤ 5 := by
  unfold ov_lim
  by_cases e : ph = 3
  · rw [if_pos e]; omega
  · rw [if_neg e]; omega
theorem ov_lt_s {p : Nat → Prop} {i : Nat} (h : ∀ j, j < i → p j) (hi : p i) : ∀ j, j < i + 1 → p j := by
  intro j hj
  by_cases e : j = i
  · rw [e]; exact hi
  · exact h j (by omega)
section
variable {x_methodCapacity x_nodeCapacity x_methods x_pickedPhase x_nodes x_missingNodes x_resolved : Int32} {x_methodName x_methodParams x_methodPlaces x_methodReturn x_methodConstant x_methodVarargs x_callName x_callArgc x_literalType : Nat → Int32} {x_literalValue : Nat → Int64} {x_subtreeEnd x_resultStatus x_resultMethod x_resultType x_resultPhase : Nat → Int32} {x_resultValue : Nat → Int64}
theorem xa_loop {post : Int32 → Prop} {mc m n ph : Nat} {ln : Nat → Nat} {ty : Int32} (hm : m < mc) (h16 : mc ≤ 16) (hM : ov_M mc x_methodParams x_methodPlaces x_methodVarargs ln) (hV : ov_V ty n) (hp : ph < 4) (hx : n ≤ ln m ∨ ¬ x_methodVarargs m = 0) (h1 : (∀ i, i < n → ov_C (ov_nb ty i) (ov_nb (x_methodPlaces m) i) ph) → post 1) (h0 : ¬ (∀ i, i < n → ov_C (ov_nb ty i) (ov_nb (x_methodPlaces m) i) ph) → post 0) : ∀ d i, i + d = n → (∀ j, j < i → ov_C (ov_nb ty j) (ov_nb (x_methodPlaces m) j) ph) → wX_isApplicable_71 post (nI m) ty (nI ph) (nI n) x_methodCapacity x_nodeCapacity x_methods x_pickedPhase x_nodes x_missingNodes x_resolved x_methodName x_methodParams x_methodPlaces x_methodReturn x_methodConstant x_methodVarargs x_callName x_callArgc x_literalType x_literalValue x_subtreeEnd x_resultStatus x_resultMethod x_resultType x_resultPhase x_resultValue (d + 1) (nI i) := by
  have ec : (nI m).toNatClampNeg = m := nI_clamp (by omega)
  have h4 := hV.1
  intro d
  induction d with
  | zero =>
    intro i hi hj
    exact br_t (nI_le (by omega) (by omega)) (h1 (fun j hj' => hj j (by omega)))
  | succ d ih =>
    intro i hi hj
    have ht := hV.2.2 i (by omega)
    have hq := ov_M_ty hM hm (i := i) (by omega) (hx.elim (fun c => Or.inl (by omega)) Or.inr)
    refine br_f (nI_ge (by omega) (by omega)) (xs_typeAt rfl rfl (by omega) ⟨vp_in_nI (by omega) (by omega), xs_typeAt (congrArg x_methodPlaces ec) rfl (by omega) ?_⟩)
    exact xs_compat ht.1 ht.2 hq.1 hq.2 hp (fun c => br_f (by decide) (nm_r (nI_1 i) (ih (i + 1) (by omega) (ov_lt_s hj c)))) (fun c => br_t rfl (h0 (fun z => c (z i (by omega)))))
theorem xs_isApplicable {post : Int32 → Prop} {mc m n ph : Nat} {ln : Nat → Nat} {ty : Int32} (hm : m < mc) (h16 : mc ≤ 16) (hM : ov_M mc x_methodParams x_methodPlaces x_methodVarargs ln) (hV : ov_V ty n) (hp : ph < 4) (h1 : ov_A x_methodPlaces x_methodVarargs ln ty n ph m → post 1) (h0 : ¬ ov_A x_methodPlaces x_methodVarargs ln ty n ph m → post 0) : wpX_isApplicable post (x_methodCapacity, x_nodeCapacity, x_methods, x_pickedPhase, x_nodes, x_missingNodes, x_resolved, x_methodName, x_methodParams, x_methodPlaces, x_methodReturn, x_methodConstant, x_methodVarargs, x_callName, x_callArgc, x_literalType, x_literalValue, x_subtreeEnd, x_resultStatus, x_resultMethod, x_resultType, x_resultPhase, x_resultValue) (nI m) ty (nI ph) := by
  have ec : (nI m).toNatClampNeg = m := nI_clamp (by omega)
  have h4 := hV.1
  have hL := (hM m hm).1.1
  unfold wpX_isApplicable
  refine xs_listLength_V hV ⟨vp_in_nI (by omega) (by omega), ?_⟩
  refine xs_listLength_V (L := ln m) (by rw [ec]; exact (hM m hm).1) ⟨vp_in_nI (by omega) (by omega), ?_⟩
  refine nm_r (congrArg x_methodVarargs ec) ?_
  rcases (hM m hm).2.1 with e | ⟨e, el⟩
  · refine pk_eq ph 3 (fun z => br_f (by rw [e]; decide) (h0 (fun A => (A.1 z).1 e))) (fun z => br_t e (br_t e ?_))
    refine pk_eq n (ln m) (fun q => ⟨n + 1, ?_⟩) (fun q => h0 (fun A => q (A.2.1 z).2.symm))
    exact xa_loop hm h16 hM hV hp (Or.inl (by omega)) (fun c => h1 ⟨fun y => absurd y z, fun _ => ⟨e, q.symm⟩, c⟩) (fun c => h0 (fun A => c A.2.2)) n 0 (by omega) (fun j hj => absurd hj (by omega))
  · have e0 : ¬ x_methodVarargs m = 0 := by rw [e]; decide
    refine pk_eq ph 3 (fun z => br_t e (br_f e0 ?_)) (fun z => br_f e0 (h0 (fun A => e0 (A.2.1 z).1)))
    refine pk_le (ln m - 1) n (fun q => ⟨n + 1, ?_⟩) (fun q => h0 (fun A => absurd (A.1 z).2 (by omega))) (pk_sub (b := 1) el)
    exact xa_loop hm h16 hM hV hp (Or.inr e0) (fun c => h1 ⟨fun _ => ⟨e0, by omega⟩, fun y => absurd z y, c⟩) (fun c => h0 (fun A => c A.2.2)) n 0 (by omega) (fun j hj => absurd hj (by omega))
theorem xd_in {post J : Int32 → Prop} {mc n ph : Nat} {ln : Nat → Nat} {x ty : Int32} (h16 : mc ≤ 16) (hM : ov_M mc x_methodParams x_methodPlaces x_methodVarargs ln) (hV : ov_V ty n) (hp : ph < 4) (h1 : (∃ m, m < mc ∧ ov_T x_methodName x_methodPlaces x_methodVarargs ln x ty n ph m) → post (nI ph)) (hJ : (∀ m, m < mc → ¬ ov_T x_methodName x_methodPlaces x_methodVarargs ln x ty n ph m) → J (nI (ph + 1))) : ∀ d m, m + d = mc → (∀ q, q < m → ¬ ov_T x_methodName x_methodPlaces x_methodVarargs ln x ty n ph q) → wX_decidingPhase_10 post J x ty (nI ph) x_methodCapacity x_nodeCapacity (nI mc) x_pickedPhase x_nodes x_missingNodes x_resolved x_methodName x_methodParams x_methodPlaces x_methodReturn x_methodConstant x_methodVarargs x_callName x_callArgc x_literalType x_literalValue x_subtreeEnd x_resultStatus x_resultMethod x_resultType x_resultPhase x_resultValue (d + 1) (nI m) := by
  intro d
  induction d with
  | zero =>
    intro m hm hq
    exact br_t (nI_le (by omega) (by omega)) (nm_r (nI_1 ph) (hJ (fun q h => hq q (by omega))))
  | succ d ih =>
    intro m hm hq
    have ec : (nI m).toNatClampNeg = m := nI_clamp (by omega)
    refine br_f (nI_ge (by omega) (by omega)) ⟨vp_in_nI (by omega) (by omega), br_c (fun e => ?_) (fun e => ?_)⟩
    · rw [ec] at e
      exact xs_isApplicable (by omega) h16 hM hV hp (fun a => br_f (by decide) (h1 ⟨m, by omega, e, a⟩)) (fun a => br_t rfl (nm_r (nI_1 m) (ih (m + 1) (by omega) (ov_lt_s hq (fun t => a t.2)))))
    · rw [ec] at e
      exact nm_r (nI_1 m) (ih (m + 1) (by omega) (ov_lt_s hq (fun t => e t.1)))
theorem xd_out {post : Int32 → Prop} {mc n : Nat} {ln : Nat → Nat} {x ty : Int32} (h16 : mc ≤ 16) (hM : ov_M mc x_methodParams x_methodPlaces x_methodVarargs ln) (hV : ov_V ty n) (h : ∀ d, ov_Ph mc (ov_T x_methodName x_methodPlaces x_methodVarargs ln x ty n) d → post (nI d)) : ∀ d ph, ph + d = 4 → 1 ≤ ph → (∀ p, 1 ≤ p → p < ph → ∀ m, m < mc → ¬ ov_T x_methodName x_methodPlaces x_methodVarargs ln x ty n p m) → wX_decidingPhase_2 post x ty x_methodCapacity x_nodeCapacity (nI mc) x_pickedPhase x_nodes x_missingNodes x_resolved x_methodName x_methodParams x_methodPlaces x_methodReturn x_methodConstant x_methodVarargs x_callName x_callArgc x_literalType x_literalValue x_subtreeEnd x_resultStatus x_resultMethod x_resultType x_resultPhase x_resultValue (d + 1) (nI ph) := by
  intro d
  induction d with
  | zero =>
    intro ph hd h1 hq
    exact br_t (nI_lt (a := 3) (by omega) (by omega)) (h 0 (Or.inl ⟨rfl, fun p p1 p3 => hq p p1 (by omega)⟩))
  | succ d ih =>
    intro ph hd h1 hq
    refine br_f (nI_nlt (a := 3) (by omega) (by omega)) ⟨mc + 1, ?_⟩
    refine xd_in h16 hM hV (by omega) (fun c => h ph (Or.inr ⟨h1, by omega, c, hq⟩)) (fun c => ih (ph + 1) (by omega) (by omega) (fun p p1 p2 => ?_)) mc 0 (by omega) (fun q hq' => absurd hq' (by omega))
    by_cases e : p = ph
    · rw [e]; exact c
    · exact hq p p1 (by omega)
theorem xs_decidingPhase {post : Int32 → Prop} {mc n : Nat} {ln : Nat → Nat} {x ty : Int32} (h16 : mc ≤ 16) (hM : ov_M mc x_methodParams x_methodPlaces x_methodVarargs ln) (hV : ov_V ty n) (h : ∀ d, ov_Ph mc (ov_T x_methodName x_methodPlaces x_methodVarargs ln x ty n) d → post (nI d)) : wpX_decidingPhase post (x_methodCapacity, x_nodeCapacity, nI mc, x_pickedPhase, x_nodes, x_missingNodes, x_resolved, x_methodName, x_methodParams, x_methodPlaces, x_methodReturn, x_methodConstant, x_methodVarargs, x_callName, x_callArgc, x_literalType, x_literalValue, x_subtreeEnd, x_resultStatus, x_resultMethod, x_resultType, x_resultPhase, x_resultValue) x ty :=
  ⟨4, xd_out h16 hM hV h 3 1 (by omega) (by omega) (fun p p1 p2 => absurd p1 (by omega))⟩
theorem xp_loop {post : Int32 → Prop} {m o lim : Nat} (hm : m < 16) (ho : o < 16) (hl : lim ≤ 5) (rm : ∀ i, i < lim → 1 ≤ ov_nb (x_methodPlaces m) i ∧ ov_nb (x_methodPlaces m) i ≤ 14) (ro : ∀ i, i < lim → 1 ≤ ov_nb (x_methodPlaces o) i ∧ ov_nb (x_methodPlaces o) i ≤ 14) (h1 : ov_MS x_methodPlaces lim m o → post 1) (h0 : ¬ ov_MS x_methodPlaces lim m o → post 0) : ∀ d i, i + d = lim → (∀ j, j < i → ov_S (ov_nb (x_methodPlaces m) j) (ov_nb (x_methodPlaces o) j)) → wX_isAsSpecific_3 post (nI m) (nI o) (nI lim) x_methodCapacity x_nodeCapacity x_methods x_pickedPhase x_nodes x_missingNodes x_resolved x_methodName x_methodParams x_methodPlaces x_methodReturn x_methodConstant x_methodVarargs x_callName x_callArgc x_literalType x_literalValue x_subtreeEnd x_resultStatus x_resultMethod x_resultType x_resultPhase x_resultValue (d + 1) (nI i) := by
  have em : (nI m).toNatClampNeg = m := nI_clamp (by omega)
  have eo : (nI o).toNatClampNeg = o := nI_clamp (by omega)
  intro d
  induction d with
  | zero =>
    intro i hi hj
    exact br_t (nI_le (by omega) (by omega)) (h1 (fun j hj' => hj j (by omega)))
  | succ d ih =>
    intro i hi hj
    have a := rm i (by omega)
    have b := ro i (by omega)
    refine br_f (nI_ge (by omega) (by omega)) ⟨vp_in_nI hm (by omega), xs_typeAt (congrArg x_methodPlaces em) rfl (by omega) ⟨vp_in_nI ho (by omega), xs_typeAt (congrArg x_methodPlaces eo) rfl (by omega) ?_⟩⟩
    exact xs_sub a.1 a.2 b.1 b.2 (fun c => br_f (by decide) (nm_r (nI_1 i) (ih (i + 1) (by omega) (ov_lt_s hj c)))) (fun c => br_t rfl (h0 (fun z => c (z i (by omega)))))
theorem xs_isAsSpecific {post : Int32 → Prop} {m o lim : Nat} (hm : m < 16) (ho : o < 16) (hl : lim ≤ 5) (rm : ∀ i, i < lim → 1 ≤ ov_nb (x_methodPlaces m) i ∧ ov_nb (x_methodPlaces m) i ≤ 14) (ro : ∀ i, i < lim → 1 ≤ ov_nb (x_methodPlaces o) i ∧ ov_nb (x_methodPlaces o) i ≤ 14) (h1 : ov_MS x_methodPlaces lim m o → post 1) (h0 : ¬ ov_MS x_methodPlaces lim m o → post 0) : wpX_isAsSpecific post (x_methodCapacity, x_nodeCapacity, x_methods, x_pickedPhase, x_nodes, x_missingNodes, x_resolved, x_methodName, x_methodParams, x_methodPlaces, x_methodReturn, x_methodConstant, x_methodVarargs, x_callName, x_callArgc, x_literalType, x_literalValue, x_subtreeEnd, x_resultStatus, x_resultMethod, x_resultType, x_resultPhase, x_resultValue) (nI m) (nI o) (nI lim) :=
  ⟨lim + 1, xp_loop hm ho hl rm ro h1 h0 lim 0 (by omega) (fun j hj => absurd hj (by omega))⟩
theorem xb_loop {post : Int32 → Prop} {mc m lim : Nat} {mk : Int32} {G : Nat → Prop} (h16 : mc ≤ 16) (hm : m < mc) (hl : lim ≤ 5) (hk : ∀ o, o < mc → (bt mk o = true ↔ G o)) (hG : ∀ o, o < mc → G o → ∀ i, i < lim → 1 ≤ ov_nb (x_methodPlaces o) i ∧ ov_nb (x_methodPlaces o) i ≤ 14) (gm : G m) (h1 : ov_B mc G (ov_MS x_methodPlaces lim) m → post 1) (h0 : ¬ ov_B mc G (ov_MS x_methodPlaces lim) m → post 0) : ∀ d o, o + d = mc → (∀ q, q < o → q ≠ m → G q → ov_MS x_methodPlaces lim m q ∧ ¬ ov_MS x_methodPlaces lim q m) → wX_beatsOthers_3 post (nI m) mk (nI lim) x_methodCapacity x_nodeCapacity (nI mc) x_pickedPhase x_nodes x_missingNodes x_resolved x_methodName x_methodParams x_methodPlaces x_methodReturn x_methodConstant x_methodVarargs x_callName x_callArgc x_literalType x_literalValue x_subtreeEnd x_resultStatus x_resultMethod x_resultType x_resultPhase x_resultValue (d + 1) (nI o) := by
  intro d
  induction d with
  | zero =>
    intro o ho hq
    exact br_t (nI_le (by omega) (by omega)) (h1 (fun q h => hq q (by omega)))
  | succ d ih =>
    intro o ho hq
    refine br_f (nI_ge (by omega) (by omega)) ?_
    refine pk_eq o m (fun e => nm_r (nI_1 o) (ih (o + 1) (by omega) (ov_lt_s hq (fun z => absurd e z)))) (fun ne => ?_)
    refine br_c (fun z => nm_r (nI_1 o) (ih (o + 1) (by omega) (ov_lt_s hq (fun _ g => ?_)))) (fun z => ?_)
    · rw [ov_bit mk (by omega)] at z
      rw [(hk o (by omega)).mpr g] at z
      exact absurd z (by decide)
    · rw [ov_bit mk (by omega)] at z
      have g : G o := (hk o (by omega)).mp (by revert z; cases bt mk o <;> simp)
      refine xs_isAsSpecific (by omega) (by omega) hl (hG m hm gm) (hG o (by omega) g) (fun a => br_f (by decide) ?_) (fun a => br_t rfl (h0 (fun B => a (B o (by omega) ne g).1)))
      exact xs_isAsSpecific (by omega) (by omega) hl (hG o (by omega) g) (hG m hm gm) (fun b => br_f (by decide) (h0 (fun B => (B o (by omega) ne g).2 b))) (fun b => br_t rfl (nm_r (nI_1 o) (ih (o + 1) (by omega) (ov_lt_s hq (fun _ _ => ⟨a, b⟩)))))
theorem xs_beatsOthers {post : Int32 → Prop} {mc m lim : Nat} {mk : Int32} {G : Nat → Prop} (h16 : mc ≤ 16) (hm : m < mc) (hl : lim ≤ 5) (hk : ∀ o, o < mc → (bt mk o = true ↔ G o)) (hG : ∀ o, o < mc → G o → ∀ i, i < lim → 1 ≤ ov_nb (x_methodPlaces o) i ∧ ov_nb (x_methodPlaces o) i ≤ 14) (gm : G m) (h1 : ov_B mc G (ov_MS x_methodPlaces lim) m → post 1) (h0 : ¬ ov_B mc G (ov_MS x_methodPlaces lim) m → post 0) : wpX_beatsOthers post (x_methodCapacity, x_nodeCapacity, nI mc, x_pickedPhase, x_nodes, x_missingNodes, x_resolved, x_methodName, x_methodParams, x_methodPlaces, x_methodReturn, x_methodConstant, x_methodVarargs, x_callName, x_callArgc, x_literalType, x_literalValue, x_subtreeEnd, x_resultStatus, x_resultMethod, x_resultType, x_resultPhase, x_resultValue) (nI m) mk (nI lim) :=
  ⟨mc + 1, xb_loop h16 hm hl hk hG gm h1 h0 mc 0 (by omega) (fun q hq => absurd hq (by omega))⟩
theorem xc_pick {post : Int32 → Prop} {mc lim d : Nat} {mk : Int32} {G : Nat → Prop} (h16 : mc ≤ 16) (hd : 1 ≤ d) (hl : lim ≤ 5) (hk : ∀ o, o < mc → (bt mk o = true ↔ G o)) (hG : ∀ o, o < mc → G o → ∀ i, i < lim → 1 ≤ ov_nb (x_methodPlaces o) i ∧ ov_nb (x_methodPlaces o) i ≤ 14) (h : ∀ r, ov_Ch mc (ov_G mc G (ov_MS x_methodPlaces lim)) d r → post r) : ∀ e m, m + e = mc → (∀ q, q < m → ¬ ov_G mc G (ov_MS x_methodPlaces lim) q) → wX_chooseMethod_83 post mk (nI lim) x_methodCapacity x_nodeCapacity (nI mc) x_pickedPhase x_nodes x_missingNodes x_resolved x_methodName x_methodParams x_methodPlaces x_methodReturn x_methodConstant x_methodVarargs x_callName x_callArgc x_literalType x_literalValue x_subtreeEnd x_resultStatus x_resultMethod x_resultType x_resultPhase x_resultValue (e + 1) (nI m) := by
  intro e
  induction e with
  | zero =>
    intro m hm hq
    exact br_t (nI_le (by omega) (by omega)) (h _ (Or.inr ⟨hd, Or.inr ⟨rfl, fun q h => hq q (by omega)⟩⟩))
  | succ e ih =>
    intro m hm hq
    refine br_f (nI_ge (by omega) (by omega)) (br_c (fun z => nm_r (nI_1 m) (ih (m + 1) (by omega) (ov_lt_s hq (fun g => ?_)))) (fun z => ?_))
    · rw [ov_bit mk (by omega)] at z
      rw [(hk m (by omega)).mpr g.1] at z
      exact absurd z (by decide)
    · rw [ov_bit mk (by omega)] at z
      have g : G m := (hk m (by omega)).mp (by revert z; cases bt mk m <;> simp)
      exact xs_beatsOthers h16 (by omega) hl hk hG g (fun b => br_f (by decide) (h _ (Or.inr ⟨hd, Or.inl ⟨m, by omega, rfl, ⟨g, b⟩, hq⟩⟩))) (fun b => br_t rfl (nm_r (nI_1 m) (ih (m + 1) (by omega) (ov_lt_s hq (fun g => b g.2)))))
theorem xc_mask {post : Int32 → Prop} {mc n ph : Nat} {ln : Nat → Nat} {x ty : Int32} (h16 : mc ≤ 16) (hM : ov_M mc x_methodParams x_methodPlaces x_methodVarargs ln) (hV : ov_V ty n) (hp : ph < 4) (h1 : 1 ≤ ph) (h : ∀ r, ov_Ch mc (ov_W x_methodName x_methodPlaces x_methodVarargs ln mc x ty n ph) ph r → post r) : ∀ e m mk, m + e = mc → (∀ o, o < 32 → (bt mk o = true ↔ (o < m ∧ ov_T x_methodName x_methodPlaces x_methodVarargs ln x ty n ph o))) → wX_chooseMethod_12 post x ty (nI ph) x_methodCapacity x_nodeCapacity (nI mc) x_pickedPhase x_nodes x_missingNodes x_resolved x_methodName x_methodParams x_methodPlaces x_methodReturn x_methodConstant x_methodVarargs x_callName x_callArgc x_literalType x_literalValue x_subtreeEnd x_resultStatus x_resultMethod x_resultType x_resultPhase x_resultValue (e + 1) mk (nI m) := by
  have h4 := hV.1
  intro e
  induction e with
  | zero =>
    intro m mk hm hk
    have hk' : ∀ o, o < mc → (bt mk o = true ↔ ov_T x_methodName x_methodPlaces x_methodVarargs ln x ty n ph o) := fun o ho => ⟨fun b => ((hk o (by omega)).mp b).2, fun t => (hk o (by omega)).mpr ⟨by omega, t⟩⟩
    have hG : ∀ o, o < mc → ov_T x_methodName x_methodPlaces x_methodVarargs ln x ty n ph o → ∀ i, i < ov_lim n ph → 1 ≤ ov_nb (x_methodPlaces o) i ∧ ov_nb (x_methodPlaces o) i ≤ 14 := fun o ho t => ov_A_in hM ho h4 t.2
    refine br_t (nI_le (by omega) (by omega)) (xs_listLength_V hV ?_)
    have key : wX_chooseMethod_83 post mk (nI (ov_lim n ph)) x_methodCapacity x_nodeCapacity (nI mc) x_pickedPhase x_nodes x_missingNodes x_resolved x_methodName x_methodParams x_methodPlaces x_methodReturn x_methodConstant x_methodVarargs x_callName x_callArgc x_literalType x_literalValue x_subtreeEnd x_resultStatus x_resultMethod x_resultType x_resultPhase x_resultValue (mc + 1) (nI 0) := xc_pick h16 h1 (ov_lim_le h4) hk' hG h mc 0 (by omega) (fun q hq => absurd hq (by omega))
    refine pk_eq ph 3 (fun z => nm_r (nI_1 n) ⟨mc + 1, ?_⟩) (fun z => ⟨mc + 1, ?_⟩)
    · rw [show ov_lim n ph = n + 1 from if_pos z] at key
      exact key
    · rw [show ov_lim n ph = n from if_neg z] at key
      exact key
  | succ e ih =>
    intro m mk hm hk
    have ec : (nI m).toNatClampNeg = m := nI_clamp (by omega)
    have skip : ¬ ov_T x_methodName x_methodPlaces x_methodVarargs ln x ty n ph m → ∀ o, o < 32 → (bt mk o = true ↔ (o < m + 1 ∧ ov_T x_methodName x_methodPlaces x_methodVarargs ln x ty n ph o)) := by
      intro nt o ho
      rw [hk o ho]
      constructor
      · exact fun c => ⟨by omega, c.2⟩
      · intro c
        by_cases q : o = m
        · rw [q] at c; exact absurd c.2 nt
        · exact ⟨by omega, c.2⟩
    refine br_f (nI_ge (by omega) (by omega)) ⟨vp_in_nI (by omega) (by omega), br_c (fun q => ?_) (fun q => ?_)⟩
    · rw [ec] at q
      refine xs_isApplicable (by omega) h16 hM hV hp (fun a => br_f (by decide) (nm_e (nm_r (nI_1 m) (ih (m + 1) _ (by omega) (fun o ho => ?_))))) (fun a => br_t rfl (nm_r (nI_1 m) (ih (m + 1) mk (by omega) (skip (fun t => a t.2)))))
      rw [ov_set mk (by omega) ho]
      by_cases w : o = m
      · rw [w]
        exact ⟨fun _ => ⟨by omega, q, a⟩, fun _ => by simp⟩
      · rw [show decide (o = m) = false from decide_eq_false w, Bool.or_false, hk o ho]
        exact ⟨fun c => ⟨by omega, c.2⟩, fun c => ⟨by omega, c.2⟩⟩
    · rw [ec] at q
      exact nm_r (nI_1 m) (ih (m + 1) mk (by omega) (skip (fun t => q t.1)))
theorem xs_chooseMethod {post : Int32 → Prop} {mc n d : Nat} {ln : Nat → Nat} {x ty : Int32} (h16 : mc ≤ 16) (hM : ov_M mc x_methodParams x_methodPlaces x_methodVarargs ln) (hV : ov_V ty n) (hp : d < 4) (h : ∀ r, ov_Ch mc (ov_W x_methodName x_methodPlaces x_methodVarargs ln mc x ty n d) d r → post r) : wpX_chooseMethod post (x_methodCapacity, x_nodeCapacity, nI mc, x_pickedPhase, x_nodes, x_missingNodes, x_resolved, x_methodName, x_methodParams, x_methodPlaces, x_methodReturn, x_methodConstant, x_methodVarargs, x_callName, x_callArgc, x_literalType, x_literalValue, x_subtreeEnd, x_resultStatus, x_resultMethod, x_resultType, x_resultPhase, x_resultValue) x ty (nI d) :=
  pk_eq d 0 (fun z => h _ (Or.inl ⟨z, rfl⟩)) (fun z => ⟨mc + 1, xc_mask h16 hM hV hp (by omega) h mc 0 0 (by omega) (fun o _ => ⟨fun b => absurd b (by rw [b_0]; decide), fun c => absurd c.1 (by omega)⟩)⟩)
end
end
section
/-! ===== Y: lists, subtypes, choice ===== -/
section
variable {y_capM y_capN y_mCount y_nCount y_pend y_lastPh y_resPh y_resolved : Int32} {y_mName y_mParams y_mRet y_mVar y_mConst y_nKind y_nA y_nB : Nat → Int32} {y_nLit : Nat → Int64} {y_nStat y_nMeth y_nType y_nPh : Nat → Int32} {y_nVal : Nat → Int64}
theorem ys_nib {post : Int32 → Prop} {x' x p : Int32} {i : Nat} (hx : x' = x) (hp : p = nI i) (hi : i < 8) (h : post (nI (ov_nb x i))) : wpY_nib post (y_capM, y_capN, y_mCount, y_nCount, y_pend, y_lastPh, y_resPh, y_resolved, y_mName, y_mParams, y_mRet, y_mVar, y_mConst, y_nKind, y_nA, y_nB, y_nLit, y_nStat, y_nMeth, y_nType, y_nPh, y_nVal) x' p := by
  subst hx hp
  unfold wpY_nib
  show post (((x'.toUInt32 >>> ((4 * nI i).toUInt32 &&& Int32.toUInt32 31)).toInt32) &&& 15)
  rw [ov_ty x' hi]
  exact h
theorem yv_loop {post : Int32 → Prop} {x : Int32} (h1 : ∀ L, ov_V x L → post 1) (h0 : (∀ L, ¬ ov_V x L) → post 0) : ∀ d i n z, i + d = 8 → n ≤ i → (∀ j, j < n → 1 ≤ ov_nb x j ∧ ov_nb x j ≤ 14) → (∀ j, n ≤ j → j < i → ov_nb x j = 0) → ((z = 0 ∧ n = i) ∨ (z = 1 ∧ n < i)) → wY_validList_13 post x y_capM y_capN y_mCount y_nCount y_pend y_lastPh y_resPh y_resolved y_mName y_mParams y_mRet y_mVar y_mConst y_nKind y_nA y_nB y_nLit y_nStat y_nMeth y_nType y_nPh y_nVal (d + 1) (nI z) (nI n) (nI i) := by
  intro d
  induction d with
  | zero =>
    intro i n z hi hn ha hb hz
    refine br_t (nI_le (a := 8) (by omega) (by omega)) ?_
    refine pk_lt 4 n (fun c => h0 (fun L hL => ?_)) (fun c => h1 n ⟨c, ov_top x (8 - n) n (by omega) (fun j h2 h3 => hb j h2 (by omega)), ha⟩)
    have a := hL.1
    have b := ov_hi hL.2.1 (Nat.le_refl L)
    have e := ha L (by omega)
    omega
  | succ d ih =>
    intro i n z hi hn ha hb hz
    have hl := ov_nb_lt x i
    refine br_f (nI_ge (b := 8) (by omega) (by decide)) (ys_nib rfl rfl (by omega) ?_)
    refine pk_eq (ov_nb x i) 0 (fun c => nm_r (nI_1 i) (ih (i + 1) n 1 (by omega) (by omega) ha (fun j h2 h3 => ?_) (Or.inr ⟨rfl, by omega⟩))) (fun c => ?_)
    · by_cases e : j = i
      · rw [e]; exact c
      · exact hb j h2 (by omega)
    · refine pk_eq z 0 (fun e => ?_) (fun e => h0 (fun L hL => ?_)) rfl rfl (by omega)
      · have en : n = i := by omega
        refine pk_le (ov_nb x i) 14 (fun f => nm_r (nI_1 n) (nm_r (nI_1 i) (ih (i + 1) (n + 1) z (by omega) (by omega) (fun j hj => ?_) (fun j h2 h3 => absurd h2 (by omega)) (Or.inl ⟨e, by omega⟩)))) (fun f => h0 (fun L hL => ?_))
        · by_cases ej : j = i
          · rw [ej]; exact ⟨by omega, f⟩
          · exact ha j (by omega)
        · rcases Nat.lt_or_ge i L with g | g
          · have := hL.2.2 i g
            omega
          · exact c (ov_hi hL.2.1 g)
      · have hni : n < i := by omega
        have e0 := hb n (Nat.le_refl n) hni
        rcases Nat.lt_or_ge i L with g | g
        · have := hL.2.2 n (by omega)
          omega
        · exact c (ov_hi hL.2.1 g)
theorem ys_validList {post : Int32 → Prop} {x : Int32} (h1 : ∀ L, ov_V x L → post 1) (h0 : (∀ L, ¬ ov_V x L) → post 0) : wpY_validList post (y_capM, y_capN, y_mCount, y_nCount, y_pend, y_lastPh, y_resPh, y_resolved, y_mName, y_mParams, y_mRet, y_mVar, y_mConst, y_nKind, y_nA, y_nB, y_nLit, y_nStat, y_nMeth, y_nType, y_nPh, y_nVal) x := by
  unfold wpY_validList
  refine br_c (fun c => ⟨9, ?_⟩) (fun c => h0 (fun L hL => c (Int32.not_lt.mp (ov_V_n hL))))
  exact yv_loop h1 h0 8 0 0 0 (by omega) (by omega) (fun j hj => absurd hj (by omega)) (fun j h2 h3 => absurd h3 (by omega)) (Or.inl ⟨rfl, rfl⟩)
theorem yl_loop {post : Int32 → Prop} {x : Int32} {L : Nat} (hV : ov_V x L) (h : post (nI L)) : ∀ d i, i + d = L → wY_listLen_4 post x y_capM y_capN y_mCount y_nCount y_pend y_lastPh y_resPh y_resolved y_mName y_mParams y_mRet y_mVar y_mConst y_nKind y_nA y_nB y_nLit y_nStat y_nMeth y_nType y_nPh y_nVal (d + 1) (nI i) (nI i) := by
  have h4 := hV.1
  intro d
  induction d with
  | zero =>
    intro i hi
    have e : i = L := by omega
    subst e
    refine br_f (nI_ge (b := 8) (by omega) (by decide)) (ys_nib rfl rfl (by omega) ?_)
    rw [ov_hi hV.2.1 (Nat.le_refl i)]
    exact br_t rfl h
  | succ d ih =>
    intro i hi
    have hl := ov_nb_lt x i
    have h1 := hV.2.2 i (by omega)
    refine br_f (nI_ge (b := 8) (by omega) (by decide)) (ys_nib rfl rfl (by omega) ?_)
    exact pk_eq (ov_nb x i) 0 (fun c => absurd c (by omega)) (fun c => nm_r (nI_1 i) (nm_r (nI_1 i) (ih (i + 1) (by omega))))
theorem ys_listLen {post : Int32 → Prop} {x : Int32} {L : Nat} (hV : ov_V x L) (h : post (nI L)) : wpY_listLen post (y_capM, y_capN, y_mCount, y_nCount, y_pend, y_lastPh, y_resPh, y_resolved, y_mName, y_mParams, y_mRet, y_mVar, y_mConst, y_nKind, y_nA, y_nB, y_nLit, y_nStat, y_nMeth, y_nType, y_nPh, y_nVal) x :=
  ⟨L + 1, yl_loop hV h L 0 (by omega)⟩
theorem ys_sub {post : Int32 → Prop} {s t : Nat} (s1 : 1 ≤ s) (s2 : s ≤ 14) (t1 : 1 ≤ t) (t2 : t ≤ 14) (h1 : ov_S s t → post 1) (h0 : ¬ ov_S s t → post 0) : wpY_sub post (y_capM, y_capN, y_mCount, y_nCount, y_pend, y_lastPh, y_resPh, y_resolved, y_mName, y_mParams, y_mRet, y_mVar, y_mConst, y_nKind, y_nA, y_nB, y_nLit, y_nStat, y_nMeth, y_nType, y_nPh, y_nVal) (nI s) (nI t) := by
  unfold ov_S at h1 h0
  have k119 : ¬ (s = t) → ¬ (s ≤ 5 ∧ t ≤ 5 ∧ (t = 4 ∧ s < 4 ∨ t = 5 ∧ s < 5 ∨ t = 2 ∧ s = 1)) → ¬ (t = 13 ∧ (s = 7 ∨ s = 8 ∨ s = 10 ∨ s = 11)) → wY_sub_119 post (nI s) (nI t) y_capM y_capN y_mCount y_nCount y_pend y_lastPh y_resPh y_resolved y_mName y_mParams y_mRet y_mVar y_mConst y_nKind y_nA y_nB y_nLit y_nStat y_nMeth y_nType y_nPh y_nVal := by
    intro n1 n2 n3
    refine pk_lt s 7 (fun a => h0 (by omega)) (fun a => pk_lt 13 s (fun b => h0 (by omega)) (fun b => pk_eq t 14 (fun c => h1 (by omega)) (fun c => h0 (by omega))))
  have k87 : ¬ (s = t) → ¬ (s ≤ 5 ∧ t ≤ 5 ∧ (t = 4 ∧ s < 4 ∨ t = 5 ∧ s < 5 ∨ t = 2 ∧ s = 1)) → wY_sub_87 post (nI s) (nI t) y_capM y_capN y_mCount y_nCount y_pend y_lastPh y_resPh y_resolved y_mName y_mParams y_mRet y_mVar y_mConst y_nKind y_nA y_nB y_nLit y_nStat y_nMeth y_nType y_nPh y_nVal := by
    intro n1 n2
    refine pk_eq s 7 (fun a => ?_) (fun a7 => pk_eq s 8 (fun a => ?_) (fun a8 => pk_eq s 10 (fun a => ?_) (fun a10 => pk_eq s 11 (fun a => ?_) (fun a11 => k119 n1 n2 (by omega)))))
    all_goals exact pk_eq t 13 (fun b => h1 (by omega)) (fun b => k119 n1 n2 (by omega))
  have k75 : ¬ (s = t) → ¬ (t ≤ 5 ∧ s ≤ 3 ∧ (t = 4 ∧ s < 4 ∨ t = 5 ∧ s < 5 ∨ t = 2 ∧ s = 1)) → wY_sub_75 post (nI s) (nI t) y_capM y_capN y_mCount y_nCount y_pend y_lastPh y_resPh y_resolved y_mName y_mParams y_mRet y_mVar y_mConst y_nKind y_nA y_nB y_nLit y_nStat y_nMeth y_nType y_nPh y_nVal := by
    intro n1 n2
    exact pk_eq s 4 (fun a => pk_eq t 5 (fun b => h1 (by omega)) (fun b => k87 n1 (by omega))) (fun a => k87 n1 (by omega))
  have k53 : ¬ (s = t) → ¬ (s = 1 ∧ (t = 2 ∨ t = 4 ∨ t = 5)) → wY_sub_53 post (nI s) (nI t) y_capM y_capN y_mCount y_nCount y_pend y_lastPh y_resPh y_resolved y_mName y_mParams y_mRet y_mVar y_mConst y_nKind y_nA y_nB y_nLit y_nStat y_nMeth y_nType y_nPh y_nVal := by
    intro n1 n2
    refine pk_eq s 2 (fun a => ?_) (fun a2 => pk_eq s 3 (fun a => ?_) (fun a3 => k75 n1 (by omega)))
    all_goals exact pk_eq t 4 (fun b => h1 (by omega)) (fun b4 => pk_eq t 5 (fun b => h1 (by omega)) (fun b5 => k75 n1 (by omega)))
  unfold wpY_sub
  refine pk_lt s 1 (fun a => h0 (by omega)) (fun a => pk_lt 14 s (fun b => h0 (by omega)) (fun b => pk_lt t 1 (fun c => h0 (by omega)) (fun c => pk_le t 14 (fun d => ?_) (fun d => h0 (by omega)))))
  refine pk_eq s t (fun e => h1 (by omega)) (fun e => pk_eq s 1 (fun f => ?_) (fun f => k53 e (by omega)))
  exact pk_eq t 2 (fun g => h1 (by omega)) (fun g2 => pk_eq t 4 (fun g => h1 (by omega)) (fun g4 => pk_eq t 5 (fun g => h1 (by omega)) (fun g5 => k53 e (by omega))))
theorem ys_loose {post : Int32 → Prop} {a p : Nat} (a1 : 1 ≤ a) (a2 : a ≤ 14) (p1 : 1 ≤ p) (p2 : p ≤ 14) (h1 : ov_C a p 2 → post 1) (h0 : ¬ ov_C a p 2 → post 0) : wpY_loose post (y_capM, y_capN, y_mCount, y_nCount, y_pend, y_lastPh, y_resPh, y_resolved, y_mName, y_mParams, y_mRet, y_mVar, y_mConst, y_nKind, y_nA, y_nB, y_nLit, y_nStat, y_nMeth, y_nType, y_nPh, y_nVal) (nI a) (nI p) := by
  unfold ov_C at h1 h0
  have k36 : ¬ ov_S a p → ¬ (a ≤ 6 ∧ ov_S (a + 6) p) → wY_loose_36 post (nI a) (nI p) y_capM y_capN y_mCount y_nCount y_pend y_lastPh y_resPh y_resolved y_mName y_mParams y_mRet y_mVar y_mConst y_nKind y_nA y_nB y_nLit y_nStat y_nMeth y_nType y_nPh y_nVal := by
    intro n1 n2
    refine pk_lt a 7 (fun b => h0 (fun c => c.elim n1 (fun c => c.2.elim n2 (fun c => by omega)))) (fun b => pk_lt 12 a (fun d => h0 (fun c => c.elim n1 (fun c => c.2.elim n2 (fun c => by omega)))) (fun d => ?_))
    show wpY_sub _ (y_capM, y_capN, y_mCount, y_nCount, y_pend, y_lastPh, y_resPh, y_resolved, y_mName, y_mParams, y_mRet, y_mVar, y_mConst, y_nKind, y_nA, y_nB, y_nLit, y_nStat, y_nMeth, y_nType, y_nPh, y_nVal) (nI a - nI 6) (nI p)
    rw [pk_sub (by omega)]
    exact ys_sub (by omega) (by omega) p1 p2 (fun c => br_f (by decide) (h1 (Or.inr ⟨by decide, Or.inr ⟨by omega, d, c⟩⟩))) (fun c => br_t rfl (h0 (fun e => e.elim n1 (fun e => e.2.elim n2 (fun e => c e.2.2)))))
  unfold wpY_loose
  refine ys_sub a1 a2 p1 p2 (fun s => br_f (by decide) (h1 (Or.inl s))) (fun s => br_t rfl ?_)
  refine pk_lt a 1 (fun b => absurd b (by omega)) (fun b => pk_lt 6 a (fun d => k36 s (fun c => by omega)) (fun d => ?_))
  show wpY_sub _ (y_capM, y_capN, y_mCount, y_nCount, y_pend, y_lastPh, y_resPh, y_resolved, y_mName, y_mParams, y_mRet, y_mVar, y_mConst, y_nKind, y_nA, y_nB, y_nLit, y_nStat, y_nMeth, y_nType, y_nPh, y_nVal) (nI a + nI 6) (nI p)
  rw [nI_add]
  exact ys_sub (by omega) (by omega) p1 p2 (fun c => br_f (by decide) (h1 (Or.inr ⟨by decide, Or.inl ⟨by omega, c⟩⟩))) (fun c => br_t rfl (k36 s (fun e => c e.2)))
theorem ys_compat {post : Int32 → Prop} {a p ph : Nat} (a1 : 1 ≤ a) (a2 : a ≤ 14) (p1 : 1 ≤ p) (p2 : p ≤ 14) (hp : ph < 4) (h1 : ov_C a p ph → post 1) (h0 : ¬ ov_C a p ph → post 0) : wpY_compat post (y_capM, y_capN, y_mCount, y_nCount, y_pend, y_lastPh, y_resPh, y_resolved, y_mName, y_mParams, y_mRet, y_mVar, y_mConst, y_nKind, y_nA, y_nB, y_nLit, y_nStat, y_nMeth, y_nType, y_nPh, y_nVal) (nI a) (nI p) (nI ph) := by
  unfold wpY_compat
  refine pk_eq ph 1 (fun e => ?_) (fun e => ?_)
  · exact ys_sub a1 a2 p1 p2 (fun c => ⟨rfl, h1 (Or.inl c)⟩) (fun c => ⟨rfl, h0 (fun d => d.elim c (fun d => d.1 e))⟩)
  · exact ys_loose a1 a2 p1 p2 (fun c => ⟨rfl, h1 (c.elim Or.inl (fun c => Or.inr ⟨e, c.2⟩))⟩) (fun c => ⟨rfl, h0 (fun d => c (d.elim Or.inl (fun d => Or.inr ⟨by decide, d.2⟩)))⟩)
theorem ys_paramAt {post : Int32 → Prop} {mc m i : Nat} {ln : Nat → Nat} {pl : Nat → Int32} (hm : m < mc) (h16 : mc ≤ 16) (hM : ov_M mc y_mParams pl y_mVar ln) (hi : i ≤ 4) (hx : i < ln m ∨ ¬ y_mVar m = 0) (h : post (nI (ov_nb (pl m) i))) : wpY_paramAt post (y_capM, y_capN, y_mCount, y_nCount, y_pend, y_lastPh, y_resPh, y_resolved, y_mName, y_mParams, y_mRet, y_mVar, y_mConst, y_nKind, y_nA, y_nB, y_nLit, y_nStat, y_nMeth, y_nType, y_nPh, y_nVal) (nI m) (nI (i + 1)) := by
  have ec : (nI m).toNatClampNeg = m := nI_clamp (by omega)
  obtain ⟨hV, hv, hR⟩ := hM m hm
  have hL := hV.1
  have near : i < ln m → wY_paramAt_25 post (nI m) (nI (i + 1)) y_capM y_capN y_mCount y_nCount y_pend y_lastPh y_resPh y_resolved y_mName y_mParams y_mRet y_mVar y_mConst y_nKind y_nA y_nB y_nLit y_nStat y_nMeth y_nType y_nPh y_nVal := by
    intro c
    refine ⟨vp_in_nI (by omega) (by omega), ys_nib (congrArg y_mParams ec) (nI_pred i) (by omega) ?_⟩
    rw [← hR.1 i c]
    exact h
  unfold wpY_paramAt
  refine ⟨vp_in_nI (by omega) (by omega), ys_listLen (L := ln m) (by rw [ec]; exact hV) ⟨vp_in_nI (by omega) (by omega), ?_⟩⟩
  rw [ec]
  rcases hv with e | ⟨e, el⟩
  · exact br_t e (near (hx.elim id (fun c => absurd e c)))
  · refine br_f (by rw [e]; decide) (pk_le (ln m) (i + 1) (fun c => ⟨vp_in_nI (by omega) (by omega), ys_nib rfl (pk_sub (b := 1) el) (by omega) ?_⟩) (fun c => near (by omega)))
    rcases Nat.lt_or_ge i (ln m) with d | d
    · rw [show ln m - 1 = i from by omega, ← hR.1 i d]
      exact h
    · rw [← hR.2 el i d hi]
      exact h
theorem ya_loop {post : Int32 → Prop} {mc m n ph : Nat} {ln : Nat → Nat} {pl : Nat → Int32} {ty : Int32} (hm : m < mc) (h16 : mc ≤ 16) (hM : ov_M mc y_mParams pl y_mVar ln) (hV : ov_V ty n) (hp : ph < 4) (hx : n ≤ ln m ∨ ¬ y_mVar m = 0) (h1 : (∀ i, i < n → ov_C (ov_nb ty i) (ov_nb (pl m) i) ph) → post 1) (h0 : ¬ (∀ i, i < n → ov_C (ov_nb ty i) (ov_nb (pl m) i) ph) → post 0) : ∀ d i, i + d = n → (∀ j, j < i → ov_C (ov_nb ty j) (ov_nb (pl m) j) ph) → wY_applicable_71 post (nI m) ty (nI n) (nI ph) y_capM y_capN y_mCount y_nCount y_pend y_lastPh y_resPh y_resolved y_mName y_mParams y_mRet y_mVar y_mConst y_nKind y_nA y_nB y_nLit y_nStat y_nMeth y_nType y_nPh y_nVal (d + 1) (nI (i + 1)) := by
  have h4 := hV.1
  intro d
  induction d with
  | zero =>
    intro i hi hj
    exact br_t (nI_lt (by omega) (by omega)) (h1 (fun j hj' => hj j (by omega)))
  | succ d ih =>
    intro i hi hj
    have ht := hV.2.2 i (by omega)
    have hc : i < ln m ∨ ¬ y_mVar m = 0 := hx.elim (fun c => Or.inl (by omega)) Or.inr
    have hq := ov_M_ty hM hm (i := i) (by omega) hc
    refine br_f (nI_nlt (by omega) (by omega)) (ys_nib rfl (nI_pred i) (by omega) (ys_paramAt hm h16 hM (by omega) hc ?_))
    exact ys_compat ht.1 ht.2 hq.1 hq.2 hp (fun c => br_f (by decide) (nm_r (nI_1 (i + 1)) (ih (i + 1) (by omega) (ov_lt_s hj c)))) (fun c => br_t rfl (h0 (fun z => c (z i (by omega)))))
theorem ys_applicable {post : Int32 → Prop} {mc m n ph : Nat} {ln : Nat → Nat} {pl : Nat → Int32} {x ty : Int32} (hm : m < mc) (h16 : mc ≤ 16) (hM : ov_M mc y_mParams pl y_mVar ln) (hV : ov_V ty n) (hp : ph < 4) (h1 : ov_T y_mName pl y_mVar ln x ty n ph m → post 1) (h0 : ¬ ov_T y_mName pl y_mVar ln x ty n ph m → post 0) : wpY_applicable post (y_capM, y_capN, y_mCount, y_nCount, y_pend, y_lastPh, y_resPh, y_resolved, y_mName, y_mParams, y_mRet, y_mVar, y_mConst, y_nKind, y_nA, y_nB, y_nLit, y_nStat, y_nMeth, y_nType, y_nPh, y_nVal) (nI m) x ty (nI n) (nI ph) := by
  have ec : (nI m).toNatClampNeg = m := nI_clamp (by omega)
  have h4 := hV.1
  have hL := (hM m hm).1.1
  unfold wpY_applicable
  refine ⟨vp_in_nI (by omega) (by omega), ?_⟩
  rw [ec]
  refine br_c (fun en => ⟨vp_in_nI (by omega) (by omega), ys_listLen (L := ln m) (hM m hm).1 ?_⟩) (fun en => h0 (fun t => en t.1))
  rcases (hM m hm).2.1 with e | ⟨e, el⟩
  · refine pk_eq ph 3 (fun z => ⟨vp_in_nI (by omega) (by omega), br_t e (h0 (fun t => (t.2.1 z).1 e))⟩) (fun z => ⟨vp_in_nI (by omega) (by omega), br_t e ?_⟩)
    refine pk_eq (ln m) n (fun q => ⟨n + 1, ?_⟩) (fun q => h0 (fun t => q (t.2.2.1 z).2))
    exact ya_loop hm h16 hM hV hp (Or.inl (by omega)) (fun c => h1 ⟨en, fun y => absurd y z, fun _ => ⟨e, q⟩, c⟩) (fun c => h0 (fun t => c t.2.2.2)) n 0 (by omega) (fun j hj => absurd hj (by omega))
  · have e0 : ¬ y_mVar m = 0 := by rw [e]; decide
    refine pk_eq ph 3 (fun z => ⟨vp_in_nI (by omega) (by omega), br_f e0 ?_⟩) (fun z => ⟨vp_in_nI (by omega) (by omega), br_f e0 (h0 (fun t => e0 (t.2.2.1 z).1))⟩)
    refine pk_le (ln m - 1) n (fun q => ⟨n + 1, ?_⟩) (fun q => h0 (fun t => absurd (t.2.1 z).2 (by omega))) (pk_sub (b := 1) el)
    exact ya_loop hm h16 hM hV hp (Or.inr e0) (fun c => h1 ⟨en, fun _ => ⟨e0, by omega⟩, fun y => absurd z y, c⟩) (fun c => h0 (fun t => c t.2.2.2)) n 0 (by omega) (fun j hj => absurd hj (by omega))
theorem yp_loop {post : Int32 → Prop} {mc m o lim : Nat} {ln : Nat → Nat} {pl : Nat → Int32} (h16 : mc ≤ 16) (hM : ov_M mc y_mParams pl y_mVar ln) (hm : m < mc) (ho : o < mc) (hl : lim ≤ 5) (cm : lim ≤ ln m ∨ ¬ y_mVar m = 0) (co : lim ≤ ln o ∨ ¬ y_mVar o = 0) (h1 : ov_MS pl lim m o → post 1) (h0 : ¬ ov_MS pl lim m o → post 0) : ∀ d i, i + d = lim → (∀ j, j < i → ov_S (ov_nb (pl m) j) (ov_nb (pl o) j)) → wY_moreSpec_17 post (nI m) (nI o) (nI lim) y_capM y_capN y_mCount y_nCount y_pend y_lastPh y_resPh y_resolved y_mName y_mParams y_mRet y_mVar y_mConst y_nKind y_nA y_nB y_nLit y_nStat y_nMeth y_nType y_nPh y_nVal (d + 1) (nI (i + 1)) := by
  intro d
  induction d with
  | zero =>
    intro i hi hj
    exact br_t (nI_lt (by omega) (by omega)) (h1 (fun j hj' => hj j (by omega)))
  | succ d ih =>
    intro i hi hj
    have dm : i < ln m ∨ ¬ y_mVar m = 0 := cm.elim (fun c => Or.inl (by omega)) Or.inr
    have dn : i < ln o ∨ ¬ y_mVar o = 0 := co.elim (fun c => Or.inl (by omega)) Or.inr
    have a := ov_M_ty hM hm (i := i) (by omega) dm
    have b := ov_M_ty hM ho (i := i) (by omega) dn
    refine br_f (nI_nlt (by omega) (by omega)) (ys_paramAt hm h16 hM (by omega) dm (ys_paramAt ho h16 hM (by omega) dn ?_))
    exact ys_sub a.1 a.2 b.1 b.2 (fun c => br_f (by decide) (nm_r (nI_1 (i + 1)) (ih (i + 1) (by omega) (ov_lt_s hj c)))) (fun c => br_t rfl (h0 (fun z => c (z i (by omega)))))
theorem ov_A_lim {pl vr : Nat → Int32} {ln : Nat → Nat} {ty : Int32} {n ph m : Nat} (h : ov_A pl vr ln ty n ph m) : ov_lim n ph ≤ ln m ∨ ¬ vr m = 0 := by
  unfold ov_lim
  by_cases e : ph = 3
  · exact Or.inr (h.1 e).1
  · rw [if_neg e]
    have := (h.2.1 e).2
    exact Or.inl (by omega)
theorem ys_moreSpec {post : Int32 → Prop} {mc m o n ph : Nat} {ln : Nat → Nat} {pl : Nat → Int32} {ty : Int32} (h16 : mc ≤ 16) (hM : ov_M mc y_mParams pl y_mVar ln) (hm : m < mc) (ho : o < mc) (hn : n ≤ 4) (hp : ph < 4) (am : ov_A pl y_mVar ln ty n ph m) (ao : ov_A pl y_mVar ln ty n ph o) (h1 : ov_MS pl (ov_lim n ph) m o → post 1) (h0 : ¬ ov_MS pl (ov_lim n ph) m o → post 0) : wpY_moreSpec post (y_capM, y_capN, y_mCount, y_nCount, y_pend, y_lastPh, y_resPh, y_resolved, y_mName, y_mParams, y_mRet, y_mVar, y_mConst, y_nKind, y_nA, y_nB, y_nLit, y_nStat, y_nMeth, y_nType, y_nPh, y_nVal) (nI m) (nI o) (nI n) (nI ph) := by
  have key : wY_moreSpec_17 post (nI m) (nI o) (nI (ov_lim n ph)) y_capM y_capN y_mCount y_nCount y_pend y_lastPh y_resPh y_resolved y_mName y_mParams y_mRet y_mVar y_mConst y_nKind y_nA y_nB y_nLit y_nStat y_nMeth y_nType y_nPh y_nVal (ov_lim n ph + 1) (nI (0 + 1)) := yp_loop h16 hM hm ho (ov_lim_le hn) (ov_A_lim am) (ov_A_lim ao) h1 h0 (ov_lim n ph) 0 (by omega) (fun j hj => absurd hj (by omega))
  unfold wpY_moreSpec
  refine pk_eq ph 3 (fun z => nm_r (nI_1 n) ⟨n + 1 + 1, ?_⟩) (fun z => ⟨n + 1, ?_⟩)
  · rw [show ov_lim n ph = n + 1 from if_pos z] at key
    exact key
  · rw [show ov_lim n ph = n from if_neg z] at key
    exact key
theorem yb_loop {post : Int32 → Prop} {mc m n ph : Nat} {ln : Nat → Nat} {pl : Nat → Int32} {x ty : Int32} (h16 : mc ≤ 16) (hM : ov_M mc y_mParams pl y_mVar ln) (hV : ov_V ty n) (hp : ph < 4) (hm : m < mc) (tm : ov_T y_mName pl y_mVar ln x ty n ph m) (h1 : ov_B mc (ov_T y_mName pl y_mVar ln x ty n ph) (ov_MS pl (ov_lim n ph)) m → post 1) (h0 : ¬ ov_B mc (ov_T y_mName pl y_mVar ln x ty n ph) (ov_MS pl (ov_lim n ph)) m → post 0) : ∀ d o, o + d = mc → (∀ q, q < o → q ≠ m → ov_T y_mName pl y_mVar ln x ty n ph q → ov_MS pl (ov_lim n ph) m q ∧ ¬ ov_MS pl (ov_lim n ph) q m) → wY_beatsAll_3 post (nI m) x ty (nI n) (nI ph) y_capM y_capN (nI mc) y_nCount y_pend y_lastPh y_resPh y_resolved y_mName y_mParams y_mRet y_mVar y_mConst y_nKind y_nA y_nB y_nLit y_nStat y_nMeth y_nType y_nPh y_nVal (d + 1) (nI o) := by
  have h4 := hV.1
  intro d
  induction d with
  | zero =>
    intro o ho hq
    exact br_t (nI_le (by omega) (by omega)) (h1 (fun q h => hq q (by omega)))
  | succ d ih =>
    intro o ho hq
    refine br_f (nI_ge (by omega) (by omega)) ?_
    refine pk_eq o m (fun e => nm_r (nI_1 o) (ih (o + 1) (by omega) (ov_lt_s hq (fun z => absurd e z)))) (fun ne => ?_)
    refine ys_applicable (by omega) h16 hM hV hp (fun t => br_f (by decide) ?_) (fun t => br_t rfl (nm_r (nI_1 o) (ih (o + 1) (by omega) (ov_lt_s hq (fun _ g => absurd g t)))))
    refine ys_moreSpec h16 hM hm (by omega) h4 hp tm.2 t.2 (fun a => br_f (by decide) ?_) (fun a => br_t rfl (h0 (fun B => a (B o (by omega) ne t).1)))
    exact ys_moreSpec h16 hM (by omega) hm h4 hp t.2 tm.2 (fun b => br_f (by decide) (h0 (fun B => (B o (by omega) ne t).2 b))) (fun b => br_t rfl (nm_r (nI_1 o) (ih (o + 1) (by omega) (ov_lt_s hq (fun _ _ => ⟨a, b⟩)))))
theorem yc_pick {post : Int32 → SY → Prop} {mc n ph : Nat} {ln : Nat → Nat} {pl : Nat → Int32} {x ty : Int32} (h16 : mc ≤ 16) (hM : ov_M mc y_mParams pl y_mVar ln) (hV : ov_V ty n) (hp : ph < 4) (hp1 : 1 ≤ ph) (h : ∀ r, ov_Ch mc (ov_W y_mName pl y_mVar ln mc x ty n ph) ph r → post r (y_capM, y_capN, nI mc, y_nCount, y_pend, y_lastPh, y_resPh, y_resolved, y_mName, y_mParams, y_mRet, y_mVar, y_mConst, y_nKind, y_nA, y_nB, y_nLit, y_nStat, y_nMeth, y_nType, y_nPh, y_nVal)) : ∀ e m, m + e = mc → (∀ q, q < m → ¬ ov_W y_mName pl y_mVar ln mc x ty n ph q) → wY_choose_67 post x ty (nI n) (nI ph) y_capM y_capN (nI mc) y_nCount y_pend y_lastPh y_resPh y_resolved y_mName y_mParams y_mRet y_mVar y_mConst y_nKind y_nA y_nB y_nLit y_nStat y_nMeth y_nType y_nPh y_nVal (e + 1) (nI m) := by
  intro e
  induction e with
  | zero =>
    intro m hm hq
    exact br_t (nI_le (by omega) (by omega)) (h _ (Or.inr ⟨hp1, Or.inr ⟨rfl, fun q h => hq q (by omega)⟩⟩))
  | succ e ih =>
    intro m hm hq
    refine br_f (nI_ge (by omega) (by omega)) ?_
    refine ys_applicable (by omega) h16 hM hV hp (fun t => br_f (by decide) ⟨mc + 1, ?_⟩) (fun t => br_t rfl (nm_r (nI_1 m) (ih (m + 1) (by omega) (ov_lt_s hq (fun g => t g.1)))))
    exact yb_loop h16 hM hV hp (by omega) t (fun b => br_f (by decide) (h _ (Or.inr ⟨hp1, Or.inl ⟨m, by omega, rfl, ⟨t, b⟩, hq⟩⟩))) (fun b => br_t rfl (nm_r (nI_1 m) (ih (m + 1) (by omega) (ov_lt_s hq (fun g => b g.2))))) mc 0 (by omega) (fun q hq' => absurd hq' (by omega))
theorem yc_cnt {post : Int32 → SY → Prop} {J : Int32 → Prop} {mc n ph : Nat} {ln : Nat → Nat} {pl : Nat → Int32} {x ty : Int32} (h16 : mc ≤ 16) (hM : ov_M mc y_mParams pl y_mVar ln) (hV : ov_V ty n) (hp : ph < 4) (hp1 : 1 ≤ ph) (hJ : (∀ m, m < mc → ¬ ov_T y_mName pl y_mVar ln x ty n ph m) → J (nI (ph + 1))) (h : (∃ m, m < mc ∧ ov_T y_mName pl y_mVar ln x ty n ph m) → ∀ r, ov_Ch mc (ov_W y_mName pl y_mVar ln mc x ty n ph) ph r → post r (y_capM, y_capN, nI mc, y_nCount, y_pend, y_lastPh, nI ph, y_resolved, y_mName, y_mParams, y_mRet, y_mVar, y_mConst, y_nKind, y_nA, y_nB, y_nLit, y_nStat, y_nMeth, y_nType, y_nPh, y_nVal)) : ∀ e m c, m + e = mc → c ≤ m → (c = 0 ↔ ∀ q, q < m → ¬ ov_T y_mName pl y_mVar ln x ty n ph q) → wY_choose_21 post J x ty (nI n) (nI ph) y_capM y_capN (nI mc) y_nCount y_pend y_lastPh y_resPh y_resolved y_mName y_mParams y_mRet y_mVar y_mConst y_nKind y_nA y_nB y_nLit y_nStat y_nMeth y_nType y_nPh y_nVal (e + 1) (nI c) (nI m) := by
  intro e
  induction e with
  | zero =>
    intro m c hm hc hq
    have em : m = mc := by omega
    subst em
    refine br_t (nI_le (by omega) (by omega)) (pk_le c 0 (fun z => nm_r (nI_1 ph) (hJ (hq.mp (by omega)))) (fun z => ⟨m + 1, ?_⟩))
    have ex : ∃ q, q < m ∧ ov_T y_mName pl y_mVar ln x ty n ph q := by
      by_cases w : ∃ q, q < m ∧ ov_T y_mName pl y_mVar ln x ty n ph q
      · exact w
      · exact absurd (hq.mpr (fun q hq' t => w ⟨q, hq', t⟩)) (by omega)
    exact yc_pick h16 hM hV hp hp1 (h ex) m 0 (by omega) (fun q hq' => absurd hq' (by omega))
  | succ e ih =>
    intro m c hm hc hq
    refine br_f (nI_ge (by omega) (by omega)) ?_
    refine ys_applicable (by omega) h16 hM hV hp (fun t => br_f (by decide) (nm_r (nI_1 c) (nm_r (nI_1 m) (ih (m + 1) (c + 1) (by omega) (by omega) ⟨fun z => absurd z (by omega), fun z => absurd t (z m (by omega))⟩)))) (fun t => br_t rfl (nm_r (nI_1 m) (ih (m + 1) c (by omega) (by omega) ⟨fun z => ov_lt_s (hq.mp z) t, fun z => hq.mpr (fun q hq' => z q (by omega))⟩)))
theorem yc_out {post : Int32 → SY → Prop} {mc n : Nat} {ln : Nat → Nat} {pl : Nat → Int32} {x ty : Int32} (h16 : mc ≤ 16) (hM : ov_M mc y_mParams pl y_mVar ln) (hV : ov_V ty n) (h : ∀ d r, ov_Ph mc (ov_T y_mName pl y_mVar ln x ty n) d → ov_Ch mc (ov_W y_mName pl y_mVar ln mc x ty n d) d r → post r (y_capM, y_capN, nI mc, y_nCount, y_pend, y_lastPh, nI d, y_resolved, y_mName, y_mParams, y_mRet, y_mVar, y_mConst, y_nKind, y_nA, y_nB, y_nLit, y_nStat, y_nMeth, y_nType, y_nPh, y_nVal)) : ∀ e ph, ph + e = 4 → 1 ≤ ph → (∀ p, 1 ≤ p → p < ph → ∀ m, m < mc → ¬ ov_T y_mName pl y_mVar ln x ty n p m) → wY_choose_9 post x ty (nI n) y_capM y_capN (nI mc) y_nCount y_pend y_lastPh y_resPh y_resolved y_mName y_mParams y_mRet y_mVar y_mConst y_nKind y_nA y_nB y_nLit y_nStat y_nMeth y_nType y_nPh y_nVal (e + 1) (nI ph) := by
  intro e
  induction e with
  | zero =>
    intro ph hd h1 hq
    exact br_t (nI_lt (a := 3) (by omega) (by omega)) (h 0 _ (Or.inl ⟨rfl, fun p p1 p3 => hq p p1 (by omega)⟩) (Or.inl ⟨rfl, rfl⟩))
  | succ e ih =>
    intro ph hd h1 hq
    refine br_f (nI_nlt (a := 3) (by omega) (by omega)) ⟨mc + 1, ?_⟩
    refine yc_cnt h16 hM hV (by omega) h1 (fun c => ih (ph + 1) (by omega) (by omega) (fun p p1 p2 => ?_)) (fun c r hr => h ph r (Or.inr ⟨h1, by omega, c, hq⟩) hr) mc 0 0 (by omega) (by omega) ⟨fun _ q hq' => absurd hq' (by omega), fun _ => rfl⟩
    by_cases ep : p = ph
    · rw [ep]; exact c
    · exact hq p p1 (by omega)
theorem ys_choose {post : Int32 → SY → Prop} {mc n : Nat} {ln : Nat → Nat} {pl : Nat → Int32} {x ty : Int32} (h16 : mc ≤ 16) (hM : ov_M mc y_mParams pl y_mVar ln) (hV : ov_V ty n) (h : ∀ d r, ov_Ph mc (ov_T y_mName pl y_mVar ln x ty n) d → ov_Ch mc (ov_W y_mName pl y_mVar ln mc x ty n d) d r → post r (y_capM, y_capN, nI mc, y_nCount, y_pend, y_lastPh, nI d, y_resolved, y_mName, y_mParams, y_mRet, y_mVar, y_mConst, y_nKind, y_nA, y_nB, y_nLit, y_nStat, y_nMeth, y_nType, y_nPh, y_nVal)) : wpY_choose post (y_capM, y_capN, nI mc, y_nCount, y_pend, y_lastPh, y_resPh, y_resolved, y_mName, y_mParams, y_mRet, y_mVar, y_mConst, y_nKind, y_nA, y_nB, y_nLit, y_nStat, y_nMeth, y_nType, y_nPh, y_nVal) x ty := by
  unfold wpY_choose
  exact ys_listLen hV ⟨4, yc_out h16 hM hV h 3 1 (by omega) (by omega) (fun p p1 p2 => absurd p1 (by omega))⟩
theorem ys_narrow {post : Int64 → Prop} {t : Nat} {v : Int64} (t1 : 1 ≤ t) (t2 : t ≤ 14) (h : post (ov_N t v)) : wpY_narrow post (y_capM, y_capN, y_mCount, y_nCount, y_pend, y_lastPh, y_resPh, y_resolved, y_mName, y_mParams, y_mRet, y_mVar, y_mConst, y_nKind, y_nA, y_nB, y_nLit, y_nStat, y_nMeth, y_nType, y_nPh, y_nVal) (nI t) v := by
  unfold wpY_narrow
  refine pk_eq t 1 (fun e => ?_) (fun d1 => pk_eq t 7 (fun e => ?_) (fun d7 => pk_eq t 2 (fun e => ?_) (fun d2 => pk_eq t 8 (fun e => ?_) (fun d8 => pk_eq t 3 (fun e => ?_) (fun d3 => pk_eq t 9 (fun e => ?_) (fun d9 => pk_eq t 4 (fun e => ?_) (fun d4 => pk_eq t 10 (fun e => ?_) (fun d10 => pk_eq t 6 (fun e => ?_) (fun d6 => pk_eq t 12 (fun e => ?_) (fun d12 => ?_))))))))))
  rotate_right
  · have c : t = 5 ∨ t = 11 ∨ t = 13 ∨ t = 14 := by omega
    rcases c with rfl | rfl | rfl | rfl <;> exact h
  all_goals (subst e; exact h)
end
end
section
/-! ===== the relation ===== -/
def ov_Nd (nc : Nat) (cn ca lt nk na : Nat → Int32) (lv nl : Nat → Int64) (g : Nat → Nat) : Prop := ∀ i, i < nc → ca i = nI (g i) ∧ g i ≤ 4 ∧ ((nk i = 0 ∧ cn i = -1 ∧ lt i = na i ∧ lv i = nl i ∧ g i = 0 ∧ ∃ t, 1 ≤ t ∧ t ≤ 14 ∧ na i = nI t) ∨ (nk i = 1 ∧ cn i = na i ∧ ¬ cn i = -1))
def i_Rel (_ : Nat) (u : SX) (v : SY) : Prop := ∃ (cm cn mc nc : Nat) (ln g P : Nat → Nat) (ph rp rs : Int32) (nm pm pl rt co vr cN ca lt nk na : Nat → Int32) (lv nl : Nat → Int64) (se st me ty pp : Nat → Int32) (va : Nat → Int64),
  u = (nI cm, nI cn, nI mc, ph, nI nc, nI (P nc), rs, nm, pm, pl, rt, co, vr, cN, ca, lt, lv, se, st, me, ty, pp, va) ∧
  v = (nI cm, nI cn, nI mc, nI nc, nI (P nc), ph, rp, rs, nm, pm, rt, vr, co, nk, na, ca, nl, st, me, ty, pp, va) ∧
  cm ≤ 16 ∧ cn ≤ 32 ∧ mc ≤ cm ∧ nc ≤ cn ∧ ov_M mc pm pl vr ln ∧ (∀ m, m < mc → ∃ t, 1 ≤ t ∧ t ≤ 14 ∧ rt m = nI t) ∧ ov_Nd nc cN ca lt nk na lv nl g ∧ ov_P g P nc
theorem i_up {k : Nat} {u : SX} {v : SY} (h : i_Rel k u v) : i_Rel (k + 5) u v := h
theorem ov_P_b {nc cn : Nat} {cN ca lt nk na : Nat → Int32} {lv nl : Nat → Int64} {g P : Nat → Nat} (hNd : ov_Nd nc cN ca lt nk na lv nl g) (hP : ov_P g P nc) (h : nc ≤ cn) (h32 : cn ≤ 32) : P nc ≤ 97 := by
  have := ov_P_le hP (fun j hj => (hNd j hj).2.1) nc (Nat.le_refl nc)
  omega
theorem ov_clamp (p : Int32) {lo hi : Nat} (hl : lo ≤ hi) (hh : hi < 2 ^ 31) : ∃ c, c ≤ hi ∧ (∀ post : Int32 → Prop, post (nI c) → wpX_clamp post p (nI lo) (nI hi)) ∧ (∀ Q : Int32 → Prop, Q (nI c) → ((nI lo ≤ p → ((p ≤ nI hi → Q p) ∧ (¬ p ≤ nI hi → Q (nI hi)))) ∧ (¬ nI lo ≤ p → ((nI lo ≤ nI hi → Q (nI lo)) ∧ (¬ nI lo ≤ nI hi → Q (nI hi)))))) := by
  by_cases a : nI lo ≤ p
  · by_cases b : p ≤ nI hi
    · have n : ¬ p < 0 := Int32.not_lt.mpr (Int32.le_trans (nI_pos' (by omega)) a)
      obtain ⟨c, hc, rfl⟩ := nI_of n
      have := (nI_leI hc hh).mp b
      exact ⟨c, this, fun post h => br_t a (br_t b h), fun Q h => br_t a (br_t b h)⟩
    · exact ⟨hi, Nat.le_refl hi, fun post h => br_t a (br_f b h), fun Q h => br_t a (br_f b h)⟩
  · exact ⟨lo, hl, fun post h => br_f a h, fun Q h => br_f a (br_t (nI_le hl hh) h)⟩
theorem i_vc0 (k0 : Int32) (k1 : Int32) : wpX_init (fun u => wpY_init (fun v => i_Rel 2 u v) k0 k1) k0 k1 := by
  obtain ⟨cm, h1, hX1, hY1⟩ := ov_clamp k0 (lo := 2) (hi := 16) (by decide) (by decide)
  obtain ⟨cn, h2, hX2, hY2⟩ := ov_clamp k1 (lo := 4) (hi := 32) (by decide) (by decide)
  unfold wpX_init
  refine hX1 _ (hX2 _ ?_)
  show wpY_init (fun v => i_Rel 2 (nI cm, nI cn, 0, 0, 0, 1, 0, (fun _ => 0), (fun _ => 0), (fun _ => 0), (fun _ => 0), (fun _ => 0), (fun _ => 0), (fun _ => 0), (fun _ => 0), (fun _ => 0), (fun _ => 0), (fun _ => 0), (fun _ => 0), (fun _ => 0), (fun _ => 0), (fun _ => 0), (fun _ => 0)) v) k0 k1
  unfold wpY_init
  refine hY1 (fun c => wY_init_149 _ k1 c 0 0 0 0 0 0 0 (fun _ => 0) (fun _ => 0) (fun _ => 0) (fun _ => 0) (fun _ => 0) (fun _ => 0) (fun _ => 0) (fun _ => 0) (fun _ => 0) (fun _ => 0) (fun _ => 0) (fun _ => 0) (fun _ => 0) (fun _ => 0)) ?_
  refine hY2 (fun c => i_Rel 2 _ (nI cm, c, 0, 0, 1, 0, 0, 0, (fun _ => 0), (fun _ => 0), (fun _ => 0), (fun _ => 0), (fun _ => 0), (fun _ => 0), (fun _ => 0), (fun _ => 0), (fun _ => 0), (fun _ => 0), (fun _ => 0), (fun _ => 0), (fun _ => 0), (fun _ => 0))) ?_
  exact ⟨cm, cn, 0, 0, fun _ => 0, fun _ => 0, fun _ => 1, 0, 0, 0, fun _ => 0, fun _ => 0, fun _ => 0, fun _ => 0, fun _ => 0, fun _ => 0, fun _ => 0, fun _ => 0, fun _ => 0, fun _ => 0, fun _ => 0, fun _ => 0, fun _ => 0, fun _ => 0, fun _ => 0, fun _ => 0, fun _ => 0, fun _ => 0, fun _ => 0, rfl, rfl, h1, h2, by omega, by omega, fun m hm => absurd hm (by omega), fun m hm => absurd hm (by omega), fun m hm => absurd hm (by omega), rfl, fun m hm => absurd hm (by omega)⟩
/-! ===== readers ===== -/
theorem i_vc_methodCount {k : Nat} {u : SX} {v : SY} (I : i_Rel k u v) (hk : k + 5 ≤ 2562) : wpX_methodCount (fun r => wpY_methodCount (fun r' => r' = r ∧ i_Rel (k + 5) u v) v) u := by
  have J : i_Rel (k + 5) u v := I
  obtain ⟨cm, cn, mc, nc, ln, g, P, ph, rp, rs, nm, pm, pl, rt, co, vr, cN, ca, lt, nk, na, lv, nl, se, st, me, ty, pp, va, rfl, rfl, h16, h32, hmc, hnc, hM, hrt, hNd, hP⟩ := I
  exact ⟨rfl, J⟩
theorem i_vc_lastPhase {k : Nat} {u : SX} {v : SY} (I : i_Rel k u v) (hk : k + 5 ≤ 2562) : wpX_lastPhase (fun r => wpY_lastPhase (fun r' => r' = r ∧ i_Rel (k + 5) u v) v) u := by
  have J : i_Rel (k + 5) u v := I
  obtain ⟨cm, cn, mc, nc, ln, g, P, ph, rp, rs, nm, pm, pl, rt, co, vr, cN, ca, lt, nk, na, lv, nl, se, st, me, ty, pp, va, rfl, rfl, h16, h32, hmc, hnc, hM, hrt, hNd, hP⟩ := I
  exact ⟨rfl, J⟩
theorem i_vc_pending {k : Nat} {u : SX} {v : SY} (I : i_Rel k u v) (hk : k + 5 ≤ 2562) : wpX_pending (fun r => wpY_pending (fun r' => r' = r ∧ i_Rel (k + 5) u v) v) u := by
  have J : i_Rel (k + 5) u v := I
  obtain ⟨cm, cn, mc, nc, ln, g, P, ph, rp, rs, nm, pm, pl, rt, co, vr, cN, ca, lt, nk, na, lv, nl, se, st, me, ty, pp, va, rfl, rfl, h16, h32, hmc, hnc, hM, hrt, hNd, hP⟩ := I
  exact ⟨rfl, J⟩
theorem i_vc_nodeCount {k : Nat} {u : SX} {v : SY} (I : i_Rel k u v) (hk : k + 5 ≤ 2562) : wpX_nodeCount (fun r => wpY_nodeCount (fun r' => r' = r ∧ i_Rel (k + 5) u v) v) u := by
  have J : i_Rel (k + 5) u v := I
  obtain ⟨cm, cn, mc, nc, ln, g, P, ph, rp, rs, nm, pm, pl, rt, co, vr, cN, ca, lt, nk, na, lv, nl, se, st, me, ty, pp, va, rfl, rfl, h16, h32, hmc, hnc, hM, hrt, hNd, hP⟩ := I
  exact ⟨rfl, J⟩
theorem i_vc_clearProgram {k : Nat} {u : SX} {v : SY} (I : i_Rel k u v) (hk : k + 5 ≤ 2562) : wpX_clearProgram (fun u' => wpY_clearProgram (fun v' => i_Rel (k + 5) u' v') v) u := by
  obtain ⟨cm, cn, mc, nc, ln, g, P, ph, rp, rs, nm, pm, pl, rt, co, vr, cN, ca, lt, nk, na, lv, nl, se, st, me, ty, pp, va, rfl, rfl, h16, h32, hmc, hnc, hM, hrt, hNd, hP⟩ := I
  exact ⟨cm, cn, mc, 0, ln, g, fun _ => 1, ph, rp, 0, nm, pm, pl, rt, co, vr, cN, ca, lt, nk, na, lv, nl, se, st, me, ty, pp, va, rfl, rfl, h16, h32, hmc, by omega, hM, hrt, fun m hm => absurd hm (by omega), rfl, fun m hm => absurd hm (by omega)⟩
section
variable {x_methodCapacity x_nodeCapacity x_methods x_pickedPhase x_nodes x_missingNodes x_resolved : Int32} {x_methodName x_methodParams x_methodPlaces x_methodReturn x_methodConstant x_methodVarargs x_callName x_callArgc x_literalType : Nat → Int32} {x_literalValue : Nat → Int64} {x_subtreeEnd x_resultStatus x_resultMethod x_resultType x_resultPhase : Nat → Int32} {x_resultValue : Nat → Int64}
theorem xs_isNode_no {post : Int32 → Prop} {p : Int32} (h : p < 0 ∨ x_nodes ≤ p) (hp : post 0) : wpX_isNode post (x_methodCapacity, x_nodeCapacity, x_methods, x_pickedPhase, x_nodes, x_missingNodes, x_resolved, x_methodName, x_methodParams, x_methodPlaces, x_methodReturn, x_methodConstant, x_methodVarargs, x_callName, x_callArgc, x_literalType, x_literalValue, x_subtreeEnd, x_resultStatus, x_resultMethod, x_resultType, x_resultPhase, x_resultValue) p := by
  unfold wpX_isNode
  exact br_c (fun _ => hp) (fun a => br_t (h.elim (fun b => absurd b a) id) hp)
theorem xs_isNode_yes {post : Int32 → Prop} {j nc : Nat} (hj : j < nc) (hn : nc ≤ 32) (hp : post 1) : wpX_isNode post (x_methodCapacity, x_nodeCapacity, x_methods, x_pickedPhase, nI nc, x_missingNodes, x_resolved, x_methodName, x_methodParams, x_methodPlaces, x_methodReturn, x_methodConstant, x_methodVarargs, x_callName, x_callArgc, x_literalType, x_literalValue, x_subtreeEnd, x_resultStatus, x_resultMethod, x_resultType, x_resultPhase, x_resultValue) (nI j) := by
  unfold wpX_isNode
  exact br_f (nI_pos (by omega)) (br_f (nI_ge hj (by omega)) hp)
theorem xs_hasResult_no {post : Int32 → Prop} {p : Int32} (h : x_resolved = 0 ∨ p < 0 ∨ x_nodes ≤ p) (hp : post 0) : wpX_hasResult post (x_methodCapacity, x_nodeCapacity, x_methods, x_pickedPhase, x_nodes, x_missingNodes, x_resolved, x_methodName, x_methodParams, x_methodPlaces, x_methodReturn, x_methodConstant, x_methodVarargs, x_callName, x_callArgc, x_literalType, x_literalValue, x_subtreeEnd, x_resultStatus, x_resultMethod, x_resultType, x_resultPhase, x_resultValue) p := by
  unfold wpX_hasResult
  exact br_c (fun _ => hp) (fun a => xs_isNode_no (h.elim (fun b => absurd b a) id) (br_t rfl hp))
theorem xs_hasResult_yes {post : Int32 → Prop} {j nc : Nat} (hr : ¬ x_resolved = 0) (hj : j < nc) (hn : nc ≤ 32) (hp : post 1) : wpX_hasResult post (x_methodCapacity, x_nodeCapacity, x_methods, x_pickedPhase, nI nc, x_missingNodes, x_resolved, x_methodName, x_methodParams, x_methodPlaces, x_methodReturn, x_methodConstant, x_methodVarargs, x_callName, x_callArgc, x_literalType, x_literalValue, x_subtreeEnd, x_resultStatus, x_resultMethod, x_resultType, x_resultPhase, x_resultValue) (nI j) := by
  unfold wpX_hasResult
  exact br_f hr (xs_isNode_yes hj hn (br_f (by decide) hp))
end
theorem ov_nlt {p : Int32} {n : Nat} (h : nI n ≤ p) : ¬ p < nI n := Int32.not_lt.mpr h
theorem i_vc_nodeStatus {k : Nat} {u : SX} {v : SY} (I : i_Rel k u v) (hk : k + 5 ≤ 2562) (v1 : Int32) : wpX_nodeStatus (fun r => wpY_nodeStatus (fun r' => r' = r ∧ i_Rel (k + 5) u v) v v1) u v1 := by
  have J : i_Rel (k + 5) u v := I
  obtain ⟨cm, cn, mc, nc, ln, g, P, ph, rp, rs, nm, pm, pl, rt, co, vr, cN, ca, lt, nk, na, lv, nl, se, st, me, ty, pp, va, rfl, rfl, h16, h32, hmc, hnc, hM, hrt, hNd, hP⟩ := I
  unfold wpX_nodeStatus
  rcases pk_ix v1 (n := nc) (by omega) with a | a | ⟨j, hj, rfl⟩
  · exact xs_isNode_no (Or.inl a) (br_t rfl (br_t a ⟨rfl, J⟩))
  · have b : ¬ v1 < 0 := Int32.not_lt.mpr (Int32.le_trans (nI_pos' (by omega)) a)
    exact xs_isNode_no (Or.inr a) (br_t rfl (br_f b (br_f (ov_nlt a) ⟨rfl, J⟩)))
  · have hv : vp_in (nI j) 32 := vp_in_nI (by omega) (by omega)
    refine xs_isNode_yes hj (by omega) (br_f (by decide) (br_c (fun e => ?_) (fun e => ⟨hv, ?_⟩)))
    · exact br_f (nI_pos (by omega)) (br_t (nI_lt hj (by omega)) (br_t e ⟨rfl, J⟩))
    · exact br_f (nI_pos (by omega)) (br_t (nI_lt hj (by omega)) (br_f e ⟨hv, rfl, J⟩))
theorem i_vc_nodeMethod {k : Nat} {u : SX} {v : SY} (I : i_Rel k u v) (hk : k + 5 ≤ 2562) (v1 : Int32) : wpX_nodeMethod (fun r => wpY_nodeMethod (fun r' => r' = r ∧ i_Rel (k + 5) u v) v v1) u v1 := by
  have J : i_Rel (k + 5) u v := I
  obtain ⟨cm, cn, mc, nc, ln, g, P, ph, rp, rs, nm, pm, pl, rt, co, vr, cN, ca, lt, nk, na, lv, nl, se, st, me, ty, pp, va, rfl, rfl, h16, h32, hmc, hnc, hM, hrt, hNd, hP⟩ := I
  unfold wpX_nodeMethod
  rcases pk_ix v1 (n := nc) (by omega) with a | a | ⟨j, hj, rfl⟩
  · exact xs_hasResult_no (Or.inr (Or.inl a)) (br_t rfl (br_t a ⟨rfl, J⟩))
  · have b : ¬ v1 < 0 := Int32.not_lt.mpr (Int32.le_trans (nI_pos' (by omega)) a)
    exact xs_hasResult_no (Or.inr (Or.inr a)) (br_t rfl (br_f b (br_t a ⟨rfl, J⟩)))
  · have hv : vp_in (nI j) 32 := vp_in_nI (by omega) (by omega)
    by_cases e : rs = 0
    · exact xs_hasResult_no (Or.inl e) (br_t rfl (br_f (nI_pos (by omega)) (br_f (nI_ge hj (by omega)) (br_t e ⟨rfl, J⟩))))
    · exact xs_hasResult_yes e hj (by omega) (br_f (by decide) ⟨hv, br_f (nI_pos (by omega)) (br_f (nI_ge hj (by omega)) (br_f e ⟨hv, rfl, J⟩))⟩)
theorem i_vc_nodeType {k : Nat} {u : SX} {v : SY} (I : i_Rel k u v) (hk : k + 5 ≤ 2562) (v1 : Int32) : wpX_nodeType (fun r => wpY_nodeType (fun r' => r' = r ∧ i_Rel (k + 5) u v) v v1) u v1 := by
  have J : i_Rel (k + 5) u v := I
  obtain ⟨cm, cn, mc, nc, ln, g, P, ph, rp, rs, nm, pm, pl, rt, co, vr, cN, ca, lt, nk, na, lv, nl, se, st, me, ty, pp, va, rfl, rfl, h16, h32, hmc, hnc, hM, hrt, hNd, hP⟩ := I
  unfold wpX_nodeType
  rcases pk_ix v1 (n := nc) (by omega) with a | a | ⟨j, hj, rfl⟩
  · exact xs_hasResult_no (Or.inr (Or.inl a)) (br_t rfl (br_t a ⟨rfl, J⟩))
  · have b : ¬ v1 < 0 := Int32.not_lt.mpr (Int32.le_trans (nI_pos' (by omega)) a)
    exact xs_hasResult_no (Or.inr (Or.inr a)) (br_t rfl (br_f b (br_t a ⟨rfl, J⟩)))
  · have hv : vp_in (nI j) 32 := vp_in_nI (by omega) (by omega)
    by_cases e : rs = 0
    · exact xs_hasResult_no (Or.inl e) (br_t rfl (br_f (nI_pos (by omega)) (br_f (nI_ge hj (by omega)) (br_t e ⟨rfl, J⟩))))
    · exact xs_hasResult_yes e hj (by omega) (br_f (by decide) ⟨hv, br_f (nI_pos (by omega)) (br_f (nI_ge hj (by omega)) (br_f e ⟨hv, rfl, J⟩))⟩)
theorem i_vc_nodePhase {k : Nat} {u : SX} {v : SY} (I : i_Rel k u v) (hk : k + 5 ≤ 2562) (v1 : Int32) : wpX_nodePhase (fun r => wpY_nodePhase (fun r' => r' = r ∧ i_Rel (k + 5) u v) v v1) u v1 := by
  have J : i_Rel (k + 5) u v := I
  obtain ⟨cm, cn, mc, nc, ln, g, P, ph, rp, rs, nm, pm, pl, rt, co, vr, cN, ca, lt, nk, na, lv, nl, se, st, me, ty, pp, va, rfl, rfl, h16, h32, hmc, hnc, hM, hrt, hNd, hP⟩ := I
  unfold wpX_nodePhase
  rcases pk_ix v1 (n := nc) (by omega) with a | a | ⟨j, hj, rfl⟩
  · exact xs_hasResult_no (Or.inr (Or.inl a)) (br_t rfl (br_t a ⟨rfl, J⟩))
  · have b : ¬ v1 < 0 := Int32.not_lt.mpr (Int32.le_trans (nI_pos' (by omega)) a)
    exact xs_hasResult_no (Or.inr (Or.inr a)) (br_t rfl (br_f b (br_t a ⟨rfl, J⟩)))
  · have hv : vp_in (nI j) 32 := vp_in_nI (by omega) (by omega)
    by_cases e : rs = 0
    · exact xs_hasResult_no (Or.inl e) (br_t rfl (br_f (nI_pos (by omega)) (br_f (nI_ge hj (by omega)) (br_t e ⟨rfl, J⟩))))
    · exact xs_hasResult_yes e hj (by omega) (br_f (by decide) ⟨hv, br_f (nI_pos (by omega)) (br_f (nI_ge hj (by omega)) (br_f e ⟨hv, rfl, J⟩))⟩)
theorem i_vc_nodeValue {k : Nat} {u : SX} {v : SY} (I : i_Rel k u v) (hk : k + 5 ≤ 2562) (v1 : Int32) : wpX_nodeValue (fun r => wpY_nodeValue (fun r' => r' = r ∧ i_Rel (k + 5) u v) v v1) u v1 := by
  have J : i_Rel (k + 5) u v := I
  obtain ⟨cm, cn, mc, nc, ln, g, P, ph, rp, rs, nm, pm, pl, rt, co, vr, cN, ca, lt, nk, na, lv, nl, se, st, me, ty, pp, va, rfl, rfl, h16, h32, hmc, hnc, hM, hrt, hNd, hP⟩ := I
  unfold wpX_nodeValue
  rcases pk_ix v1 (n := nc) (by omega) with a | a | ⟨j, hj, rfl⟩
  · exact xs_hasResult_no (Or.inr (Or.inl a)) (br_t rfl (br_t a ⟨rfl, J⟩))
  · have b : ¬ v1 < 0 := Int32.not_lt.mpr (Int32.le_trans (nI_pos' (by omega)) a)
    exact xs_hasResult_no (Or.inr (Or.inr a)) (br_t rfl (br_f b (br_t a ⟨rfl, J⟩)))
  · have hv : vp_in (nI j) 32 := vp_in_nI (by omega) (by omega)
    by_cases e : rs = 0
    · exact xs_hasResult_no (Or.inl e) (br_t rfl (br_f (nI_pos (by omega)) (br_f (nI_ge hj (by omega)) (br_t e ⟨rfl, J⟩))))
    · exact xs_hasResult_yes e hj (by omega) (br_f (by decide) ⟨hv, br_f (nI_pos (by omega)) (br_f (nI_ge hj (by omega)) (br_f e ⟨hv, rfl, J⟩))⟩)
/-! ===== convertible ===== -/
theorem ov_rng (p : Int32) {lo hi : Nat} (hl : lo < 2 ^ 31) (hh : hi < 2 ^ 31) : p < nI lo ∨ (¬ p < nI lo ∧ nI hi < p) ∨ ∃ t, lo ≤ t ∧ t ≤ hi ∧ p = nI t := by
  by_cases a : p < nI lo
  · exact Or.inl a
  · by_cases b : nI hi < p
    · exact Or.inr (Or.inl ⟨a, b⟩)
    · have n : ¬ p < 0 := Int32.not_lt.mpr (Int32.le_trans (nI_pos' hl) (Int32.not_lt.mp a))
      obtain ⟨t, ht, rfl⟩ := nI_of n
      rw [nI_ltI ht hl] at a
      rw [nI_ltI hh ht] at b
      exact Or.inr (Or.inr ⟨t, by omega, by omega, rfl⟩)
theorem xs_isType_no {post : Int32 → Prop} {p : Int32} (h : p < nI 1 ∨ (¬ p < nI 1 ∧ nI 14 < p)) (hp : post 0) : wpX_isType post p := by
  rcases h with a | ⟨a, b⟩
  · exact br_t a hp
  · exact br_f a (br_t b hp)
theorem xs_isType_yes {post : Int32 → Prop} {t : Nat} (t1 : 1 ≤ t) (t2 : t ≤ 14) (hp : post 1) : wpX_isType post (nI t) :=
  xs_isTypeN (by omega) (fun _ _ => hp) (fun c => by omega)
theorem i_vc_convertible {k : Nat} {u : SX} {v : SY} (I : i_Rel k u v) (hk : k + 5 ≤ 2562) (v1 : Int32) (v2 : Int32) (v3 : Int32) : wpX_convertible (fun r => wpY_convertible (fun r' => r' = r ∧ i_Rel (k + 5) u v) v v1 v2 v3) u v1 v2 v3 := by
  have J : i_Rel (k + 5) u v := I
  obtain ⟨cm, cn, mc, nc, ln, g, P, ph, rp, rs, nm, pm, pl, rt, co, vr, cN, ca, lt, nk, na, lv, nl, se, st, me, ty, pp, va, rfl, rfl, h16, h32, hmc, hnc, hM, hrt, hNd, hP⟩ := I
  unfold wpX_convertible
  have o0 : ¬ ((1 : Int32) = 0) := by decide
  rcases ov_rng v1 (lo := 1) (hi := 14) (by decide) (by decide) with a | a | ⟨s, s1, s2, rfl⟩
  · exact xs_isType_no (Or.inl a) (br_t rfl (br_t a ⟨rfl, J⟩))
  · exact xs_isType_no (Or.inr a) (br_t rfl (br_f a.1 (br_t a.2 ⟨rfl, J⟩)))
  have ys1 : ¬ nI s < 1 := nI_nlt (b := 1) s1 (by omega)
  have ys2 : ¬ 14 < nI s := nI_nlt (a := 14) s2 (by decide)
  refine xs_isType_yes s1 s2 (br_f o0 ?_)
  rcases ov_rng v2 (lo := 1) (hi := 14) (by decide) (by decide) with a | a | ⟨t, t1, t2, rfl⟩
  · exact xs_isType_no (Or.inl a) (br_t rfl (br_f ys1 (br_f ys2 (br_t a ⟨rfl, J⟩))))
  · exact xs_isType_no (Or.inr a) (br_t rfl (br_f ys1 (br_f ys2 (br_f a.1 (br_t a.2 ⟨rfl, J⟩)))))
  have yt1 : ¬ nI t < 1 := nI_nlt (b := 1) t1 (by omega)
  have yt2 : ¬ 14 < nI t := nI_nlt (a := 14) t2 (by decide)
  refine xs_isType_yes t1 t2 (br_f o0 ?_)
  rcases ov_rng v3 (lo := 1) (hi := 3) (by decide) (by decide) with a | a | ⟨p, p1, p2, rfl⟩
  · exact br_t a (br_f ys1 (br_f ys2 (br_f yt1 (br_f yt2 (br_t a ⟨rfl, J⟩)))))
  · have b : ¬ v3 ≤ 3 := Int32.not_le.mpr a.2
    exact br_f a.1 (br_f b (br_f ys1 (br_f ys2 (br_f yt1 (br_f yt2 (br_f a.1 (br_f b ⟨rfl, J⟩)))))))
  have yp1 : ¬ nI p < 1 := nI_nlt (b := 1) p1 (by omega)
  have yp2 : nI p ≤ 3 := nI_le (b := 3) p2 (by decide)
  refine br_f yp1 (br_t yp2 (xs_compat s1 s2 t1 t2 (by omega) (fun c => ⟨rfl, ?_⟩) (fun c => ⟨rfl, ?_⟩)))
  · exact br_f ys1 (br_f ys2 (br_f yt1 (br_f yt2 (br_f yp1 (br_t yp2 (ys_compat s1 s2 t1 t2 (by omega) (fun d => ⟨rfl, rfl, J⟩) (fun d => absurd c d)))))))
  · exact br_f ys1 (br_f ys2 (br_f yt1 (br_f yt2 (br_f yp1 (br_t yp2 (ys_compat s1 s2 t1 t2 (by omega) (fun d => absurd d c) (fun d => ⟨rfl, rfl, J⟩)))))))
/-! ===== pick ===== -/
theorem ov_8 {x : Int32} (h : nI 8 ≤ x) : ¬ x ≤ 7 := fun z => absurd (Int32.le_trans h z) (by decide)
theorem i_vc_pick {k : Nat} {u : SX} {v : SY} (I : i_Rel k u v) (hk : k + 5 ≤ 2562) (v1 : Int32) (v2 : Int32) : wpX_pick (fun r u' => wpY_pick (fun r' v' => r' = r ∧ i_Rel (k + 5) u' v') v v1 v2) u v1 v2 := by
  have J : i_Rel (k + 5) u v := I
  obtain ⟨cm, cn, mc, nc, ln, g, P, ph, rp, rs, nm, pm, pl, rt, co, vr, cN, ca, lt, nk, na, lv, nl, se, st, me, ty, pp, va, rfl, rfl, h16, h32, hmc, hnc, hM, hrt, hNd, hP⟩ := I
  unfold wpX_pick
  have o0 : ¬ ((1 : Int32) = 0) := by decide
  rcases pk_ix v1 (n := 8) (by decide) with a | a | ⟨x, hx, rfl⟩
  · exact br_t a (br_t rfl (br_t a ⟨rfl, J⟩))
  · have b : ¬ v1 < 0 := Int32.not_lt.mpr (Int32.le_trans (by decide) a)
    exact br_f b (br_t a (br_t rfl (br_f b (br_f (ov_8 a) ⟨rfl, J⟩))))
  have y1 : ¬ nI x < 0 := nI_pos (by omega)
  have y2 : nI x ≤ 7 := nI_le (b := 7) (by omega) (by decide)
  refine br_f y1 (br_f (nI_ge (b := 8) hx (by decide)) (br_f o0 ?_))
  refine xs_isTypeList (fun L hL => br_f o0 ?_) (fun n => br_t rfl ?_)
  · refine xs_decidingPhase (by omega) hM hL (fun d hd => ?_)
    refine xs_chooseMethod (by omega) hM hL (by have := ov_Ph_le hd; omega) (fun r hr => ?_)
    unfold wpY_pick
    refine br_f y1 (br_t y2 (ys_validList (fun L' _ => br_f o0 ?_) (fun n => absurd hL (n L))))
    refine ys_choose (by omega) hM hL (fun d' r' hd' hr' => ?_)
    have e := ov_Ph_u hd hd'
    subst e
    have e2 := ov_Ch_u hr hr'
    subst e2
    exact ⟨rfl, ⟨cm, cn, mc, nc, ln, g, P, nI d, nI d, rs, nm, pm, pl, rt, co, vr, cN, ca, lt, nk, na, lv, nl, se, st, me, ty, pp, va, rfl, rfl, h16, h32, hmc, hnc, hM, hrt, hNd, hP⟩⟩
  · unfold wpY_pick
    exact br_f y1 (br_t y2 (ys_validList (fun L hL => absurd hL (n L)) (fun _ => br_t rfl ⟨rfl, J⟩)))
end
section
/-! ===== addMethod ===== -/
def ov_z (c : Int32) : Int32 := if c &&& 16 = 0 then 0 else 1
def ov_Acc (mc cm : Nat) (nm pm vr : Nat → Int32) (a b c : Int32) : Prop := mc ≠ cm ∧ (¬ a < 0 ∧ ¬ 8 ≤ a) ∧ (∃ L, ov_V b L ∧ (¬ ov_z c = 0 → 1 ≤ L)) ∧ (¬ (c &&& 15) < 1 ∧ ¬ 14 < (c &&& 15)) ∧ c &&& (-32) = 0 ∧ ∀ m, m < mc → ¬ (nm m = a ∧ pm m = b ∧ vr m = ov_z c)
theorem ov_z01 (c : Int32) : ov_z c = 0 ∨ ov_z c = 1 := by
  unfold ov_z
  by_cases h : c &&& 16 = 0
  · exact Or.inl (if_pos h)
  · exact Or.inr (if_neg h)
theorem ov_zn (c : Int32) : vp_nar .boolean (ov_z c) = ov_z c := by
  rcases ov_z01 c with e | e <;> rw [e] <;> rfl
section
variable {x_methodCapacity x_nodeCapacity x_methods x_pickedPhase x_nodes x_missingNodes x_resolved : Int32} {x_methodName x_methodParams x_methodPlaces x_methodReturn x_methodConstant x_methodVarargs x_callName x_callArgc x_literalType : Nat → Int32} {x_literalValue : Nat → Int64} {x_subtreeEnd x_resultStatus x_resultMethod x_resultType x_resultPhase : Nat → Int32} {x_resultValue : Nat → Int64}
theorem xi_loop {post : Int32 → Prop} {mc : Nat} {a b z : Int32} (h16 : mc ≤ 16) (h1 : (∃ m, m < mc ∧ x_methodName m = a ∧ x_methodParams m = b ∧ x_methodVarargs m = z) → post 1) (h0 : (∀ m, m < mc → ¬ (x_methodName m = a ∧ x_methodParams m = b ∧ x_methodVarargs m = z)) → post 0) : ∀ d m, m + d = mc → (∀ q, q < m → ¬ (x_methodName q = a ∧ x_methodParams q = b ∧ x_methodVarargs q = z)) → wX_isDeclared_3 post a b z x_methodCapacity x_nodeCapacity (nI mc) x_pickedPhase x_nodes x_missingNodes x_resolved x_methodName x_methodParams x_methodPlaces x_methodReturn x_methodConstant x_methodVarargs x_callName x_callArgc x_literalType x_literalValue x_subtreeEnd x_resultStatus x_resultMethod x_resultType x_resultPhase x_resultValue (d + 1) (nI m) := by
  intro d
  induction d with
  | zero =>
    intro m hm hq
    exact br_t (nI_le (by omega) (by omega)) (h0 (fun q h => hq q (by omega)))
  | succ d ih =>
    intro m hm hq
    have ec : (nI m).toNatClampNeg = m := nI_clamp (by omega)
    have hv : vp_in (nI m) 16 := vp_in_nI (by omega) (by omega)
    refine br_f (nI_ge (by omega) (by omega)) ⟨hv, ?_⟩
    rw [ec]
    refine br_c (fun e1 => ⟨hv, br_c (fun e2 => ⟨hv, br_c (fun e3 => h1 ⟨m, by omega, e1, e2, e3⟩) (fun e3 => ?_)⟩) (fun e2 => ?_)⟩) (fun e1 => ?_)
    · exact nm_r (nI_1 m) (ih (m + 1) (by omega) (ov_lt_s hq (fun t => e3 t.2.2)))
    · exact nm_r (nI_1 m) (ih (m + 1) (by omega) (ov_lt_s hq (fun t => e2 t.2.1)))
    · exact nm_r (nI_1 m) (ih (m + 1) (by omega) (ov_lt_s hq (fun t => e1 t.1)))
theorem xs_isDeclared {post : Int32 → Prop} {mc : Nat} {a b z : Int32} (h16 : mc ≤ 16) (h1 : (∃ m, m < mc ∧ x_methodName m = a ∧ x_methodParams m = b ∧ x_methodVarargs m = z) → post 1) (h0 : (∀ m, m < mc → ¬ (x_methodName m = a ∧ x_methodParams m = b ∧ x_methodVarargs m = z)) → post 0) : wpX_isDeclared post (x_methodCapacity, x_nodeCapacity, nI mc, x_pickedPhase, x_nodes, x_missingNodes, x_resolved, x_methodName, x_methodParams, x_methodPlaces, x_methodReturn, x_methodConstant, x_methodVarargs, x_callName, x_callArgc, x_literalType, x_literalValue, x_subtreeEnd, x_resultStatus, x_resultMethod, x_resultType, x_resultPhase, x_resultValue) a b z :=
  ⟨mc + 1, xi_loop h16 h1 h0 mc 0 (by omega) (fun q hq => absurd hq (by omega))⟩
theorem xm_75 {post : Int32 → SX → Prop} {mc L : Nat} {a b c d z : Int32} (hm : mc < 16) (hL : ov_V b L) (ez : ov_z c = z) (href : (∃ m, m < mc ∧ x_methodName m = a ∧ x_methodParams m = b ∧ x_methodVarargs m = ov_z c) → post (-4) (x_methodCapacity, x_nodeCapacity, nI mc, x_pickedPhase, x_nodes, x_missingNodes, x_resolved, x_methodName, x_methodParams, x_methodPlaces, x_methodReturn, x_methodConstant, x_methodVarargs, x_callName, x_callArgc, x_literalType, x_literalValue, x_subtreeEnd, x_resultStatus, x_resultMethod, x_resultType, x_resultPhase, x_resultValue)) (hacc : (∀ m, m < mc → ¬ (x_methodName m = a ∧ x_methodParams m = b ∧ x_methodVarargs m = ov_z c)) → ∀ y, ov_R b y L → post (nI mc) (x_methodCapacity, x_nodeCapacity, nI (mc + 1), x_pickedPhase, x_nodes, x_missingNodes, 0, upd x_methodName mc a, upd x_methodParams mc b, upd x_methodPlaces mc y, upd x_methodReturn mc (c &&& 15), upd x_methodConstant mc d, upd x_methodVarargs mc (ov_z c), x_callName, x_callArgc, x_literalType, x_literalValue, x_subtreeEnd, x_resultStatus, x_resultMethod, x_resultType, x_resultPhase, x_resultValue)) : wX_addMethod_75 post a b d (c &&& 15) z x_methodCapacity x_nodeCapacity (nI mc) x_pickedPhase x_nodes x_missingNodes x_resolved x_methodName x_methodParams x_methodPlaces x_methodReturn x_methodConstant x_methodVarargs x_callName x_callArgc x_literalType x_literalValue x_subtreeEnd x_resultStatus x_resultMethod x_resultType x_resultPhase x_resultValue := by
  have ec : (nI mc).toNatClampNeg = mc := nI_clamp (by omega)
  have hv : vp_in (nI mc) 16 := vp_in_nI hm (by omega)
  subst ez
  unfold wX_addMethod_75
  refine xs_isDeclared (by omega) (fun ex => br_f (by decide) (href ex)) (fun nx => br_t rfl ⟨hv, ?_⟩)
  refine nm_r (e' := upd x_methodName mc a) (by rw [ec]) ⟨hv, ?_⟩
  refine nm_r (e' := upd x_methodParams mc b) (by rw [ec]) ?_
  refine xs_repeatLast hL (fun y hy => ⟨hv, ?_⟩)
  refine nm_r (e' := upd x_methodPlaces mc y) (by rw [ec]) ⟨hv, ?_⟩
  refine nm_r (e' := upd x_methodReturn mc (c &&& 15)) (by rw [ec]) ⟨hv, ?_⟩
  refine nm_r (e' := upd x_methodConstant mc d) (by rw [ec]) ⟨hv, ?_⟩
  refine nm_r (e' := upd x_methodVarargs mc (ov_z c)) (by rw [ec, ov_zn]) ?_
  exact nm_r (nI_1 mc) (hacc nx y hy)
theorem xs_addMethod {post : Int32 → SX → Prop} {mc cm : Nat} {a b c d : Int32} (hmc : mc ≤ cm) (hcm : cm ≤ 16) (href : ¬ ov_Acc mc cm x_methodName x_methodParams x_methodVarargs a b c → post (-4) (nI cm, x_nodeCapacity, nI mc, x_pickedPhase, x_nodes, x_missingNodes, x_resolved, x_methodName, x_methodParams, x_methodPlaces, x_methodReturn, x_methodConstant, x_methodVarargs, x_callName, x_callArgc, x_literalType, x_literalValue, x_subtreeEnd, x_resultStatus, x_resultMethod, x_resultType, x_resultPhase, x_resultValue)) (hacc : ov_Acc mc cm x_methodName x_methodParams x_methodVarargs a b c → ∀ y L, ov_V b L → ov_R b y L → post (nI mc) (nI cm, x_nodeCapacity, nI (mc + 1), x_pickedPhase, x_nodes, x_missingNodes, 0, upd x_methodName mc a, upd x_methodParams mc b, upd x_methodPlaces mc y, upd x_methodReturn mc (c &&& 15), upd x_methodConstant mc d, upd x_methodVarargs mc (ov_z c), x_callName, x_callArgc, x_literalType, x_literalValue, x_subtreeEnd, x_resultStatus, x_resultMethod, x_resultType, x_resultPhase, x_resultValue)) : wpX_addMethod post (nI cm, x_nodeCapacity, nI mc, x_pickedPhase, x_nodes, x_missingNodes, x_resolved, x_methodName, x_methodParams, x_methodPlaces, x_methodReturn, x_methodConstant, x_methodVarargs, x_callName, x_callArgc, x_literalType, x_literalValue, x_subtreeEnd, x_resultStatus, x_resultMethod, x_resultType, x_resultPhase, x_resultValue) a b c d := by
  have o0 : ¬ ((1 : Int32) = 0) := by decide
  unfold wpX_addMethod
  refine pk_eq mc cm (fun e => href (fun A => A.1 e)) (fun e => ?_)
  refine br_c (fun f => br_t rfl (href (fun A => A.2.1.1 f))) (fun f => br_c (fun h => br_t rfl (href (fun A => A.2.1.2 h))) (fun h => br_f o0 ?_))
  refine xs_isTypeList (fun L hL => br_f o0 ?_) (fun n => br_t rfl (href (fun A => A.2.2.1.elim (fun L h => n L h.1))))
  refine nm_e ?_
  refine br_c (fun p => br_t rfl (href (fun A => A.2.2.2.1.1 p))) (fun p => br_c (fun q => br_t rfl (href (fun A => A.2.2.2.1.2 q))) (fun q => br_f o0 ?_))
  refine br_c (fun w => ?_) (fun w => href (fun A => w A.2.2.2.2.1))
  have k75 : ∀ z, ov_z c = z → (¬ ov_z c = 0 → 1 ≤ L) → wX_addMethod_75 post a b d (c &&& 15) z (nI cm) x_nodeCapacity (nI mc) x_pickedPhase x_nodes x_missingNodes x_resolved x_methodName x_methodParams x_methodPlaces x_methodReturn x_methodConstant x_methodVarargs x_callName x_callArgc x_literalType x_literalValue x_subtreeEnd x_resultStatus x_resultMethod x_resultType x_resultPhase x_resultValue := by
    intro z ez hz
    refine xm_75 (by omega) hL ez (fun ex => href (fun A => ?_)) (fun nx y hy => hacc ⟨e, ⟨f, h⟩, ⟨L, hL, hz⟩, ⟨p, q⟩, w, nx⟩ y L hL hy)
    obtain ⟨m, hm, t⟩ := ex
    exact A.2.2.2.2.2 m hm t
  refine br_c (fun s => br_t rfl (k75 0 (if_pos s) (fun t => absurd (if_pos s) t))) (fun s => br_f o0 (br_c (fun t => href (fun A => ?_)) (fun t => k75 1 (if_neg s) (fun _ => ?_))))
  · obtain ⟨M, hM, hz⟩ := A.2.2.1
    have e0 := (ov_V_z hM).mp t
    have := hz (by rw [show ov_z c = 1 from if_neg s]; decide)
    omega
  · rcases Nat.eq_zero_or_pos L with e0 | e0
    · exact absurd ((ov_V_z hL).mpr e0) t
    · exact e0
end
section
variable {y_capM y_capN y_mCount y_nCount y_pend y_lastPh y_resPh y_resolved : Int32} {y_mName y_mParams y_mRet y_mVar y_mConst y_nKind y_nA y_nB : Nat → Int32} {y_nLit : Nat → Int64} {y_nStat y_nMeth y_nType y_nPh : Nat → Int32} {y_nVal : Nat → Int64}
theorem ym_100 {post : Int32 → SY → Prop} {mc : Nat} {a b c d z : Int32} (hm : mc < 16) (ez : ov_z c = z) (href : (∃ m, m < mc ∧ y_mName m = a ∧ y_mParams m = b ∧ y_mVar m = ov_z c) → post (-4) (y_capM, y_capN, nI mc, y_nCount, y_pend, y_lastPh, y_resPh, y_resolved, y_mName, y_mParams, y_mRet, y_mVar, y_mConst, y_nKind, y_nA, y_nB, y_nLit, y_nStat, y_nMeth, y_nType, y_nPh, y_nVal)) (hacc : (∀ m, m < mc → ¬ (y_mName m = a ∧ y_mParams m = b ∧ y_mVar m = ov_z c)) → post (nI mc) (y_capM, y_capN, nI (mc + 1), y_nCount, y_pend, y_lastPh, y_resPh, 0, upd y_mName mc a, upd y_mParams mc b, upd y_mRet mc (c &&& 15), upd y_mVar mc (ov_z c), upd y_mConst mc d, y_nKind, y_nA, y_nB, y_nLit, y_nStat, y_nMeth, y_nType, y_nPh, y_nVal)) : ∀ e m, m + e = mc → (∀ q, q < m → ¬ (y_mName q = a ∧ y_mParams q = b ∧ y_mVar q = ov_z c)) → wY_addMethod_100 post a b d (c &&& 15) z y_capM y_capN (nI mc) y_nCount y_pend y_lastPh y_resPh y_resolved y_mName y_mParams y_mRet y_mVar y_mConst y_nKind y_nA y_nB y_nLit y_nStat y_nMeth y_nType y_nPh y_nVal (e + 1) (nI m) := by
  subst ez
  intro e
  induction e with
  | zero =>
    intro m hm' hq
    have ec : (nI mc).toNatClampNeg = mc := nI_clamp (by omega)
    have hv : vp_in (nI mc) 16 := vp_in_nI hm (by omega)
    refine br_t (nI_le (by omega) (by omega)) ⟨hv, ?_⟩
    refine nm_r (e' := upd y_mName mc a) (by rw [ec]) ⟨hv, ?_⟩
    refine nm_r (e' := upd y_mParams mc b) (by rw [ec]) ⟨hv, ?_⟩
    refine nm_r (e' := upd y_mRet mc (c &&& 15)) (by rw [ec]) ⟨hv, ?_⟩
    refine nm_r (e' := upd y_mVar mc (ov_z c)) (by rw [ec, ov_zn]) ⟨hv, ?_⟩
    refine nm_r (e' := upd y_mConst mc d) (by rw [ec]) ?_
    exact nm_r (nI_1 mc) (hacc (fun q h => hq q (by omega)))
  | succ e ih =>
    intro m hm' hq
    have ec : (nI m).toNatClampNeg = m := nI_clamp (by omega)
    have hv : vp_in (nI m) 16 := vp_in_nI (by omega) (by omega)
    refine br_f (nI_ge (by omega) (by omega)) ⟨hv, ?_⟩
    rw [ec]
    refine br_c (fun e1 => ⟨hv, br_c (fun e3 => ⟨hv, br_c (fun e2 => href ⟨m, by omega, e1, e2, e3⟩) (fun e2 => ?_)⟩) (fun e3 => ?_)⟩) (fun e1 => ?_)
    · exact nm_r (nI_1 m) (ih (m + 1) (by omega) (ov_lt_s hq (fun t => e2 t.2.1)))
    · exact nm_r (nI_1 m) (ih (m + 1) (by omega) (ov_lt_s hq (fun t => e3 t.2.2)))
    · exact nm_r (nI_1 m) (ih (m + 1) (by omega) (ov_lt_s hq (fun t => e1 t.1)))
theorem ys_addMethod {post : Int32 → SY → Prop} {mc cm : Nat} {a b c d : Int32} (hmc : mc ≤ cm) (hcm : cm ≤ 16) (href : ¬ ov_Acc mc cm y_mName y_mParams y_mVar a b c → post (-4) (nI cm, y_capN, nI mc, y_nCount, y_pend, y_lastPh, y_resPh, y_resolved, y_mName, y_mParams, y_mRet, y_mVar, y_mConst, y_nKind, y_nA, y_nB, y_nLit, y_nStat, y_nMeth, y_nType, y_nPh, y_nVal)) (hacc : ov_Acc mc cm y_mName y_mParams y_mVar a b c → post (nI mc) (nI cm, y_capN, nI (mc + 1), y_nCount, y_pend, y_lastPh, y_resPh, 0, upd y_mName mc a, upd y_mParams mc b, upd y_mRet mc (c &&& 15), upd y_mVar mc (ov_z c), upd y_mConst mc d, y_nKind, y_nA, y_nB, y_nLit, y_nStat, y_nMeth, y_nType, y_nPh, y_nVal)) : wpY_addMethod post (nI cm, y_capN, nI mc, y_nCount, y_pend, y_lastPh, y_resPh, y_resolved, y_mName, y_mParams, y_mRet, y_mVar, y_mConst, y_nKind, y_nA, y_nB, y_nLit, y_nStat, y_nMeth, y_nType, y_nPh, y_nVal) a b c d := by
  have o0 : ¬ ((1 : Int32) = 0) := by decide
  unfold wpY_addMethod
  refine pk_eq mc cm (fun e => href (fun A => A.1 e)) (fun e => ?_)
  refine br_c (fun f => href (fun A => A.2.1.1 f)) (fun f => br_c (fun h7 => ?_) (fun h7 => href (fun A => ?_)))
  rotate_left
  · rcases pk_ix a (n := 8) (by decide) with i | i | ⟨j, hj, rfl⟩
    · exact f i
    · exact A.2.1.2 i
    · exact h7 (nI_le (b := 7) (by omega) (by decide))
  have h : ¬ 8 ≤ a := fun z => ov_8 z h7
  refine ys_validList (fun L hL => br_f o0 ?_) (fun n => br_t rfl (href (fun A => A.2.2.1.elim (fun L h => n L h.1))))
  refine nm_e ?_
  refine br_c (fun p => href (fun A => A.2.2.2.1.1 p)) (fun p => br_c (fun q => href (fun A => A.2.2.2.1.2 q)) (fun q => ?_))
  refine br_c (fun w => ?_) (fun w => href (fun A => w A.2.2.2.2.1))
  have k100 : ∀ z, ov_z c = z → (¬ ov_z c = 0 → 1 ≤ L) → ∃ n, wY_addMethod_100 post a b d (c &&& 15) z (nI cm) y_capN (nI mc) y_nCount y_pend y_lastPh y_resPh y_resolved y_mName y_mParams y_mRet y_mVar y_mConst y_nKind y_nA y_nB y_nLit y_nStat y_nMeth y_nType y_nPh y_nVal n 0 := by
    intro z ez hz
    refine ⟨mc + 1, ym_100 (by omega) ez (fun ex => href (fun A => ?_)) (fun nx => hacc ⟨e, ⟨f, h⟩, ⟨L, hL, hz⟩, ⟨p, q⟩, w, nx⟩) mc 0 (by omega) (fun q hq => absurd hq (by omega))⟩
    obtain ⟨m, hm, t⟩ := ex
    exact A.2.2.2.2.2 m hm t
  refine br_c (fun s => br_t rfl (k100 0 (if_pos s) (fun t => absurd (if_pos s) t))) (fun s => br_f o0 (ys_listLen hL ?_))
  have h4 := hL.1
  refine pk_eq L 0 (fun t => href (fun A => ?_)) (fun t => k100 1 (if_neg s) (fun _ => by omega))
  obtain ⟨M, hM, hz⟩ := A.2.2.1
  have e0 := ov_V_u hM hL
  have := hz (by rw [show ov_z c = 1 from if_neg s]; decide)
  omega
end
theorem i_vc_addMethod {k : Nat} {u : SX} {v : SY} (I : i_Rel k u v) (hk : k + 5 ≤ 2562) (v1 : Int32) (v2 : Int32) (v3 : Int32) (v4 : Int32) : wpX_addMethod (fun r u' => wpY_addMethod (fun r' v' => r' = r ∧ i_Rel (k + 5) u' v') v v1 v2 v3 v4) u v1 v2 v3 v4 := by
  have J : i_Rel (k + 5) u v := I
  obtain ⟨cm, cn, mc, nc, ln, g, P, ph, rp, rs, nm, pm, pl, rt, co, vr, cN, ca, lt, nk, na, lv, nl, se, st, me, ty, pp, va, rfl, rfl, h16, h32, hmc, hnc, hM, hrt, hNd, hP⟩ := I
  refine xs_addMethod hmc h16 (fun nA => ys_addMethod hmc h16 (fun _ => ⟨rfl, J⟩) (fun A => absurd A nA)) (fun A y L hL hy => ys_addMethod hmc h16 (fun nA => absurd A nA) (fun _ => ⟨rfl, ?_⟩))
  have hlt : mc < cm := by have := A.1; omega
  refine ⟨cm, cn, mc + 1, nc, fun m => if m = mc then L else ln m, g, P, ph, rp, 0, upd nm mc v1, upd pm mc v2, upd pl mc y, upd rt mc (v3 &&& 15), upd co mc v4, upd vr mc (ov_z v3), cN, ca, lt, nk, na, lv, nl, se, st, me, ty, pp, va, rfl, rfl, h16, h32, by omega, hnc, ?_, ?_, hNd, hP⟩
  · intro m hm
    by_cases e : m = mc
    · subst e
      rw [pk_us, pk_us, pk_us]
      dsimp only
      rw [if_pos rfl]
      refine ⟨hL, ?_, hy⟩
      rcases ov_z01 v3 with z | z
      · exact Or.inl z
      · obtain ⟨M, hM', hz⟩ := A.2.2.1
        have e0 := ov_V_u hM' hL
        have := hz (by rw [z]; decide)
        exact Or.inr ⟨z, by omega⟩
    · rw [pk_un e, pk_un e, pk_un e]
      dsimp only
      rw [if_neg e]
      exact hM m (by omega)
  · intro m hm
    by_cases e : m = mc
    · subst e
      rw [pk_us]
      have a := A.2.2.2.1
      rcases ov_rng (v3 &&& 15) (lo := 1) (hi := 14) (by decide) (by decide) with b | b | b
      · exact absurd b a.1
      · exact absurd b.2 a.2
      · exact b
    · rw [pk_un e]
      exact hrt m (by omega)
/-! ===== addLiteral, addCall ===== -/
section
variable {x_methodCapacity x_nodeCapacity x_methods x_pickedPhase x_nodes x_missingNodes x_resolved : Int32} {x_methodName x_methodParams x_methodPlaces x_methodReturn x_methodConstant x_methodVarargs x_callName x_callArgc x_literalType : Nat → Int32} {x_literalValue : Nat → Int64} {x_subtreeEnd x_resultStatus x_resultMethod x_resultType x_resultPhase : Nat → Int32} {x_resultValue : Nat → Int64}
theorem xs_isComplete {post : Int32 → Prop} {nc p : Nat} (hn : nc ≤ 32) (hp : p ≤ 97) (h1 : 0 < nc ∧ p = 0 → post 1) (h0 : ¬ (0 < nc ∧ p = 0) → post 0) : wpX_isComplete post (x_methodCapacity, x_nodeCapacity, x_methods, x_pickedPhase, nI nc, nI p, x_resolved, x_methodName, x_methodParams, x_methodPlaces, x_methodReturn, x_methodConstant, x_methodVarargs, x_callName, x_callArgc, x_literalType, x_literalValue, x_subtreeEnd, x_resultStatus, x_resultMethod, x_resultType, x_resultPhase, x_resultValue) := by
  unfold wpX_isComplete
  exact pk_le nc 0 (fun a => h0 (by omega)) (fun a => pk_eq p 0 (fun b => h1 (by omega)) (fun b => h0 (by omega)))
theorem xs_room {post : Int32 → Prop} {nc cn p : Nat} (hc : cn ≤ 32) (hn : nc ≤ cn) (hp : p ≤ 97) (h1 : nc ≠ cn → ¬ (0 < nc ∧ p = 0) → post 1) (h0 : ¬ (nc ≠ cn ∧ ¬ (0 < nc ∧ p = 0)) → post 0) : wpX_hasRoomForNode post (x_methodCapacity, nI cn, x_methods, x_pickedPhase, nI nc, nI p, x_resolved, x_methodName, x_methodParams, x_methodPlaces, x_methodReturn, x_methodConstant, x_methodVarargs, x_callName, x_callArgc, x_literalType, x_literalValue, x_subtreeEnd, x_resultStatus, x_resultMethod, x_resultType, x_resultPhase, x_resultValue) := by
  unfold wpX_hasRoomForNode
  exact pk_le cn nc (fun a => h0 (fun c => c.1 (by omega))) (fun a => xs_isComplete (by omega) hp (fun b => br_f (by decide) (h0 (fun c => c.2 b))) (fun b => br_t rfl (h1 (by omega) b)))
theorem xs_append {post : Int32 → SX → Prop} {nc p c : Nat} {x : Int32} (hn : nc < 32) (hp : 1 ≤ p) (h : post (nI nc) (x_methodCapacity, x_nodeCapacity, x_methods, x_pickedPhase, nI (nc + 1), nI (p - 1 + c), 0, x_methodName, x_methodParams, x_methodPlaces, x_methodReturn, x_methodConstant, x_methodVarargs, upd x_callName nc x, upd x_callArgc nc (nI c), x_literalType, x_literalValue, x_subtreeEnd, x_resultStatus, x_resultMethod, x_resultType, x_resultPhase, x_resultValue)) : wpX_appendNode post (x_methodCapacity, x_nodeCapacity, x_methods, x_pickedPhase, nI nc, nI p, x_resolved, x_methodName, x_methodParams, x_methodPlaces, x_methodReturn, x_methodConstant, x_methodVarargs, x_callName, x_callArgc, x_literalType, x_literalValue, x_subtreeEnd, x_resultStatus, x_resultMethod, x_resultType, x_resultPhase, x_resultValue) x (nI c) := by
  have ec : (nI nc).toNatClampNeg = nc := nI_clamp (by omega)
  have hv : vp_in (nI nc) 32 := vp_in_nI hn (by omega)
  unfold wpX_appendNode
  refine ⟨hv, nm_r (e' := upd x_callName nc x) (by rw [ec]) ⟨hv, nm_r (e' := upd x_callArgc nc (nI c)) (by rw [ec]) ?_⟩⟩
  refine nm_r (nI_1 nc) (nm_r (e' := nI (p - 1 + c)) ?_ h)
  rw [← nI_add, ← pk_sub hp]
  rfl
end
section
variable {y_capM y_capN y_mCount y_nCount y_pend y_lastPh y_resPh y_resolved : Int32} {y_mName y_mParams y_mRet y_mVar y_mConst y_nKind y_nA y_nB : Nat → Int32} {y_nLit : Nat → Int64} {y_nStat y_nMeth y_nType y_nPh : Nat → Int32} {y_nVal : Nat → Int64}
theorem ys_complete {post : Int32 → Prop} {nc p : Nat} (hn : nc ≤ 32) (hp : p ≤ 97) (h1 : 0 < nc ∧ p = 0 → post 1) (h0 : ¬ (0 < nc ∧ p = 0) → post 0) : wpY_complete post (y_capM, y_capN, y_mCount, nI nc, nI p, y_lastPh, y_resPh, y_resolved, y_mName, y_mParams, y_mRet, y_mVar, y_mConst, y_nKind, y_nA, y_nB, y_nLit, y_nStat, y_nMeth, y_nType, y_nPh, y_nVal) := by
  unfold wpY_complete
  exact pk_le nc 0 (fun a => h0 (by omega)) (fun a => pk_eq p 0 (fun b => h1 (by omega)) (fun b => h0 (by omega)))
end
theorem ov_P_add {g P : Nat → Nat} {nc : Nat} (c : Nat) (h : ov_P g P nc) (h1 : 1 ≤ P nc) : ov_P (fun j => if j = nc then c else g j) (fun j => if j ≤ nc then P j else P nc - 1 + c) (nc + 1) := by
  refine ⟨?_, fun j hj => ?_⟩
  · show (if 0 ≤ nc then P 0 else P nc - 1 + c) = 1
    rw [if_pos (by omega)]
    exact h.1
  · show 1 ≤ (if j ≤ nc then P j else P nc - 1 + c) ∧ (if j + 1 ≤ nc then P (j + 1) else P nc - 1 + c) + 1 = (if j ≤ nc then P j else P nc - 1 + c) + (if j = nc then c else g j)
    rw [if_pos (by omega : j ≤ nc)]
    by_cases e : j = nc
    · rw [if_neg (by omega : ¬ j + 1 ≤ nc), if_pos e, e]
      exact ⟨h1, by omega⟩
    · rw [if_pos (by omega : j + 1 ≤ nc), if_neg e]
      exact h.2 j (by omega)
theorem ov_P_1 {g P : Nat → Nat} {nc : Nat} (h : ov_P g P nc) (n : ¬ (0 < nc ∧ P nc = 0)) : 1 ≤ P nc := by
  rcases Nat.eq_zero_or_pos nc with e | e
  · rw [e, h.1]
    exact Nat.le_refl 1
  · omega
theorem i_vc_addLiteral {k : Nat} {u : SX} {v : SY} (I : i_Rel k u v) (hk : k + 5 ≤ 2562) (v1 : Int32) (v2 : Int32) : wpX_addLiteral (fun r u' => wpY_addLiteral (fun r' v' => r' = r ∧ i_Rel (k + 5) u' v') v v1 v2) u v1 v2 := by
  have J : i_Rel (k + 5) u v := I
  obtain ⟨cm, cn, mc, nc, ln, g, P, ph, rp, rs, nm, pm, pl, rt, co, vr, cN, ca, lt, nk, na, lv, nl, se, st, me, ty, pp, va, rfl, rfl, h16, h32, hmc, hnc, hM, hrt, hNd, hP⟩ := I
  have o0 : ¬ ((1 : Int32) = 0) := by decide
  have hb := ov_P_b hNd hP hnc h32
  unfold wpX_addLiteral
  rcases ov_rng v1 (lo := 1) (hi := 14) (by decide) (by decide) with a | a | ⟨t, t1, t2, rfl⟩
  · exact xs_isType_no (Or.inl a) (br_t rfl (br_t a ⟨rfl, J⟩))
  · exact xs_isType_no (Or.inr a) (br_t rfl (br_f a.1 (br_f (Int32.not_le.mpr a.2) ⟨rfl, J⟩)))
  have y1 : ¬ nI t < 1 := nI_nlt (b := 1) t1 (by omega)
  have y2 : nI t ≤ 14 := nI_le (b := 14) t2 (by decide)
  refine xs_isType_yes t1 t2 (br_f o0 ?_)
  refine xs_room h32 hnc hb (fun a b => br_f o0 ?_) (fun a => br_t rfl ?_)
  · have hlt : nc < cn := by omega
    have ec : (nI nc).toNatClampNeg = nc := nI_clamp (by omega)
    have hv : vp_in (nI nc) 32 := vp_in_nI (by omega) (by omega)
    have p1 := ov_P_1 hP b
    refine ⟨hv, nm_r (e' := upd lt nc (nI t)) (by rw [ec]) ?_⟩
    refine xs_narrow t1 t2 ⟨hv, nm_r (e' := vp_updL lv nc (ov_N t v2.toInt64)) (by rw [ec]) ?_⟩
    refine xs_append (c := 0) (by omega) p1 ?_
    show wpY_addLiteral (fun r' v' => r' = nI nc ∧ i_Rel (k + 5) _ v') _ _ _
    unfold wpY_addLiteral
    refine br_f y1 (br_t y2 (pk_eq nc cn (fun e => absurd e a) (fun _ => ?_)))
    refine ys_complete (by omega) hb (fun c => absurd c b) (fun _ => br_t rfl ⟨hv, ?_⟩)
    refine nm_r (e' := upd nk nc 0) (by rw [ec]) ⟨hv, nm_r (e' := upd na nc (nI t)) (by rw [ec]) ⟨hv, nm_r (e' := upd ca nc (nI 0)) (by rw [ec]; rfl) ?_⟩⟩
    refine ys_narrow t1 t2 ⟨hv, nm_r (e' := vp_updL nl nc (ov_N t v2.toInt64)) (by rw [ec]) ?_⟩
    refine nm_r (e' := nI (P nc - 1 + 0)) (pk_sub (b := 1) p1) (nm_r (nI_1 nc) ⟨rfl, ?_⟩)
    refine ⟨cm, cn, mc, nc + 1, ln, fun j => if j = nc then 0 else g j, fun j => if j ≤ nc then P j else P nc - 1 + 0, ph, rp, 0, nm, pm, pl, rt, co, vr, upd cN nc (-1), upd ca nc (nI 0), upd lt nc (nI t), upd nk nc 0, upd na nc (nI t), vp_updL lv nc (ov_N t v2.toInt64), vp_updL nl nc (ov_N t v2.toInt64), se, st, me, ty, pp, va, ?_, ?_, h16, h32, hmc, by omega, hM, hrt, ?_, ov_P_add 0 hP p1⟩
    · dsimp only
      rw [if_neg (by omega)]
    · dsimp only
      rw [if_neg (by omega)]
    · intro i hi
      by_cases e : i = nc
      · subst e
        rw [pk_us, pk_us, pk_us, pk_us, pk_us, pk_uLs, pk_uLs]
        dsimp only
        rw [if_pos rfl]
        exact ⟨rfl, by omega, Or.inl ⟨rfl, rfl, rfl, rfl, rfl, t, t1, t2, rfl⟩⟩
      · rw [pk_un e, pk_un e, pk_un e, pk_un e, pk_un e, pk_uLn e, pk_uLn e]
        dsimp only
        rw [if_neg e]
        exact hNd i (by omega)
  · unfold wpY_addLiteral
    refine br_f y1 (br_t y2 (pk_eq nc cn (fun e => ⟨rfl, J⟩) (fun e => ?_)))
    exact ys_complete (by omega) hb (fun c => br_f o0 ⟨rfl, J⟩) (fun c => absurd ⟨e, c⟩ a)
theorem i_vc_addCall {k : Nat} {u : SX} {v : SY} (I : i_Rel k u v) (hk : k + 5 ≤ 2562) (v1 : Int32) (v2 : Int32) : wpX_addCall (fun r u' => wpY_addCall (fun r' v' => r' = r ∧ i_Rel (k + 5) u' v') v v1 v2) u v1 v2 := by
  have J : i_Rel (k + 5) u v := I
  obtain ⟨cm, cn, mc, nc, ln, g, P, ph, rp, rs, nm, pm, pl, rt, co, vr, cN, ca, lt, nk, na, lv, nl, se, st, me, ty, pp, va, rfl, rfl, h16, h32, hmc, hnc, hM, hrt, hNd, hP⟩ := I
  have o0 : ¬ ((1 : Int32) = 0) := by decide
  have hb := ov_P_b hNd hP hnc h32
  unfold wpX_addCall
  rcases pk_ix v1 (n := 8) (by decide) with a | a | ⟨x, hx, rfl⟩
  · exact br_t a (br_t rfl (br_t a ⟨rfl, J⟩))
  · have b : ¬ v1 < 0 := Int32.not_lt.mpr (Int32.le_trans (by decide) a)
    exact br_f b (br_t a (br_t rfl (br_f b (br_f (ov_8 a) ⟨rfl, J⟩))))
  have y1 : ¬ nI x < 0 := nI_pos (by omega)
  have y2 : nI x ≤ 7 := nI_le (b := 7) (by omega) (by decide)
  refine br_f y1 (br_f (nI_ge (b := 8) hx (by decide)) (br_f o0 ?_))
  rcases ov_rng v2 (lo := 0) (hi := 4) (by decide) (by decide) with a | a | ⟨c, _, c4, rfl⟩
  · exact br_t a (br_f y1 (br_t y2 (br_t a ⟨rfl, J⟩)))
  · exact br_f a.1 (br_t a.2 (br_f y1 (br_t y2 (br_f a.1 (br_f (Int32.not_le.mpr a.2) ⟨rfl, J⟩)))))
  have y3 : ¬ nI c < 0 := nI_pos (by omega)
  have y4 : nI c ≤ 4 := nI_le (b := 4) c4 (by decide)
  refine br_f y3 (br_f (nI_nlt (a := 4) c4 (by decide)) ?_)
  refine xs_room h32 hnc hb (fun a b => br_f o0 ?_) (fun a => br_t rfl ?_)
  · have hlt : nc < cn := by omega
    have ec : (nI nc).toNatClampNeg = nc := nI_clamp (by omega)
    have hv : vp_in (nI nc) 32 := vp_in_nI (by omega) (by omega)
    have p1 := ov_P_1 hP b
    refine xs_append (by omega) p1 ?_
    show wpY_addCall (fun r' v' => r' = nI nc ∧ i_Rel (k + 5) _ v') _ _ _
    unfold wpY_addCall
    refine br_f y1 (br_t y2 (br_f y3 (br_t y4 (pk_eq nc cn (fun e => absurd e a) (fun _ => ?_)))))
    refine ys_complete (by omega) hb (fun c => absurd c b) (fun _ => br_t rfl ⟨hv, ?_⟩)
    refine nm_r (e' := upd nk nc 1) (by rw [ec]) ⟨hv, nm_r (e' := upd na nc (nI x)) (by rw [ec]) ⟨hv, nm_r (e' := upd ca nc (nI c)) (by rw [ec]) ⟨hv, nm_r (e' := vp_updL nl nc 0) (by rw [ec]) ?_⟩⟩⟩
    refine nm_r (e' := nI (P nc - 1 + c)) (by rw [← nI_add, ← pk_sub p1]; rfl) (nm_r (nI_1 nc) ⟨rfl, ?_⟩)
    refine ⟨cm, cn, mc, nc + 1, ln, fun j => if j = nc then c else g j, fun j => if j ≤ nc then P j else P nc - 1 + c, ph, rp, 0, nm, pm, pl, rt, co, vr, upd cN nc (nI x), upd ca nc (nI c), lt, upd nk nc 1, upd na nc (nI x), lv, vp_updL nl nc 0, se, st, me, ty, pp, va, ?_, ?_, h16, h32, hmc, by omega, hM, hrt, ?_, ov_P_add c hP p1⟩
    · dsimp only
      rw [if_neg (by omega)]
    · dsimp only
      rw [if_neg (by omega)]
    · intro i hi
      by_cases e : i = nc
      · subst e
        rw [pk_us, pk_us, pk_us, pk_us, pk_uLs]
        dsimp only
        rw [if_pos rfl]
        exact ⟨rfl, c4, Or.inr ⟨rfl, rfl, fun z => y1 (by rw [z]; decide)⟩⟩
      · rw [pk_un e, pk_un e, pk_un e, pk_un e, pk_uLn e]
        dsimp only
        rw [if_neg e]
        exact hNd i (by omega)
  · unfold wpY_addCall
    refine br_f y1 (br_t y2 (br_f y3 (br_t y4 (pk_eq nc cn (fun e => ⟨rfl, J⟩) (fun e => ?_)))))
    exact ys_complete (by omega) hb (fun c => br_f o0 ⟨rfl, J⟩) (fun c => absurd ⟨e, c⟩ a)
end
section
/-! ===== the arguments of a call ===== -/
theorem ov_q {g P E : Nat → Nat} {nc i : Nat} (hP : ov_P g P nc) (h0 : P nc = 0) (hi : i < nc) (hE : ∀ j, i < j → j < nc → E j ≤ nc ∧ ov_E P j (E j)) : ∀ a, a ≤ g i → ov_K P i (g i) a (ov_cs E i a) ∧ ov_cs E i a ≤ nc := by
  intro a
  induction a with
  | zero =>
    intro _
    exact ⟨ov_K_0 hP hi, hi⟩
  | succ a ih =>
    intro ha
    obtain ⟨hk, hl⟩ := ih (by omega)
    have hin := ov_K_in hP h0 hi hk (by omega) hl
    obtain ⟨e1, e2⟩ := hE _ hk.1 hin
    exact ⟨ov_K_s hk (by omega) e2, e1⟩
def ov_tq (ty : Nat → Int32) (q : Nat → Nat) (b : Nat) : Nat := min (ty (q b)).toNatClampNeg 15
def ov_vq (va : Nat → Int64) (q : Nat → Nat) (b : Nat) : Int64 := va (q b)
theorem ov_tq_lt (ty : Nat → Int32) (q : Nat → Nat) (b : Nat) : ov_tq ty q b < 16 := by
  have : ov_tq ty q b ≤ 15 := Nat.min_le_right _ _
  omega
theorem ov_tq_eq {ty : Nat → Int32} {q : Nat → Nat} {b t : Nat} (h : ty (q b) = nI t) (ht : t ≤ 14) : ov_tq ty q b = t := by
  unfold ov_tq
  rw [h, nI_clamp (by omega)]
  exact Nat.min_eq_left (by omega)
/-- what is known after a arguments: all is well, and their types and sum; or one has failed -/
def ov_L (q : Nat → Nat) (st ty : Nat → Int32) (va : Nat → Int64) (a : Nat) (x2 : Int32) (x3 : Int64) (f : Int32) : Prop := (f = 0 ∧ (∀ b, b < a → st (q b) = 1) ∧ x2 = nI (ov_zt (ov_tq ty q) a) ∧ x3 = ov_sm (ov_vq va q) a) ∨ (f = 1 ∧ ∃ b, b < a ∧ ¬ st (q b) = 1)
theorem ov_L_0 {q : Nat → Nat} {st ty : Nat → Int32} {va : Nat → Int64} : ov_L q st ty va 0 0 0 0 := Or.inl ⟨rfl, fun b hb => absurd hb (by omega), rfl, rfl⟩
theorem ov_L_b {q : Nat → Nat} {st ty : Nat → Int32} {va : Nat → Int64} {a : Nat} (x2 : Int32) (x3 : Int64) (h : ¬ st (q a) = 1) : ov_L q st ty va (a + 1) x2 x3 1 := Or.inr ⟨rfl, a, by omega, h⟩
theorem ov_L_k {q : Nat → Nat} {st ty : Nat → Int32} {va : Nat → Int64} {a : Nat} (x2 : Int32) (x3 : Int64) (h : ∃ b, b < a ∧ ¬ st (q b) = 1) : ov_L q st ty va (a + 1) x2 x3 1 := by
  obtain ⟨b, hb, hs⟩ := h
  exact Or.inr ⟨rfl, b, by omega, hs⟩
theorem ov_L_g {q : Nat → Nat} {st ty : Nat → Int32} {va : Nat → Int64} {a t : Nat} (ha : a < 8) (hs : ∀ b, b < a → st (q b) = 1) (h1 : st (q a) = 1) (ht : t ≤ 14) (e : ty (q a) = nI t) : ov_L q st ty va (a + 1) (nI (ov_zt (ov_tq ty q) a) ||| (ty (q a) <<< (4 * nI a &&& 31))) (ov_sm (ov_vq va q) a + va (q a)) 0 := by
  refine Or.inl ⟨rfl, ov_lt_s hs h1, ?_, rfl⟩
  rw [e, ov_put ha (ov_zt_lt _ (ov_tq_lt ty q) a) (by omega)]
  show _ = nI (ov_zt (ov_tq ty q) a + ov_tq ty q a * 2 ^ (4 * a))
  rw [ov_tq_eq e ht]
/-- the outcome of a call node -/
def ov_O (mc : Nat) (nm pl vr rt co : Nat → Int32) (ln : Nat → Nat) (x : Int32) (bad : Prop) (z : Int32) (n : Nat) (sum : Int64) (s m t p : Int32) (w : Int64) : Prop :=
  (bad ∧ s = -3 ∧ m = -1 ∧ t = 0 ∧ p = 0 ∧ w = 0) ∨ (¬ bad ∧ ∃ d r, ov_Ph mc (ov_T nm pl vr ln x z n) d ∧ ov_Ch mc (ov_W nm pl vr ln mc x z n d) d r ∧ p = nI d ∧ ((∃ k τ, k < mc ∧ r = nI k ∧ 1 ≤ τ ∧ τ ≤ 14 ∧ rt k = nI τ ∧ s = 1 ∧ m = nI k ∧ t = nI τ ∧ w = ov_N τ ((co k).toInt64 + sum)) ∨ ((r = -1 ∨ r = -2) ∧ s = r ∧ m = -1 ∧ t = 0 ∧ w = 0)))
theorem ov_nn1 {k : Nat} (h : k < 2 ^ 31) : ¬ nI k = -1 := fun e => nI_pos h (by rw [e]; decide)
theorem ov_nn2 {k : Nat} (h : k < 2 ^ 31) : ¬ nI k = -2 := fun e => nI_pos h (by rw [e]; decide)
theorem ov_O_u {mc : Nat} (h16 : mc ≤ 16) {nm pl vr rt co : Nat → Int32} {ln : Nat → Nat} {x : Int32} {bad : Prop} {z : Int32} {n : Nat} {sum : Int64} {s m t p s' m' t' p' : Int32} {w w' : Int64} (h : ov_O mc nm pl vr rt co ln x bad z n sum s m t p w) (h' : ov_O mc nm pl vr rt co ln x bad z n sum s' m' t' p' w') : s' = s ∧ m' = m ∧ t' = t ∧ p' = p ∧ w' = w := by
  rcases h with ⟨b, rfl, rfl, rfl, rfl, rfl⟩ | ⟨b, d, r, hd, hr, rfl, h⟩
  · rcases h' with ⟨b', rfl, rfl, rfl, rfl, rfl⟩ | ⟨b', _⟩
    · exact ⟨rfl, rfl, rfl, rfl, rfl⟩
    · exact absurd b b'
  · rcases h' with ⟨b', _⟩ | ⟨b', d', r', hd', hr', rfl, h'⟩
    · exact absurd b' b
    · have e := ov_Ph_u hd hd'
      subst e
      have e2 := ov_Ch_u hr hr'
      subst e2
      rcases h with ⟨k, τ, hk, e, τ1, τ2, ht, rfl, rfl, rfl, rfl⟩ | ⟨e, rfl, rfl, rfl, rfl⟩
      · rcases h' with ⟨k', τ', hk', e', τ1', τ2', ht', rfl, rfl, rfl, rfl⟩ | ⟨e', _⟩
        · rw [e] at e'
          have ek := (nI_eq (by omega) (by omega)).mp e'
          subst ek
          rw [ht] at ht'
          have et := (nI_eq (by omega) (by omega)).mp ht'
          subst et
          exact ⟨rfl, rfl, rfl, rfl, rfl⟩
        · rcases e' with e' | e'
          · exact absurd (e.symm.trans e') (ov_nn1 (by omega))
          · exact absurd (e.symm.trans e') (ov_nn2 (by omega))
      · rcases h' with ⟨k', τ', hk', e', τ1', τ2', ht', rfl, rfl, rfl, rfl⟩ | ⟨e', rfl, rfl, rfl, rfl⟩
        · rcases e with e | e
          · exact absurd (e'.symm.trans e) (ov_nn1 (by omega))
          · exact absurd (e'.symm.trans e) (ov_nn2 (by omega))
        · exact ⟨rfl, rfl, rfl, rfl, rfl⟩
theorem ov_O_ex (mc : Nat) (nm pl vr rt co : Nat → Int32) (ln : Nat → Nat) (x : Int32) (bad : Prop) (z : Int32) (n : Nat) (sum : Int64) (hrt : ∀ m, m < mc → ∃ t, 1 ≤ t ∧ t ≤ 14 ∧ rt m = nI t) : ∃ s m t p w, ov_O mc nm pl vr rt co ln x bad z n sum s m t p w := by
  by_cases b : bad
  · exact ⟨-3, -1, 0, 0, 0, Or.inl ⟨b, rfl, rfl, rfl, rfl, rfl⟩⟩
  · obtain ⟨d, hd⟩ := ov_Ph_ex mc (ov_T nm pl vr ln x z n)
    obtain ⟨r, hr⟩ := ov_Ch_ex mc (ov_W nm pl vr ln mc x z n d) d
    rcases ov_Ch_v hr with ⟨k, hk, e⟩ | e
    · obtain ⟨τ, τ1, τ2, ht⟩ := hrt k hk
      exact ⟨1, nI k, nI τ, nI d, _, Or.inr ⟨b, d, r, hd, hr, rfl, Or.inl ⟨k, τ, hk, e, τ1, τ2, ht, rfl, rfl, rfl, rfl⟩⟩⟩
    · exact ⟨r, -1, 0, nI d, 0, Or.inr ⟨b, d, r, hd, hr, rfl, Or.inr ⟨e, rfl, rfl, rfl, rfl⟩⟩⟩
theorem ov_O_t {mc : Nat} {nm pl vr rt co : Nat → Int32} {ln : Nat → Nat} {x : Int32} {bad : Prop} {z : Int32} {n : Nat} {sum : Int64} {s m t p : Int32} {w : Int64} (h : ov_O mc nm pl vr rt co ln x bad z n sum s m t p w) (hs : s = 1) : ∃ τ, 1 ≤ τ ∧ τ ≤ 14 ∧ t = nI τ := by
  rcases h with ⟨b, e, _⟩ | ⟨b, d, r, hd, hr, _, ⟨k, τ, hk, e, τ1, τ2, ht, _, _, et, _⟩ | ⟨e, er, _⟩⟩
  · rw [e] at hs
    exact absurd hs (by decide)
  · exact ⟨τ, τ1, τ2, et⟩
  · rw [hs] at er
    rcases e with e | e
    · exact absurd (er.trans e) (by decide)
    · exact absurd (er.trans e) (by decide)
def ov_bad (q : Nat → Nat) (st : Nat → Int32) (c : Nat) : Prop := ∃ b, b < c ∧ ¬ st (q b) = 1
end
section
/-! ===== X: resolve ===== -/
section
variable {x_methodCapacity x_nodeCapacity x_methods x_pickedPhase x_nodes x_missingNodes x_resolved : Int32} {x_methodName x_methodParams x_methodPlaces x_methodReturn x_methodConstant x_methodVarargs x_callName x_callArgc x_literalType : Nat → Int32} {x_literalValue : Nat → Int64} {x_subtreeEnd x_resultStatus x_resultMethod x_resultType x_resultPhase : Nat → Int32} {x_resultValue : Nat → Int64}
theorem xs_setResult {post : SX → Prop} {i : Nat} {s m t p : Int32} {w : Int64} (hi : i < 32) (h : post (x_methodCapacity, x_nodeCapacity, x_methods, x_pickedPhase, x_nodes, x_missingNodes, x_resolved, x_methodName, x_methodParams, x_methodPlaces, x_methodReturn, x_methodConstant, x_methodVarargs, x_callName, x_callArgc, x_literalType, x_literalValue, x_subtreeEnd, upd x_resultStatus i s, upd x_resultMethod i m, upd x_resultType i t, upd x_resultPhase i p, vp_updL x_resultValue i w)) : wpX_setResult post (x_methodCapacity, x_nodeCapacity, x_methods, x_pickedPhase, x_nodes, x_missingNodes, x_resolved, x_methodName, x_methodParams, x_methodPlaces, x_methodReturn, x_methodConstant, x_methodVarargs, x_callName, x_callArgc, x_literalType, x_literalValue, x_subtreeEnd, x_resultStatus, x_resultMethod, x_resultType, x_resultPhase, x_resultValue) (nI i) s m t p w := by
  have ec : (nI i).toNatClampNeg = i := nI_clamp (by omega)
  have hv : vp_in (nI i) 32 := vp_in_nI hi (by omega)
  unfold wpX_setResult
  refine ⟨hv, nm_r (e' := upd x_resultStatus i s) (by rw [ec]) ⟨hv, nm_r (e' := upd x_resultMethod i m) (by rw [ec]) ⟨hv, nm_r (e' := upd x_resultType i t) (by rw [ec]) ⟨hv, nm_r (e' := upd x_resultPhase i p) (by rw [ec]) ⟨hv, nm_r (e' := vp_updL x_resultValue i w) (by rw [ec]) ?_⟩⟩⟩⟩⟩
  exact h
theorem xr_98 {post : SX → Prop} {mc i c : Nat} {ln q : Nat → Nat} {x2 f x6 : Int32} {x3 : Int64} (h16 : mc ≤ 16) (hM : ov_M mc x_methodParams x_methodPlaces x_methodVarargs ln) (hrt : ∀ m, m < mc → ∃ t, 1 ≤ t ∧ t ≤ 14 ∧ x_methodReturn m = nI t) (hi : i < 32) (hc : c ≤ 4) (hT : ∀ a, a < c → x_resultStatus (q a) = 1 → ∃ t, 1 ≤ t ∧ t ≤ 14 ∧ x_resultType (q a) = nI t) (hL : ov_L q x_resultStatus x_resultType x_resultValue c x2 x3 f) (h : ∀ s m t p w, ov_O mc x_methodName x_methodPlaces x_methodVarargs x_methodReturn x_methodConstant ln (x_callName i) (ov_bad q x_resultStatus c) (nI (ov_zt (ov_tq x_resultType q) c)) c (ov_sm (ov_vq x_resultValue q) c) s m t p w → post (x_methodCapacity, x_nodeCapacity, nI mc, x_pickedPhase, x_nodes, x_missingNodes, x_resolved, x_methodName, x_methodParams, x_methodPlaces, x_methodReturn, x_methodConstant, x_methodVarargs, x_callName, x_callArgc, x_literalType, x_literalValue, upd x_subtreeEnd i x6, upd x_resultStatus i s, upd x_resultMethod i m, upd x_resultType i t, upd x_resultPhase i p, vp_updL x_resultValue i w)) : wX_resolveCall_98 post (nI i) x2 x3 f x6 x_methodCapacity x_nodeCapacity (nI mc) x_pickedPhase x_nodes x_missingNodes x_resolved x_methodName x_methodParams x_methodPlaces x_methodReturn x_methodConstant x_methodVarargs x_callName x_callArgc x_literalType x_literalValue x_subtreeEnd x_resultStatus x_resultMethod x_resultType x_resultPhase x_resultValue := by
  have ec : (nI i).toNatClampNeg = i := nI_clamp (by omega)
  have hv : vp_in (nI i) 32 := vp_in_nI hi (by omega)
  unfold wX_resolveCall_98
  refine ⟨hv, nm_r (e' := upd x_subtreeEnd i x6) (by rw [ec]) ?_⟩
  rcases hL with ⟨rfl, hs, rfl, rfl⟩ | ⟨rfl, hb⟩
  · have nb : ¬ ov_bad q x_resultStatus c := fun z => by
      obtain ⟨b, hb, z⟩ := z
      exact z (hs b hb)
    have hV : ov_V (nI (ov_zt (ov_tq x_resultType q) c)) c := by
      refine ov_zt_V _ (ov_tq_lt x_resultType q) c hc (fun b hb => ?_)
      obtain ⟨t, t1, t2, e⟩ := hT b hb (hs b hb)
      rw [ov_tq_eq e t2]
      exact ⟨t1, t2⟩
    refine br_t rfl ⟨hv, ?_⟩
    rw [ec]
    refine xs_decidingPhase h16 hM hV (fun d hd => ⟨hv, ?_⟩)
    refine xs_chooseMethod h16 hM hV (by have := ov_Ph_le hd; omega) (fun r hr => ?_)
    rcases ov_Ch_v hr with ⟨k, hk, rfl⟩ | e
    · have ek : (nI k).toNatClampNeg = k := nI_clamp (by omega)
      have hvk : vp_in (nI k) 16 := vp_in_nI (by omega) (by omega)
      obtain ⟨τ, τ1, τ2, et⟩ := hrt k hk
      refine br_t (nI_pos' (by omega)) ⟨hvk, nm_r (e' := nI τ) (by rw [ek, et]) ⟨hvk, ?_⟩⟩
      rw [ek]
      refine xs_narrow τ1 τ2 (xs_setResult hi ?_)
      exact h 1 (nI k) (nI τ) (nI d) _ (Or.inr ⟨nb, d, nI k, hd, hr, rfl, Or.inl ⟨k, τ, hk, rfl, τ1, τ2, et, rfl, rfl, rfl, rfl⟩⟩)
    · have n0 : ¬ 0 ≤ r := by
        rcases e with e | e <;> rw [e] <;> decide
      refine br_f n0 (xs_setResult hi ?_)
      exact h r (-1) 0 (nI d) 0 (Or.inr ⟨nb, d, r, hd, hr, rfl, Or.inr ⟨e, rfl, rfl, rfl, rfl⟩⟩)
  · refine br_f (by decide) (xs_setResult hi ?_)
    exact h (-3) (-1) 0 0 0 (Or.inl ⟨hb, rfl, rfl, rfl, rfl, rfl⟩)
theorem xr_loop {post : SX → Prop} {nc i c : Nat} {q : Nat → Nat} (hn : nc ≤ 32) (hi : i < nc) (hc : c ≤ 4) (hca : x_callArgc i = nI c) (hq : ∀ a, a < c → q a < nc) (hse : ∀ a, a < c → x_subtreeEnd (q a) = nI (q (a + 1))) (hT : ∀ a, a < c → x_resultStatus (q a) = 1 → ∃ t, 1 ≤ t ∧ t ≤ 14 ∧ x_resultType (q a) = nI t) (hfin : ∀ x2 x3 f, ov_L q x_resultStatus x_resultType x_resultValue c x2 x3 f → wX_resolveCall_98 post (nI i) x2 x3 f (nI (q c)) x_methodCapacity x_nodeCapacity x_methods x_pickedPhase (nI nc) x_missingNodes x_resolved x_methodName x_methodParams x_methodPlaces x_methodReturn x_methodConstant x_methodVarargs x_callName x_callArgc x_literalType x_literalValue x_subtreeEnd x_resultStatus x_resultMethod x_resultType x_resultPhase x_resultValue) : ∀ d a x2 x3 f, a + d = c → ov_L q x_resultStatus x_resultType x_resultValue a x2 x3 f → wX_resolveCall_15 post (nI i) x_methodCapacity x_nodeCapacity x_methods x_pickedPhase (nI nc) x_missingNodes x_resolved x_methodName x_methodParams x_methodPlaces x_methodReturn x_methodConstant x_methodVarargs x_callName x_callArgc x_literalType x_literalValue x_subtreeEnd x_resultStatus x_resultMethod x_resultType x_resultPhase x_resultValue (d + 1) x2 x3 f (nI (q a)) (nI a) := by
  have ec : (nI i).toNatClampNeg = i := nI_clamp (by omega)
  have hv : vp_in (nI i) 32 := vp_in_nI (by omega) (by omega)
  intro d
  induction d with
  | zero =>
    intro a x2 x3 f ha hL
    have e : a = c := by omega
    subst e
    refine ⟨hv, ?_⟩
    rw [ec, hca]
    exact br_t (nI_le (Nat.le_refl a) (by omega)) (hfin x2 x3 f hL)
  | succ d ih =>
    intro a x2 x3 f ha hL
    have hqa := hq a (by omega)
    have eq : (nI (q a)).toNatClampNeg = q a := nI_clamp (by omega)
    have hvq : vp_in (nI (q a)) 32 := vp_in_nI (by omega) (by omega)
    have hs := hse a (by omega)
    have next : ∀ y2 y3 z0, ov_L q x_resultStatus x_resultType x_resultValue (a + 1) y2 y3 z0 → wX_resolveCall_81 post (wX_resolveCall_15 post (nI i) x_methodCapacity x_nodeCapacity x_methods x_pickedPhase (nI nc) x_missingNodes x_resolved x_methodName x_methodParams x_methodPlaces x_methodReturn x_methodConstant x_methodVarargs x_callName x_callArgc x_literalType x_literalValue x_subtreeEnd x_resultStatus x_resultMethod x_resultType x_resultPhase x_resultValue (d + 1)) (nI i) y2 y3 (nI (q a)) (nI a) z0 x_methodCapacity x_nodeCapacity x_methods x_pickedPhase (nI nc) x_missingNodes x_resolved x_methodName x_methodParams x_methodPlaces x_methodReturn x_methodConstant x_methodVarargs x_callName x_callArgc x_literalType x_literalValue x_subtreeEnd x_resultStatus x_resultMethod x_resultType x_resultPhase x_resultValue := by
      intro y2 y3 z0 hL'
      exact ⟨hvq, nm_r (e' := nI (q (a + 1))) (by rw [eq]; exact hs) (nm_r (nI_1 a) (ih (a + 1) y2 y3 z0 (by omega) hL'))⟩
    refine ⟨hv, ?_⟩
    rw [ec, hca]
    refine br_f (nI_ge (by omega) (by omega)) (br_f (nI_ge hqa (by omega)) ⟨hvq, ?_⟩)
    rw [eq]
    refine nm_e ⟨hvq, nm_e ?_⟩
    rcases hL with ⟨rfl, hs', rfl, rfl⟩ | ⟨rfl, hb⟩
    · refine br_t rfl ⟨hvq, br_c (fun s1 => ?_) (fun s1 => next _ _ 1 (ov_L_b _ _ s1))⟩
      obtain ⟨t, t1, t2, e⟩ := hT a (by omega) s1
      exact next _ _ 0 (ov_L_g (by omega) hs' s1 t2 e)
    · exact br_f (by decide) (next _ _ 1 (ov_L_k _ _ hb))
theorem xs_resolveCall {post : SX → Prop} {mc nc i c : Nat} {ln E : Nat → Nat} (h16 : mc ≤ 16) (hM : ov_M mc x_methodParams x_methodPlaces x_methodVarargs ln) (hrt : ∀ m, m < mc → ∃ t, 1 ≤ t ∧ t ≤ 14 ∧ x_methodReturn m = nI t) (hn : nc ≤ 32) (hi : i < nc) (hc : c ≤ 4) (hca : x_callArgc i = nI c) (hq : ∀ a, a < c → ov_cs E i a < nc) (hse : ∀ a, a < c → x_subtreeEnd (ov_cs E i a) = nI (ov_cs E i (a + 1))) (hT : ∀ a, a < c → x_resultStatus (ov_cs E i a) = 1 → ∃ t, 1 ≤ t ∧ t ≤ 14 ∧ x_resultType (ov_cs E i a) = nI t) (h : ∀ s m t p w, ov_O mc x_methodName x_methodPlaces x_methodVarargs x_methodReturn x_methodConstant ln (x_callName i) (ov_bad (ov_cs E i) x_resultStatus c) (nI (ov_zt (ov_tq x_resultType (ov_cs E i)) c)) c (ov_sm (ov_vq x_resultValue (ov_cs E i)) c) s m t p w → post (x_methodCapacity, x_nodeCapacity, nI mc, x_pickedPhase, nI nc, x_missingNodes, x_resolved, x_methodName, x_methodParams, x_methodPlaces, x_methodReturn, x_methodConstant, x_methodVarargs, x_callName, x_callArgc, x_literalType, x_literalValue, upd x_subtreeEnd i (nI (ov_cs E i c)), upd x_resultStatus i s, upd x_resultMethod i m, upd x_resultType i t, upd x_resultPhase i p, vp_updL x_resultValue i w)) : wpX_resolveCall post (x_methodCapacity, x_nodeCapacity, nI mc, x_pickedPhase, nI nc, x_missingNodes, x_resolved, x_methodName, x_methodParams, x_methodPlaces, x_methodReturn, x_methodConstant, x_methodVarargs, x_callName, x_callArgc, x_literalType, x_literalValue, x_subtreeEnd, x_resultStatus, x_resultMethod, x_resultType, x_resultPhase, x_resultValue) (nI i) := by
  unfold wpX_resolveCall
  refine nm_r (nI_1 i) ⟨c + 1, ?_⟩
  exact xr_loop (q := ov_cs E i) hn hi hc hca hq hse hT (fun x2 x3 f hL => xr_98 h16 hM hrt (by omega) hc hT hL h) c 0 0 0 0 (by omega) ov_L_0
end
end
section
/-! ===== Y: resolve ===== -/
section
variable {y_capM y_capN y_mCount y_nCount y_pend y_lastPh y_resPh y_resolved : Int32} {y_mName y_mParams y_mRet y_mVar y_mConst y_nKind y_nA y_nB : Nat → Int32} {y_nLit : Nat → Int64} {y_nStat y_nMeth y_nType y_nPh : Nat → Int32} {y_nVal : Nat → Int64}
theorem ye_loop {post : Int32 → Prop} {nc j e : Nat} {g P : Nat → Nat} (hn : nc ≤ 32) (hP : ov_P g P nc) (hg : ∀ k, k < nc → y_nB k = nI (g k) ∧ g k ≤ 4) (hE : ov_E P j e) (he : e ≤ nc) (h : post (nI e)) : ∀ d k, k + d + 1 = e → j ≤ k → wY_subEnd_4 post y_capM y_capN y_mCount (nI nc) y_pend y_lastPh y_resPh y_resolved y_mName y_mParams y_mRet y_mVar y_mConst y_nKind y_nA y_nB y_nLit y_nStat y_nMeth y_nType y_nPh y_nVal (d + 1) (nI (P k + 1 - P j)) (nI k) := by
  have hb := ov_P_le hP (fun k hk => (hg k hk).2)
  have step : ∀ k, j ≤ k → k < e → nI (P k + 1 - P j) - 1 + nI (g k) = nI (P (k + 1) + 1 - P j) := by
    intro k h1 h2
    have a := hE.2.2 k h1 h2
    have b := (hP.2 k (by omega)).2
    show nI (P k + 1 - P j) - nI 1 + nI (g k) = _
    rw [pk_sub (by omega), nI_add]
    exact congrArg nI (by omega)
  intro d
  induction d with
  | zero =>
    intro k hk hj
    have ec : (nI k).toNatClampNeg = k := nI_clamp (by omega)
    have hv : vp_in (nI k) 32 := vp_in_nI (by omega) (by omega)
    have ee : k + 1 = e := by omega
    refine br_f (nI_ge (by omega) (by omega)) ⟨hv, nm_r (e' := nI (P (k + 1) + 1 - P j)) ?_ ?_⟩
    · rw [ec, (hg k (by omega)).1]
      exact step k hj (by omega)
    · have z : P (k + 1) + 1 - P j = 0 := by
        rw [ee]
        have := hE.2.1
        omega
      rw [z]
      refine br_t rfl ?_
      rw [nI_1, ee]
      exact h
  | succ d ih =>
    intro k hk hj
    have ec : (nI k).toNatClampNeg = k := nI_clamp (by omega)
    have hv : vp_in (nI k) 32 := vp_in_nI (by omega) (by omega)
    have c1 := hE.2.2 (k + 1) (by omega) (by omega)
    have c2 := hb (k + 1) (by omega)
    refine br_f (nI_ge (by omega) (by omega)) ⟨hv, nm_r (e' := nI (P (k + 1) + 1 - P j)) ?_ ?_⟩
    · rw [ec, (hg k (by omega)).1]
      exact step k hj (by omega)
    · exact br_f (nI_ne0 (by omega) (by omega)) (nm_r (nI_1 k) (ih (k + 1) (by omega) (by omega)))
theorem ys_subEnd {post : Int32 → Prop} {nc j e : Nat} {g P : Nat → Nat} (hn : nc ≤ 32) (hP : ov_P g P nc) (hg : ∀ k, k < nc → y_nB k = nI (g k) ∧ g k ≤ 4) (hE : ov_E P j e) (he : e ≤ nc) (h : post (nI e)) : wpY_subEnd post (y_capM, y_capN, y_mCount, nI nc, y_pend, y_lastPh, y_resPh, y_resolved, y_mName, y_mParams, y_mRet, y_mVar, y_mConst, y_nKind, y_nA, y_nB, y_nLit, y_nStat, y_nMeth, y_nType, y_nPh, y_nVal) (nI j) := by
  have a := hE.1
  have key : wY_subEnd_4 post y_capM y_capN y_mCount (nI nc) y_pend y_lastPh y_resPh y_resolved y_mName y_mParams y_mRet y_mVar y_mConst y_nKind y_nA y_nB y_nLit y_nStat y_nMeth y_nType y_nPh y_nVal (e - j - 1 + 1) (nI (P j + 1 - P j)) (nI j) := ye_loop hn hP hg hE he h (e - j - 1) j (by omega) (Nat.le_refl j)
  rw [show P j + 1 - P j = 1 from by omega] at key
  exact ⟨_, key⟩
theorem yr_157 {post : SY → Prop} {mc i c : Nat} {ln q : Nat → Nat} {pl : Nat → Int32} {x5 f : Int32} {x6 : Int64} (h16 : mc ≤ 16) (hM : ov_M mc y_mParams pl y_mVar ln) (hrt : ∀ m, m < mc → ∃ t, 1 ≤ t ∧ t ≤ 14 ∧ y_mRet m = nI t) (hi : i < 32) (hc : c ≤ 4) (hT : ∀ a, a < c → y_nStat (q a) = 1 → ∃ t, 1 ≤ t ∧ t ≤ 14 ∧ y_nType (q a) = nI t) (hL : ov_L q y_nStat y_nType y_nVal c x5 x6 f) (h : ∀ s m t p w rp, ov_O mc y_mName pl y_mVar y_mRet y_mConst ln (y_nA i) (ov_bad q y_nStat c) (nI (ov_zt (ov_tq y_nType q) c)) c (ov_sm (ov_vq y_nVal q) c) s m t p w → post (y_capM, y_capN, nI mc, y_nCount, y_pend, y_lastPh, rp, y_resolved, y_mName, y_mParams, y_mRet, y_mVar, y_mConst, y_nKind, y_nA, y_nB, y_nLit, upd y_nStat i s, upd y_nMeth i m, upd y_nType i t, upd y_nPh i p, vp_updL y_nVal i w)) : wY_resolveNode_157 post (nI i) f x5 x6 y_capM y_capN (nI mc) y_nCount y_pend y_lastPh y_resPh y_resolved y_mName y_mParams y_mRet y_mVar y_mConst y_nKind y_nA y_nB y_nLit y_nStat y_nMeth y_nType y_nPh y_nVal := by
  have ec : (nI i).toNatClampNeg = i := nI_clamp (by omega)
  have hv : vp_in (nI i) 32 := vp_in_nI hi (by omega)
  unfold wY_resolveNode_157
  rcases hL with ⟨rfl, hs, rfl, rfl⟩ | ⟨rfl, hb⟩
  · have nb : ¬ ov_bad q y_nStat c := fun z => by
      obtain ⟨b, hb, z⟩ := z
      exact z (hs b hb)
    have hV : ov_V (nI (ov_zt (ov_tq y_nType q) c)) c := by
      refine ov_zt_V _ (ov_tq_lt y_nType q) c hc (fun b hb => ?_)
      obtain ⟨t, t1, t2, e⟩ := hT b hb (hs b hb)
      rw [ov_tq_eq e t2]
      exact ⟨t1, t2⟩
    refine br_t rfl ⟨hv, ?_⟩
    rw [ec]
    refine ys_choose h16 hM hV (fun d r hd hr => ?_)
    rcases ov_Ch_v hr with ⟨k, hk, rfl⟩ | e
    · have ek : (nI k).toNatClampNeg = k := nI_clamp (by omega)
      have hvk : vp_in (nI k) 16 := vp_in_nI (by omega) (by omega)
      obtain ⟨τ, τ1, τ2, et⟩ := hrt k hk
      refine br_f (nI_pos (by omega)) ⟨hv, ?_⟩
      refine nm_r (e' := upd y_nStat i 1) rfl ⟨hv, ?_⟩
      refine nm_r (e' := upd y_nMeth i (nI k)) rfl ⟨hvk, hv, ?_⟩
      rw [ek, et]
      refine nm_r (e' := upd y_nType i (nI τ)) rfl ⟨hv, ?_⟩
      refine nm_r (e' := upd y_nPh i (nI d)) rfl ⟨hvk, hvk, ?_⟩
      refine ys_narrow τ1 τ2 ⟨hv, ?_⟩
      refine nm_r (e' := vp_updL y_nVal i (ov_N τ ((y_mConst k).toInt64 + ov_sm (ov_vq y_nVal q) c))) rfl ?_
      exact h 1 (nI k) (nI τ) (nI d) _ (nI d) (Or.inr ⟨nb, d, nI k, hd, hr, rfl, Or.inl ⟨k, τ, hk, rfl, τ1, τ2, et, rfl, rfl, rfl, rfl⟩⟩)
    · have n0 : r < 0 := by
        rcases e with e | e <;> rw [e] <;> decide
      refine br_t n0 ⟨hv, ?_⟩
      refine nm_r (e' := upd y_nStat i r) rfl ⟨hv, ?_⟩
      refine nm_r (e' := upd y_nMeth i (-1)) rfl ⟨hv, ?_⟩
      refine nm_r (e' := upd y_nType i 0) rfl ⟨hv, ?_⟩
      refine nm_r (e' := upd y_nPh i (nI d)) rfl ⟨hv, ?_⟩
      refine nm_r (e' := vp_updL y_nVal i 0) rfl ?_
      exact h r (-1) 0 (nI d) 0 (nI d) (Or.inr ⟨nb, d, r, hd, hr, rfl, Or.inr ⟨e, rfl, rfl, rfl, rfl⟩⟩)
  · refine br_f (by decide) ⟨hv, ?_⟩
    rw [ec]
    refine nm_r (e' := upd y_nStat i (-3)) rfl ⟨hv, ?_⟩
    refine nm_r (e' := upd y_nMeth i (-1)) rfl ⟨hv, ?_⟩
    refine nm_r (e' := upd y_nType i 0) rfl ⟨hv, ?_⟩
    refine nm_r (e' := upd y_nPh i 0) rfl ⟨hv, ?_⟩
    refine nm_r (e' := vp_updL y_nVal i 0) rfl ?_
    exact h (-3) (-1) 0 0 0 y_resPh (Or.inl ⟨hb, rfl, rfl, rfl, rfl, rfl⟩)
theorem yr_loop {post : SY → Prop} {nc i c : Nat} {q g P : Nat → Nat} (hn : nc ≤ 32) (hP : ov_P g P nc) (hg : ∀ k, k < nc → y_nB k = nI (g k) ∧ g k ≤ 4) (hc : c ≤ 4) (hq : ∀ a, a < c → q a < nc) (hE : ∀ a, a < c → ov_E P (q a) (q (a + 1)) ∧ q (a + 1) ≤ nc) (hT : ∀ a, a < c → y_nStat (q a) = 1 → ∃ t, 1 ≤ t ∧ t ≤ 14 ∧ y_nType (q a) = nI t) (hfin : ∀ x5 x6 f, ov_L q y_nStat y_nType y_nVal c x5 x6 f → wY_resolveNode_157 post (nI i) f x5 x6 y_capM y_capN y_mCount (nI nc) y_pend y_lastPh y_resPh y_resolved y_mName y_mParams y_mRet y_mVar y_mConst y_nKind y_nA y_nB y_nLit y_nStat y_nMeth y_nType y_nPh y_nVal) : ∀ d a x5 x6 f, a + d = c → ov_L q y_nStat y_nType y_nVal a x5 x6 f → wY_resolveNode_78 post (nI i) (nI c) y_capM y_capN y_mCount (nI nc) y_pend y_lastPh y_resPh y_resolved y_mName y_mParams y_mRet y_mVar y_mConst y_nKind y_nA y_nB y_nLit y_nStat y_nMeth y_nType y_nPh y_nVal (d + 1) (nI (q a)) f x5 x6 (nI a) := by
  intro d
  induction d with
  | zero =>
    intro a x5 x6 f ha hL
    have e : a = c := by omega
    subst e
    exact br_t (nI_le (Nat.le_refl a) (by omega)) (hfin x5 x6 f hL)
  | succ d ih =>
    intro a x5 x6 f ha hL
    have hqa := hq a (by omega)
    have eq : (nI (q a)).toNatClampNeg = q a := nI_clamp (by omega)
    have hvq : vp_in (nI (q a)) 32 := vp_in_nI (by omega) (by omega)
    have hs := hE a (by omega)
    have next : ∀ z y5 y6, ov_L q y_nStat y_nType y_nVal (a + 1) y5 y6 z → wY_resolveNode_145 post (wY_resolveNode_78 post (nI i) (nI c) y_capM y_capN y_mCount (nI nc) y_pend y_lastPh y_resPh y_resolved y_mName y_mParams y_mRet y_mVar y_mConst y_nKind y_nA y_nB y_nLit y_nStat y_nMeth y_nType y_nPh y_nVal (d + 1)) (nI i) (nI c) (nI (q a)) z y5 y6 (nI a) y_capM y_capN y_mCount (nI nc) y_pend y_lastPh y_resPh y_resolved y_mName y_mParams y_mRet y_mVar y_mConst y_nKind y_nA y_nB y_nLit y_nStat y_nMeth y_nType y_nPh y_nVal := by
      intro z y5 y6 hL'
      exact ys_subEnd hn hP hg hs.1 hs.2 (nm_r (nI_1 a) (ih (a + 1) y5 y6 z (by omega) hL'))
    refine br_f (nI_ge (by omega) (by omega)) (br_f (nI_pos (by omega)) (br_t (nI_lt hqa (by omega)) ⟨hvq, ?_⟩))
    rw [eq]
    rcases hL with ⟨rfl, hs', rfl, rfl⟩ | ⟨rfl, hb⟩
    · refine br_c (fun s1 => ⟨hvq, nm_e ⟨hvq, nm_e ?_⟩⟩) (fun s1 => next 1 _ _ (ov_L_b _ _ s1))
      obtain ⟨t, t1, t2, e⟩ := hT a (by omega) s1
      exact next 0 _ _ (ov_L_g (by omega) hs' s1 t2 e)
    · exact br_c (fun s1 => ⟨hvq, nm_e ⟨hvq, nm_e (next 1 _ _ (ov_L_k _ _ hb))⟩⟩) (fun s1 => next 1 _ _ (ov_L_k _ _ hb))
theorem ys_resolveCall {post : SY → Prop} {mc nc i c : Nat} {ln g P E : Nat → Nat} {pl : Nat → Int32} (h16 : mc ≤ 16) (hM : ov_M mc y_mParams pl y_mVar ln) (hrt : ∀ m, m < mc → ∃ t, 1 ≤ t ∧ t ≤ 14 ∧ y_mRet m = nI t) (hn : nc ≤ 32) (hi : i < nc) (hk : y_nKind i = 1) (hP : ov_P g P nc) (hg : ∀ k, k < nc → y_nB k = nI (g k) ∧ g k ≤ 4) (ec' : g i = c) (hq : ∀ a, a < c → ov_cs E i a < nc) (hE : ∀ a, a < c → ov_E P (ov_cs E i a) (ov_cs E i (a + 1)) ∧ ov_cs E i (a + 1) ≤ nc) (hT : ∀ a, a < c → y_nStat (ov_cs E i a) = 1 → ∃ t, 1 ≤ t ∧ t ≤ 14 ∧ y_nType (ov_cs E i a) = nI t) (h : ∀ s m t p w rp, ov_O mc y_mName pl y_mVar y_mRet y_mConst ln (y_nA i) (ov_bad (ov_cs E i) y_nStat c) (nI (ov_zt (ov_tq y_nType (ov_cs E i)) c)) c (ov_sm (ov_vq y_nVal (ov_cs E i)) c) s m t p w → post (y_capM, y_capN, nI mc, nI nc, y_pend, y_lastPh, rp, y_resolved, y_mName, y_mParams, y_mRet, y_mVar, y_mConst, y_nKind, y_nA, y_nB, y_nLit, upd y_nStat i s, upd y_nMeth i m, upd y_nType i t, upd y_nPh i p, vp_updL y_nVal i w)) : wpY_resolveNode post (y_capM, y_capN, nI mc, nI nc, y_pend, y_lastPh, y_resPh, y_resolved, y_mName, y_mParams, y_mRet, y_mVar, y_mConst, y_nKind, y_nA, y_nB, y_nLit, y_nStat, y_nMeth, y_nType, y_nPh, y_nVal) (nI i) := by
  have ec : (nI i).toNatClampNeg = i := nI_clamp (by omega)
  have hv : vp_in (nI i) 32 := vp_in_nI (by omega) (by omega)
  have hc := (hg i hi).2
  unfold wpY_resolveNode
  refine ⟨hv, ?_⟩
  rw [ec]
  refine br_f (by rw [hk]; decide) ⟨hv, nm_r (e' := nI c) (by rw [(hg i hi).1, ec']) (nm_r (nI_1 i) ⟨c + 1, ?_⟩)⟩
  exact yr_loop (q := ov_cs E i) hn hP hg (by omega) hq hE hT (fun x5 x6 f hL => yr_157 h16 hM hrt (by omega) (by omega) hT hL h) c 0 0 0 0 (by omega) ov_L_0
theorem ys_resolveLit {post : SY → Prop} {i : Nat} (hi : i < 32) (hk : y_nKind i = 0) (h : post (y_capM, y_capN, y_mCount, y_nCount, y_pend, y_lastPh, y_resPh, y_resolved, y_mName, y_mParams, y_mRet, y_mVar, y_mConst, y_nKind, y_nA, y_nB, y_nLit, upd y_nStat i 1, upd y_nMeth i (-1), upd y_nType i (y_nA i), upd y_nPh i 0, vp_updL y_nVal i (y_nLit i))) : wpY_resolveNode post (y_capM, y_capN, y_mCount, y_nCount, y_pend, y_lastPh, y_resPh, y_resolved, y_mName, y_mParams, y_mRet, y_mVar, y_mConst, y_nKind, y_nA, y_nB, y_nLit, y_nStat, y_nMeth, y_nType, y_nPh, y_nVal) (nI i) := by
  have ec : (nI i).toNatClampNeg = i := nI_clamp (by omega)
  have hv : vp_in (nI i) 32 := vp_in_nI hi (by omega)
  unfold wpY_resolveNode
  refine ⟨hv, ?_⟩
  rw [ec]
  refine br_t hk ⟨hv, ?_⟩
  refine nm_r (e' := upd y_nStat i 1) rfl ⟨hv, ?_⟩
  refine nm_r (e' := upd y_nMeth i (-1)) rfl ⟨hv, hv, ?_⟩
  refine nm_r (e' := upd y_nType i (y_nA i)) rfl ⟨hv, ?_⟩
  refine nm_r (e' := upd y_nPh i 0) rfl ⟨hv, hv, ?_⟩
  exact nm_r (e' := vp_updL y_nVal i (y_nLit i)) rfl h
end
end
section
/-! ===== resolve ===== -/
def ov_Inv (P : Nat → Nat) (nc k : Nat) (se st ty : Nat → Int32) : Prop := ∀ j, k ≤ j → j < nc → (∃ e, e ≤ nc ∧ se j = nI e ∧ ov_E P j e) ∧ (st j = 1 → ∃ t, 1 ≤ t ∧ t ≤ 14 ∧ ty j = nI t)
theorem ov_Inv_s {P : Nat → Nat} {nc k e : Nat} {se st ty : Nat → Int32} {s t : Int32} (h : ov_Inv P nc (k + 1) se st ty) (he : e ≤ nc) (hE : ov_E P k e) (ht : s = 1 → ∃ τ, 1 ≤ τ ∧ τ ≤ 14 ∧ t = nI τ) : ov_Inv P nc k (upd se k (nI e)) (upd st k s) (upd ty k t) := by
  intro j h1 h2
  by_cases q : j = k
  · subst q
    rw [pk_us, pk_us, pk_us]
    exact ⟨⟨e, he, rfl, hE⟩, ht⟩
  · rw [pk_un q, pk_un q, pk_un q]
    exact h j (by omega) h2
theorem ov_run {cm cn mc nc : Nat} {ln g P : Nat → Nat} {ph rs : Int32} {nm pm pl rt co vr cN ca lt nk na : Nat → Int32} {lv nl : Nat → Int64} (h16 : mc ≤ 16) (h32 : nc ≤ 32) (hM : ov_M mc pm pl vr ln) (hrt : ∀ m, m < mc → ∃ t, 1 ≤ t ∧ t ≤ 14 ∧ rt m = nI t) (hNd : ov_Nd nc cN ca lt nk na lv nl g) (hP : ov_P g P nc) (h0 : P nc = 0) : ∀ k, k ≤ nc → ∀ (se st me ty pp : Nat → Int32) (va : Nat → Int64), ov_Inv P nc k se st ty → ∃ (se' st' me' ty' pp' : Nat → Int32) (va' : Nat → Int64), (∀ post : Int32 → SX → Prop, post (st' 0) (nI cm, nI cn, nI mc, ph, nI nc, nI (P nc), 1, nm, pm, pl, rt, co, vr, cN, ca, lt, lv, se', st', me', ty', pp', va') → wX_resolve_17 post (k + 1) (nI k + (-1)) (nI cm) (nI cn) (nI mc) ph (nI nc) (nI (P nc)) rs nm pm pl rt co vr cN ca lt lv se st me ty pp va) ∧ (∀ (rp : Int32) (post : Int32 → SY → Prop), (∀ rp', post (st' 0) (nI cm, nI cn, nI mc, nI nc, nI (P nc), ph, rp', 1, nm, pm, rt, vr, co, nk, na, ca, nl, st', me', ty', pp', va')) → wY_resolve_17 post (k + 1) (nI k + (-1)) (nI cm) (nI cn) (nI mc) (nI nc) (nI (P nc)) ph rp rs nm pm rt vr co nk na ca nl st me ty pp va) := by
  intro k
  induction k with
  | zero =>
    intro _ se st me ty pp va _
    have z : nI 0 + (-1) < 0 := by decide
    exact ⟨se, st, me, ty, pp, va, fun post h => br_t z h, fun rp post h => br_t z (h rp)⟩
  | succ k ih =>
    intro hk se st me ty pp va hI
    have ec : (nI k).toNatClampNeg = k := nI_clamp (by omega)
    have hv : vp_in (nI k) 32 := vp_in_nI (by omega) (by omega)
    have hn : ¬ nI k < 0 := nI_pos (by omega)
    obtain ⟨hca, hg4, hnode⟩ := hNd k (by omega)
    rcases hnode with ⟨k0, c0, lt0, lv0, g0, t, t1, t2, na0⟩ | ⟨k1, c1, c2⟩
    · have hE : ov_E P k (k + 1) := by
        have := ov_K_0 hP (i := k) (by omega)
        rw [g0] at this
        exact ov_K_e this
      obtain ⟨se', st', me', ty', pp', va', hX, hY⟩ := ih (by omega) (upd se k (nI (k + 1))) (upd st k 1) (upd me k (-1)) (upd ty k (na k)) (upd pp k 0) (vp_updL va k (nl k)) (ov_Inv_s hI hk hE (fun _ => ⟨t, t1, t2, na0⟩))
      refine ⟨se', st', me', ty', pp', va', fun post h => ?_, fun rp post h => ?_⟩
      · rw [pk_m1]
        refine br_f hn ⟨hv, ?_⟩
        rw [ec, lt0, lv0]
        refine br_t c0 ⟨hv, nm_r (e' := upd se k (nI (k + 1))) (by rw [nI_1]) ⟨hv, hv, xs_setResult (by omega) ?_⟩⟩
        exact nm_e (hX post h)
      · rw [pk_m1]
        refine br_f hn (ys_resolveLit (by omega) k0 ?_)
        exact nm_e (hY rp post h)
    · have hE : ∀ j, k < j → j < nc → se j = nI (se j).toNatClampNeg ∧ (se j).toNatClampNeg ≤ nc ∧ ov_E P j (se j).toNatClampNeg := by
        intro j h1 h2
        obtain ⟨⟨e, e1, e2, e3⟩, _⟩ := hI j h1 h2
        have e4 : (se j).toNatClampNeg = e := by
          rw [e2]
          exact nI_clamp (by omega)
        rw [e4]
        exact ⟨e2, e1, e3⟩
      have hQ := ov_q (E := fun j => (se j).toNatClampNeg) hP h0 (i := k) (by omega) (fun j h1 h2 => (hE j h1 h2).2)
      generalize hEE : (fun j => (se j).toNatClampNeg) = E at hQ
      have hE' : ∀ j, k < j → j < nc → se j = nI (E j) ∧ E j ≤ nc ∧ ov_E P j (E j) := by
        rw [← hEE]
        exact hE
      have hq : ∀ a, a < g k → ov_cs E k a < nc := fun a ha => ov_K_in hP h0 (by omega) (hQ a (by omega)).1 ha (hQ a (by omega)).2
      have hgt : ∀ a, a < g k → k < ov_cs E k a := fun a ha => (hQ a (by omega)).1.1
      have hse : ∀ a, a < g k → se (ov_cs E k a) = nI (ov_cs E k (a + 1)) := fun a ha => (hE' _ (hgt a ha) (hq a ha)).1
      have hEa : ∀ a, a < g k → ov_E P (ov_cs E k a) (ov_cs E k (a + 1)) ∧ ov_cs E k (a + 1) ≤ nc := fun a ha => ⟨(hE' _ (hgt a ha) (hq a ha)).2.2, (hE' _ (hgt a ha) (hq a ha)).2.1⟩
      have hT : ∀ a, a < g k → st (ov_cs E k a) = 1 → ∃ t, 1 ≤ t ∧ t ≤ 14 ∧ ty (ov_cs E k a) = nI t := fun a ha => (hI _ (hgt a ha) (hq a ha)).2
      obtain ⟨s, m, t, p, w, hO⟩ := ov_O_ex mc nm pl vr rt co ln (cN k) (ov_bad (ov_cs E k) st (g k)) (nI (ov_zt (ov_tq ty (ov_cs E k)) (g k))) (g k) (ov_sm (ov_vq va (ov_cs E k)) (g k)) hrt
      obtain ⟨se', st', me', ty', pp', va', hX, hY⟩ := ih (by omega) (upd se k (nI (ov_cs E k (g k)))) (upd st k s) (upd me k m) (upd ty k t) (upd pp k p) (vp_updL va k w) (ov_Inv_s hI (hQ (g k) (Nat.le_refl _)).2 (ov_K_e (hQ (g k) (Nat.le_refl _)).1) (ov_O_t hO))
      refine ⟨se', st', me', ty', pp', va', fun post h => ?_, fun rp post h => ?_⟩
      · rw [pk_m1]
        refine br_f hn ⟨hv, ?_⟩
        rw [ec]
        refine br_f c2 (xs_resolveCall h16 hM hrt h32 (by omega) hg4 hca hq hse hT (fun s' m' t' p' w' hO' => ?_))
        obtain ⟨rfl, rfl, rfl, rfl, rfl⟩ := ov_O_u h16 hO hO'
        exact nm_e (hX post h)
      · rw [pk_m1]
        refine br_f hn (ys_resolveCall h16 hM hrt h32 (by omega) k1 hP (fun j hj => ⟨(hNd j hj).1, (hNd j hj).2.1⟩) rfl hq hEa hT (fun s' m' t' p' w' rp' hO' => ?_))
        rw [← c1] at hO'
        obtain ⟨rfl, rfl, rfl, rfl, rfl⟩ := ov_O_u h16 hO hO'
        exact nm_e (hY rp' post h)
theorem i_vc_resolve {k : Nat} {u : SX} {v : SY} (I : i_Rel k u v) (hk : k + 5 ≤ 2562) : wpX_resolve (fun r u' => wpY_resolve (fun r' v' => r' = r ∧ i_Rel (k + 5) u' v') v) u := by
  have J : i_Rel (k + 5) u v := I
  obtain ⟨cm, cn, mc, nc, ln, g, P, ph, rp, rs, nm, pm, pl, rt, co, vr, cN, ca, lt, nk, na, lv, nl, se, st, me, ty, pp, va, rfl, rfl, h16, h32, hmc, hnc, hM, hrt, hNd, hP⟩ := I
  have o0 : ¬ ((1 : Int32) = 0) := by decide
  have hb := ov_P_b hNd hP hnc h32
  unfold wpX_resolve
  refine xs_isComplete (by omega) hb (fun c => br_f o0 ?_) (fun c => br_t rfl ?_)
  · obtain ⟨se', st', me', ty', pp', va', hX, hY⟩ := ov_run (cm := cm) (cn := cn) (ph := ph) (rs := rs) (co := co) (lt := lt) (lv := lv) (by omega) (by omega) hM hrt hNd hP c.2 nc (Nat.le_refl nc) se st me ty pp va (fun j h1 h2 => absurd h2 (by omega))
    refine nm_r (Int32.sub_eq_add_neg _ _) ⟨nc + 1, hX _ ?_⟩
    show wpY_resolve (fun r' v' => r' = st' 0 ∧ i_Rel (k + 5) _ v') _
    unfold wpY_resolve
    refine ys_complete (by omega) hb (fun _ => br_f o0 (nm_r (Int32.sub_eq_add_neg _ _) ⟨nc + 1, hY rp _ (fun rp' => ⟨rfl, ?_⟩)⟩)) (fun d => absurd c d)
    exact ⟨cm, cn, mc, nc, ln, g, P, ph, rp', 1, nm, pm, pl, rt, co, vr, cN, ca, lt, nk, na, lv, nl, se', st', me', ty', pp', va', rfl, rfl, h16, h32, hmc, hnc, hM, hrt, hNd, hP⟩
  · unfold wpY_resolve
    exact ys_complete (by omega) hb (fun d => absurd d c) (fun _ => br_t rfl ⟨rfl, J⟩)
end
