theorem ts_bit {w : Int64} {s : UInt64} {j : Nat} (hj : j < 64) (hs : s.toNat = j) : ((w.toUInt64 >>> s).toInt64 &&& 1) = 0 ↔ w.toBitVec.getLsbD j = false := by
  have e : (w.toUInt64 >>> s).toInt64.toBitVec = w.toBitVec >>> j := by
    apply BitVec.eq_of_toNat_eq
    show (w.toUInt64 >>> s).toNat = _
    rw [UInt64.toNat_shiftRight, hs, Nat.mod_eq_of_lt hj, BitVec.toNat_ushiftRight]
    rfl
  rw [← Int64.toBitVec_inj, Int64.toBitVec_and, e]
  show w.toBitVec >>> j &&& 1#64 = 0#64 ↔ _
  constructor
  · intro h
    have t := congrArg (fun x => x.getLsbD 0) h
    simpa using t
  · intro h
    apply BitVec.eq_of_getLsbD_eq
    intro i hi
    cases i with
    | zero => simp [h]
    | succ i => simp
theorem wb_cu : ∀ k, k < 64 → ((nI k).toInt64.toUInt64 &&& Int64.toUInt64 63) = UInt64.ofNat k := by decide +kernel
/-! ===== the law's readings of the script ===== -/
def la_c (L : Nat) (xs : Nat → Int32) (k : Nat) : Int32 := if k < L then xs k else 0
theorem la_cell {post : Int32 → Prop} {L k : Nat} {xs : Nat → Int32} {p : Int32} (hL : L ≤ 260) (hp : p = nI k) (hk : k < 2 ^ 30) (h : post (la_c L xs k)) : wpL_cell post L xs () p := by
  subst hp
  unfold la_c at h
  refine pk_le L k (fun a => ?_) (fun a => ⟨vp_in_nI a (by omega), ?_⟩)
  · rw [if_neg (by omega)] at h
    exact h
  · rw [if_pos a] at h
    rw [nI_clamp (by omega)]
    exact h
def la_pv (x : Int32) (m : Nat) : Nat := x.toBitVec.toNat % 2 ^ 31 % m
theorem la_pv_lt (x : Int32) {m : Nat} (h : 0 < m) : la_pv x m < m := Nat.mod_lt _ h
theorem la_pos {post : Int32 → Prop} {x p : Int32} {m : Nat} (hp : p = nI m) (h0 : 0 < m) (hm : m < 2 ^ 31) (h : post (nI (la_pv x m))) : wpL_pos post () x p := by
  subst hp
  refine ⟨nI_ne0 h0 hm, ?_⟩
  have hx : x.toBitVec.toNat % 2 ^ 31 < 2 ^ 31 := Nat.mod_lt _ (by decide)
  rw [pk_and x 31 (by decide), pk_rem hx h0 hm]
  exact h
def la_tt (x : Int32) (i : Nat) : Nat := ov_nb x i % 14 + 1
theorem la_tt_in (x : Int32) (i : Nat) : 1 ≤ la_tt x i ∧ la_tt x i ≤ 14 := by
  unfold la_tt
  have := Nat.mod_lt (ov_nb x i) (by decide : 14 > 0)
  omega
theorem la_tt_lt (x : Int32) (i : Nat) : la_tt x i < 16 := by
  have := la_tt_in x i
  omega
theorem la_enc_loop {post : Int32 → Prop} {x : Int32} {k : Nat} (hk : k ≤ 4) (h : post (nI (ov_zt (la_tt x) k))) : ∀ d i, i + d = k → wL_enc_4 post x (nI k) (d + 1) (nI (ov_zt (la_tt x) i)) (nI i) := by
  intro d
  induction d with
  | zero =>
    intro i hi
    have e : i = k := by omega
    subst e
    exact br_t (nI_le (Nat.le_refl i) (by omega)) h
  | succ d ih =>
    intro i hi
    have hn := ov_nb_lt x i
    refine br_f (nI_ge (by omega) (by omega)) ⟨by decide, ?_⟩
    refine nm_r (e' := nI (la_tt x i)) ?_ (nm_r (ov_put (by omega) (ov_zt_lt _ (la_tt_lt x) i) (la_tt_lt x i)) (nm_r (nI_1 i) (ih (i + 1) (by omega))))
    rw [ov_ty x (by omega)]
    show nI (ov_nb x i) - nI (ov_nb x i) / nI 14 * nI 14 + 1 = _
    rw [pk_rem (by omega) (by decide) (by decide), nI_1]
    rfl
theorem la_enc {post : Int32 → Prop} {x : Int32} {k : Nat} (hk : k ≤ 4) (h : post (nI (ov_zt (la_tt x) k))) : wpL_enc post () x (nI k) :=
  ⟨k + 1, la_enc_loop hk h k 0 (by omega)⟩
theorem la_enc_V (x : Int32) {k : Nat} (hk : k ≤ 4) : ov_V (nI (ov_zt (la_tt x) k)) k := ov_zt_V _ (la_tt_lt x) k hk (fun b _ => la_tt_in x b)
def la_nm (L : Nat) (xs : Nat → Int32) (j : Nat) : Nat := la_pv (la_c L xs (1 + 4 * j)) 3
def la_k (L : Nat) (xs : Nat → Int32) (j : Nat) : Nat := la_pv (la_c L xs (2 + 4 * j)) 5
def la_pa (L : Nat) (xs : Nat → Int32) (j : Nat) : Int32 := nI (ov_zt (la_tt (la_c L xs (3 + 4 * j))) (la_k L xs j))
def la_vz (L : Nat) (xs : Nat → Int32) (j : Nat) : Int32 := if 0 < la_k L xs j ∧ (la_c L xs (4 + 4 * j)) &&& 1 = 1 then 1 else 0
def la_r0 (L : Nat) (xs : Nat → Int32) (j : Nat) : Nat := la_pv ((la_c L xs (4 + 4 * j)).toUInt32 >>> ((1 : Int32).toUInt32 &&& Int32.toUInt32 31)).toInt32 14
def la_rt (L : Nat) (xs : Nat → Int32) (j : Nat) : Int32 := if la_vz L xs j = 0 then (nI (la_r0 L xs j) + 1) ||| 0 else (nI (la_r0 L xs j) + 1) ||| 16
theorem la_k_le (L : Nat) (xs : Nat → Int32) (j : Nat) : la_k L xs j ≤ 4 := by
  have := la_pv_lt (la_c L xs (2 + 4 * j)) (m := 5) (by decide)
  unfold la_k
  omega
theorem la_pa_V (L : Nat) (xs : Nat → Int32) (j : Nat) : ov_V (la_pa L xs j) (la_k L xs j) := la_enc_V _ (la_k_le L xs j)
theorem la_ix (a b j : Nat) : nI a + nI b * nI j = nI (a + b * j) := by rw [pk_mul, nI_add]
section
variable {L : Nat} {xs : Nat → Int32}
theorem la_aName {post : Int32 → Prop} {j : Nat} (hL : L ≤ 260) (hj : j < 1000) (h : post (nI (la_nm L xs j))) : wpL_aName post L xs () (nI j) :=
  la_cell hL (la_ix 1 4 j) (by omega) (la_pos (m := 3) rfl (by decide) (by decide) h)
theorem la_aK {post : Int32 → Prop} {j : Nat} (hL : L ≤ 260) (hj : j < 1000) (h : post (nI (la_k L xs j))) : wpL_aK post L xs () (nI j) :=
  la_cell hL (la_ix 2 4 j) (by omega) (la_pos (m := 5) rfl (by decide) (by decide) h)
theorem la_aParams {post : Int32 → Prop} {j : Nat} (hL : L ≤ 260) (hj : j < 1000) (h : post (la_pa L xs j)) : wpL_aParams post L xs () (nI j) :=
  la_cell hL (la_ix 3 4 j) (by omega) (la_aK hL hj (la_enc (la_k_le L xs j) h))
theorem la_aVar {post : Int32 → Prop} {j : Nat} (hL : L ≤ 260) (hj : j < 1000) (h : post (la_vz L xs j)) : wpL_aVar post L xs () (nI j) := by
  unfold la_vz at h
  have hk := la_k_le L xs j
  refine la_aK hL hj (pk_le (la_k L xs j) 0 (fun a => ?_) (fun a => la_cell hL (la_ix 4 4 j) (by omega) (br_c (fun b => ?_) (fun b => ?_))))
  · rw [if_neg (fun z => absurd z.1 (by omega))] at h
    exact h
  · rw [if_pos ⟨a, b⟩] at h
    exact h
  · rw [if_neg (fun z => b z.2)] at h
    exact h
theorem la_aRet {post : Int32 → Prop} {j : Nat} (hL : L ≤ 260) (hj : j < 1000) (h : post (la_rt L xs j)) : wpL_aRet post L xs () (nI j) := by
  unfold la_rt at h
  refine la_cell hL (la_ix 4 4 j) (by omega) (la_pos (m := 14) rfl (by decide) (by decide) (la_aVar hL hj (br_c (fun a => ?_) (fun a => ?_))))
  · rw [if_pos a] at h
    exact h
  · rw [if_neg a] at h
    exact h
theorem la_vz01 (j : Nat) : la_vz L xs j = 0 ∨ la_vz L xs j = 1 := by
  unfold la_vz
  by_cases h : 0 < la_k L xs j ∧ (la_c L xs (4 + 4 * j)) &&& 1 = 1
  · exact Or.inr (if_pos h)
  · exact Or.inl (if_neg h)
theorem la_z0 : ∀ t, t < 14 → ((nI t + 1) ||| 0) &&& 16 = 0 := by decide +kernel
theorem la_z1 : ∀ t, t < 14 → ¬ (((nI t + 1) ||| 16) &&& 16 = 0) := by decide +kernel
theorem la_rt_z (j : Nat) : ov_z (la_rt L xs j) = la_vz L xs j := by
  have ht : la_r0 L xs j < 14 := la_pv_lt _ (by decide)
  unfold ov_z la_rt
  rcases la_vz01 (L := L) (xs := xs) j with e | e
  · rw [if_pos e, if_pos (la_z0 _ ht), e]
  · have n : ¬ la_vz L xs j = 0 := by rw [e]; decide
    rw [if_neg n, if_neg (la_z1 _ ht), e]
end
/-! ===== the accepted attempts: aj m is the m-th ===== -/
def la_At (mk : Int64) (aj : Nat → Nat) (mc J : Nat) : Prop := (∀ m, m < mc → aj m < J) ∧ (∀ m q, m < q → q < mc → aj m < aj q) ∧ (∀ b, b < 64 → (mk.toBitVec.getLsbD b = true ↔ ∃ m, m < mc ∧ aj m = b))
theorem la_cu {k : Nat} (h : k < 64) : ((nI k).toInt64.toUInt64 &&& Int64.toUInt64 63).toNat = k := by
  rw [wb_cu k h]
  exact Nat.mod_eq_of_lt (by omega)
theorem la_att_loop {post : Int32 → Prop} {mk : Int64} {aj : Nat → Nat} {mc J m : Nat} (hA : la_At mk aj mc J) (hJ : J ≤ 10) (hm : m < mc) (h16 : mc ≤ 16) (h : post (nI (aj m))) : ∀ d j c, j + d = 10 → c ≤ m → (∀ i, i < c → aj i < j) → j ≤ aj c → wL_attemptOf_5 post mk (nI m) (d + 1) (nI c) (nI j) := by
  intro d
  induction d with
  | zero =>
    intro j c hj hc ha hb
    have := hA.1 c (by omega)
    omega
  | succ d ih =>
    intro j c hj hc ha hb
    refine br_f (nI_ge (b := 10) (by omega) (by decide)) (br_c (fun z => ?_) (fun z => ?_))
    · rw [ts_bit (by omega) (la_cu (by omega))] at z
      refine nm_r (nI_1 j) (ih (j + 1) c (by omega) hc (fun i hi => by have := ha i hi; omega) ?_)
      have ne : aj c ≠ j := fun e => by
        have := (hA.2.2 j (by omega)).mpr ⟨c, by omega, e⟩
        rw [this] at z
        exact absurd z (by decide)
      omega
    · rw [ts_bit (by omega) (la_cu (by omega))] at z
      obtain ⟨q, hq, eq⟩ := (hA.2.2 j (by omega)).mp (by revert z; cases mk.toBitVec.getLsbD j <;> simp)
      have cq : c ≤ q := by
        rcases Nat.lt_or_ge q c with w | w
        · have := ha q w
          omega
        · exact w
      have ec : aj c = j := by
        rcases Nat.lt_or_ge c q with w | w
        · have := hA.2.1 c q w hq
          omega
        · have : c = q := by omega
          rw [this]
          exact eq
      refine pk_eq c m (fun e => ?_) (fun e => nm_r (nI_1 c) (nm_r (nI_1 j) (ih (j + 1) (c + 1) (by omega) (by omega) (fun i hi => ?_) ?_)))
      · rw [← ec, e]
        exact h
      · by_cases ei : i = c
        · rw [ei, ec]
          omega
        · have := ha i (by omega)
          omega
      · have := hA.2.1 c (c + 1) (by omega) (by omega)
        omega
theorem la_attemptOf {post : Int32 → Prop} {mk : Int64} {aj : Nat → Nat} {mc J m : Nat} (hA : la_At mk aj mc J) (hJ : J ≤ 10) (hm : m < mc) (h16 : mc ≤ 16) (h : post (nI (aj m))) : wpL_attemptOf post () mk (nI m) :=
  ⟨11, la_att_loop hA hJ hm h16 h 10 0 0 (by omega) (by omega) (fun i hi => absurd hi (by omega)) (by omega)⟩
