/-! ===== the arguments of a call ===== -/
theorem ov_q {g P E : Nat → Nat} {nc i : Nat} (hP : ov_P g P nc) (h0 : P nc = 0) (hi : i < nc) (hE : ∀ j, i < j → j < nc → E j ≤ nc ∧ ov_E P j (E j)) : ∀ a, a ≤ g i → ov_K P i (g i) a (ov_cs E i a) ∧ ov_cs E i a ≤ nc := by
  intro a
  induction a with
  | zero =>
    intro _
    exact ⟨ov_K_0 hP hi, hi⟩
  | succ a ih =>
    intro ha
    obtain ⟨hk, hl⟩ := ih (by omega)
    have hin := ov_K_in hP h0 hi hk (by omega) hl
    obtain ⟨e1, e2⟩ := hE _ hk.1 hin
    exact ⟨ov_K_s hk (by omega) e2, e1⟩
def ov_tq (ty : Nat → Int32) (q : Nat → Nat) (b : Nat) : Nat := min (ty (q b)).toNatClampNeg 15
def ov_vq (va : Nat → Int64) (q : Nat → Nat) (b : Nat) : Int64 := va (q b)
theorem ov_tq_lt (ty : Nat → Int32) (q : Nat → Nat) (b : Nat) : ov_tq ty q b < 16 := by
  have : ov_tq ty q b ≤ 15 := Nat.min_le_right _ _
  omega
theorem ov_tq_eq {ty : Nat → Int32} {q : Nat → Nat} {b t : Nat} (h : ty (q b) = nI t) (ht : t ≤ 14) : ov_tq ty q b = t := by
  unfold ov_tq
  rw [h, nI_clamp (by omega)]
  exact Nat.min_eq_left (by omega)
/-- what is known after a arguments: all is well, and their types and sum; or one has failed -/
def ov_L (q : Nat → Nat) (st ty : Nat → Int32) (va : Nat → Int64) (a : Nat) (x2 : Int32) (x3 : Int64) (f : Int32) : Prop := (f = 0 ∧ (∀ b, b < a → st (q b) = 1) ∧ x2 = nI (ov_zt (ov_tq ty q) a) ∧ x3 = ov_sm (ov_vq va q) a) ∨ (f = 1 ∧ ∃ b, b < a ∧ ¬ st (q b) = 1)
theorem ov_L_0 {q : Nat → Nat} {st ty : Nat → Int32} {va : Nat → Int64} : ov_L q st ty va 0 0 0 0 := Or.inl ⟨rfl, fun b hb => absurd hb (by omega), rfl, rfl⟩
theorem ov_L_b {q : Nat → Nat} {st ty : Nat → Int32} {va : Nat → Int64} {a : Nat} (x2 : Int32) (x3 : Int64) (h : ¬ st (q a) = 1) : ov_L q st ty va (a + 1) x2 x3 1 := Or.inr ⟨rfl, a, by omega, h⟩
theorem ov_L_k {q : Nat → Nat} {st ty : Nat → Int32} {va : Nat → Int64} {a : Nat} (x2 : Int32) (x3 : Int64) (h : ∃ b, b < a ∧ ¬ st (q b) = 1) : ov_L q st ty va (a + 1) x2 x3 1 := by
  obtain ⟨b, hb, hs⟩ := h
  exact Or.inr ⟨rfl, b, by omega, hs⟩
theorem ov_L_g {q : Nat → Nat} {st ty : Nat → Int32} {va : Nat → Int64} {a t : Nat} (ha : a < 8) (hs : ∀ b, b < a → st (q b) = 1) (h1 : st (q a) = 1) (ht : t ≤ 14) (e : ty (q a) = nI t) : ov_L q st ty va (a + 1) (nI (ov_zt (ov_tq ty q) a) ||| (ty (q a) <<< (4 * nI a &&& 31))) (ov_sm (ov_vq va q) a + va (q a)) 0 := by
  refine Or.inl ⟨rfl, ov_lt_s hs h1, ?_, rfl⟩
  rw [e, ov_put ha (ov_zt_lt _ (ov_tq_lt ty q) a) (by omega)]
  show _ = nI (ov_zt (ov_tq ty q) a + ov_tq ty q a * 2 ^ (4 * a))
  rw [ov_tq_eq e ht]
/-- the outcome of a call node -/
def ov_O (mc : Nat) (nm pl vr rt co : Nat → Int32) (ln : Nat → Nat) (x : Int32) (bad : Prop) (z : Int32) (n : Nat) (sum : Int64) (s m t p : Int32) (w : Int64) : Prop :=
  (bad ∧ s = -3 ∧ m = -1 ∧ t = 0 ∧ p = 0 ∧ w = 0) ∨ (¬ bad ∧ ∃ d r, ov_Ph mc (ov_T nm pl vr ln x z n) d ∧ ov_Ch mc (ov_W nm pl vr ln mc x z n d) d r ∧ p = nI d ∧ ((∃ k τ, k < mc ∧ r = nI k ∧ 1 ≤ τ ∧ τ ≤ 14 ∧ rt k = nI τ ∧ s = 1 ∧ m = nI k ∧ t = nI τ ∧ w = ov_N τ ((co k).toInt64 + sum)) ∨ ((r = -1 ∨ r = -2) ∧ s = r ∧ m = -1 ∧ t = 0 ∧ w = 0)))
theorem ov_nn1 {k : Nat} (h : k < 2 ^ 31) : ¬ nI k = -1 := fun e => nI_pos h (by rw [e]; decide)
theorem ov_nn2 {k : Nat} (h : k < 2 ^ 31) : ¬ nI k = -2 := fun e => nI_pos h (by rw [e]; decide)
theorem ov_O_u {mc : Nat} (h16 : mc ≤ 16) {nm pl vr rt co : Nat → Int32} {ln : Nat → Nat} {x : Int32} {bad : Prop} {z : Int32} {n : Nat} {sum : Int64} {s m t p s' m' t' p' : Int32} {w w' : Int64} (h : ov_O mc nm pl vr rt co ln x bad z n sum s m t p w) (h' : ov_O mc nm pl vr rt co ln x bad z n sum s' m' t' p' w') : s' = s ∧ m' = m ∧ t' = t ∧ p' = p ∧ w' = w := by
  rcases h with ⟨b, rfl, rfl, rfl, rfl, rfl⟩ | ⟨b, d, r, hd, hr, rfl, h⟩
  · rcases h' with ⟨b', rfl, rfl, rfl, rfl, rfl⟩ | ⟨b', _⟩
    · exact ⟨rfl, rfl, rfl, rfl, rfl⟩
    · exact absurd b b'
  · rcases h' with ⟨b', _⟩ | ⟨b', d', r', hd', hr', rfl, h'⟩
    · exact absurd b' b
    · have e := ov_Ph_u hd hd'
      subst e
      have e2 := ov_Ch_u hr hr'
      subst e2
      rcases h with ⟨k, τ, hk, e, τ1, τ2, ht, rfl, rfl, rfl, rfl⟩ | ⟨e, rfl, rfl, rfl, rfl⟩
      · rcases h' with ⟨k', τ', hk', e', τ1', τ2', ht', rfl, rfl, rfl, rfl⟩ | ⟨e', _⟩
        · rw [e] at e'
          have ek := (nI_eq (by omega) (by omega)).mp e'
          subst ek
          rw [ht] at ht'
          have et := (nI_eq (by omega) (by omega)).mp ht'
          subst et
          exact ⟨rfl, rfl, rfl, rfl, rfl⟩
        · rcases e' with e' | e'
          · exact absurd (e.symm.trans e') (ov_nn1 (by omega))
          · exact absurd (e.symm.trans e') (ov_nn2 (by omega))
      · rcases h' with ⟨k', τ', hk', e', τ1', τ2', ht', rfl, rfl, rfl, rfl⟩ | ⟨e', rfl, rfl, rfl, rfl⟩
        · rcases e with e | e
          · exact absurd (e'.symm.trans e) (ov_nn1 (by omega))
          · exact absurd (e'.symm.trans e) (ov_nn2 (by omega))
        · exact ⟨rfl, rfl, rfl, rfl, rfl⟩
theorem ov_O_ex (mc : Nat) (nm pl vr rt co : Nat → Int32) (ln : Nat → Nat) (x : Int32) (bad : Prop) (z : Int32) (n : Nat) (sum : Int64) (hrt : ∀ m, m < mc → ∃ t, 1 ≤ t ∧ t ≤ 14 ∧ rt m = nI t) : ∃ s m t p w, ov_O mc nm pl vr rt co ln x bad z n sum s m t p w := by
  by_cases b : bad
  · exact ⟨-3, -1, 0, 0, 0, Or.inl ⟨b, rfl, rfl, rfl, rfl, rfl⟩⟩
  · obtain ⟨d, hd⟩ := ov_Ph_ex mc (ov_T nm pl vr ln x z n)
    obtain ⟨r, hr⟩ := ov_Ch_ex mc (ov_W nm pl vr ln mc x z n d) d
    rcases ov_Ch_v hr with ⟨k, hk, e⟩ | e
    · obtain ⟨τ, τ1, τ2, ht⟩ := hrt k hk
      exact ⟨1, nI k, nI τ, nI d, _, Or.inr ⟨b, d, r, hd, hr, rfl, Or.inl ⟨k, τ, hk, e, τ1, τ2, ht, rfl, rfl, rfl, rfl⟩⟩⟩
    · exact ⟨r, -1, 0, nI d, 0, Or.inr ⟨b, d, r, hd, hr, rfl, Or.inr ⟨e, rfl, rfl, rfl, rfl⟩⟩⟩
theorem ov_O_t {mc : Nat} {nm pl vr rt co : Nat → Int32} {ln : Nat → Nat} {x : Int32} {bad : Prop} {z : Int32} {n : Nat} {sum : Int64} {s m t p : Int32} {w : Int64} (h : ov_O mc nm pl vr rt co ln x bad z n sum s m t p w) (hs : s = 1) : ∃ τ, 1 ≤ τ ∧ τ ≤ 14 ∧ t = nI τ := by
  rcases h with ⟨b, e, _⟩ | ⟨b, d, r, hd, hr, _, ⟨k, τ, hk, e, τ1, τ2, ht, _, _, et, _⟩ | ⟨e, er, _⟩⟩
  · rw [e] at hs
    exact absurd hs (by decide)
  · exact ⟨τ, τ1, τ2, et⟩
  · rw [hs] at er
    rcases e with e | e
    · exact absurd (er.trans e) (by decide)
    · exact absurd (er.trans e) (by decide)
def ov_bad (q : Nat → Nat) (st : Nat → Int32) (c : Nat) : Prop := ∃ b, b < c ∧ ¬ st (q b) = 1
