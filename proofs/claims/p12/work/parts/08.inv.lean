def ov_Inv (P : Nat → Nat) (nc k : Nat) (se st ty : Nat → Int32) : Prop := ∀ j, k ≤ j → j < nc → (∃ e, e ≤ nc ∧ se j = nI e ∧ ov_E P j e) ∧ (st j = 1 → ∃ t, 1 ≤ t ∧ t ≤ 14 ∧ ty j = nI t)
theorem ov_Inv_s {P : Nat → Nat} {nc k e : Nat} {se st ty : Nat → Int32} {s t : Int32} (h : ov_Inv P nc (k + 1) se st ty) (he : e ≤ nc) (hE : ov_E P k e) (ht : s = 1 → ∃ τ, 1 ≤ τ ∧ τ ≤ 14 ∧ t = nI τ) : ov_Inv P nc k (upd se k (nI e)) (upd st k s) (upd ty k t) := by
  intro j h1 h2
  by_cases q : j = k
  · subst q
    rw [pk_us, pk_us, pk_us]
    exact ⟨⟨e, he, rfl, hE⟩, ht⟩
  · rw [pk_un q, pk_un q, pk_un q]
    exact h j (by omega) h2
