/-! where the reference's search ends -/
def cp_tg (K : Nat → Nat) (S : List Nat) (oe : Prop) (k e : Nat) : Prop :=
  k ≤ e ∧ (K e = 8 ∨ (oe ∧ K e = 5)) ∧ cp_O K e = S ∧ (∀ j, k ≤ j → j ≤ e → S <:+ cp_O K j) ∧ ∀ j, k ≤ j → j < e → ¬ (cp_O K j = S ∧ (K j = 8 ∨ (oe ∧ K j = 5)))
section
variable {K E F B : Nat → Nat} {M b k : Nat}
theorem tg_end (T : cp_T K M E F B) (hb : b < M) (hk : K b = 4 ∨ K b = 6) (h1 : b < k) (h2 : k ≤ E b) : cp_tg K (b :: cp_O K b) False k (E b) := by
  obtain ⟨a1, a2, a3, a4, a5⟩ := T.1 b hb hk
  refine ⟨h2, Or.inl a3, a4, fun j hj1 hj2 => a5 j (by omega) hj2, fun j hj1 hj2 z => ?_⟩
  have h8 : K j = 8 := by
    cases z.2 with
    | inl h => exact h
    | inr h => exact h.1.elim
  exact cp_gone h8 z.1 hj2 (by rw [a4]; exact List.mem_cons_self ..)
theorem tg_else0 (T : cp_T K M E F B) (hb : b < M) (hk : K b = 4) (hF : F b = 0) : cp_tg K (b :: cp_O K b) True (b + 1) (E b) := by
  obtain ⟨a1, a2, a3, a4, a5⟩ := T.1 b hb (Or.inl hk)
  refine ⟨a1, Or.inl a3, a4, fun j hj1 hj2 => a5 j (by omega) hj2, fun j hj1 hj2 z => ?_⟩
  cases z.2 with
  | inl h8 => exact cp_gone h8 z.1 hj2 (by rw [a4]; exact List.mem_cons_self ..)
  | inr h =>
    have h5 := T.2.1 j (by omega) (Or.inl h.2)
    rw [z.1] at h5
    have e := (List.cons.inj h5).1
    have h6 := T.2.2.2.2 j (by omega) h.2
    rw [← e, hF] at h6
    omega
theorem tg_else1 (T : cp_T K M E F B) (hb : b < M) (hk : K b = 4) (hF : F b ≠ 0) : cp_tg K (b :: cp_O K b) True (b + 1) (F b) := by
  obtain ⟨a1, a2, a3, a4, a5⟩ := T.1 b hb (Or.inl hk)
  obtain ⟨f1, f2, f3, f4⟩ := T.2.2.2.1 b hb hk hF
  have hFE : F b ≤ E b := by
    by_cases h : F b ≤ E b
    · exact h
    · exact absurd (by rw [f4]; exact List.mem_cons_self ..) (cp_gone a3 a4 (show E b < F b by omega))
  refine ⟨f1, Or.inr ⟨trivial, f3⟩, f4, fun j hj1 hj2 => a5 j (by omega) (by omega), fun j hj1 hj2 z => ?_⟩
  cases z.2 with
  | inl h8 => exact cp_gone h8 z.1 hj2 (by rw [f4]; exact List.mem_cons_self ..)
  | inr h =>
    have h5 := T.2.1 j (by omega) (Or.inl h.2)
    rw [z.1] at h5
    have e := (List.cons.inj h5).1
    have h6 := T.2.2.2.2 j (by omega) h.2
    rw [← e] at h6
    omega
end
/-! Euclid's rounds -/
theorem cp_half {l m k : Nat} (hm : 0 < m) (hml : m ≤ l) (h : l < 2 ^ (k + 1)) : l % m < 2 ^ k := by
  have h1 := Nat.mod_lt l hm
  have h2 := Nat.div_add_mod l m
  have h3 : 1 ≤ l / m := (Nat.le_div_iff_mul_le hm).mpr (by omega)
  have h4 := Nat.mul_le_mul_left m h3
  have h5 : 2 ^ (k + 1) = 2 * 2 ^ k := by rw [Nat.pow_succ, Nat.mul_comm]
  generalize m * (l / m) = y at *
  omega
