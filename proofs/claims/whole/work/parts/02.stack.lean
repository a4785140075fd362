/-! the blocks that have begun before a place, the innermost first; where they end -/
def cp_O (K : Nat → Nat) : Nat → List Nat
  | 0 => []
  | p + 1 => if K p = 4 ∨ K p = 6 then p :: cp_O K p else if K p = 8 then (cp_O K p).tail else cp_O K p
theorem cp_O_in {K : Nat → Nat} {p : Nat} (h : K p = 4 ∨ K p = 6) : cp_O K (p + 1) = p :: cp_O K p := by
  rw [cp_O, if_pos h]
theorem cp_O_end {K : Nat → Nat} {p : Nat} (h : K p = 8) : cp_O K (p + 1) = (cp_O K p).tail := by
  rw [cp_O, if_neg (by omega), if_pos h]
theorem cp_O_st {K : Nat → Nat} {p : Nat} (h4 : K p ≠ 4) (h6 : K p ≠ 6) (h8 : K p ≠ 8) : cp_O K (p + 1) = cp_O K p := by
  rw [cp_O, if_neg (by omega), if_neg h8]
theorem cp_O_congr {K K' : Nat → Nat} {n : Nat} (h : ∀ j, j < n → K j = K' j) : ∀ p, p ≤ n → cp_O K p = cp_O K' p := by
  intro p
  induction p with
  | zero => intro _; rfl
  | succ p ih =>
    intro hp
    rw [cp_O, cp_O, h p (by omega), ih (by omega)]
theorem cp_chain (K : Nat → Nat) : ∀ p b t, (b :: t) <:+ cp_O K p → t = cp_O K b ∧ b < p ∧ (K b = 4 ∨ K b = 6) := by
  intro p
  induction p with
  | zero =>
    intro b t h
    have h' : (b :: t) <:+ ([] : List Nat) := h
    rw [List.suffix_nil] at h'
    exact absurd h' (List.cons_ne_nil _ _)
  | succ p ih =>
    intro b t h
    by_cases h46 : K p = 4 ∨ K p = 6
    · rw [cp_O_in h46, List.suffix_cons_iff] at h
      cases h with
      | inl h =>
        obtain ⟨rfl, rfl⟩ := List.cons.inj h
        exact ⟨rfl, Nat.lt_succ_self _, h46⟩
      | inr h =>
        obtain ⟨h1, h2, h3⟩ := ih b t h
        exact ⟨h1, by omega, h3⟩
    · by_cases h8 : K p = 8
      · rw [cp_O_end h8] at h
        obtain ⟨h1, h2, h3⟩ := ih b t (h.trans (List.tail_suffix _))
        exact ⟨h1, by omega, h3⟩
      · rw [cp_O_st (by omega) (by omega) h8] at h
        obtain ⟨h1, h2, h3⟩ := ih b t h
        exact ⟨h1, by omega, h3⟩
theorem cp_O_head {K : Nat → Nat} {p b : Nat} {t : List Nat} (h : cp_O K p = b :: t) : t = cp_O K b ∧ b < p ∧ (K b = 4 ∨ K b = 6) :=
  cp_chain K p b t (by rw [h]; exact List.suffix_rfl)
theorem cp_O_mem {K : Nat → Nat} {p b : Nat} (h : b ∈ cp_O K p) : (b :: cp_O K b) <:+ cp_O K p ∧ b < p ∧ (K b = 4 ∨ K b = 6) := by
  obtain ⟨s, t, e⟩ := List.append_of_mem h
  have hs : (b :: t) <:+ cp_O K p := ⟨s, e.symm⟩
  obtain ⟨rfl, h2, h3⟩ := cp_chain K p b t hs
  exact ⟨hs, h2, h3⟩
theorem cp_O_old (K : Nat → Nat) (q : Nat) : ∀ d x, x ∈ cp_O K (q + d) → x ∈ cp_O K q ∨ q ≤ x := by
  intro d
  induction d with
  | zero => intro x h; exact Or.inl h
  | succ d ih =>
    intro x h
    have h' : x ∈ cp_O K (q + d + 1) := h
    by_cases h46 : K (q + d) = 4 ∨ K (q + d) = 6
    · rw [cp_O_in h46] at h'
      cases List.mem_cons.mp h' with
      | inl e => exact Or.inr (by omega)
      | inr e => exact ih x e
    · by_cases h8 : K (q + d) = 8
      · rw [cp_O_end h8] at h'
        exact ih x (List.mem_of_mem_tail h')
      · rw [cp_O_st (by omega) (by omega) h8] at h'
        exact ih x h'
theorem cp_O_self (K : Nat → Nat) (b : Nat) : ¬ b ∈ cp_O K b := fun h => by
  have := (cp_O_mem h).2.1
  omega
/-- a block that has ended does not begin again -/
theorem cp_gone {K : Nat → Nat} {q n b : Nat} {t : List Nat} (h8 : K q = 8) (hq : cp_O K q = b :: t) (hn : q < n) : ¬ b ∈ cp_O K n := fun h => by
  obtain ⟨d, rfl⟩ : ∃ d, n = (q + 1) + d := ⟨n - (q + 1), by omega⟩
  obtain ⟨ht, hb, _⟩ := cp_O_head hq
  cases cp_O_old K (q + 1) d b h with
  | inl h =>
    rw [cp_O_end h8, hq, List.tail_cons, ht] at h
    exact cp_O_self K b h
  | inr h => omega
def cp_ok (K : Nat → Nat) (q : Nat) : Prop :=
  K q ≤ 8 ∧ ((K q = 4 ∨ K q = 6) → (cp_O K q).length < 3) ∧
  (K q = 5 → ∃ b t, cp_O K q = b :: t ∧ K b = 4 ∧ ∀ e, e < q → K e = 5 → cp_O K e ≠ cp_O K q) ∧
  (K q = 7 → ∃ b, b ∈ cp_O K q ∧ K b = 6) ∧
  (K q = 8 → cp_O K q ≠ [])
def cp_wf (K : Nat → Nat) (c : Nat) : Prop := c ≤ 24 ∧ (∀ j, c ≤ j → K j = 8) ∧ ∀ q, q < c → cp_ok K q
def cp_M (K : Nat → Nat) (c : Nat) : Nat := c + (cp_O K c).length
theorem cp_ok_congr {K K' : Nat → Nat} {q : Nat} (h : ∀ j, j ≤ q → K j = K' j) (H : cp_ok K q) : cp_ok K' q := by
  have hO : ∀ p, p ≤ q + 1 → cp_O K p = cp_O K' p := cp_O_congr fun j hj => h j (by omega)
  obtain ⟨h1, h2, h3, h4, h5⟩ := H
  unfold cp_ok
  rw [← h q (Nat.le_refl _), ← hO q (by omega)]
  refine ⟨h1, h2, fun z => ?_, fun z => ?_, h5⟩
  · obtain ⟨b, t, e1, e2, e3⟩ := h3 z
    have hb : b < q := (cp_O_head e1).2.1
    refine ⟨b, t, e1, by rw [← h b (by omega)]; exact e2, fun e he h5 => ?_⟩
    rw [← hO e (by omega)]
    exact e3 e he (by rw [h e (by omega)]; exact h5)
  · obtain ⟨b, e1, e2⟩ := h4 z
    have hb : b < q := (cp_O_mem e1).2.1
    exact ⟨b, e1, by rw [← h b (by omega)]; exact e2⟩
theorem cp_len {K : Nat → Nat} {c : Nat} (W : cp_wf K c) : ∀ p, (cp_O K p).length ≤ 3 := by
  intro p
  induction p with
  | zero => exact Nat.zero_le _
  | succ p ih =>
    by_cases h46 : K p = 4 ∨ K p = 6
    · have hp : p < c := by
        by_cases hp : p < c
        · exact hp
        · have := W.2.1 p (by omega)
          omega
      have := (W.2.2 p hp).2.1 h46
      rw [cp_O_in h46, List.length_cons]
      omega
    · by_cases h8 : K p = 8
      · rw [cp_O_end h8, List.length_tail]
        omega
      · rw [cp_O_st (by omega) (by omega) h8]
        exact ih
theorem cp_lenE {K : Nat → Nat} {c : Nat} (W : cp_wf K c) : ∀ i, cp_O K (c + i) = (cp_O K c).drop i := by
  intro i
  induction i with
  | zero => rfl
  | succ i ih =>
    show cp_O K (c + i + 1) = _
    rw [cp_O_end (W.2.1 _ (by omega)), ih, List.tail_drop]
theorem cp_lenM {K : Nat → Nat} {c p : Nat} (W : cp_wf K c) (hp : c ≤ p) : (cp_O K p).length = cp_M K c - p := by
  obtain ⟨i, rfl⟩ : ∃ i, p = c + i := ⟨p - c, by omega⟩
  rw [cp_lenE W, List.length_drop]
  unfold cp_M
  omega
theorem cp_M_le {K : Nat → Nat} {c : Nat} (W : cp_wf K c) : c ≤ cp_M K c ∧ cp_M K c ≤ 27 := by
  have h1 := cp_len W c
  have h2 := W.1
  unfold cp_M
  omega
theorem cp_OM {K : Nat → Nat} {c : Nat} (W : cp_wf K c) : cp_O K (cp_M K c) = [] := by
  apply List.length_eq_zero_iff.mp
  rw [cp_lenM W (cp_M_le W).1]
  omega
theorem cp_okM {K : Nat → Nat} {c q : Nat} (W : cp_wf K c) (hq : q < cp_M K c) : cp_ok K q := by
  by_cases h : q < c
  · exact W.2.2 q h
  · have h8 := W.2.1 q (by omega)
    refine ⟨by omega, fun z => by omega, fun z => by omega, fun z => by omega, fun _ z => ?_⟩
    have := cp_lenM W (p := q) (by omega)
    rw [z] at this
    simp only [List.length_nil] at this
    omega
/-- every block ends -/
theorem cp_end_ex {K : Nat → Nat} {M b : Nat} (hM : cp_O K M = []) (hk : K b = 4 ∨ K b = 6) (hb : b < M) :
    ∃ e, b < e ∧ e < M ∧ K e = 8 ∧ cp_O K e = b :: cp_O K b ∧ ∀ k, b < k → k ≤ e → (b :: cp_O K b) <:+ cp_O K k := by
  have aux : ∀ d k, k + d = M → b < k → (∀ j, b < j → j ≤ k → (b :: cp_O K b) <:+ cp_O K j) →
      ∃ e, b < e ∧ e < M ∧ K e = 8 ∧ cp_O K e = b :: cp_O K b ∧ ∀ k, b < k → k ≤ e → (b :: cp_O K b) <:+ cp_O K k := by
    intro d
    induction d with
    | zero =>
      intro k hk hbk hs
      have h := hs k hbk (Nat.le_refl _)
      have : k = M := by omega
      rw [this, hM, List.suffix_nil] at h
      exact absurd h (List.cons_ne_nil _ _)
    | succ d ih =>
      intro k hkd hbk hs
      have h := hs k hbk (Nat.le_refl _)
      by_cases hE : K k = 8 ∧ cp_O K k = b :: cp_O K b
      · exact ⟨k, hbk, by omega, hE.1, hE.2, hs⟩
      · refine ih (k + 1) (by omega) (by omega) fun j hj1 hj2 => ?_
        by_cases hj : j ≤ k
        · exact hs j hj1 hj
        · have : j = k + 1 := by omega
          subst this
          by_cases h46 : K k = 4 ∨ K k = 6
          · rw [cp_O_in h46]
            exact h.trans (List.suffix_cons _ _)
          · by_cases h8 : K k = 8
            · rw [cp_O_end h8]
              have hne : ¬ cp_O K k = b :: cp_O K b := fun z => hE ⟨h8, z⟩
              revert h hne
              cases cp_O K k with
              | nil => intro h _; rw [List.suffix_nil] at h; exact absurd h (List.cons_ne_nil _ _)
              | cons x t =>
                intro h hne
                rw [List.suffix_cons_iff] at h
                cases h with
                | inl h => exact absurd h.symm hne
                | inr h => exact h
            · rw [cp_O_st (by omega) (by omega) h8]
              exact h
  refine aux (M - (b + 1)) (b + 1) (by omega) (by omega) fun j hj1 hj2 => ?_
  have : j = b + 1 := by omega
  subst this
  rw [cp_O_in hk]
  exact List.suffix_rfl
/-- the tables: where a block ends (E), its ELSE or 0 (F), the block of an ELSE, a BREAK, an END (B) -/
def cp_T (K : Nat → Nat) (M : Nat) (E F B : Nat → Nat) : Prop :=
  (∀ b, b < M → (K b = 4 ∨ K b = 6) → b < E b ∧ E b < M ∧ K (E b) = 8 ∧ cp_O K (E b) = b :: cp_O K b ∧ ∀ k, b < k → k ≤ E b → (b :: cp_O K b) <:+ cp_O K k) ∧
  (∀ q, q < M → (K q = 5 ∨ K q = 8) → cp_O K q = B q :: cp_O K (B q)) ∧
  (∀ q, q < M → K q = 7 → ∃ s, cp_O K q = s ++ B q :: cp_O K (B q) ∧ K (B q) = 6 ∧ ∀ x, x ∈ s → K x ≠ 6) ∧
  (∀ b, b < M → K b = 4 → F b ≠ 0 → b < F b ∧ F b < M ∧ K (F b) = 5 ∧ cp_O K (F b) = b :: cp_O K b) ∧
  (∀ q, q < M → K q = 5 → F (B q) = q)
