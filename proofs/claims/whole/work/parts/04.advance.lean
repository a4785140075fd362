/-! a step keeps the machine's facts, and time grows -/
def cp_dat (K A N : Nat → Nat) (V : Nat → Nat → Nat) : Prop := ∀ q, ((K q = 0 ∨ K q = 1 ∨ K q = 2) → A q < 3) ∧ (K q = 1 → N q ≤ 16) ∧ (K q = 6 → 1 ≤ N q ∧ N q ≤ 3) ∧ ((K q = 0 ∨ K q = 3 ∨ K q = 4) → ∀ s, s < 64 → V q s < 4)
def cp_I (K : Nat → Nat) (M x p s r g : Nat) (L : Nat → Int32) : Prop := p ≤ M ∧ s < 64 ∧ r ≤ 6 ∧ g ≤ 16 ^ r ∧ x < 27 ∧ ∀ b, b ∈ cp_O K p → K b = 6 → L b = nI (3 - x / 3 ^ (cp_O K b).length % 3)
def cp_G (K A N E F B : Nat → Nat) (V : Nat → Nat → Nat) (M c : Nat) : Prop := cp_wf K c ∧ M = cp_M K c ∧ cp_T K M E F B ∧ cp_dat K A N V
section
variable {K A N E F B : Nat → Nat} {V : Nat → Nat → Nat} {M c : Nat} {dg : Nat → Nat} {x p p' s r g s' r' g' b : Nat} {e : Int32} {L L' z : Nat → Int32} {l t : List Nat}
theorem cp_ow_le (D : cp_dat K A N V) (h : K p = 1 ∨ K p = 2) (o : Nat) : cp_ow K N p o ≤ 16 := by
  have := (D p).2.1
  unfold cp_ow
  split
  · omega
  · split
    · omega
    · split <;> omega
theorem cp_ow_sum (D : cp_dat K A N V) (h : K p = 1 ∨ K p = 2) : cp_ow K N p 0 + cp_ow K N p 1 + cp_ow K N p 2 + cp_ow K N p 3 ≤ 16 := by
  have := (D p).2.1
  unfold cp_ow
  by_cases h2 : K p = 2
  · simp only [h2, if_true]; omega
  · simp only [h2, if_false]
    simp
    omega
theorem cp_dep (hb : b ∈ cp_O K p) : (cp_O K b).length < (cp_O K p).length := by
  have := (cp_O_mem hb).1.length_le
  rw [List.length_cons] at this
  omega
theorem cp_keep (I : cp_I K M x p s r g L) (hO : cp_O K p' = cp_O K p) (h : p < p') (hp : p' ≤ M) (hs : s' < 64) (hr : r' ≤ 6) (hg : g' ≤ 16 ^ r') :
    ∃ x', cp_I K M x' p' s' r' g' L ∧ cp_tm K x p < cp_tm K x' p' := by
  obtain ⟨i1, i2, i3, i4, i5, i6⟩ := I
  exact ⟨x, ⟨hp, hs, hr, hg, i5, by rw [hO]; exact i6⟩, cp_tA hO h⟩
theorem cp_leave (I : cp_I K M x p s r g L) (hM : M ≤ 27) (hl : (cp_O K p).length ≤ 3) (hO : cp_O K p = l ++ b :: t) (hO' : cp_O K p' = t) (h : b < p') (hp : p' ≤ M)
    (hL : ∀ a, a ∈ t → L' a = L a) : ∃ x', cp_I K M x' p' s r g L' ∧ cp_tm K x p < cp_tm K x' p' := by
  obtain ⟨i1, i2, i3, i4, i5, i6⟩ := I
  refine ⟨x, ⟨hp, i2, i3, i4, i5, fun a ha h6 => ?_⟩, cp_tC hO hO' hl (by omega) h⟩
  rw [hO'] at ha
  rw [hL a ha]
  exact i6 a (by rw [hO]; exact List.mem_append_right _ (List.mem_cons_of_mem _ ha)) h6
theorem cp_pushI (I : cp_I K M x p s r g L) (hl : (cp_O K p).length < 3) (hk : K p = 4) (hO : cp_O K p' = p :: cp_O K p) (h : p < p') (hp : p' ≤ M) :
    ∃ x', cp_I K M x' p' s r g L ∧ cp_tm K x p < cp_tm K x' p' := by
  obtain ⟨i1, i2, i3, i4, i5, i6⟩ := I
  refine ⟨x, ⟨hp, i2, i3, i4, i5, fun a ha h6 => ?_⟩, cp_tB hO hl h fun _ _ => rfl⟩
  rw [hO] at ha
  cases List.mem_cons.mp ha with
  | inl ha => subst ha; omega
  | inr ha => exact i6 a ha h6
theorem cp_sl_dig {x' : Nat} (h : x' / 3 ^ (cp_O K b).length % 3 = x / 3 ^ (cp_O K b).length % 3) : cp_sl K x b = cp_sl K x' b := by
  unfold cp_sl
  rw [h]
theorem cp_adv (G : cp_G K A N E F B V M c) (hd : ∀ j, dg j < 4) (I : cp_I K M x p s r g L) (hp : p < M) :
    ∃ x', cp_I K M x' (cp_step K A N E F B V dg p s r g e L z).1 (cp_step K A N E F B V dg p s r g e L z).2.1 (cp_step K A N E F B V dg p s r g e L z).2.2.1 (cp_step K A N E F B V dg p s r g e L z).2.2.2.1 (cp_step K A N E F B V dg p s r g e L z).2.2.2.2.2.1 ∧
      cp_tm K x p < cp_tm K x' (cp_step K A N E F B V dg p s r g e L z).1 := by
  obtain ⟨W, rfl, ⟨T1, T2, T3, T4, T5⟩, D⟩ := G
  have hM := (cp_M_le W).2
  have hlen := cp_len W
  obtain ⟨k8, kin, k5, k7, kE⟩ := cp_okM W hp
  have I' := I
  obtain ⟨i1, i2, i3, i4, i5, i6⟩ := I'
  have hE : ∀ q, q < cp_M K c → (K q = 4 ∨ K q = 6) → cp_O K (E q + 1) = cp_O K q ∧ q < E q + 1 ∧ E q + 1 ≤ cp_M K c := fun q hq hk => by
    obtain ⟨a1, a2, a3, a4, _⟩ := T1 q hq hk
    refine ⟨?_, by omega, by omega⟩
    rw [cp_O_end a3, a4, List.tail_cons]
  by_cases h0 : K p = 0
  · rw [cp_s0 h0]
    dsimp only
    exact cp_keep I (cp_O_st (by omega) (by omega) (by omega)) (by omega) (by omega) (cp_asg_lt _ ((D p).1 (by omega)) _ ((D p).2.2.2 (by omega) s i2) _ i2) i3 i4
  by_cases hR : K p = 1 ∨ K p = 2
  · rw [cp_sR hR]
    have hO : cp_O K (p + 1) = cp_O K p := cp_O_st (by omega) (by omega) (by omega)
    by_cases h6 : r = 6
    · rw [if_pos h6]
      dsimp only
      exact cp_keep I hO (by omega) (by omega) i2 i3 i4
    · rw [if_neg h6]
      have hg : g * cp_ow K N p (dg r) ≤ 16 ^ (r + 1) := by
        rw [Nat.pow_succ]
        exact Nat.mul_le_mul i4 (cp_ow_le D hR _)
      by_cases hw : cp_ow K N p (dg r) = 0
      · rw [if_pos hw]
        dsimp only
        refine cp_keep I hO (by omega) (by omega) i2 (by omega) (Nat.le_trans i4 (Nat.pow_le_pow_right (by omega) (by omega)))
      · rw [if_neg hw]
        dsimp only
        exact cp_keep I hO (by omega) (by omega) (cp_asg_lt _ ((D p).1 (by omega)) _ (hd r) _ i2) (by omega) hg
  by_cases h3 : K p = 3
  · rw [cp_s3 h3]
    dsimp only
    exact cp_keep I (cp_O_st (by omega) (by omega) (by omega)) (by omega) (by omega) i2 i3 i4
  by_cases h4 : K p = 4
  · rw [cp_s4 h4]
    have hl := kin (Or.inl h4)
    by_cases hV : V p s = 0
    · rw [if_pos hV]
      dsimp only
      by_cases hF : F p = 0
      · rw [if_pos hF]
        obtain ⟨a1, a2, a3⟩ := hE p hp (Or.inl h4)
        exact cp_keep I a1 a2 a3 i2 i3 i4
      · rw [if_neg hF]
        obtain ⟨a1, a2, a3, a4⟩ := T4 p hp h4 hF
        exact cp_pushI I hl h4 (by rw [cp_O_st (by omega) (by omega) (by omega), a4]) (by omega) (by omega)
    · rw [if_neg hV]
      dsimp only
      exact cp_pushI I hl h4 (cp_O_in (Or.inl h4)) (by omega) (by omega)
  by_cases h6 : K p = 6
  · rw [cp_s6 h6]
    dsimp only
    have hl := kin (Or.inr h6)
    obtain ⟨n1, n2⟩ := (D p).2.2.1 h6
    obtain ⟨x', y1, y2, y3⟩ := cp_dig x i5 _ hl (3 - N p) (by omega)
    have hO : cp_O K (p + 1) = p :: cp_O K p := cp_O_in (Or.inr h6)
    have hy : ∀ a, a ∈ cp_O K p → x' / 3 ^ (cp_O K a).length % 3 = x / 3 ^ (cp_O K a).length % 3 := fun a ha => by
      have := cp_dep ha
      exact y3 _ (by omega) (by omega)
    refine ⟨x', ⟨by show p + 1 ≤ _; omega, i2, i3, i4, y1, fun a ha ha6 => ?_⟩, cp_tB hO hl (by omega) fun a ha => cp_sl_dig (hy a ha)⟩
    show upd L p (nI (N p)) a = _
    have ha : a ∈ cp_O K (p + 1) := ha
    rw [hO] at ha
    cases List.mem_cons.mp ha with
    | inl ha =>
      subst ha
      rw [pk_us, y2]
      exact congrArg nI (by omega)
    | inr ha =>
      have := (cp_O_mem ha).2.1
      rw [pk_un (by omega), hy a ha]
      exact i6 a ha ha6
  by_cases h57 : K p = 5 ∨ K p = 7
  · rw [cp_s57 h57]
    dsimp only
    have hs : ∃ l, cp_O K p = l ++ B p :: cp_O K (B p) := by
      cases h57 with
      | inl h5 => exact ⟨[], T2 p hp (Or.inl h5)⟩
      | inr h7 =>
        obtain ⟨l, hl, _⟩ := T3 p hp h7
        exact ⟨l, hl⟩
    obtain ⟨l, hl⟩ := hs
    obtain ⟨_, hb, hk⟩ := cp_O_mem (show B p ∈ cp_O K p by rw [hl]; exact List.mem_append_right _ (List.mem_cons_self ..))
    obtain ⟨a1, a2, a3⟩ := hE (B p) (by omega) hk
    exact cp_leave I hM (hlen p) hl a1 a2 a3 fun _ _ => rfl
  have h8 : K p = 8 := by omega
  have hO := T2 p hp (Or.inr h8)
  obtain ⟨_, hb, hk⟩ := cp_O_head hO
  have hO' : cp_O K (p + 1) = cp_O K (B p) := by rw [cp_O_end h8, hO, List.tail_cons]
  by_cases hb6 : K (B p) = 6
  · rw [cp_s8l h8 hb6]
    have hL : L (B p) = nI (3 - x / 3 ^ (cp_O K (B p)).length % 3) := i6 (B p) (by rw [hO]; exact List.mem_cons_self ..) hb6
    have hx3 := Nat.mod_lt (x / 3 ^ (cp_O K (B p)).length) (show 0 < 3 by omega)
    have hL' : L (B p) - 1 = nI (2 - x / 3 ^ (cp_O K (B p)).length % 3) := by
      rw [hL, show 3 - x / 3 ^ (cp_O K (B p)).length % 3 = 2 - x / 3 ^ (cp_O K (B p)).length % 3 + 1 from by omega, nI_pred]
    by_cases hpos : 0 < L (B p) - 1
    · rw [if_pos hpos]
      dsimp only
      have hpos' : 0 < 2 - x / 3 ^ (cp_O K (B p)).length % 3 := by
        rw [hL', ← nI_0, nI_ltI (by omega) (by omega)] at hpos
        exact hpos
      have hdl : (cp_O K (B p)).length < 3 := by
        have := hlen p
        rw [hO, List.length_cons] at this
        omega
      obtain ⟨x', y1, y2, y3⟩ := cp_dig x i5 _ hdl (x / 3 ^ (cp_O K (B p)).length % 3 + 1) (by omega)
      have hy : ∀ a, a ∈ cp_O K (B p) → x' / 3 ^ (cp_O K a).length % 3 = x / 3 ^ (cp_O K a).length % 3 := fun a ha => by
        have := cp_dep ha
        exact y3 _ (by omega) (by omega)
      have hO2 : cp_O K (B p + 1) = B p :: cp_O K (B p) := cp_O_in hk
      refine ⟨x', ⟨by show B p + 1 ≤ _; omega, i2, i3, i4, y1, fun a ha ha6 => ?_⟩, cp_tD hO hO2 (hlen p) (by omega) ?_ fun a ha => cp_sl_dig (hy a ha)⟩
      · show upd L (B p) (L (B p) - 1) a = _
        have ha : a ∈ cp_O K (B p + 1) := ha
        rw [hO2] at ha
        cases List.mem_cons.mp ha with
        | inl ha =>
          rw [ha, pk_us, y2, hL']
          exact congrArg nI (by omega)
        | inr ha =>
          have := (cp_O_mem ha).2.1
          rw [pk_un (by omega), hy a ha]
          exact i6 a (by rw [hO]; exact List.mem_cons_of_mem _ ha) ha6
      · unfold cp_sl
        rw [if_pos hb6, if_pos hb6, y2]
        omega
    · rw [if_neg hpos]
      dsimp only
      refine cp_leave (l := []) I hM (hlen p) hO hO' (by omega) (by omega) fun a ha => ?_
      have := (cp_O_mem ha).2.1
      exact pk_un (by omega)
  · rw [cp_s8i h8 hb6]
    dsimp only
    exact cp_leave (l := []) I hM (hlen p) hO hO' (by omega) (by omega) fun _ _ => rfl
/-! the digits that a step looks at -/
theorem cp_step_dg {dg' : Nat → Nat} (h : (K p = 1 ∨ K p = 2) → r ≠ 6 → dg r = dg' r) : cp_step K A N E F B V dg' p s r g e L z = cp_step K A N E F B V dg p s r g e L z := by
  by_cases hR : K p = 1 ∨ K p = 2
  · rw [cp_sR hR, cp_sR hR]
    by_cases h6 : r = 6
    · rw [if_pos h6, if_pos h6]
    · rw [h hR h6]
  · unfold cp_step
    simp only [hR, if_false]
theorem cp_step_det (h : ¬ ((K p = 1 ∨ K p = 2) ∧ r ≠ 6)) : (cp_step K A N E F B V dg p s r g e L z).2.2.1 = r ∧ (cp_step K A N E F B V dg p s r g e L z).2.2.2.1 = g := by
  by_cases hR : K p = 1 ∨ K p = 2
  · have h6 : r = 6 := by
      by_cases h6 : r = 6
      · exact h6
      · exact absurd ⟨hR, h6⟩ h
    rw [cp_sR hR, if_pos h6]
    exact ⟨rfl, rfl⟩
  · unfold cp_step
    simp only [hR, if_false]
    repeat' split
    all_goals exact ⟨rfl, rfl⟩
theorem cp_step_rr (hR : K p = 1 ∨ K p = 2) (h6 : r ≠ 6) : (cp_step K A N E F B V dg p s r g e L z).2.2.1 = r + 1 := by
  rw [cp_sR hR, if_neg h6]
  split <;> rfl
theorem cp_step_r : r ≤ (cp_step K A N E F B V dg p s r g e L z).2.2.1 := by
  by_cases h : (K p = 1 ∨ K p = 2) ∧ r ≠ 6
  · rw [cp_step_rr h.1 h.2]; omega
  · rw [(cp_step_det h).1]; exact Nat.le_refl _
end
