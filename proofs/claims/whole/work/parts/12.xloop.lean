/-! one step of the component is one step of the machine -/
section
variable {xexpressionCount xstatementCount xopenCount xclosedLength xplace xstate xrandomSteps xrunWeight xending xbestWeight xbestCode xbestSteps : Int32} {xstackValues xkinds xvariables xnumbers xprogramValues xopen xblockOf xelseOf xendOf xroundsLeft xrunVisits xstateWeights : Nat → Int32} {xvisitSums : Nat → Int64} {K A N E F B : Nat → Nat} {V : Nat → Nat → Nat} {M c : Nat}
def cp_XA (K A N : Nat → Nat) (V : Nat → Nat → Nat) (M c : Nat) (xk xv xn xp : Nat → Int32) : Prop :=
  (∀ j, j < M → xk j = nI (K j)) ∧ (∀ j, j < c → K j ≤ 2 → xv j = nI (A j)) ∧ (∀ j, j < c → (K j = 1 ∨ K j = 6) → xn j = nI (N j)) ∧
  (∀ j, j < c → (K j = 0 ∨ K j = 3 ∨ K j = 4) → ∀ s, s < 64 → xp (64 * j + s) = nI (V j s))
theorem xs_step {post : SX → Prop} {row t f x p s r g : Nat} {L z : Nat → Int32} (G : cp_G K A N E F B V M c) (HX : cp_X K M E F B xblockOf xelseOf xendOf) (HA : cp_XA K A N V M c xkinds xvariables xnumbers xprogramValues)
    (hrow : row < 4096) (ht : t < 100000) (I : cp_I K M x p s r g L) (hp : p < M) (R : cp_RX K p s r g 1 L z xplace xstate xrandomSteps xrunWeight xending xroundsLeft xrunVisits)
    (H : ∀ (pl st sp rw en : Int32) (rl rv : Nat → Int32), cp_RX K (cp_step K A N E F B V (cp_rd row) p s r g 1 L z).1 (cp_step K A N E F B V (cp_rd row) p s r g 1 L z).2.1 (cp_step K A N E F B V (cp_rd row) p s r g 1 L z).2.2.1 (cp_step K A N E F B V (cp_rd row) p s r g 1 L z).2.2.2.1 (cp_step K A N E F B V (cp_rd row) p s r g 1 L z).2.2.2.2.1 (cp_step K A N E F B V (cp_rd row) p s r g 1 L z).2.2.2.2.2.1 (cp_step K A N E F B V (cp_rd row) p s r g 1 L z).2.2.2.2.2.2 pl st sp rw en rl rv →
      wX_carryOut_6 post (nI row) f (nI (t + 1)) xexpressionCount xstatementCount xopenCount (nI M) pl st sp rw en xbestWeight xbestCode xbestSteps xstackValues xkinds xvariables xnumbers xprogramValues xopen xblockOf xelseOf xendOf rl rv xstateWeights xvisitSums) :
    wX_carryOut_6 post (nI row) (f + 1) (nI t) xexpressionCount xstatementCount xopenCount (nI M) xplace xstate xrandomSteps xrunWeight xending xbestWeight xbestCode xbestSteps xstackValues xkinds xvariables xnumbers xprogramValues xopen xblockOf xelseOf xendOf xroundsLeft xrunVisits xstateWeights xvisitSums := by
  obtain ⟨W, rfl, T, D⟩ := G
  have hM := (cp_M_le W).2
  obtain ⟨k8, kin, k5, k7, kE⟩ := cp_okM W hp
  have hpc : K p ≠ 8 → p < c := fun h => by
    by_cases hc : p < c
    · exact hc
    · exact absurd (W.2.1 p (by omega)) h
  obtain ⟨i1, i2, i3, i4, i5, i6⟩ := I
  obtain ⟨rfl, rfl, rfl, rw1, rfl, rl1, rv1⟩ := R
  have rw2 := rw1 rfl
  obtain ⟨ak, av, an, ap⟩ := HA
  have hcp : (nI p).toNatClampNeg = p := nI_clamp (by omega)
  have rv2 := cp_rv rv1 (show p < 27 by omega)
  have hix : ∀ h : p < c, (nI p * 64 + nI s).toNatClampNeg = 64 * p + s := fun h => by
    rw [cp_ixX, nI_clamp (by have := W.1; omega)]
  have hvi : ∀ h : p < c, vp_in (nI p * 64 + nI s) 1536 := fun h => by
    rw [cp_ixX]
    exact vp_in_nI (by have := W.1; omega) (by omega)
  have vpp : vp_in (nI p) 27 := vp_in_nI (by omega) (by omega)
  have hOst : K p ≠ 4 → K p ≠ 6 → K p ≠ 8 → cp_O K (p + 1) = cp_O K p := fun a b d => cp_O_st a b d
  rw [wX_carryOut_6]
  refine br_f (nI_ge (b := 100000) ht (by decide)) (br_f (nI_ge hp (by omega)) (br_t rfl (nm_r (nI_1 p) ⟨vpp, vpp, nm_r (e' := upd xrunVisits p (xrunVisits p + 1)) (by rw [hcp]) ⟨vpp, nm_r (show xkinds (nI p).toNatClampNeg = nI (K p) by rw [hcp]; exact ak p hp) ?_⟩⟩)))
  refine pk_lt (K p) 0 (fun h => by omega) (fun _ => pk_lt 7 (K p) (fun h7 => ?_) (fun h7 => pk_eq (K p) 0 (fun e0 => ?_) (fun n0 => pk_eq (K p) 1 (fun e1 => ?_) (fun n1 => pk_eq (K p) 2 (fun e2 => ?_) (fun n2 => pk_eq (K p) 3 (fun e3 => ?_) (fun n3 => pk_eq (K p) 4 (fun e4 => ?_) (fun n4 => pk_eq (K p) 5 (fun e5 => ?_) (fun n5 => pk_eq (K p) 6 (fun e6 => ?_) (fun n6 => pk_eq (K p) 7 (fun e7 => ?_) (fun _ => trivial))))))))))
  · have e8 : K p = 8 := by omega
    obtain ⟨hB, hBM⟩ := HX.2.2 p hp (Or.inr (Or.inr e8))
    have hO := T.2.1 p hp (Or.inr e8)
    have hO' : cp_O K (p + 1) = cp_O K (B p) := by rw [cp_O_end e8, hO, List.tail_cons]
    have hk := (cp_O_head hO).2.2
    refine ⟨vpp, xr_endB (K := K) (by rw [hcp]; exact hB) (by omega) (ak _ hBM) (by omega) (fun b6 => nm_r (nI_1 t) (H _ _ _ _ _ _ _ ?_)) (fun b6 => nm_r (nI_1 t) (H _ _ _ _ _ _ _ ?_))⟩
    · rw [cp_s8l e8 b6]
      have hrl : xroundsLeft (B p) = L (B p) := rl1 _ (by rw [hO]; exact List.mem_cons_self ..) b6
      have hmem : ∀ a, a ∈ cp_O K (B p) → K a = 6 → upd xroundsLeft (B p) (xroundsLeft (B p) - 1) a = upd L (B p) (L (B p) - 1) a := fun a ha h6 => by
        have := (cp_O_mem ha).2.1
        rw [pk_un (by omega), pk_un (by omega)]
        exact rl1 a (by rw [hO]; exact List.mem_cons_of_mem _ ha) h6
      refine ⟨?_, rfl, rfl, rw1, rfl, fun a ha h6 => ?_, rv2⟩
      · dsimp only
        rw [hrl]
        split <;> rfl
      · dsimp only at ha ⊢
        by_cases h0 : 0 < L (B p) - 1
        · rw [if_pos h0, cp_O_in hk] at ha
          cases List.mem_cons.mp ha with
          | inl e => rw [e, pk_us, pk_us, hrl]
          | inr e => exact hmem a e h6
        · rw [if_neg h0, hO'] at ha
          exact hmem a ha h6
    · rw [cp_s8i e8 b6]
      refine ⟨rfl, rfl, rfl, rw1, rfl, fun a ha h6 => ?_, rv2⟩
      have ha : a ∈ cp_O K (p + 1) := ha
      rw [hO'] at ha
      exact rl1 a (by rw [hO]; exact List.mem_cons_of_mem _ ha) h6
  · have hc := hpc (by omega)
    refine ⟨vpp, hvi hc, xr_asg (v := A p) (x := V p s) (s := s) (by rw [hcp]; exact av p hc (by omega)) (by rw [hix hc]; exact ap p hc (by omega) s i2) rfl ((D p).1 (by omega)) ((D p).2.2.2 (by omega) s i2) i2 (nm_r (nI_1 t) (H _ _ _ _ _ _ _ ?_))⟩
    rw [cp_s0 e0]
    exact ⟨rfl, rfl, rfl, rw1, rfl, by show ∀ b, b ∈ cp_O K (p + 1) → _; rw [hOst (by omega) (by omega) (by omega)]; exact rl1, rv2⟩
  iterate 2
    · have hc := hpc (by omega)
      have hR : K p = 1 ∨ K p = 2 := by omega
      unfold wX_carryOut_131
      refine xr_rand (K := K) (A := A) (N := N) (V := V) (s := s) (r := r) (g := g) D (by omega) i3 i4 i2 hrow (ak p hp) hR (av p hc (by omega)) (fun e => an p hc (Or.inl e)) rfl rfl rw2 (fun h6 => nm_r (nI_1 t) (H _ _ _ _ _ _ _ ?_)) (fun h6 hw => nm_r (nI_1 t) (H _ _ _ _ _ _ _ ?_)) (fun h6 hw => nm_r (nI_1 t) (H _ _ _ _ _ _ _ ?_))
      · rw [cp_sR hR, if_pos h6]
        exact ⟨rfl, rfl, rfl, fun z => absurd z cp_n3, rfl, by show ∀ b, b ∈ cp_O K (p + 1) → _; rw [hOst (by omega) (by omega) (by omega)]; exact rl1, rv2⟩
      · rw [cp_sR hR, if_neg h6, if_pos hw]
        exact ⟨rfl, rfl, rfl, fun z => absurd z cp_n4, rfl, by show ∀ b, b ∈ cp_O K (p + 1) → _; rw [hOst (by omega) (by omega) (by omega)]; exact rl1, rv2⟩
      · rw [cp_sR hR, if_neg h6, if_neg hw]
        exact ⟨rfl, rfl, rfl, fun _ => rfl, rfl, by show ∀ b, b ∈ cp_O K (p + 1) → _; rw [hOst (by omega) (by omega) (by omega)]; exact rl1, rv2⟩
  · have hc := hpc (by omega)
    have hV : xprogramValues (nI p * 64 + nI s).toNatClampNeg = nI (V p s) := by rw [hix hc]; exact ap p hc (by omega) s i2
    have hV4 := (D p).2.2.2 (by omega) s i2
    have hrl : ∀ b, b ∈ cp_O K (p + 1) → K b = 6 → xroundsLeft b = L b := by rw [hOst (by omega) (by omega) (by omega)]; exact rl1
    refine ⟨hvi hc, ?_⟩
    rw [hV]
    refine pk_eq (V p s) 0 (fun e => nm_r (nI_1 t) (H _ _ _ _ _ _ _ ?_)) (fun e => nm_r (nI_1 t) (H _ _ _ _ _ _ _ ?_))
    · rw [cp_s3 e3, if_pos e]
      exact ⟨rfl, rfl, rfl, fun z => absurd z cp_n2, rfl, hrl, rv2⟩
    · rw [cp_s3 e3, if_neg e]
      exact ⟨rfl, rfl, rfl, rw1, rfl, hrl, rv2⟩
  · have hc := hpc (by omega)
    have hV : xprogramValues (nI p * 64 + nI s).toNatClampNeg = nI (V p s) := by rw [hix hc]; exact ap p hc (by omega) s i2
    have hV4 := (D p).2.2.2 (by omega) s i2
    have hEp := HX.1 p hp (Or.inl e4)
    obtain ⟨t1, t2, t3, t4, _⟩ := T.1 p hp (Or.inl e4)
    have hpush : ∀ b, b ∈ p :: cp_O K p → K b = 6 → xroundsLeft b = L b := fun b hb h6 => by
      cases List.mem_cons.mp hb with
      | inl e => rw [e] at h6; omega
      | inr e => exact rl1 b e h6
    refine ⟨hvi hc, ?_⟩
    rw [hV]
    refine pk_eq (V p s) 0 (fun e => ⟨vpp, ?_⟩) (fun e => nm_r (nI_1 t) (H _ _ _ _ _ _ _ ?_))
    · rw [hcp]
      cases HX.2.1 p hp (Or.inl e4) with
      | inl h =>
        refine br_t h.2 ⟨vpp, nm_r (e' := nI (E p + 1)) (by rw [hEp, nI_1]) (nm_r (nI_1 t) (H _ _ _ _ _ _ _ ?_))⟩
        rw [cp_s4 e4, if_pos e, if_pos h.1]
        refine ⟨rfl, rfl, rfl, rw1, rfl, ?_, rv2⟩
        show ∀ b, b ∈ cp_O K (E p + 1) → _
        rw [cp_O_end t3, t4]
        exact rl1
      | inr h =>
        obtain ⟨f1, f2, f3, f4⟩ := T.2.2.2.1 p hp e4 h.1
        refine br_f (by rw [h.2]; exact cp_m1_ne (by omega)) ⟨vpp, nm_r (e' := nI (F p + 1)) (by rw [h.2, nI_1]) (nm_r (nI_1 t) (H _ _ _ _ _ _ _ ?_))⟩
        rw [cp_s4 e4, if_pos e, if_neg h.1]
        refine ⟨rfl, rfl, rfl, rw1, rfl, ?_, rv2⟩
        show ∀ b, b ∈ cp_O K (F p + 1) → _
        rw [cp_O_st (by omega) (by omega) (by omega), f4]
        exact hpush
    · rw [cp_s4 e4, if_neg e]
      refine ⟨rfl, rfl, rfl, rw1, rfl, ?_, rv2⟩
      show ∀ b, b ∈ cp_O K (p + 1) → _
      rw [cp_O_in (Or.inl e4)]
      exact hpush
  · obtain ⟨hB, hBM⟩ := HX.2.2 p hp (Or.inl e5)
    have hO := T.2.1 p hp (Or.inl e5)
    obtain ⟨_, hb, hk⟩ := cp_O_head hO
    obtain ⟨t1, t2, t3, t4, _⟩ := T.1 (B p) hBM hk
    have hcb : (nI (B p)).toNatClampNeg = B p := nI_clamp (by omega)
    unfold wX_carryOut_232
    rw [hcp, hB, hcb, HX.1 (B p) hBM hk]
    refine ⟨vpp, vp_in_nI (by omega) (by omega), nm_r (nI_1 _) (nm_r (nI_1 t) (H _ _ _ _ _ _ _ ?_))⟩
    rw [cp_s57 (Or.inl e5)]
    refine ⟨rfl, rfl, rfl, rw1, rfl, ?_, rv2⟩
    show ∀ b, b ∈ cp_O K (E (B p) + 1) → _
    rw [cp_O_end t3, t4]
    intro a ha
    exact rl1 a (by rw [hO]; exact List.mem_cons_of_mem _ ha)
  · have hc := hpc (by omega)
    refine ⟨vpp, vpp, nm_r (e' := upd xroundsLeft p (nI (N p))) (by rw [hcp, an p hc (Or.inr e6)]) (nm_r (nI_1 t) (H _ _ _ _ _ _ _ ?_))⟩
    rw [cp_s6 e6]
    refine ⟨rfl, rfl, rfl, rw1, rfl, ?_, rv2⟩
    show ∀ b, b ∈ cp_O K (p + 1) → K b = 6 → upd xroundsLeft p (nI (N p)) b = upd L p (nI (N p)) b
    rw [cp_O_in (Or.inr e6)]
    intro a ha h6
    cases List.mem_cons.mp ha with
    | inl e => rw [e, pk_us, pk_us]
    | inr e =>
      have := (cp_O_mem e).2.1
      rw [pk_un (by omega), pk_un (by omega)]
      exact rl1 a e h6
  · obtain ⟨hB, hBM⟩ := HX.2.2 p hp (Or.inr (Or.inl e7))
    obtain ⟨l, hO, hk6, _⟩ := T.2.2.1 p hp e7
    obtain ⟨t1, t2, t3, t4, _⟩ := T.1 (B p) hBM (Or.inr hk6)
    have hcb : (nI (B p)).toNatClampNeg = B p := nI_clamp (by omega)
    unfold wX_carryOut_232
    rw [hcp, hB, hcb, HX.1 (B p) hBM (Or.inr hk6)]
    refine ⟨vpp, vp_in_nI (by omega) (by omega), nm_r (nI_1 _) (nm_r (nI_1 t) (H _ _ _ _ _ _ _ ?_))⟩
    rw [cp_s57 (Or.inr e7)]
    refine ⟨rfl, rfl, rfl, rw1, rfl, ?_, rv2⟩
    show ∀ b, b ∈ cp_O K (E (B p) + 1) → _
    rw [cp_O_end t3, t4]
    intro a ha
    exact rl1 a (by rw [hO]; exact List.mem_append_right _ (List.mem_cons_of_mem _ ha))
end
