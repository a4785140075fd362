/-! the component: all runs -/
section
variable {xexpressionCount xstatementCount xopenCount xclosedLength xplace xstate xrandomSteps xrunWeight xending xbestWeight xbestCode xbestSteps : Int32} {xstackValues xkinds xvariables xnumbers xprogramValues xopen xblockOf xelseOf xendOf xroundsLeft xrunVisits xstateWeights : Nat → Int32} {xvisitSums : Nat → Int64} {K A N E F B : Nat → Nat} {V : Nat → Nat → Nat} {M c : Nat}
theorem xt_st23 {post : SX → Prop} (H : ∀ vs : Nat → Int64, (∀ j, j < 27 → vs j = 0) → post (xexpressionCount, xstatementCount, xopenCount, xclosedLength, xplace, xstate, xrandomSteps, xrunWeight, xending, 0, 0, 0, xstackValues, xkinds, xvariables, xnumbers, xprogramValues, xopen, xblockOf, xelseOf, xendOf, xroundsLeft, xrunVisits, xstateWeights, vs)) :
    ∀ (d i n : Nat) (vs : Nat → Int64), i + d = 27 → d < n → (∀ j, j < i → vs j = 0) → wX_startTally_23 post xexpressionCount xstatementCount xopenCount xclosedLength xplace xstate xrandomSteps xrunWeight xending xbestWeight xbestCode xbestSteps n (nI i) xstackValues xkinds xvariables xnumbers xprogramValues xopen xblockOf xelseOf xendOf xroundsLeft xrunVisits xstateWeights vs := by
  intro d
  induction d with
  | zero =>
    intro i n vs hi hn h
    obtain ⟨m, rfl⟩ : ∃ m, n = m + 1 := ⟨n - 1, by omega⟩
    have e : i = 27 := by omega
    subst e
    rw [wX_startTally_23]
    exact br_t (by decide) (H vs h)
  | succ d ih =>
    intro i n vs hi hn h
    obtain ⟨m, rfl⟩ : ∃ m, n = m + 1 := ⟨n - 1, by omega⟩
    rw [wX_startTally_23]
    refine br_f (nI_ge (b := 27) (by omega) (by decide)) ⟨vp_in_nI (by omega) (by omega), nm_r (e' := vp_updL vs i 0) (by rw [nI_clamp (by omega)]) (nm_r (nI_1 i) ?_)⟩
    refine ih (i + 1) m _ (by omega) (by omega) fun j hj => ?_
    by_cases e : j = i
    · subst e; exact pk_uLs
    · rw [pk_uLn e]; exact h j (by omega)
theorem xt_st2 {post : SX → Prop} (H : ∀ (sw : Nat → Int32) (vs : Nat → Int64), (∀ s, s < 64 → sw s = 0) → (∀ j, j < 27 → vs j = 0) → post (xexpressionCount, xstatementCount, xopenCount, xclosedLength, xplace, xstate, xrandomSteps, xrunWeight, xending, 0, 0, 0, xstackValues, xkinds, xvariables, xnumbers, xprogramValues, xopen, xblockOf, xelseOf, xendOf, xroundsLeft, xrunVisits, sw, vs)) :
    ∀ (d i n : Nat) (sw : Nat → Int32), i + d = 64 → d < n → (∀ j, j < i → sw j = 0) → wX_startTally_2 post xexpressionCount xstatementCount xopenCount xclosedLength xplace xstate xrandomSteps xrunWeight xending xbestWeight xbestCode xbestSteps n (nI i) xstackValues xkinds xvariables xnumbers xprogramValues xopen xblockOf xelseOf xendOf xroundsLeft xrunVisits sw xvisitSums := by
  intro d
  induction d with
  | zero =>
    intro i n sw hi hn h
    obtain ⟨m, rfl⟩ : ∃ m, n = m + 1 := ⟨n - 1, by omega⟩
    have e : i = 64 := by omega
    subst e
    rw [wX_startTally_2]
    exact br_t (by decide) ⟨28, xt_st23 (xstateWeights := sw) (fun vs hv => H sw vs h hv) 27 0 28 xvisitSums (by omega) (by omega) fun j hj => absurd hj (by omega)⟩
  | succ d ih =>
    intro i n sw hi hn h
    obtain ⟨m, rfl⟩ : ∃ m, n = m + 1 := ⟨n - 1, by omega⟩
    rw [wX_startTally_2]
    refine br_f (nI_ge (b := 64) (by omega) (by decide)) ⟨vp_in_nI (by omega) (by omega), nm_r (e' := upd sw i 0) (by rw [nI_clamp (by omega)]) (nm_r (nI_1 i) ?_)⟩
    refine ih (i + 1) m _ (by omega) (by omega) fun j hj => ?_
    by_cases e : j = i
    · subst e; exact pk_us
    · rw [pk_un e]; exact h j (by omega)
theorem xt_start {post : SX → Prop} (H : ∀ (sw : Nat → Int32) (vs : Nat → Int64), (∀ s, s < 64 → sw s = 0) → (∀ j, j < 27 → vs j = 0) → post (xexpressionCount, xstatementCount, xopenCount, xclosedLength, xplace, xstate, xrandomSteps, xrunWeight, xending, 0, 0, 0, xstackValues, xkinds, xvariables, xnumbers, xprogramValues, xopen, xblockOf, xelseOf, xendOf, xroundsLeft, xrunVisits, sw, vs)) : wpX_startTally post (xexpressionCount, xstatementCount, xopenCount, xclosedLength, xplace, xstate, xrandomSteps, xrunWeight, xending, xbestWeight, xbestCode, xbestSteps, xstackValues, xkinds, xvariables, xnumbers, xprogramValues, xopen, xblockOf, xelseOf, xendOf, xroundsLeft, xrunVisits, xstateWeights, xvisitSums) := by
  unfold wpX_startTally
  exact ⟨65, xt_st2 H 64 0 65 xstateWeights (by omega) (by omega) fun j hj => absurd hj (by omega)⟩
/-- what the tally shows -/
def cp_TL (R : Nat → cp_S) (K : Nat → Nat) (c n : Nat) (sw : Nat → Int32) (vs : Nat → Int64) : Prop :=
  (∀ s, s < 64 → sw s = nI (cp_Sm R n s)) ∧ ∀ j, j < c → K j ≠ 8 → vs j = cp_Vm R n j
theorem xt_loop {post : SX → Prop} (G : cp_G K A N E F B V M c) (HX : cp_X K M E F B xblockOf xelseOf xendOf) (HA : cp_XA K A N V M c xkinds xvariables xnumbers xprogramValues)
    (H : ∀ (pl st sp rw en : Int32) (rl rv sw : Nat → Int32) (vs : Nat → Int64), cp_TL (cp_fin K A N E F B V M) K c 4096 sw vs →
      post (xexpressionCount, nI c, xopenCount, nI M, pl, st, sp, rw, en, nI (cp_Bm (cp_fin K A N E F B V M) 4096).1, nI (cp_Bm (cp_fin K A N E F B V M) 4096).2.1, nI (cp_Bm (cp_fin K A N E F B V M) 4096).2.2, xstackValues, xkinds, xvariables, xnumbers, xprogramValues, xopen, xblockOf, xelseOf, xendOf, rl, rv, sw, vs)) :
    ∀ (d a u f : Nat) (pl st sp rw en : Int32) (rl rv sw : Nat → Int32) (vs : Nat → Int64), 4096 ≤ a + d → a ≤ 4096 → u ≤ a → d < f → cp_hd (cp_fin K A N E F B V M) a → cp_TL (cp_fin K A N E F B V M) K c a sw vs →
    wX_tallyRuns_8 post f (nI a) (nI u) xexpressionCount (nI c) xopenCount (nI M) pl st sp rw en (nI (cp_Bm (cp_fin K A N E F B V M) a).1) (nI (cp_Bm (cp_fin K A N E F B V M) a).2.1) (nI (cp_Bm (cp_fin K A N E F B V M) a).2.2) xstackValues xkinds xvariables xnumbers xprogramValues xopen xblockOf xelseOf xendOf rl rv sw vs := by
  have hc := G.1.1
  have hfin := cp_finI G
  intro d
  induction d with
  | zero =>
    intro a u f pl st sp rw en rl rv sw vs hd ha hu hf _ HT
    obtain ⟨m, rfl⟩ : ∃ m, f = m + 1 := ⟨f - 1, by omega⟩
    have e : a = 4096 := by omega
    subst e
    have h1 := H pl st sp rw en rl rv sw vs HT
    rw [wX_tallyRuns_8]
    exact br_c (fun _ => h1) (fun _ => br_t (by decide) h1)
  | succ d ih =>
    intro a u f pl st sp rw en rl rv sw vs hd ha hu hf hh HT
    obtain ⟨m, rfl⟩ : ∃ m, f = m + 1 := ⟨f - 1, by omega⟩
    by_cases e : a = 4096
    · subst e
      have h1 := H pl st sp rw en rl rv sw vs HT
      rw [wX_tallyRuns_8]
      exact br_c (fun _ => h1) (fun _ => br_t (by decide) h1)
    · obtain ⟨n1, n2, n3⟩ := cp_hd_next (fun a => (hfin a).2.2.1) hh
      have hF := hfin a
      have hR : ∀ b, (cp_fin K A N E F B V M b).2.2.1 ≤ 6 := fun b => (hfin b).2.2.1
      generalize hfd : cp_fin K A N E F B V M = R at *
      obtain ⟨_, f2, f3, f4, f5, _⟩ := hF
      have hB := cp_p4 (6 - (R a).2.2.1)
      have hle : a + 4 ^ (6 - (R a).2.2.1) ≤ 4096 := by
        have h6 : 4 ^ (6 - (R a).2.2.1) * 4 ^ (R a).2.2.1 = 4096 := by
          rw [← Nat.pow_add, show 6 - (R a).2.2.1 + (R a).2.2.1 = 6 from by omega]
        have h7 := Nat.div_add_mod a (4 ^ (6 - (R a).2.2.1))
        rw [n1] at h7
        generalize 4 ^ (6 - (R a).2.2.1) = Q at *
        generalize 4 ^ (R a).2.2.1 = P at *
        generalize a / Q = y at *
        have h8 : y < P := by
          by_cases h9 : y < P
          · exact h9
          · have := Nat.mul_le_mul_left Q (show P ≤ y by omega)
            omega
        have := Nat.mul_le_mul_left Q (show y + 1 ≤ P by omega)
        rw [Nat.mul_add, Nat.mul_one] at this
        omega
      obtain ⟨k1, k2, k3⟩ := cp_skip (R := R) (c := a + 1) (4 ^ (6 - (R a).2.2.1) - 1) (fun b h1 h2 => n3 b h1 (by omega))
      rw [show a + 1 + (4 ^ (6 - (R a).2.2.1) - 1) = a + 4 ^ (6 - (R a).2.2.1) from by omega] at k1 k2 k3
      have go : ∀ (pl st rw en bw bc bs : Int32) (rl rv sw : Nat → Int32) (vs : Nat → Int64), cp_TL R K c (a + 1) sw vs → bw = nI (cp_Bm R (a + 1)).1 → bc = nI (cp_Bm R (a + 1)).2.1 → bs = nI (cp_Bm R (a + 1)).2.2 →
          wX_tallyRuns_39 post (wX_tallyRuns_8 post m) (nI a) (nI u) xexpressionCount (nI c) xopenCount (nI M) pl st (nI (R a).2.2.1) rw en bw bc bs xstackValues xkinds xvariables xnumbers xprogramValues xopen xblockOf xelseOf xendOf rl rv sw vs := by
        intro pl st rw en bw bc bs rl rv sw vs HT' e1 e2 e3
        subst e1 e2 e3
        unfold wX_tallyRuns_39
        refine nm_r (e' := nI (a + 4 ^ (6 - (R a).2.2.1))) (by rw [cp_sh6 _ f3, nI_add]) (nm_r (nI_1 u) ?_)
        have h1 := ih (a + 4 ^ (6 - (R a).2.2.1)) (u + 1) m pl st (nI (R a).2.2.1) rw en rl rv sw vs (by omega) hle (by omega) (by omega) n2 ⟨by rw [k1]; exact HT'.1, by rw [k2]; exact HT'.2⟩
        rw [k3] at h1
        exact h1
      rw [wX_tallyRuns_8]
      refine br_f (nI_ge (b := 4096) (by omega) (by decide)) (br_f (nI_ge (b := 4096) (by omega) (by decide)) ?_)
      refine xs_run G HX HA (show a < 4096 by omega) fun pl' rw' rl' rv' hrw hrv => ?_
      rw [hfd] at hrw hrv ⊢
      by_cases he : (R a).2.2.2.2.1 = 1
      · have hcnt : cp_cnt (R a) a := ⟨he, n1⟩
        have hw := cp_wt_cnt hcnt
        have hw2 := hrw he
        rw [← hw] at hw2
        subst hw2
        have hwle : cp_wt (R a) a ≤ 16777216 := tl_wt _ _ f3 f4
        have hble := tl_B (R := R) (fun b => tl_wt _ _ (hR b) (by have := (hfin b).2.2.2.1; exact this)) a
        have hTL : ∀ vs' : Nat → Int64, (∀ j, j < c → vs' j = vs j + (nI (cp_wt (R a) a)).toInt64 * (rv' j).toInt64) → cp_TL R K c (a + 1) (upd sw (R a).2.1 (sw (R a).2.1 + nI (cp_wt (R a) a))) vs' := fun vs' hvs =>
          ⟨tl_sw HT.1 f2, fun j hj hk => by rw [hvs j hj, HT.2 j hj hk, cp_Vm_cnt hcnt, hrv j (by omega)]⟩
        rw [if_pos he]
        refine br_t rfl (xt_kept (s := (R a).2.1) hc f2 rfl (fun hb vs' hvs => ?_) (fun hb vs' hvs => ?_))
        · rw [nI_leI (by omega) (by omega)] at hb
          have e1 : cp_Bm R (a + 1) = cp_Bm R a := by rw [cp_Bm, if_neg (by omega)]
          exact go _ _ _ _ _ _ _ _ _ _ _ (hTL vs' hvs) (by rw [e1]) (by rw [e1]) (by rw [e1])
        · rw [nI_leI (by omega) (by omega)] at hb
          have e1 : cp_Bm R (a + 1) = (cp_wt (R a) a, a, (R a).2.2.1) := by rw [cp_Bm, if_pos (by omega)]
          exact go _ _ _ _ _ _ _ _ _ _ _ (hTL vs' hvs) (by rw [e1]) (by rw [e1]) (by rw [e1])
      · rw [if_neg he]
        have hne : ¬ (R a).2.2.2.2.1 = 0 := by
          rcases f5 with h | h | h | h
          · exact absurd h he
          · rw [h]; decide
          · rw [h]; decide
          · rw [h]; decide
        have hcnt : ¬ cp_cnt (R a) a := fun z => he z.1
        refine br_f hne (go _ _ _ _ _ _ _ _ _ _ _ ⟨fun s hs => by rw [cp_Sm_not hcnt]; exact HT.1 s hs, fun j hj hk => by rw [cp_Vm_not hcnt]; exact HT.2 j hj hk⟩ (by rw [cp_Bm_not hcnt]) (by rw [cp_Bm_not hcnt]) (by rw [cp_Bm_not hcnt]))
theorem xt_all {post : SX → Prop} (G : cp_G K A N E F B V M c) (HX : cp_X K M E F B xblockOf xelseOf xendOf) (HA : cp_XA K A N V M c xkinds xvariables xnumbers xprogramValues)
    (H : ∀ (pl st sp rw en : Int32) (rl rv sw : Nat → Int32) (vs : Nat → Int64), cp_TL (cp_fin K A N E F B V M) K c 4096 sw vs →
      post (xexpressionCount, nI c, xopenCount, nI M, pl, st, sp, rw, en, nI (cp_Bm (cp_fin K A N E F B V M) 4096).1, nI (cp_Bm (cp_fin K A N E F B V M) 4096).2.1, nI (cp_Bm (cp_fin K A N E F B V M) 4096).2.2, xstackValues, xkinds, xvariables, xnumbers, xprogramValues, xopen, xblockOf, xelseOf, xendOf, rl, rv, sw, vs)) :
    wpX_tallyRuns post (xexpressionCount, nI c, xopenCount, nI M, xplace, xstate, xrandomSteps, xrunWeight, xending, xbestWeight, xbestCode, xbestSteps, xstackValues, xkinds, xvariables, xnumbers, xprogramValues, xopen, xblockOf, xelseOf, xendOf, xroundsLeft, xrunVisits, xstateWeights, xvisitSums) := by
  have hc := G.1.1
  unfold wpX_tallyRuns
  refine xt_start fun sw vs h1 h2 => ?_
  exact ⟨4097, xt_loop G HX HA H 4096 0 0 4097 _ _ _ _ _ _ _ sw vs (by omega) (by omega) (by omega) (by omega) (fun a ha => absurd ha (by omega)) ⟨h1, fun j hj _ => h2 j (by omega)⟩⟩
end
