/-! the relation -/
theorem cp_lt23 (a : Int32) : 2 < a ↔ 3 ≤ a := by
  rw [Int32.lt_iff_toInt_lt, Int32.le_iff_toInt_le, show (2 : Int32).toInt = 2 from by decide, show (3 : Int32).toInt = 3 from by decide]
  omega
theorem cp_lt34 (a : Int32) : 3 < a ↔ 4 ≤ a := by
  rw [Int32.lt_iff_toInt_lt, Int32.le_iff_toInt_le, show (3 : Int32).toInt = 3 from by decide, show (4 : Int32).toInt = 4 from by decide]
  omega
theorem cp_in {a : Int32} {n : Nat} (hn : n < 2 ^ 31) (h0 : ¬ a < 0) (h : ¬ nI n ≤ a) : ∃ j, j < n ∧ a = nI j := by
  rcases pk_ix a hn with h1 | h1 | h1
  · exact absurd h1 h0
  · exact absurd h1 h
  · exact h1
theorem cp_dat0 (A N : Nat → Nat) (V : Nat → Nat → Nat) : cp_dat (fun _ => 8) A N V := fun q => by
  dsimp only
  exact ⟨fun z => absurd z (by omega), fun z => absurd z (by omega), fun z => absurd z (by omega), fun z => absurd z (by omega)⟩
def cp_F (h c : Nat) (K A N : Nat → Nat) (V : Nat → Nat → Nat) (xst xk xv xn xp xop xb xel xen yk yv yn yvl : Nat → Int32) : Prop :=
  h ≤ 6 ∧ cp_4 xst ∧ cp_wf K c ∧ cp_dat K A N V ∧ cp_hl xop (cp_O K c) ∧ cp_LK K (cp_M K c) xb xel xen ∧ cp_XA K A N V (cp_M K c) c xk xv xn xp ∧ cp_XA K A N V c c yk yv yn yvl
/-- the two objects hold the same stack and the same program; the component's links are those of the program -/
def i_Rel (_ : Nat) (u : SX) (v : SY) : Prop :=
  ∃ (h c : Nat) (K A N : Nat → Nat) (V : Nat → Nat → Nat), ∃ (xplace xstate xrandomSteps xrunWeight xending xbestWeight xbestCode xbestSteps : Int32) (xstackValues xkinds xvariables xnumbers xprogramValues xopen xblockOf xelseOf xendOf xroundsLeft xrunVisits xstateWeights : Nat → Int32) (xvisitSums : Nat → Int64), ∃ (yopen yat ydepth ystate ysteps yproduct yend ymost ymostRow ymostSteps : Int32) (ykinds yvariables ynumbers yvalues yopened ybegins yleft youtcomes ymet ysums : Nat → Int32) (yvisited : Nat → Int64),
    u = (nI h, nI c, nI (cp_O K c).length, nI (cp_M K c), xplace, xstate, xrandomSteps, xrunWeight, xending, xbestWeight, xbestCode, xbestSteps, xstackValues, xkinds, xvariables, xnumbers, xprogramValues, xopen, xblockOf, xelseOf, xendOf, xroundsLeft, xrunVisits, xstateWeights, xvisitSums) ∧ v = (nI h, nI c, yopen, yat, ydepth, ystate, ysteps, yproduct, yend, ymost, ymostRow, ymostSteps, xstackValues, ykinds, yvariables, ynumbers, yvalues, yopened, ybegins, yleft, youtcomes, ymet, ysums, yvisited) ∧
    cp_F h c K A N V xstackValues xkinds xvariables xnumbers xprogramValues xopen xblockOf xelseOf xendOf ykinds yvariables ynumbers yvalues
theorem i_up {k : Nat} {u : SX} {v : SY} (h : i_Rel k u v) : i_Rel (k + 5) u v := h
section
variable {xexpressionCount xstatementCount xopenCount xclosedLength xplace xstate xrandomSteps xrunWeight xending xbestWeight xbestCode xbestSteps : Int32} {xstackValues xkinds xvariables xnumbers xprogramValues xopen xblockOf xelseOf xendOf xroundsLeft xrunVisits xstateWeights : Nat → Int32} {xvisitSums : Nat → Int64} {yheight ycount yopen yat ydepth ystate ysteps yproduct yend ymost ymostRow ymostSteps : Int32} {ykinds yvariables ynumbers yvalues yopened ybegins yleft youtcomes ymet ysums : Nat → Int32} {yvisited : Nat → Int64} {h c : Nat} {K A N : Nat → Nat} {V : Nat → Nat → Nat}
theorem re_mk (k : Nat) (Fh : cp_F h c K A N V xstackValues xkinds xvariables xnumbers xprogramValues xopen xblockOf xelseOf xendOf ykinds yvariables ynumbers yvalues) :
    i_Rel k (nI h, nI c, nI (cp_O K c).length, nI (cp_M K c), xplace, xstate, xrandomSteps, xrunWeight, xending, xbestWeight, xbestCode, xbestSteps, xstackValues, xkinds, xvariables, xnumbers, xprogramValues, xopen, xblockOf, xelseOf, xendOf, xroundsLeft, xrunVisits, xstateWeights, xvisitSums) (nI h, nI c, yopen, yat, ydepth, ystate, ysteps, yproduct, yend, ymost, ymostRow, ymostSteps, xstackValues, ykinds, yvariables, ynumbers, yvalues, yopened, ybegins, yleft, youtcomes, ymet, ysums, yvisited) :=
  ⟨h, c, K, A, N, V, xplace, xstate, xrandomSteps, xrunWeight, xending, xbestWeight, xbestCode, xbestSteps, xstackValues, xkinds, xvariables, xnumbers, xprogramValues, xopen, xblockOf, xelseOf, xendOf, xroundsLeft, xrunVisits, xstateWeights, xvisitSums, yopen, yat, ydepth, ystate, ysteps, yproduct, yend, ymost, ymostRow, ymostSteps, ykinds, yvariables, ynumbers, yvalues, yopened, ybegins, yleft, youtcomes, ymet, ysums, yvisited, rfl, rfl, Fh⟩
theorem re_G (Fh : cp_F h c K A N V xstackValues xkinds xvariables xnumbers xprogramValues xopen xblockOf xelseOf xendOf ykinds yvariables ynumbers yvalues) :
    ∃ E F B, cp_G K A N E F B V (cp_M K c) c ∧ cp_X K (cp_M K c) E F B xblockOf xelseOf xendOf := by
  obtain ⟨_, _, W, D, _, HL, _, _⟩ := Fh
  obtain ⟨E, F, B, T, HX⟩ := lk_T W HL
  exact ⟨E, F, B, ⟨W, rfl, T, D⟩, HX⟩
end
theorem i_vc0 : wpX_init (fun u => wpY_init (fun v => i_Rel 0 u v)) := by
  unfold wpX_init
  refine xl_all (c := 0) wf_0 (fun j hj => absurd hj (Nat.not_lt_zero j)) fun o' k' b' e' f' h1 h2 h3 => ?_
  exact re_mk (h := 0) (c := 0) (K := fun _ => 8) (A := fun _ => 0) (N := fun _ => 0) (V := fun _ _ => 0) 0 ⟨by omega, fun j => ⟨0, by omega, rfl⟩, wf_0, cp_dat0 _ _ _, h1, h3, ⟨h2, fun j hj => absurd hj (Nat.not_lt_zero j), fun j hj => absurd hj (Nat.not_lt_zero j), fun j hj => absurd hj (Nat.not_lt_zero j)⟩, ⟨fun j hj => absurd hj (Nat.not_lt_zero j), fun j hj => absurd hj (Nat.not_lt_zero j), fun j hj => absurd hj (Nat.not_lt_zero j), fun j hj => absurd hj (Nat.not_lt_zero j)⟩⟩
theorem i_vc_statements {k : Nat} {u : SX} {v : SY} (I : i_Rel k u v) (hk : k + 5 ≤ 2560) : wpX_statements (fun r => wpY_statements (fun r' => r' = r ∧ i_Rel (k + 5) u v) v) u := by
  have I' := I
  obtain ⟨h, c, K, A, N, V, xplace, xstate, xrandomSteps, xrunWeight, xending, xbestWeight, xbestCode, xbestSteps, xstackValues, xkinds, xvariables, xnumbers, xprogramValues, xopen, xblockOf, xelseOf, xendOf, xroundsLeft, xrunVisits, xstateWeights, xvisitSums, yopen, yat, ydepth, ystate, ysteps, yproduct, yend, ymost, ymostRow, ymostSteps, ykinds, yvariables, ynumbers, yvalues, yopened, ybegins, yleft, youtcomes, ymet, ysums, yvisited, rfl, rfl, Fh⟩ := I
  exact ⟨rfl, I'⟩
theorem i_vc_pop {k : Nat} {u : SX} {v : SY} (I : i_Rel k u v) (hk : k + 5 ≤ 2560) : wpX_pop (fun r u' => wpY_pop (fun r' v' => r' = r ∧ i_Rel (k + 5) u' v') v) u := by
  have I' := I
  obtain ⟨h, c, K, A, N, V, xplace, xstate, xrandomSteps, xrunWeight, xending, xbestWeight, xbestCode, xbestSteps, xstackValues, xkinds, xvariables, xnumbers, xprogramValues, xopen, xblockOf, xelseOf, xendOf, xroundsLeft, xrunVisits, xstateWeights, xvisitSums, yopen, yat, ydepth, ystate, ysteps, yproduct, yend, ymost, ymostRow, ymostSteps, ykinds, yvariables, ynumbers, yvalues, yopened, ybegins, yleft, youtcomes, ymet, ysums, yvisited, rfl, rfl, Fh⟩ := I
  have h6 := Fh.1
  unfold wpX_pop wpY_pop
  refine pk_eq h 0 (fun e => ?_) (fun e => ?_)
  · exact br_t (by rw [e]; rfl) ⟨rfl, I'⟩
  · obtain ⟨m, rfl⟩ : ∃ m, h = m + 1 := ⟨h - 1, by omega⟩
    refine nm_r (nI_pred m) (br_f (nI_ne0 (by omega) (by omega)) (nm_r (nI_pred m) ⟨rfl, re_mk (A := A) (N := N) (V := V) _ ?_⟩))
    exact ⟨by omega, Fh.2⟩
theorem i_vc_clear {k : Nat} {u : SX} {v : SY} (I : i_Rel k u v) (hk : k + 5 ≤ 2560) : wpX_clear (fun u' => wpY_clear (fun v' => i_Rel (k + 5) u' v') v) u := by
  obtain ⟨h, c, K, A, N, V, xplace, xstate, xrandomSteps, xrunWeight, xending, xbestWeight, xbestCode, xbestSteps, xstackValues, xkinds, xvariables, xnumbers, xprogramValues, xopen, xblockOf, xelseOf, xendOf, xroundsLeft, xrunVisits, xstateWeights, xvisitSums, yopen, yat, ydepth, ystate, ysteps, yproduct, yend, ymost, ymostRow, ymostSteps, ykinds, yvariables, ynumbers, yvalues, yopened, ybegins, yleft, youtcomes, ymet, ysums, yvisited, rfl, rfl, Fh⟩ := I
  unfold wpX_clear wpY_clear
  refine xl_all (c := 0) wf_0 (fun j hj => absurd hj (Nat.not_lt_zero j)) fun o' k' b' e' f' h1 h2 h3 => ?_
  exact re_mk (h := 0) (c := 0) (K := fun _ => 8) (A := fun _ => 0) (N := fun _ => 0) (V := fun _ _ => 0) _ ⟨by omega, Fh.2.1, wf_0, cp_dat0 _ _ _, h1, h3, ⟨h2, fun j hj => absurd hj (Nat.not_lt_zero j), fun j hj => absurd hj (Nat.not_lt_zero j), fun j hj => absurd hj (Nat.not_lt_zero j)⟩, ⟨fun j hj => absurd hj (Nat.not_lt_zero j), fun j hj => absurd hj (Nat.not_lt_zero j), fun j hj => absurd hj (Nat.not_lt_zero j), fun j hj => absurd hj (Nat.not_lt_zero j)⟩⟩
theorem i_vc_drop {k : Nat} {u : SX} {v : SY} (I : i_Rel k u v) (hk : k + 5 ≤ 2560) : wpX_drop (fun r u' => wpY_drop (fun r' v' => r' = r ∧ i_Rel (k + 5) u' v') v) u := by
  have I' := I
  obtain ⟨h, c, K, A, N, V, xplace, xstate, xrandomSteps, xrunWeight, xending, xbestWeight, xbestCode, xbestSteps, xstackValues, xkinds, xvariables, xnumbers, xprogramValues, xopen, xblockOf, xelseOf, xendOf, xroundsLeft, xrunVisits, xstateWeights, xvisitSums, yopen, yat, ydepth, ystate, ysteps, yproduct, yend, ymost, ymostRow, ymostSteps, ykinds, yvariables, ynumbers, yvalues, yopened, ybegins, yleft, youtcomes, ymet, ysums, yvisited, rfl, rfl, Fh⟩ := I
  have h24 := Fh.2.2.1.1
  unfold wpX_drop wpY_drop
  refine pk_eq c 0 (fun e => ?_) (fun e => ?_)
  · exact br_t (by rw [e]; rfl) ⟨rfl, I'⟩
  · obtain ⟨m, rfl⟩ : ∃ m, c = m + 1 := ⟨c - 1, by omega⟩
    obtain ⟨g1, g2, W, D, g5, g6, ⟨x1, x2, x3, x4⟩, ⟨y1, y2, y3, y4⟩⟩ := Fh
    have hM := cp_M_le W
    have W' := wf_drop W
    have hpn : ∀ j, j < m → cp_pt K m 8 j = K j := fun j hj => pt_n (by omega)
    refine nm_r (nI_pred m) (xl_all W' (fun j hj => by rw [hpn j hj]; exact x1 j (by omega)) fun o' k' b' e' f' h1 h2 h3 => br_f (nI_ne0 (by omega) (by omega)) (nm_r (nI_pred m) ⟨rfl, ?_⟩))
    refine re_mk (A := A) (N := N) (V := V) _ ⟨g1, g2, W', fun q => ?_, h1, h3, ⟨h2, fun j hj hk => ?_, fun j hj hk => ?_, fun j hj hk => ?_⟩, ⟨fun j hj => ?_, fun j hj hk => ?_, fun j hj hk => ?_, fun j hj hk => ?_⟩⟩
    · by_cases e2 : q = m
      · rw [e2, pt_c]
        exact ⟨fun z => absurd z (by decide), fun z => absurd z (by decide), fun z => absurd z (by decide), fun z => absurd z (by decide)⟩
      · rw [pt_n e2]
        exact D q
    · rw [hpn j hj] at hk; exact x2 j (by omega) hk
    · rw [hpn j hj] at hk; exact x3 j (by omega) hk
    · rw [hpn j hj] at hk; exact x4 j (by omega) hk
    · rw [hpn j hj]; exact y1 j (by omega)
    · rw [hpn j hj] at hk; exact y2 j (by omega) hk
    · rw [hpn j hj] at hk; exact y3 j (by omega) hk
    · rw [hpn j hj] at hk; exact y4 j (by omega) hk
theorem i_vc_tune {k : Nat} {u : SX} {v : SY} (I : i_Rel k u v) (hk : k + 5 ≤ 2560) (v1 : Int32) (v2 : Int32) : wpX_tune (fun r u' => wpY_tune (fun r' v' => r' = r ∧ i_Rel (k + 5) u' v') v v1 v2) u v1 v2 := by
  have I' := I
  obtain ⟨h, c, K, A, N, V, xplace, xstate, xrandomSteps, xrunWeight, xending, xbestWeight, xbestCode, xbestSteps, xstackValues, xkinds, xvariables, xnumbers, xprogramValues, xopen, xblockOf, xelseOf, xendOf, xroundsLeft, xrunVisits, xstateWeights, xvisitSums, yopen, yat, ydepth, ystate, ysteps, yproduct, yend, ymost, ymostRow, ymostSteps, ykinds, yvariables, ynumbers, yvalues, yopened, ybegins, yleft, youtcomes, ymet, ysums, yvisited, rfl, rfl, Fh⟩ := I
  obtain ⟨g1, g2, W, D, g5, g6, ⟨x1, x2, x3, x4⟩, ⟨y1, y2, y3, y4⟩⟩ := Fh
  have hM := cp_M_le W
  have h24 := W.1
  unfold wpX_tune wpX_isNumber wpY_tune
  rcases pk_ix v1 (show c < 2 ^ 31 by omega) with h1 | h1 | ⟨j, hj, rfl⟩
  · exact br_t h1 (br_t rfl (br_t h1 ⟨rfl, I'⟩))
  · by_cases h0 : v1 < 0
    · exact br_t h0 (br_t rfl (br_t h0 ⟨rfl, I'⟩))
    · exact br_f h0 (br_t h1 (br_t rfl (br_f h0 (br_t h1 ⟨rfl, I'⟩))))
  · have hcj : (nI j).toNatClampNeg = j := nI_clamp (by omega)
    have hK8 := (W.2.2 j hj).1
    have vpj : vp_in (nI j) 27 := vp_in_nI (by omega) (by omega)
    have vpj2 : vp_in (nI j) 24 := vp_in_nI (by omega) (by omega)
    refine br_f (nI_pos (by omega)) (br_f (nI_ge hj (by omega)) (br_f (by decide) ⟨vpj, ?_⟩))
    rw [hcj, x1 j (by omega)]
    have hY : ∀ P : Prop, P → P := fun _ p => p
    refine pk_eq (K j) 1 (fun e => br_c (fun hn => ?_) (fun hp => br_c (fun h16 => ⟨vpj, nm_r (x3 j hj (Or.inl e)) ⟨vpj, nm_e ?_⟩⟩) (fun h16 => ?_))) (fun e => ?_)
    · refine br_f (nI_pos (by omega)) (br_f (nI_ge hj (by omega)) ⟨vpj2, ?_⟩)
      rw [y1 j hj]
      exact pk_eq (K j) 1 (fun _ => br_t hn ⟨rfl, I'⟩) (fun z => absurd e z)
    · refine br_f (nI_pos (by omega)) (br_f (nI_ge hj (by omega)) ⟨vpj2, ?_⟩)
      rw [y1 j hj]
      refine pk_eq (K j) 1 (fun _ => br_f hp (br_t h16 ⟨vpj2, nm_r (y3 j hj (Or.inl e)) ⟨vpj2, nm_e ⟨rfl, ?_⟩⟩⟩)) (fun z => absurd e z)
      obtain ⟨w, hw, rfl⟩ := cp_in (n := 17) (by omega) hp (fun z => absurd (Int32.le_trans z h16) (by decide))
      refine re_mk (A := A) (N := cp_pt N j w) (V := V) _ ⟨g1, g2, W, fun q => ?_, g5, g6, ⟨x1, x2, fun i hi hk => ?_, x4⟩, ⟨y1, y2, fun i hi hk => ?_, y4⟩⟩
      · obtain ⟨d1, d2, d3, d4⟩ := D q
        by_cases e2 : q = j
        · subst e2
          rw [pt_c]
          exact ⟨d1, fun _ => by omega, fun z => by omega, d4⟩
        · rw [pt_n e2]
          exact ⟨d1, d2, d3, d4⟩
      · by_cases e2 : i = j
        · subst e2; rw [pk_us, pt_c]
        · rw [pk_un e2, pt_n e2]; exact x3 i hi hk
      · by_cases e2 : i = j
        · subst e2; rw [pk_us, pt_c]
        · rw [pk_un e2, pt_n e2]; exact y3 i hi hk
    · refine br_f (nI_pos (by omega)) (br_f (nI_ge hj (by omega)) ⟨vpj2, ?_⟩)
      rw [y1 j hj]
      exact pk_eq (K j) 1 (fun _ => br_f hp (br_f h16 ⟨rfl, I'⟩)) (fun z => absurd e z)
    · refine br_f (nI_pos (by omega)) (br_f (nI_ge hj (by omega)) ⟨vpj2, ?_⟩)
      rw [y1 j hj]
      exact pk_eq (K j) 1 (fun z => absurd z e) (fun _ => ⟨rfl, I'⟩)
