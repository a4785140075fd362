/-! push -/
section
variable {xexpressionCount xstatementCount xopenCount xclosedLength xplace xstate xrandomSteps xrunWeight xending xbestWeight xbestCode xbestSteps : Int32} {xstackValues xkinds xvariables xnumbers xprogramValues xopen xblockOf xelseOf xendOf xroundsLeft xrunVisits xstateWeights : Nat → Int32} {xvisitSums : Nat → Int64}
theorem xe_is {post : Int32 → Prop} {q : Nat} {a : Int32} (hq : q < 10) (h0 : ((q = 0 ∧ cp_bk a) ∨ (q = 1 ∧ cp_bv a)) → post 0) (h1 : ((q = 0 → ∃ v, v < 4 ∧ a = nI v) ∧ (q = 1 → ∃ v, v < 3 ∧ a = nI v)) → post 1) : wpX_isExpression post (nI q) a := by
  unfold wpX_isExpression
  refine pk_eq q 0 (fun e => xv_val (fun b => ⟨rfl, h0 (Or.inl ⟨e, b⟩)⟩) (fun v hv e2 => ⟨rfl, h1 ⟨fun _ => ⟨v, hv, e2⟩, fun z => by omega⟩⟩)) (fun n0 => pk_eq q 1 (fun e => xv_var (fun b => ⟨rfl, h0 (Or.inr ⟨e, b⟩)⟩) (fun v hv e2 => ⟨rfl, h1 ⟨fun z => by omega, fun _ => ⟨v, hv, e2⟩⟩⟩)) (fun n1 => pk_lt q 2 (fun z => by omega) (fun _ => pk_lt 9 q (fun z => by omega) (fun _ => h1 ⟨fun z => by omega, fun z => by omega⟩))))
end
section
variable {yheight ycount yopen yat ydepth ystate ysteps yproduct yend ymost ymostRow ymostSteps : Int32} {ystack ykinds yvariables ynumbers yvalues yopened ybegins yleft youtcomes ymet ysums : Nat → Int32} {yvisited : Nat → Int64}
theorem ye_is {post : Int32 → SY → Prop} {q : Nat} {a : Int32} (hq : q < 10) (h0 : ((q = 0 ∧ cp_bk a) ∨ (q = 1 ∧ cp_bv a)) → post (-1) (yheight, ycount, yopen, yat, ydepth, ystate, ysteps, yproduct, yend, ymost, ymostRow, ymostSteps, ystack, ykinds, yvariables, ynumbers, yvalues, yopened, ybegins, yleft, youtcomes, ymet, ysums, yvisited)) (h1 : (¬ ((q = 0 ∧ cp_bk a) ∨ (q = 1 ∧ cp_bv a))) → wY_push_59 post (nI q) a (nI (cp_tk q)) yheight ycount yopen yat ydepth ystate ysteps yproduct yend ymost ymostRow ymostSteps ystack ykinds yvariables ynumbers yvalues yopened ybegins yleft youtcomes ymet ysums yvisited) : wpY_push post (yheight, ycount, yopen, yat, ydepth, ystate, ysteps, yproduct, yend, ymost, ymostRow, ymostSteps, ystack, ykinds, yvariables, ynumbers, yvalues, yopened, ybegins, yleft, youtcomes, ymet, ysums, yvisited) (nI q) a := by
  have h39 : (¬ ((q = 0 ∧ cp_bk a) ∨ (q = 1 ∧ cp_bv a))) → wY_push_39 post (nI q) a yheight ycount yopen yat ydepth ystate ysteps yproduct yend ymost ymostRow ymostSteps ystack ykinds yvariables ynumbers yvalues yopened ybegins yleft youtcomes ymet ysums yvisited := fun hb => by
    have h := h1 hb
    unfold wY_push_39
    refine pk_le 2 q (fun h2 => pk_eq q 7 (fun e => ?_) (fun e => ?_)) (fun h2 => ?_)
    · rw [cp_tk, if_neg (by omega), if_pos e] at h
      exact h
    · rw [cp_tk, if_neg (by omega), if_neg e] at h
      exact h
    · rw [cp_tk, if_pos h2] at h
      exact h
  have h23 : ¬ (q = 0 ∧ cp_bk a) → wY_push_23 post (nI q) a yheight ycount yopen yat ydepth ystate ysteps yproduct yend ymost ymostRow ymostSteps ystack ykinds yvariables ynumbers yvalues yopened ybegins yleft youtcomes ymet ysums yvisited := fun hb => by
    unfold wY_push_23
    refine pk_eq q 1 (fun e => br_c (fun z => h0 (Or.inr ⟨e, Or.inl z⟩)) (fun z => br_c (fun z2 => h39 (fun y => y.elim hb (fun y => y.2.elim z (fun y => absurd (Int32.le_trans y z2) (by decide))))) (fun z2 => h0 (Or.inr ⟨e, Or.inr ((cp_lt23 a).mp (Int32.not_le.mp z2))⟩)))) (fun e => h39 (fun y => y.elim hb (fun y => e y.1)))
  unfold wpY_push
  refine br_f (nI_pos (by omega)) (pk_lt 9 q (fun z => by omega) (fun _ => pk_eq q 0 (fun e => br_c (fun z => h0 (Or.inl ⟨e, Or.inl z⟩)) (fun z => br_c (fun z2 => h0 (Or.inl ⟨e, Or.inr ((cp_lt34 a).mp z2)⟩)) (fun z2 => h23 (fun y => y.2.elim z (fun y => z2 ((cp_lt34 a).mpr y)))))) (fun e => h23 (fun y => e y.1))))
theorem ye_all {post : Int32 → SY → Prop} {q a' h : Nat} {a : Int32} (hq : q < 10) (hh : h ≤ 6) (hb : ¬ ((q = 0 ∧ cp_bk a) ∨ (q = 1 ∧ cp_bv a))) (hf : cp_4 ystack) (ha : q < 2 → a = nI a') (ha1 : q = 1 → a' < 3)
    (m2 : h < cp_tk q → post (-2) (nI h, ycount, yopen, yat, ydepth, ystate, ysteps, yproduct, yend, ymost, ymostRow, ymostSteps, ystack, ykinds, yvariables, ynumbers, yvalues, yopened, ybegins, yleft, youtcomes, ymet, ysums, yvisited)) (m3 : cp_tk q = 0 → h = 6 → post (-3) (nI h, ycount, yopen, yat, ydepth, ystate, ysteps, yproduct, yend, ymost, ymostRow, ymostSteps, ystack, ykinds, yvariables, ynumbers, yvalues, yopened, ybegins, yleft, youtcomes, ymet, ysums, yvisited)) (go : cp_tk q ≤ h → (cp_tk q = 0 → h < 6) → post (nI (h - cp_tk q + 1)) (nI (h - cp_tk q + 1), ycount, yopen, yat, ydepth, ystate, ysteps, yproduct, yend, ymost, ymostRow, ymostSteps, cp_fl q a' (64 * (h - cp_tk q)) ystack 64, ykinds, yvariables, ynumbers, yvalues, yopened, ybegins, yleft, youtcomes, ymet, ysums, yvisited)) : wpY_push post (nI h, ycount, yopen, yat, ydepth, ystate, ysteps, yproduct, yend, ymost, ymostRow, ymostSteps, ystack, ykinds, yvariables, ynumbers, yvalues, yopened, ybegins, yleft, youtcomes, ymet, ysums, yvisited) (nI q) a := by
  have ht : cp_tk q < 3 := by unfold cp_tk; split <;> (try split) <;> omega
  refine ye_is hq (fun z => absurd z hb) (fun _ => ?_)
  unfold wY_push_59
  refine pk_le (cp_tk q) h (fun h1 => pk_eq (cp_tk q) 0 (fun e => pk_eq h 6 (fun e6 => m3 e e6) (fun e6 => ?_)) (fun e => ?_)) (fun h1 => m2 h1)
  · exact yc_push (by omega) hh h1 (fun _ => by omega) hf ha ha1 (go h1 (fun _ => by omega))
  · exact yc_push (by omega) hh h1 (fun z => absurd z e) hf ha ha1 (go h1 (fun z => absurd z e))
end
theorem i_vc_push {k : Nat} {u : SX} {v : SY} (I : i_Rel k u v) (hk : k + 5 ≤ 2560) (v1 : Int32) (v2 : Int32) : wpX_push (fun r u' => wpY_push (fun r' v' => r' = r ∧ i_Rel (k + 5) u' v') v v1 v2) u v1 v2 := by
  have I' := I
  obtain ⟨h, c, K, A, N, V, xplace, xstate, xrandomSteps, xrunWeight, xending, xbestWeight, xbestCode, xbestSteps, xstackValues, xkinds, xvariables, xnumbers, xprogramValues, xopen, xblockOf, xelseOf, xendOf, xroundsLeft, xrunVisits, xstateWeights, xvisitSums, yopen, yat, ydepth, ystate, ysteps, yproduct, yend, ymost, ymostRow, ymostSteps, ykinds, yvariables, ynumbers, yvalues, yopened, ybegins, yleft, youtcomes, ymet, ysums, yvisited, rfl, rfl, Fh⟩ := I
  obtain ⟨g1, g2, g3⟩ := id Fh
  unfold wpX_push
  by_cases h0 : v1 < 0
  · unfold wpX_isExpression
    refine br_f (fun z => by rw [z] at h0; exact absurd h0 (by decide)) (br_f (fun z => by rw [z] at h0; exact absurd h0 (by decide)) (br_t (Int32.lt_trans h0 (by decide)) (br_t rfl ?_)))
    unfold wpY_push
    exact br_t h0 ⟨rfl, I'⟩
  rcases pk_ix v1 (n := 10) (by omega) with h1 | h1 | ⟨q, hq, rfl⟩
  · exact absurd h1 h0
  · have h9 : 9 < v1 := Int32.lt_of_lt_of_le (show (9 : Int32) < nI 10 by decide) h1
    unfold wpX_isExpression
    refine br_f (fun z => by rw [z] at h9; exact absurd h9 (by decide)) (br_f (fun z => by rw [z] at h9; exact absurd h9 (by decide)) (br_f (fun z => absurd (Int32.lt_trans h9 z) (by decide)) (br_t h9 (br_t rfl ?_))))
    unfold wpY_push
    exact br_f h0 (br_t h9 ⟨rfl, I'⟩)
  · refine xe_is hq (fun b => br_t rfl (ye_is hq (fun _ => ⟨rfl, I'⟩) (fun z => absurd b z))) (fun hg => br_f (by decide) (xc_taken (by omega) ?_))
    have hb : ¬ ((q = 0 ∧ cp_bk v2) ∨ (q = 1 ∧ cp_bv v2)) := fun z => by
      rcases z with z | z
      · obtain ⟨w, hw, e⟩ := hg.1 z.1
        exact bk_no hw (by rw [← e]; exact z.2)
      · obtain ⟨w, hw, e⟩ := hg.2 z.1
        exact bv_no hw (by rw [← e]; exact z.2)
    have ha : q < 2 → v2 = nI v2.toNatClampNeg := fun h2 => by
      by_cases e0 : q = 0
      · obtain ⟨w, hw, e⟩ := hg.1 e0
        rw [e, nI_clamp (by omega)]
      · obtain ⟨w, hw, e⟩ := hg.2 (by omega)
        rw [e, nI_clamp (by omega)]
    have ha1 : q = 1 → v2.toNatClampNeg < 3 := fun e1 => by
      obtain ⟨w, hw, e⟩ := hg.2 e1
      rw [e, nI_clamp (by omega)]
      exact hw
    have ha0 : q = 0 → v2.toNatClampNeg < 4 := fun e1 => by
      obtain ⟨w, hw, e⟩ := hg.1 e1
      rw [e, nI_clamp (by omega)]
      exact hw
    have ht : cp_tk q < 3 := by unfold cp_tk; split <;> (try split) <;> omega
    have fin : cp_tk q ≤ h → (cp_tk q = 0 → h < 6) → cp_F (h - cp_tk q + 1) c K A N V (cp_fl q v2.toNatClampNeg (64 * (h - cp_tk q)) xstackValues 64) xkinds xvariables xnumbers xprogramValues xopen xblockOf xelseOf xendOf ykinds yvariables ynumbers yvalues := fun a b => ⟨by omega, fl_4 ha0 g2 64, g3⟩
    refine pk_le (cp_tk q) h (fun h1 => pk_eq (cp_tk q) 0 (fun e => pk_lt h 6 (fun h6 => ?_) (fun h6 => ?_)) (fun e => ?_)) (fun h1 => ?_)
    · refine xc_push (by omega) g1 h1 (fun _ => h6) g2 ha ha1 ?_
      exact ye_all hq g1 hb g2 ha ha1 (fun z => by omega) (fun _ z => by omega) (fun a b => ⟨rfl, re_mk _ (fin a b)⟩)
    · exact ye_all hq g1 hb g2 ha ha1 (fun z => by omega) (fun _ _ => ⟨rfl, I'⟩) (fun a b => by have := b e; omega)
    · refine xc_push (by omega) g1 h1 (fun z => absurd z e) g2 ha ha1 ?_
      exact ye_all hq g1 hb g2 ha ha1 (fun z => by omega) (fun z _ => absurd z e) (fun a b => ⟨rfl, re_mk _ (fin a b)⟩)
    · exact ye_all hq g1 hb g2 ha ha1 (fun _ => ⟨rfl, I'⟩) (fun z _ => by omega) (fun a b => by omega)
