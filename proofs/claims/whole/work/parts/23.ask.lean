/-! the questions -/
def cp_bv (x : Int32) : Prop := x < 0 ∨ 3 ≤ x
def cp_bk (x : Int32) : Prop := x < 0 ∨ 4 ≤ x
theorem bv_no {v : Nat} (h : v < 3) : ¬ cp_bv (nI v) := fun z => z.elim (nI_pos (by omega)) (nI_ge (b := 3) h (by decide))
theorem bk_no {v : Nat} (h : v < 4) : ¬ cp_bk (nI v) := fun z => z.elim (nI_pos (by omega)) (nI_ge (b := 4) h (by decide))
theorem xv_var {post : Int32 → Prop} {x : Int32} (h0 : cp_bv x → post 0) (h1 : ∀ v, v < 3 → x = nI v → post 1) : wpX_isVariable post x := by
  unfold wpX_isVariable
  refine br_c (fun h => h0 (Or.inl h)) (fun hn => br_c (fun h => h0 (Or.inr h)) (fun h => ?_))
  obtain ⟨v, hv, e⟩ := cp_in (n := 3) (by omega) hn h
  exact h1 v hv e
theorem xv_val {post : Int32 → Prop} {x : Int32} (h0 : cp_bk x → post 0) (h1 : ∀ v, v < 4 → x = nI v → post 1) : wpX_isValue post x := by
  unfold wpX_isValue
  refine br_c (fun h => h0 (Or.inl h)) (fun hn => br_c (fun h => h0 (Or.inr h)) (fun h => ?_))
  obtain ⟨v, hv, e⟩ := cp_in (n := 4) (by omega) hn h
  exact h1 v hv e
section
variable {yheight ycount yopen yat ydepth ystate ysteps yproduct yend ymost ymostRow ymostSteps : Int32} {ystack ykinds yvariables ynumbers yvalues yopened ybegins yleft youtcomes ymet ysums : Nat → Int32} {yvisited : Nat → Int64}
theorem yv_var {post : Int32 → Prop} {x : Int32} (h0 : cp_bv x → post 0) (h1 : ∀ v, v < 3 → x = nI v → post 1) : wpY_isVariable post (yheight, ycount, yopen, yat, ydepth, ystate, ysteps, yproduct, yend, ymost, ymostRow, ymostSteps, ystack, ykinds, yvariables, ynumbers, yvalues, yopened, ybegins, yleft, youtcomes, ymet, ysums, yvisited) x := by
  unfold wpY_isVariable
  refine br_c (fun h => h0 (Or.inl h)) (fun hn => br_c (fun h => h0 (Or.inr ((cp_lt23 x).mp h))) (fun h => ?_))
  obtain ⟨v, hv, e⟩ := cp_in (n := 3) (by omega) hn (fun z => h ((cp_lt23 x).mpr z))
  exact h1 v hv e
theorem yv_val {post : Int32 → Prop} {x : Int32} (h0 : cp_bk x → post 0) (h1 : ∀ v, v < 4 → x = nI v → post 1) : wpY_isValue post (yheight, ycount, yopen, yat, ydepth, ystate, ysteps, yproduct, yend, ymost, ymostRow, ymostSteps, ystack, ykinds, yvariables, ynumbers, yvalues, yopened, ybegins, yleft, youtcomes, ymet, ysums, yvisited) x := by
  unfold wpY_isValue
  refine br_c (fun h => h0 (Or.inl h)) (fun hn => br_c (fun h => h0 (Or.inr ((cp_lt34 x).mp h))) (fun h => ?_))
  obtain ⟨v, hv, e⟩ := cp_in (n := 4) (by omega) hn (fun z => h ((cp_lt34 x).mpr z))
  exact h1 v hv e
theorem yj_joint {post : Int32 → SY → Prop} {x1 x2 x3 x4 : Int32} (h0 : (cp_bv x1 ∨ cp_bk x2 ∨ cp_bv x3 ∨ cp_bk x4) → post (-1) (yheight, ycount, yopen, yat, ydepth, ystate, ysteps, yproduct, yend, ymost, ymostRow, ymostSteps, ystack, ykinds, yvariables, ynumbers, yvalues, yopened, ybegins, yleft, youtcomes, ymet, ysums, yvisited))
    (h1 : (¬ (cp_bv x1 ∨ cp_bk x2 ∨ cp_bv x3 ∨ cp_bk x4)) → wpY_work (fun u => wpY_total (fun r => post r u) u x1 x2 x3 x4) (yheight, ycount, yopen, yat, ydepth, ystate, ysteps, yproduct, yend, ymost, ymostRow, ymostSteps, ystack, ykinds, yvariables, ynumbers, yvalues, yopened, ybegins, yleft, youtcomes, ymet, ysums, yvisited)) : wpY_joint post (yheight, ycount, yopen, yat, ydepth, ystate, ysteps, yproduct, yend, ymost, ymostRow, ymostSteps, ystack, ykinds, yvariables, ynumbers, yvalues, yopened, ybegins, yleft, youtcomes, ymet, ysums, yvisited) x1 x2 x3 x4 := by
  unfold wpY_joint
  refine yv_var (fun b => br_t rfl (h0 (Or.inl b))) (fun a1 e1 f1 => br_f (by decide) (yv_val (fun b => br_t rfl (h0 (Or.inr (Or.inl b)))) (fun a2 e2 f2 => br_f (by decide) (yv_var (fun b => br_t rfl (h0 (Or.inr (Or.inr (Or.inl b))))) (fun a3 e3 f3 => br_f (by decide) (yv_val (fun b => br_t rfl (h0 (Or.inr (Or.inr (Or.inr b))))) (fun a4 e4 f4 => br_f (by decide) ?_)))))))
  subst f1 f2 f3 f4
  exact h1 (fun z => z.elim (bv_no e1) (fun z => z.elim (bk_no e2) (fun z => z.elim (bv_no e3) (bk_no e4))))
end
theorem si_Sm {R : Nat → cp_S} {K : Nat → Nat} {c n : Nat} {sw : Nat → Int32} {vs : Nat → Int64} (H : cp_TL R K c n sw vs) : cp_si sw 64 = nI (cp_sm (cp_Sm R n) 64) := by
  rw [← si_nI]
  exact si_congr 64 H.1
theorem kw_Sm {R : Nat → cp_S} {K : Nat → Nat} {c n v k w l : Nat} {sw : Nat → Int32} {vs : Nat → Int64} (H : cp_TL R K c n sw vs) : cp_kw v k w l sw 64 = nI (cp_sm (fun s => if s / 4 ^ v % 4 = k ∧ s / 4 ^ w % 4 = l then cp_Sm R n s else 0) 64) := kw_nat H.1
theorem kw_eq {R : Nat → cp_S} {K : Nat → Nat} {c n : Nat} {sw sw' : Nat → Int32} {vs vs' : Nat → Int64} (H : cp_TL R K c n sw vs) (H' : cp_TL R K c n sw' vs') (v k w l : Nat) : cp_kw v k w l sw' 64 = cp_kw v k w l sw 64 :=
  kw_congr fun s hs => by rw [H.1 s hs, H'.1 s hs]
theorem i_vc_weight {k : Nat} {u : SX} {v : SY} (I : i_Rel k u v) (hk : k + 5 ≤ 2560) : wpX_weight (fun r u' => wpY_weight (fun r' v' => r' = r ∧ i_Rel (k + 5) u' v') v) u := by
  obtain ⟨h, c, K, A, N, V, xplace, xstate, xrandomSteps, xrunWeight, xending, xbestWeight, xbestCode, xbestSteps, xstackValues, xkinds, xvariables, xnumbers, xprogramValues, xopen, xblockOf, xelseOf, xendOf, xroundsLeft, xrunVisits, xstateWeights, xvisitSums, yopen, yat, ydepth, ystate, ysteps, yproduct, yend, ymost, ymostRow, ymostSteps, ykinds, yvariables, ynumbers, yvalues, yopened, ybegins, yleft, youtcomes, ymet, ysums, yvisited, rfl, rfl, Fh⟩ := I
  obtain ⟨E, F, B, G, HX⟩ := re_G Fh
  unfold wpX_weight wpY_weight
  refine xt_all G HX Fh.2.2.2.2.2.2.1 fun pl st sp rw en rl rv sw vs HT => xq_kw ?_
  refine yw_all G Fh.2.2.2.2.2.2.2 fun pl' dp' st' sp' pr' en' mw' bg' lf' oc' mt' sw' vs' HT' _ => yq_wh ⟨?_, re_mk _ Fh⟩
  rw [si_Sm HT, si_Sm HT']
theorem i_vc_greatest {k : Nat} {u : SX} {v : SY} (I : i_Rel k u v) (hk : k + 5 ≤ 2560) : wpX_greatest (fun r u' => wpY_greatest (fun r' v' => r' = r ∧ i_Rel (k + 5) u' v') v) u := by
  obtain ⟨h, c, K, A, N, V, xplace, xstate, xrandomSteps, xrunWeight, xending, xbestWeight, xbestCode, xbestSteps, xstackValues, xkinds, xvariables, xnumbers, xprogramValues, xopen, xblockOf, xelseOf, xendOf, xroundsLeft, xrunVisits, xstateWeights, xvisitSums, yopen, yat, ydepth, ystate, ysteps, yproduct, yend, ymost, ymostRow, ymostSteps, ykinds, yvariables, ynumbers, yvalues, yopened, ybegins, yleft, youtcomes, ymet, ysums, yvisited, rfl, rfl, Fh⟩ := I
  obtain ⟨E, F, B, G, HX⟩ := re_G Fh
  unfold wpX_greatest wpY_greatest
  refine xt_all G HX Fh.2.2.2.2.2.2.1 fun pl st sp rw en rl rv sw vs HT => ?_
  exact yw_all G Fh.2.2.2.2.2.2.2 fun pl' dp' st' sp' pr' en' mw' bg' lf' oc' mt' sw' vs' HT' _ => ⟨rfl, re_mk _ Fh⟩
theorem i_vc_joint {k : Nat} {u : SX} {v : SY} (I : i_Rel k u v) (hk : k + 5 ≤ 2560) (v1 : Int32) (v2 : Int32) (v3 : Int32) (v4 : Int32) : wpX_joint (fun r u' => wpY_joint (fun r' v' => r' = r ∧ i_Rel (k + 5) u' v') v v1 v2 v3 v4) u v1 v2 v3 v4 := by
  have I' := I
  obtain ⟨h, c, K, A, N, V, xplace, xstate, xrandomSteps, xrunWeight, xending, xbestWeight, xbestCode, xbestSteps, xstackValues, xkinds, xvariables, xnumbers, xprogramValues, xopen, xblockOf, xelseOf, xendOf, xroundsLeft, xrunVisits, xstateWeights, xvisitSums, yopen, yat, ydepth, ystate, ysteps, yproduct, yend, ymost, ymostRow, ymostSteps, ykinds, yvariables, ynumbers, yvalues, yopened, ybegins, yleft, youtcomes, ymet, ysums, yvisited, rfl, rfl, Fh⟩ := I
  obtain ⟨E, F, B, G, HX⟩ := re_G Fh
  unfold wpX_joint
  refine xv_var (fun b => br_t rfl (yj_joint (fun _ => ⟨rfl, I'⟩) (fun z => absurd (Or.inl b) z))) (fun a1 e1 f1 => br_f (by decide) (xv_val (fun b => br_t rfl (yj_joint (fun _ => ⟨rfl, I'⟩) (fun z => absurd (Or.inr (Or.inl b)) z))) (fun a2 e2 f2 => br_f (by decide) (xv_var (fun b => br_t rfl (yj_joint (fun _ => ⟨rfl, I'⟩) (fun z => absurd (Or.inr (Or.inr (Or.inl b))) z))) (fun a3 e3 f3 => br_f (by decide) (xv_val (fun b => br_t rfl (yj_joint (fun _ => ⟨rfl, I'⟩) (fun z => absurd (Or.inr (Or.inr (Or.inr b))) z))) (fun a4 e4 f4 => br_f (by decide) ?_)))))))
  subst f1 f2 f3 f4
  refine xt_all G HX Fh.2.2.2.2.2.2.1 fun pl st sp rw en rl rv sw vs HT => xq_ww e1 e2 e3 e4 ?_
  refine yj_joint (fun z => absurd z (fun z => z.elim (bv_no e1) (fun z => z.elim (bk_no e2) (fun z => z.elim (bv_no e3) (bk_no e4))))) (fun _ => ?_)
  exact yw_all G Fh.2.2.2.2.2.2.2 fun pl' dp' st' sp' pr' en' mw' bg' lf' oc' mt' sw' vs' HT' _ => yq_to e1 e2 e3 e4 ⟨kw_eq HT HT' _ _ _ _, re_mk _ Fh⟩
theorem i_vc_weightOf {k : Nat} {u : SX} {v : SY} (I : i_Rel k u v) (hk : k + 5 ≤ 2560) (v1 : Int32) (v2 : Int32) : wpX_weightOf (fun r u' => wpY_weightOf (fun r' v' => r' = r ∧ i_Rel (k + 5) u' v') v v1 v2) u v1 v2 := by
  have I' := I
  obtain ⟨h, c, K, A, N, V, xplace, xstate, xrandomSteps, xrunWeight, xending, xbestWeight, xbestCode, xbestSteps, xstackValues, xkinds, xvariables, xnumbers, xprogramValues, xopen, xblockOf, xelseOf, xendOf, xroundsLeft, xrunVisits, xstateWeights, xvisitSums, yopen, yat, ydepth, ystate, ysteps, yproduct, yend, ymost, ymostRow, ymostSteps, ykinds, yvariables, ynumbers, yvalues, yopened, ybegins, yleft, youtcomes, ymet, ysums, yvisited, rfl, rfl, Fh⟩ := I
  obtain ⟨E, F, B, G, HX⟩ := re_G Fh
  unfold wpX_weightOf wpY_weightOf
  refine xv_var (fun b => br_t rfl (yj_joint (fun _ => ⟨rfl, I'⟩) (fun z => absurd (Or.inl b) z))) (fun a1 e1 f1 => br_f (by decide) (xv_val (fun b => br_t rfl (yj_joint (fun _ => ⟨rfl, I'⟩) (fun z => absurd (Or.inr (Or.inl b)) z))) (fun a2 e2 f2 => br_f (by decide) ?_)))
  subst f1 f2
  refine xt_all G HX Fh.2.2.2.2.2.2.1 fun pl st sp rw en rl rv sw vs HT => xq_ww e1 e2 e1 e2 ?_
  refine yj_joint (fun z => absurd z (fun z => z.elim (bv_no e1) (fun z => z.elim (bk_no e2) (fun z => z.elim (bv_no e1) (bk_no e2))))) (fun _ => ?_)
  exact yw_all G Fh.2.2.2.2.2.2.2 fun pl' dp' st' sp' pr' en' mw' bg' lf' oc' mt' sw' vs' HT' _ => yq_to e1 e2 e1 e2 ⟨kw_eq HT HT' _ _ _ _, re_mk _ Fh⟩
theorem i_vc_expected {k : Nat} {u : SX} {v : SY} (I : i_Rel k u v) (hk : k + 5 ≤ 2560) (v1 : Int32) : wpX_expected (fun r u' => wpY_expected (fun r' v' => r' = r ∧ i_Rel (k + 5) u' v') v v1) u v1 := by
  have I' := I
  obtain ⟨h, c, K, A, N, V, xplace, xstate, xrandomSteps, xrunWeight, xending, xbestWeight, xbestCode, xbestSteps, xstackValues, xkinds, xvariables, xnumbers, xprogramValues, xopen, xblockOf, xelseOf, xendOf, xroundsLeft, xrunVisits, xstateWeights, xvisitSums, yopen, yat, ydepth, ystate, ysteps, yproduct, yend, ymost, ymostRow, ymostSteps, ykinds, yvariables, ynumbers, yvalues, yopened, ybegins, yleft, youtcomes, ymet, ysums, yvisited, rfl, rfl, Fh⟩ := I
  obtain ⟨E, F, B, G, HX⟩ := re_G Fh
  unfold wpX_expected wpY_expected
  refine xv_var (fun b => br_t rfl (yv_var (fun _ => br_t rfl ⟨rfl, I'⟩) (fun a e f => absurd b (by rw [f]; exact bv_no e)))) (fun a1 e1 f1 => br_f (by decide) ?_)
  subst f1
  refine xt_all G HX Fh.2.2.2.2.2.2.1 fun pl st sp rw en rl rv sw vs HT => xq_exp e1 ?_
  refine yv_var (fun b => absurd b (bv_no e1)) (fun _ _ _ => br_f (by decide) ?_)
  refine yw_all G Fh.2.2.2.2.2.2.2 fun pl' dp' st' sp' pr' en' mw' bg' lf' oc' mt' sw' vs' HT' _ => ⟨65, yq_exp e1 ⟨?_, re_mk _ Fh⟩ 64 0 65 (by omega) (by omega)⟩
  exact si_congr 64 fun s hs => by rw [HT.1 s hs, HT'.1 s hs]
theorem i_vc_visits {k : Nat} {u : SX} {v : SY} (I : i_Rel k u v) (hk : k + 5 ≤ 2560) (v1 : Int32) : wpX_visits (fun r u' => wpY_visits (fun r' v' => r' = r ∧ i_Rel (k + 5) u' v') v v1) u v1 := by
  have I' := I
  obtain ⟨h, c, K, A, N, V, xplace, xstate, xrandomSteps, xrunWeight, xending, xbestWeight, xbestCode, xbestSteps, xstackValues, xkinds, xvariables, xnumbers, xprogramValues, xopen, xblockOf, xelseOf, xendOf, xroundsLeft, xrunVisits, xstateWeights, xvisitSums, yopen, yat, ydepth, ystate, ysteps, yproduct, yend, ymost, ymostRow, ymostSteps, ykinds, yvariables, ynumbers, yvalues, yopened, ybegins, yleft, youtcomes, ymet, ysums, yvisited, rfl, rfl, Fh⟩ := I
  obtain ⟨E, F, B, G, HX⟩ := re_G Fh
  obtain ⟨g1, g2, W, D, g5, g6, HA, HA'⟩ := id Fh
  have hM := cp_M_le W
  have h24 := W.1
  unfold wpX_visits wpX_isNumber wpY_visits
  by_cases h0 : v1 < 0
  · exact br_t h0 (br_t rfl (br_t h0 ⟨rfl, I'⟩))
  rcases pk_ix v1 (show c < 2 ^ 31 by omega) with h1 | h1 | ⟨j, hj, rfl⟩
  · exact absurd h1 h0
  · exact br_f h0 (br_t h1 (br_t rfl (br_f h0 (br_f (Int32.not_lt.mpr h1) ⟨rfl, I'⟩))))
  · have hcj : (nI j).toNatClampNeg = j := nI_clamp (by omega)
    have hK8 := (W.2.2 j hj).1
    have vpj : vp_in (nI j) 27 := vp_in_nI (by omega) (by omega)
    have vpj2 : vp_in (nI j) 24 := vp_in_nI (by omega) (by omega)
    refine br_f h0 (br_f (nI_ge hj (by omega)) (br_f (by decide) ⟨vpj, ?_⟩))
    rw [hcj, HA.1 j (by omega)]
    refine pk_eq (K j) 5 (fun e => br_f h0 (br_t (nI_lt hj (by omega)) ⟨vpj2, ?_⟩)) (fun n5 => ⟨vpj, pk_eq (K j) 8 (fun e => br_f h0 (br_t (nI_lt hj (by omega)) ⟨vpj2, ?_⟩)) (fun n8 => ?_)⟩)
    · rw [HA'.1 j hj]
      exact br_t (by rw [e]; rfl) ⟨rfl, I'⟩
    · rw [HA'.1 j hj]
      exact pk_eq (K j) 5 (fun z => absurd z n5) (fun _ => ⟨vpj2, br_t (by rw [e]; rfl) ⟨rfl, I'⟩⟩)
    · refine xt_all G HX HA fun pl st sp rw en rl rv sw vs HT => ⟨vpj, br_f h0 (br_t (nI_lt hj (by omega)) ⟨vpj2, ?_⟩)⟩
      rw [HA'.1 j hj]
      refine pk_eq (K j) 5 (fun z => absurd z n5) (fun _ => ⟨vpj2, pk_eq (K j) 8 (fun z => absurd z n8) (fun _ => ?_)⟩)
      exact yw_all G HA' fun pl' dp' st' sp' pr' en' mw' bg' lf' oc' mt' sw' vs' HT' _ => ⟨vpj2, by rw [HT.2 j hj n8, HT'.2 j hj n8], re_mk _ Fh⟩
