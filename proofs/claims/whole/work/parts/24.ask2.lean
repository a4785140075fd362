/-! top, bottom, independent, follow, likely -/
section
variable {yheight ycount yopen yat ydepth ystate ysteps yproduct yend ymost ymostRow ymostSteps : Int32} {ystack ykinds yvariables ynumbers yvalues yopened ybegins yleft youtcomes ymet ysums : Nat → Int32} {yvisited : Nat → Int64}
theorem yj_red {post : Int32 → SY → Prop} {x1 x2 x3 : Int32} (h0 : (cp_bv x1 ∨ cp_bk x2) → post (-1) (yheight, ycount, yopen, yat, ydepth, ystate, ysteps, yproduct, yend, ymost, ymostRow, ymostSteps, ystack, ykinds, yvariables, ynumbers, yvalues, yopened, ybegins, yleft, youtcomes, ymet, ysums, yvisited))
    (h1 : (¬ (cp_bv x1 ∨ cp_bk x2)) → wpY_work (fun u => wpY_whole (fun r => (r = 0 → post (-2) u) ∧ (¬ r = 0 → wpY_total (fun t => wpY_divisor (fun d => (d = 0 → post (-2) u) ∧ (¬ d = 0 → (x3 = 0 → ¬ d = 0 ∧ post (r / d) u) ∧ (¬ x3 = 0 → ¬ d = 0 ∧ post (t / d) u))) u r t) u x1 x2 x1 x2)) u) (yheight, ycount, yopen, yat, ydepth, ystate, ysteps, yproduct, yend, ymost, ymostRow, ymostSteps, ystack, ykinds, yvariables, ynumbers, yvalues, yopened, ybegins, yleft, youtcomes, ymet, ysums, yvisited)) : wpY_reduced post (yheight, ycount, yopen, yat, ydepth, ystate, ysteps, yproduct, yend, ymost, ymostRow, ymostSteps, ystack, ykinds, yvariables, ynumbers, yvalues, yopened, ybegins, yleft, youtcomes, ymet, ysums, yvisited) x1 x2 x3 := by
  unfold wpY_reduced
  refine yv_var (fun b => br_t rfl (h0 (Or.inl b))) (fun a1 e1 f1 => br_f (by decide) (yv_val (fun b => br_t rfl (h0 (Or.inr b))) (fun a2 e2 f2 => br_f (by decide) ?_)))
  subst f1 f2
  exact h1 (fun z => z.elim (bv_no e1) (bk_no e2))
end
theorem cp_part {R : Nat → cp_S} {n v k : Nat} : cp_sm (fun s => if s / 4 ^ v % 4 = k ∧ s / 4 ^ v % 4 = k then cp_Sm R n s else 0) 64 ≤ cp_sm (cp_Sm R n) 64 :=
  sm_le (fun i => by split <;> omega) 64
theorem i_vc_top {k : Nat} {u : SX} {v : SY} (I : i_Rel k u v) (hk : k + 5 ≤ 2560) (v1 : Int32) (v2 : Int32) : wpX_top (fun r u' => wpY_top (fun r' v' => r' = r ∧ i_Rel (k + 5) u' v') v v1 v2) u v1 v2 := by
  have I' := I
  obtain ⟨h, c, K, A, N, V, xplace, xstate, xrandomSteps, xrunWeight, xending, xbestWeight, xbestCode, xbestSteps, xstackValues, xkinds, xvariables, xnumbers, xprogramValues, xopen, xblockOf, xelseOf, xendOf, xroundsLeft, xrunVisits, xstateWeights, xvisitSums, yopen, yat, ydepth, ystate, ysteps, yproduct, yend, ymost, ymostRow, ymostSteps, ykinds, yvariables, ynumbers, yvalues, yopened, ybegins, yleft, youtcomes, ymet, ysums, yvisited, rfl, rfl, Fh⟩ := I
  obtain ⟨E, F, B, G, HX⟩ := re_G Fh
  unfold wpX_top wpY_top
  refine xv_var (fun b => br_t rfl (yj_red (fun _ => ⟨rfl, I'⟩) (fun z => absurd (Or.inl b) z))) (fun a1 e1 f1 => br_f (by decide) (xv_val (fun b => br_t rfl (yj_red (fun _ => ⟨rfl, I'⟩) (fun z => absurd (Or.inr b) z))) (fun a2 e2 f2 => br_f (by decide) ?_)))
  subst f1 f2
  refine xt_all G HX Fh.2.2.2.2.2.2.1 fun pl st sp rw en rl rv sw vs HT => xq_ww e1 e2 e1 e2 (xq_kw ?_)
  have hall := cp_all (K := K) (A := A) (N := N) (E := E) (F := F) (B := B) (V := V) (M := cp_M K c) Fh.2.2.2.1 (Nat.le_refl 4096)
  have hpart := cp_part (R := cp_fin K A N E F B V (cp_M K c)) (n := 4096) (v := a1) (k := a2)
  have hY : ∀ (sw' : Nat → Int32) (vs' : Nat → Int64), cp_TL (cp_fin K A N E F B V (cp_M K c)) K c 4096 sw' vs' → cp_si sw' 64 = nI (cp_sm (cp_Sm (cp_fin K A N E F B V (cp_M K c)) 4096) 64) ∧ cp_kw a1 a2 a1 a2 sw' 64 = nI (cp_sm (fun s => if s / 4 ^ a1 % 4 = a2 ∧ s / 4 ^ a1 % 4 = a2 then cp_Sm (cp_fin K A N E F B V (cp_M K c)) 4096 s else 0) 64) := fun sw' vs' H => ⟨si_Sm H, kw_Sm H⟩
  rw [(hY sw vs HT).1, (hY sw vs HT).2]
  generalize cp_sm (cp_Sm (cp_fin K A N E F B V (cp_M K c)) 4096) 64 = T at hall hpart hY ⊢
  generalize cp_sm (fun s => if s / 4 ^ a1 % 4 = a2 ∧ s / 4 ^ a1 % 4 = a2 then cp_Sm (cp_fin K A N E F B V (cp_M K c)) 4096 s else 0) 64 = P at hpart hY ⊢
  have hg : Nat.gcd P T ≤ 16777216 := by
    by_cases hT : T = 0
    · have : P = 0 := by omega
      subst hT this
      exact Nat.le_trans (Nat.le_of_eq (Nat.gcd_zero_left 0)) (by omega)
    · exact Nat.le_trans (Nat.gcd_le_right P (by omega)) hall
  refine xg_gcd (by omega) hall (pk_eq (Nat.gcd P T) 0 (fun e => ?_) (fun e => ⟨nI_ne0 (by omega) (by omega), ?_⟩))
  · refine yj_red (fun z => absurd z (fun z => z.elim (bv_no e1) (bk_no e2))) (fun _ => yw_all G Fh.2.2.2.2.2.2.2 fun pl' dp' st' sp' pr' en' mw' bg' lf' oc' mt' sw' vs' HT' _ => yq_wh ?_)
    have hT : T = 0 := (Nat.gcd_eq_zero_iff.mp e).2
    rw [(hY sw' vs' HT').1, hT]
    exact br_t rfl ⟨rfl, re_mk _ Fh⟩
  · refine yj_red (fun z => absurd z (fun z => z.elim (bv_no e1) (bk_no e2))) (fun _ => yw_all G Fh.2.2.2.2.2.2.2 fun pl' dp' st' sp' pr' en' mw' bg' lf' oc' mt' sw' vs' HT' _ => yq_wh ?_)
    have hT : T ≠ 0 := fun z => e (by have : P = 0 := by omega
                                      subst z this; exact Nat.gcd_zero_left 0)
    rw [(hY sw' vs' HT').1]
    refine br_f (nI_ne0 (by omega) (by omega)) (yq_to e1 e2 e1 e2 ?_)
    rw [(hY sw' vs' HT').2]
    refine yq_div (by omega) (by omega) ?_
    rw [Nat.gcd_comm T P]
    exact br_f (nI_ne0 (by omega) (by omega)) (br_f (by decide) ⟨nI_ne0 (by omega) (by omega), rfl, re_mk _ Fh⟩)
theorem i_vc_bottom {k : Nat} {u : SX} {v : SY} (I : i_Rel k u v) (hk : k + 5 ≤ 2560) (v1 : Int32) (v2 : Int32) : wpX_bottom (fun r u' => wpY_bottom (fun r' v' => r' = r ∧ i_Rel (k + 5) u' v') v v1 v2) u v1 v2 := by
  have I' := I
  obtain ⟨h, c, K, A, N, V, xplace, xstate, xrandomSteps, xrunWeight, xending, xbestWeight, xbestCode, xbestSteps, xstackValues, xkinds, xvariables, xnumbers, xprogramValues, xopen, xblockOf, xelseOf, xendOf, xroundsLeft, xrunVisits, xstateWeights, xvisitSums, yopen, yat, ydepth, ystate, ysteps, yproduct, yend, ymost, ymostRow, ymostSteps, ykinds, yvariables, ynumbers, yvalues, yopened, ybegins, yleft, youtcomes, ymet, ysums, yvisited, rfl, rfl, Fh⟩ := I
  obtain ⟨E, F, B, G, HX⟩ := re_G Fh
  unfold wpX_bottom wpY_bottom
  refine xv_var (fun b => br_t rfl (yj_red (fun _ => ⟨rfl, I'⟩) (fun z => absurd (Or.inl b) z))) (fun a1 e1 f1 => br_f (by decide) (xv_val (fun b => br_t rfl (yj_red (fun _ => ⟨rfl, I'⟩) (fun z => absurd (Or.inr b) z))) (fun a2 e2 f2 => br_f (by decide) ?_)))
  subst f1 f2
  refine xt_all G HX Fh.2.2.2.2.2.2.1 fun pl st sp rw en rl rv sw vs HT => xq_ww e1 e2 e1 e2 (xq_kw ?_)
  have hall := cp_all (K := K) (A := A) (N := N) (E := E) (F := F) (B := B) (V := V) (M := cp_M K c) Fh.2.2.2.1 (Nat.le_refl 4096)
  have hpart := cp_part (R := cp_fin K A N E F B V (cp_M K c)) (n := 4096) (v := a1) (k := a2)
  have hY : ∀ (sw' : Nat → Int32) (vs' : Nat → Int64), cp_TL (cp_fin K A N E F B V (cp_M K c)) K c 4096 sw' vs' → cp_si sw' 64 = nI (cp_sm (cp_Sm (cp_fin K A N E F B V (cp_M K c)) 4096) 64) ∧ cp_kw a1 a2 a1 a2 sw' 64 = nI (cp_sm (fun s => if s / 4 ^ a1 % 4 = a2 ∧ s / 4 ^ a1 % 4 = a2 then cp_Sm (cp_fin K A N E F B V (cp_M K c)) 4096 s else 0) 64) := fun sw' vs' H => ⟨si_Sm H, kw_Sm H⟩
  rw [(hY sw vs HT).1, (hY sw vs HT).2]
  generalize cp_sm (cp_Sm (cp_fin K A N E F B V (cp_M K c)) 4096) 64 = T at hall hpart hY ⊢
  generalize cp_sm (fun s => if s / 4 ^ a1 % 4 = a2 ∧ s / 4 ^ a1 % 4 = a2 then cp_Sm (cp_fin K A N E F B V (cp_M K c)) 4096 s else 0) 64 = P at hpart hY ⊢
  have hg : Nat.gcd P T ≤ 16777216 := by
    by_cases hT : T = 0
    · have : P = 0 := by omega
      subst hT this
      exact Nat.le_trans (Nat.le_of_eq (Nat.gcd_zero_left 0)) (by omega)
    · exact Nat.le_trans (Nat.gcd_le_right P (by omega)) hall
  refine xg_gcd (by omega) hall (pk_eq (Nat.gcd P T) 0 (fun e => ?_) (fun e => ⟨nI_ne0 (by omega) (by omega), ?_⟩))
  · refine yj_red (fun z => absurd z (fun z => z.elim (bv_no e1) (bk_no e2))) (fun _ => yw_all G Fh.2.2.2.2.2.2.2 fun pl' dp' st' sp' pr' en' mw' bg' lf' oc' mt' sw' vs' HT' _ => yq_wh ?_)
    have hT : T = 0 := (Nat.gcd_eq_zero_iff.mp e).2
    rw [(hY sw' vs' HT').1, hT]
    exact br_t rfl ⟨rfl, re_mk _ Fh⟩
  · refine yj_red (fun z => absurd z (fun z => z.elim (bv_no e1) (bk_no e2))) (fun _ => yw_all G Fh.2.2.2.2.2.2.2 fun pl' dp' st' sp' pr' en' mw' bg' lf' oc' mt' sw' vs' HT' _ => yq_wh ?_)
    have hT : T ≠ 0 := fun z => e (by have : P = 0 := by omega
                                      subst z this; exact Nat.gcd_zero_left 0)
    rw [(hY sw' vs' HT').1]
    refine br_f (nI_ne0 (by omega) (by omega)) (yq_to e1 e2 e1 e2 ?_)
    rw [(hY sw' vs' HT').2]
    refine yq_div (by omega) (by omega) ?_
    rw [Nat.gcd_comm T P]
    exact br_f (nI_ne0 (by omega) (by omega)) (br_t rfl ⟨nI_ne0 (by omega) (by omega), rfl, re_mk _ Fh⟩)
theorem cp_Q_eq {v w : Nat} {sw sw' : Nat → Int32} {x3 : Int64} (h : ∀ v k w l, cp_kw v k w l sw' 64 = cp_kw v k w l sw 64) (k l : Nat) : cp_Q v w sw' x3 k l ↔ cp_Q v w sw x3 k l := by
  unfold cp_Q
  rw [h, h, h]
theorem i_vc_independent {k : Nat} {u : SX} {v : SY} (I : i_Rel k u v) (hk : k + 5 ≤ 2560) (v1 : Int32) (v2 : Int32) : wpX_independent (fun r u' => wpY_independent (fun r' v' => r' = r ∧ i_Rel (k + 5) u' v') v v1 v2) u v1 v2 := by
  have I' := I
  obtain ⟨h, c, K, A, N, V, xplace, xstate, xrandomSteps, xrunWeight, xending, xbestWeight, xbestCode, xbestSteps, xstackValues, xkinds, xvariables, xnumbers, xprogramValues, xopen, xblockOf, xelseOf, xendOf, xroundsLeft, xrunVisits, xstateWeights, xvisitSums, yopen, yat, ydepth, ystate, ysteps, yproduct, yend, ymost, ymostRow, ymostSteps, ykinds, yvariables, ynumbers, yvalues, yopened, ybegins, yleft, youtcomes, ymet, ysums, yvisited, rfl, rfl, Fh⟩ := I
  obtain ⟨E, F, B, G, HX⟩ := re_G Fh
  unfold wpX_independent wpY_independent
  refine xv_var (fun b => br_t rfl (yv_var (fun _ => br_t rfl ⟨rfl, I'⟩) (fun a e f => absurd b (by rw [f]; exact bv_no e)))) (fun a1 e1 f1 => br_f (by decide) (xv_var (fun b => br_t rfl (yv_var (fun _ => br_t rfl ⟨rfl, I'⟩) (fun _ _ _ => br_f (by decide) (yv_var (fun _ => br_t rfl ⟨rfl, I'⟩) (fun a e f => absurd b (by rw [f]; exact bv_no e)))))) (fun a2 e2 f2 => br_f (by decide) ?_)))
  subst f1 f2
  refine xt_all G HX Fh.2.2.2.2.2.2.1 fun pl st sp rw en rl rv sw vs HT => xq_kw ?_
  refine ⟨5, xq_29 e1 e2 (fun hq => ?_) (fun hq => ?_) 4 0 5 (by omega) (by omega) (fun k' l hk' => absurd hk' (Nat.not_lt_zero k'))⟩
  · refine yv_var (fun b => absurd b (bv_no e1)) (fun _ _ _ => br_f (by decide) (yv_var (fun b => absurd b (bv_no e2)) (fun _ _ _ => br_f (by decide) ?_)))
    refine yw_all G Fh.2.2.2.2.2.2.2 fun pl' dp' st' sp' pr' en' mw' bg' lf' oc' mt' sw' vs' HT' _ => yq_wh ?_
    rw [si_Sm HT', ← si_Sm HT]
    exact ⟨17, yq_34 e1 e2 (fun _ => ⟨rfl, re_mk _ Fh⟩) (fun z => absurd (fun k l hk hl => (cp_Q_eq (kw_eq HT HT') k l).mpr (hq k l hk hl)) z) 16 0 17 1 (by omega) (by omega) (Or.inl ⟨rfl, fun c' hc' => absurd hc' (Nat.not_lt_zero c')⟩)⟩
  · refine yv_var (fun b => absurd b (bv_no e1)) (fun _ _ _ => br_f (by decide) (yv_var (fun b => absurd b (bv_no e2)) (fun _ _ _ => br_f (by decide) ?_)))
    refine yw_all G Fh.2.2.2.2.2.2.2 fun pl' dp' st' sp' pr' en' mw' bg' lf' oc' mt' sw' vs' HT' _ => yq_wh ?_
    rw [si_Sm HT', ← si_Sm HT]
    exact ⟨17, yq_34 e1 e2 (fun z => absurd (fun k l hk hl => (cp_Q_eq (kw_eq HT HT') k l).mp (z k l hk hl)) hq) (fun _ => ⟨rfl, re_mk _ Fh⟩) 16 0 17 1 (by omega) (by omega) (Or.inl ⟨rfl, fun c' hc' => absurd hc' (Nat.not_lt_zero c')⟩)⟩
/-! follow -/
theorem cp_or2 : ∀ a, a < 1024 → ∀ d, d < 4 → (nI a <<< ((2 : Int32) &&& 31)) ||| nI d = nI (4 * a + d) := by decide +kernel
def cp_dj (x : Int32) (j : Nat) : Nat := ((x >>> ((2 * nI j) &&& 31)) &&& 3).toNatClampNeg
theorem dj_eq (x : Int32) (j : Nat) : ((x >>> ((2 * nI j) &&& 31)) &&& 3) = nI (cp_dj x j) ∧ cp_dj x j < 4 := by
  obtain ⟨d, hd, e⟩ := pk_andE (x >>> ((2 * nI j) &&& 31)) (m := 3) 2 (by decide)
  unfold cp_dj
  rw [e, nI_clamp (by omega)]
  exact ⟨rfl, hd⟩
def cp_cc (x : Int32) : Nat → Nat
  | 0 => 0
  | i + 1 => 4 * cp_cc x i + cp_dj x i
theorem cc_lt (x : Int32) : ∀ i, cp_cc x i < 4 ^ i := by
  intro i
  induction i with
  | zero => exact Nat.zero_lt_one
  | succ i ih =>
    have := (dj_eq x i).2
    rw [cp_cc, Nat.pow_succ]
    omega
theorem cc_rd (x : Int32) : ∀ j, j < 6 → cp_rd (cp_cc x 6) j = cp_dj x j := by
  have h0 := (dj_eq x 0).2
  have h1 := (dj_eq x 1).2
  have h2 := (dj_eq x 2).2
  have h3 := (dj_eq x 3).2
  have h4 := (dj_eq x 4).2
  have h5 := (dj_eq x 5).2
  intro j hj
  have hj' : j = 0 ∨ j = 1 ∨ j = 2 ∨ j = 3 ∨ j = 4 ∨ j = 5 := by omega
  have e : cp_cc x 6 = 4 * (4 * (4 * (4 * (4 * (4 * 0 + cp_dj x 0) + cp_dj x 1) + cp_dj x 2) + cp_dj x 3) + cp_dj x 4) + cp_dj x 5 := rfl
  unfold cp_rd
  rw [e]
  rcases hj' with rfl | rfl | rfl | rfl | rfl | rfl
  · show _ / 1024 % 4 = _; omega
  · show _ / 256 % 4 = _; omega
  · show _ / 64 % 4 = _; omega
  · show _ / 16 % 4 = _; omega
  · show _ / 4 % 4 = _; omega
  · show _ / 1 % 4 = _; omega
section
variable {xexpressionCount xstatementCount xopenCount xclosedLength xplace xstate xrandomSteps xrunWeight xending xbestWeight xbestCode xbestSteps : Int32} {xstackValues xkinds xvariables xnumbers xprogramValues xopen xblockOf xelseOf xendOf xroundsLeft xrunVisits xstateWeights : Nat → Int32} {xvisitSums : Nat → Int64}
theorem xf_loop {post : Int32 → SX → Prop} {x1 : Int32} (H : wpX_carryOut (fun u => match u with | (xexpressionCount, xstatementCount, xopenCount, xclosedLength, xplace, xstate, xrandomSteps, xrunWeight, xending, xbestWeight, xbestCode, xbestSteps, xstackValues, xkinds, xvariables, xnumbers, xprogramValues, xopen, xblockOf, xelseOf, xendOf, xroundsLeft, xrunVisits, xstateWeights, xvisitSums) => ((xending = 0 → post xstate (xexpressionCount, xstatementCount, xopenCount, xclosedLength, xplace, xstate, xrandomSteps, xrunWeight, xending, xbestWeight, xbestCode, xbestSteps, xstackValues, xkinds, xvariables, xnumbers, xprogramValues, xopen, xblockOf, xelseOf, xendOf, xroundsLeft, xrunVisits, xstateWeights, xvisitSums)) ∧ (¬ xending = 0 → post xending (xexpressionCount, xstatementCount, xopenCount, xclosedLength, xplace, xstate, xrandomSteps, xrunWeight, xending, xbestWeight, xbestCode, xbestSteps, xstackValues, xkinds, xvariables, xnumbers, xprogramValues, xopen, xblockOf, xelseOf, xendOf, xroundsLeft, xrunVisits, xstateWeights, xvisitSums)))) (xexpressionCount, xstatementCount, xopenCount, xclosedLength, xplace, xstate, xrandomSteps, xrunWeight, xending, xbestWeight, xbestCode, xbestSteps, xstackValues, xkinds, xvariables, xnumbers, xprogramValues, xopen, xblockOf, xelseOf, xendOf, xroundsLeft, xrunVisits, xstateWeights, xvisitSums) (nI (cp_cc x1 6))) :
    ∀ (d i n : Nat), i + d = 6 → d < n → wX_follow_4 post x1 xexpressionCount xstatementCount xopenCount xclosedLength xplace xstate xrandomSteps xrunWeight xending xbestWeight xbestCode xbestSteps xstackValues xkinds xvariables xnumbers xprogramValues xopen xblockOf xelseOf xendOf xroundsLeft xrunVisits xstateWeights xvisitSums n (nI (cp_cc x1 i)) (nI i) := by
  intro d
  induction d with
  | zero =>
    intro i n hi hn
    obtain ⟨m, rfl⟩ : ∃ m, n = m + 1 := ⟨n - 1, by omega⟩
    have e : i = 6 := by omega
    subst e
    rw [wX_follow_4]
    exact br_t (by decide) H
  | succ d ih =>
    intro i n hi hn
    obtain ⟨m, rfl⟩ : ∃ m, n = m + 1 := ⟨n - 1, by omega⟩
    have h1 := cc_lt x1 i
    have h2 : 4 ^ i ≤ 4 ^ 5 := Nat.pow_le_pow_right (by omega) (by omega)
    obtain ⟨d1, d2⟩ := dj_eq x1 i
    rw [wX_follow_4]
    exact br_f (nI_ge (b := 6) (by omega) (by decide)) (nm_r (e' := nI (cp_cc x1 (i + 1))) (by rw [d1, cp_or2 _ (by omega) _ d2, cp_cc]) (nm_r (nI_1 i) (ih (i + 1) m (by omega) (by omega))))
end
section
variable {yheight ycount yopen yat ydepth ystate ysteps yproduct yend ymost ymostRow ymostSteps : Int32} {ystack ykinds yvariables ynumbers yvalues yopened ybegins yleft youtcomes ymet ysums : Nat → Int32} {yvisited : Nat → Int64}
theorem yf_foll {post : Int32 → SY → Prop} {x1 : Int32} (H : ∀ oc : Nat → Int32, (∀ j, j < 6 → oc j = nI (cp_dj x1 j)) → wpY_run (fun u => match u with | (yheight, ycount, yopen, yat, ydepth, ystate, ysteps, yproduct, yend, ymost, ymostRow, ymostSteps, ystack, ykinds, yvariables, ynumbers, yvalues, yopened, ybegins, yleft, youtcomes, ymet, ysums, yvisited) => ((yend = 0 → post ystate (yheight, ycount, yopen, yat, ydepth, ystate, ysteps, yproduct, yend, ymost, ymostRow, ymostSteps, ystack, ykinds, yvariables, ynumbers, yvalues, yopened, ybegins, yleft, youtcomes, ymet, ysums, yvisited)) ∧ (¬ yend = 0 → post yend (yheight, ycount, yopen, yat, ydepth, ystate, ysteps, yproduct, yend, ymost, ymostRow, ymostSteps, ystack, ykinds, yvariables, ynumbers, yvalues, yopened, ybegins, yleft, youtcomes, ymet, ysums, yvisited)))) (yheight, ycount, yopen, yat, ydepth, ystate, ysteps, yproduct, yend, ymost, ymostRow, ymostSteps, ystack, ykinds, yvariables, ynumbers, yvalues, yopened, ybegins, yleft, oc, ymet, ysums, yvisited)) :
    ∀ (d i n : Nat) (oc : Nat → Int32), i + d = 6 → d < n → (∀ j, j < i → oc j = nI (cp_dj x1 j)) → wY_follow_2 post x1 yheight ycount yopen yat ydepth ystate ysteps yproduct yend ymost ymostRow ymostSteps n (nI i) ystack ykinds yvariables ynumbers yvalues yopened ybegins yleft oc ymet ysums yvisited := by
  intro d
  induction d with
  | zero =>
    intro i n oc hi hn h
    obtain ⟨m, rfl⟩ : ∃ m, n = m + 1 := ⟨n - 1, by omega⟩
    have e : i = 6 := by omega
    subst e
    rw [wY_follow_2]
    exact br_t (by decide) (H oc h)
  | succ d ih =>
    intro i n oc hi hn h
    obtain ⟨m, rfl⟩ : ∃ m, n = m + 1 := ⟨n - 1, by omega⟩
    rw [wY_follow_2]
    refine br_f (nI_ge (b := 6) (by omega) (by decide)) ⟨vp_in_nI (by omega) (by omega), nm_r (e' := upd oc i (nI (cp_dj x1 i))) (by rw [nI_clamp (by omega), (dj_eq x1 i).1]) (nm_r (nI_1 i) (ih (i + 1) m _ (by omega) (by omega) fun j hj => ?_))⟩
    by_cases e : j = i
    · subst e; exact pk_us
    · rw [pk_un e]; exact h j (by omega)
end
theorem i_vc_follow {k : Nat} {u : SX} {v : SY} (I : i_Rel k u v) (hk : k + 5 ≤ 2560) (v1 : Int32) : wpX_follow (fun r u' => wpY_follow (fun r' v' => r' = r ∧ i_Rel (k + 5) u' v') v v1) u v1 := by
  obtain ⟨h, c, K, A, N, V, xplace, xstate, xrandomSteps, xrunWeight, xending, xbestWeight, xbestCode, xbestSteps, xstackValues, xkinds, xvariables, xnumbers, xprogramValues, xopen, xblockOf, xelseOf, xendOf, xroundsLeft, xrunVisits, xstateWeights, xvisitSums, yopen, yat, ydepth, ystate, ysteps, yproduct, yend, ymost, ymostRow, ymostSteps, ykinds, yvariables, ynumbers, yvalues, yopened, ybegins, yleft, youtcomes, ymet, ysums, yvisited, rfl, rfl, Fh⟩ := I
  obtain ⟨E, F, B, G, HX⟩ := re_G Fh
  have hrow : cp_cc v1 6 < 4096 := cc_lt v1 6
  unfold wpX_follow wpY_follow
  refine ⟨7, xf_loop ?_ 6 0 7 (by omega) (by omega)⟩
  obtain ⟨_, f2, f3, f4, f5, _⟩ := cp_finI G (cp_cc v1 6)
  refine xs_run G HX Fh.2.2.2.2.2.2.1 hrow fun pl rw rl rv _ _ => ?_
  generalize hq : cp_fin K A N E F B V (cp_M K c) (cp_cc v1 6) = q at *
  by_cases he : q.2.2.2.2.1 = 1
  · rw [if_pos he]
    refine br_t rfl ⟨7, yf_foll (fun oc hoc => ?_) 6 0 7 youtcomes (by omega) (by omega) (fun j hj => absurd hj (Nat.not_lt_zero j))⟩
    refine yx_run (row := cp_cc v1 6) G Fh.2.2.2.2.2.2.2 (fun j hj => by rw [hoc j hj, cc_rd v1 j hj]) fun pl' dp' sp' pr' bg' lf' mt' _ _ => ?_
    rw [hq, if_pos he]
    exact br_t rfl ⟨rfl, re_mk _ Fh⟩
  · rw [if_neg he]
    have hne : ¬ q.2.2.2.2.1 = 0 := by
      rcases f5 with h | h | h | h
      · exact absurd h he
      · rw [h]; decide
      · rw [h]; decide
      · rw [h]; decide
    refine br_f hne ⟨7, yf_foll (fun oc hoc => ?_) 6 0 7 youtcomes (by omega) (by omega) (fun j hj => absurd hj (Nat.not_lt_zero j))⟩
    refine yx_run (row := cp_cc v1 6) G Fh.2.2.2.2.2.2.2 (fun j hj => by rw [hoc j hj, cc_rd v1 j hj]) fun pl' dp' sp' pr' bg' lf' mt' _ _ => ?_
    rw [hq, if_neg he]
    exact br_f hne ⟨rfl, re_mk _ Fh⟩
theorem Bm_0 (R : Nat → cp_S) : ∀ n, (cp_Bm R n).1 = 0 → (cp_Bm R n).2.2 = 0 := by
  intro n
  induction n with
  | zero => intro _; rfl
  | succ n ih =>
    rw [cp_Bm]
    split
    · intro e
      dsimp only at e
      omega
    · exact ih
theorem i_vc_likely {k : Nat} {u : SX} {v : SY} (I : i_Rel k u v) (hk : k + 5 ≤ 2560) (v1 : Int32) : wpX_likely (fun r u' => wpY_likely (fun r' v' => r' = r ∧ i_Rel (k + 5) u' v') v v1) u v1 := by
  obtain ⟨h, c, K, A, N, V, xplace, xstate, xrandomSteps, xrunWeight, xending, xbestWeight, xbestCode, xbestSteps, xstackValues, xkinds, xvariables, xnumbers, xprogramValues, xopen, xblockOf, xelseOf, xendOf, xroundsLeft, xrunVisits, xstateWeights, xvisitSums, yopen, yat, ydepth, ystate, ysteps, yproduct, yend, ymost, ymostRow, ymostSteps, ykinds, yvariables, ynumbers, yvalues, yopened, ybegins, yleft, youtcomes, ymet, ysums, yvisited, rfl, rfl, Fh⟩ := I
  obtain ⟨E, F, B, G, HX⟩ := re_G Fh
  have hfin := cp_finI G
  have b1 := tl_B (R := cp_fin K A N E F B V (cp_M K c)) (fun a => tl_wt _ _ (hfin a).2.2.1 (hfin a).2.2.2.1) 4096
  have b2 := tl_B4 (R := cp_fin K A N E F B V (cp_M K c)) (fun a => (hfin a).2.2.1) 4096 (Nat.le_refl _)
  have b3 := Bm_0 (cp_fin K A N E F B V (cp_M K c)) 4096
  unfold wpX_likely wpY_likely
  refine xt_all G HX Fh.2.2.2.2.2.2.1 fun pl st sp rw en rl rv sw vs HT => ?_
  refine br_c (fun hn => ?_) (fun hp => br_c (fun hl => ?_) (fun hl => ?_))
  · refine yw_all G Fh.2.2.2.2.2.2.2 fun pl' dp' st' sp' pr' en' mw' bg' lf' oc' mt' sw' vs' HT' hmw => ?_
    exact br_c (fun _ => ⟨rfl, re_mk _ Fh⟩) (fun _ => br_t hn ⟨rfl, re_mk _ Fh⟩)
  · obtain ⟨j, hj, rfl⟩ := cp_in (n := (cp_Bm (cp_fin K A N E F B V (cp_M K c)) 4096).2.2) (by omega) hp (Int32.not_le.mpr hl)
    unfold wpX_outcomeIn
    rw [cp_rdI b2.1 (by omega)]
    refine yw_all G Fh.2.2.2.2.2.2.2 fun pl' dp' st' sp' pr' en' mw' bg' lf' oc' mt' sw' vs' HT' hmw => ?_
    have hB : (cp_Bm (cp_fin K A N E F B V (cp_M K c)) 4096).1 ≠ 0 := fun z => by
      have := b3 z
      omega
    refine br_f (nI_ne0 (by omega) (by omega)) (br_f hp (br_t hl ?_))
    rw [hmw hB, cp_rdY b2.1 (by omega)]
    exact ⟨rfl, re_mk _ Fh⟩
  · refine yw_all G Fh.2.2.2.2.2.2.2 fun pl' dp' st' sp' pr' en' mw' bg' lf' oc' mt' sw' vs' HT' hmw => ?_
    exact br_c (fun _ => ⟨rfl, re_mk _ Fh⟩) (fun _ => br_f hp (br_f hl ⟨rfl, re_mk _ Fh⟩))
