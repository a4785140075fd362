/-! put -/
def cp_bs (q : Nat) (a p : Int32) : Prop := (q ≤ 2 ∧ cp_bv a) ∨ (q = 1 ∧ (p < 0 ∨ 16 < p)) ∨ (q = 6 ∧ (p < 1 ∨ 3 < p))
def cp_tq (q : Nat) : Nat := if q = 0 ∨ q = 3 ∨ q = 4 then 1 else 0
section
variable {xexpressionCount xstatementCount xopenCount xclosedLength xplace xstate xrandomSteps xrunWeight xending xbestWeight xbestCode xbestSteps : Int32} {xstackValues xkinds xvariables xnumbers xprogramValues xopen xblockOf xelseOf xendOf xroundsLeft xrunVisits xstateWeights : Nat → Int32} {xvisitSums : Nat → Int64}
theorem xp_is {post : Int32 → Prop} {q : Nat} {a p : Int32} (hq : q < 9) (h0 : cp_bs q a p → post 0) (h1 : ¬ cp_bs q a p → post 1) : wpX_isStatement post (nI q) a p := by
  have h9 : (q = 0 ∨ q = 2) → wX_isStatement_9 post a := fun e => by
    unfold wX_isStatement_9
    exact xv_var (fun b => ⟨rfl, h0 (Or.inl ⟨by omega, b⟩)⟩) (fun v hv e2 => ⟨rfl, h1 (fun z => z.elim (fun z => bv_no hv (by rw [← e2]; exact z.2)) (fun z => z.elim (fun z => by have := z.1; omega) (fun z => by have := z.1; omega)))⟩)
  unfold wpX_isStatement
  refine pk_eq q 0 (fun e => h9 (Or.inl e)) (fun n0 => pk_eq q 2 (fun e => h9 (Or.inr e)) (fun n2 => pk_eq q 1 (fun e => xv_var (fun b => br_t rfl (h0 (Or.inl ⟨by omega, b⟩))) (fun v hv e2 => br_f (by decide) (br_c (fun z => h0 (Or.inr (Or.inl ⟨e, Or.inl z⟩))) (fun z => br_c (fun z2 => h0 (Or.inr (Or.inl ⟨e, Or.inr z2⟩))) (fun z2 => h1 (fun y => y.elim (fun y => bv_no hv (by rw [← e2]; exact y.2)) (fun y => y.elim (fun y => y.2.elim z z2) (fun y => by have := y.1; omega)))))))) (fun n1 => pk_eq q 6 (fun e => br_c (fun z => h0 (Or.inr (Or.inr ⟨e, Or.inl z⟩))) (fun z => br_c (fun z2 => h0 (Or.inr (Or.inr ⟨e, Or.inr z2⟩))) (fun z2 => h1 (fun y => y.elim (fun y => by have := y.1; omega) (fun y => y.elim (fun y => by have := y.1; omega) (fun y => y.2.elim z z2)))))) (fun n6 => pk_lt q 3 (fun z => by omega) (fun _ => pk_lt 8 q (fun z => by omega) (fun _ => h1 (fun y => y.elim (fun y => by have := y.1; omega) (fun y => y.elim (fun y => by have := y.1; omega) (fun y => by have := y.1; omega)))))))))
theorem xp_all {post : Int32 → SX → Prop} {K : Nat → Nat} {c h q : Nat} {a p : Int32} (hq : q < 9) (hh : h ≤ 6) (W : cp_wf K c) (hk : ∀ j, j < cp_M K c → xkinds j = nI (K j)) (ho : cp_hl xopen (cp_O K c)) (HL : cp_LK K (cp_M K c) xblockOf xelseOf xendOf)
    (m1 : cp_bs q a p → post (-1) (nI h, nI c, nI (cp_O K c).length, xclosedLength, xplace, xstate, xrandomSteps, xrunWeight, xending, xbestWeight, xbestCode, xbestSteps, xstackValues, xkinds, xvariables, xnumbers, xprogramValues, xopen, xblockOf, xelseOf, xendOf, xroundsLeft, xrunVisits, xstateWeights, xvisitSums))
    (m2 : ¬ cp_bs q a p → c = 24 → post (-2) (nI h, nI c, nI (cp_O K c).length, xclosedLength, xplace, xstate, xrandomSteps, xrunWeight, xending, xbestWeight, xbestCode, xbestSteps, xstackValues, xkinds, xvariables, xnumbers, xprogramValues, xopen, xblockOf, xelseOf, xendOf, xroundsLeft, xrunVisits, xstateWeights, xvisitSums))
    (m3 : ¬ cp_bs q a p → c < 24 → cp_tq q = 1 → h = 0 → post (-3) (nI h, nI c, nI (cp_O K c).length, xclosedLength, xplace, xstate, xrandomSteps, xrunWeight, xending, xbestWeight, xbestCode, xbestSteps, xstackValues, xkinds, xvariables, xnumbers, xprogramValues, xopen, xblockOf, xelseOf, xendOf, xroundsLeft, xrunVisits, xstateWeights, xvisitSums))
    (m4 : ¬ cp_bs q a p → c < 24 → (cp_tq q = 1 → 0 < h) → ¬ cp_al K c q → post (-4) (nI h, nI c, nI (cp_O K c).length, xclosedLength, xplace, xstate, xrandomSteps, xrunWeight, xending, xbestWeight, xbestCode, xbestSteps, xstackValues, xkinds, xvariables, xnumbers, xprogramValues, xopen, xblockOf, xelseOf, xendOf, xroundsLeft, xrunVisits, xstateWeights, xvisitSums))
    (go : ¬ cp_bs q a p → c < 24 → (cp_tq q = 1 → 0 < h) → cp_al K c q → ∀ (pv o' k' b' e' f' : Nat → Int32), (cp_tq q = 1 → pv = cp_cpy xprogramValues (64 * c) (fun s => xstackValues (64 * (h - 1) + s)) 64) → (cp_tq q = 0 → pv = xprogramValues) → cp_hl o' (cp_O (cp_pt K c q) (c + 1)) → (∀ j, j < cp_M (cp_pt K c q) (c + 1) → k' j = nI (cp_pt K c q j)) → cp_LK (cp_pt K c q) (cp_M (cp_pt K c q) (c + 1)) b' e' f' →
      post (nI c) (nI (h - cp_tq q), nI (c + 1), nI (cp_O (cp_pt K c q) (c + 1)).length, nI (cp_M (cp_pt K c q) (c + 1)), xplace, xstate, xrandomSteps, xrunWeight, xending, xbestWeight, xbestCode, xbestSteps, xstackValues, k', upd xvariables c a, upd xnumbers c p, pv, o', b', e', f', xroundsLeft, xrunVisits, xstateWeights, xvisitSums)) :
    wpX_put post (nI h, nI c, nI (cp_O K c).length, xclosedLength, xplace, xstate, xrandomSteps, xrunWeight, xending, xbestWeight, xbestCode, xbestSteps, xstackValues, xkinds, xvariables, xnumbers, xprogramValues, xopen, xblockOf, xelseOf, xendOf, xroundsLeft, xrunVisits, xstateWeights, xvisitSums) (nI q) a p := by
  have hc24 := W.1
  have hM := cp_M_le W
  have hcc : (nI c).toNatClampNeg = c := nI_clamp (by omega)
  unfold wpX_put
  refine xp_is hq (fun b => br_t rfl (m1 b)) (fun nb => br_f (by decide) (pk_lt c 24 (fun hc => ?_) (fun hc => m2 nb (by omega))))
  have vpc : vp_in (nI c) 27 := vp_in_nI (by omega) (by omega)
  have h42 : ∀ t, t = cp_tq q → wX_put_42 post (nI q) a p (nI t) (nI h) (nI c) (nI (cp_O K c).length) xclosedLength xplace xstate xrandomSteps xrunWeight xending xbestWeight xbestCode xbestSteps xstackValues xkinds xvariables xnumbers xprogramValues xopen xblockOf xelseOf xendOf xroundsLeft xrunVisits xstateWeights xvisitSums := fun t ht => by
    have ht2 : t = 0 ∨ t = 1 := by rw [ht]; unfold cp_tq; split <;> omega
    have h59 : (cp_tq q = 1 → 0 < h) → wX_put_59 post (nI q) a p (nI t) (nI h) (nI c) (nI (cp_O K c).length) xclosedLength xplace xstate xrandomSteps xrunWeight xending xbestWeight xbestCode xbestSteps xstackValues xkinds xvariables xnumbers xprogramValues xopen xblockOf xelseOf xendOf xroundsLeft xrunVisits xstateWeights xvisitSums := fun hpos => by
      unfold wX_put_59
      refine xb_allow W hq hk ho HL (fun al => br_f (by decide) ?_) (fun al => br_t rfl (m4 nb hc hpos al))
      have W' := wf_put W hc hq al
      have hk' : ∀ j, j < c + 1 → upd xkinds c (nI q) j = nI (cp_pt K c q j) := fun j hj => by
        by_cases e : j = c
        · subst e; rw [pk_us, pt_c]
        · rw [pk_un e, pt_n e]; exact hk j (by omega)
      refine ⟨vpc, nm_r (e' := upd xkinds c (nI q)) (by rw [hcc]) ⟨vpc, nm_r (e' := upd xvariables c a) (by rw [hcc]) ⟨vpc, nm_r (e' := upd xnumbers c p) (by rw [hcc]) (pk_eq t 0 (fun e => ?_) (fun e => ?_))⟩⟩⟩
      · unfold wX_put_111
        refine nm_r (nI_1 c) (xl_all W' hk' fun o' k' b' e' f' h1 h2 h3 => ?_)
        have e0 : cp_tq q = 0 := by omega
        have := go nb hc hpos al xprogramValues o' k' b' e' f' (fun z => by omega) (fun _ => rfl) h1 h2 h3
        rw [e0, Nat.sub_zero] at this
        exact this
      · have e1 : cp_tq q = 1 := by omega
        obtain ⟨m, rfl⟩ : ∃ m, h = m + 1 := ⟨h - 1, by have := hpos e1; omega⟩
        refine xm_move (by omega) hc ?_
        unfold wX_put_111
        refine nm_r (nI_1 c) (xl_all W' hk' fun o' k' b' e' f' h1 h2 h3 => ?_)
        have := go nb hc hpos al _ o' k' b' e' f' (fun _ => rfl) (fun z => by omega) h1 h2 h3
        rw [e1, Nat.add_sub_cancel] at this
        exact this
    unfold wX_put_42
    refine pk_eq t 0 (fun e => h59 (fun z => by omega)) (fun e => pk_eq h 0 (fun e0 => m3 nb hc (by omega) e0) (fun e0 => h59 (fun _ => by omega)))
  have h37 : cp_tq q = 1 → wX_put_37 post (nI q) a p (nI h) (nI c) (nI (cp_O K c).length) xclosedLength xplace xstate xrandomSteps xrunWeight xending xbestWeight xbestCode xbestSteps xstackValues xkinds xvariables xnumbers xprogramValues xopen xblockOf xelseOf xendOf xroundsLeft xrunVisits xstateWeights xvisitSums := fun e => by
    unfold wX_put_37
    exact h42 1 e.symm
  refine pk_eq q 0 (fun e => h37 (if_pos (by omega))) (fun n0 => pk_eq q 3 (fun e => h37 (if_pos (by omega))) (fun n3 => pk_eq q 4 (fun e => h37 (if_pos (by omega))) (fun n4 => h42 0 (if_neg (by omega)).symm)))
end
section
variable {yheight ycount yopen yat ydepth ystate ysteps yproduct yend ymost ymostRow ymostSteps : Int32} {ystack ykinds yvariables ynumbers yvalues yopened ybegins yleft youtcomes ymet ysums : Nat → Int32} {yvisited : Nat → Int64}
theorem yp_is {post : Int32 → SY → Prop} {q : Nat} {a p : Int32} (hq : q < 9) (h0 : cp_bs q a p → post (-1) (yheight, ycount, yopen, yat, ydepth, ystate, ysteps, yproduct, yend, ymost, ymostRow, ymostSteps, ystack, ykinds, yvariables, ynumbers, yvalues, yopened, ybegins, yleft, youtcomes, ymet, ysums, yvisited)) (h1 : ¬ cp_bs q a p → wY_put_73 post (nI q) a p yheight ycount yopen yat ydepth ystate ysteps yproduct yend ymost ymostRow ymostSteps ystack ykinds yvariables ynumbers yvalues yopened ybegins yleft youtcomes ymet ysums yvisited) : wpY_put post (yheight, ycount, yopen, yat, ydepth, ystate, ysteps, yproduct, yend, ymost, ymostRow, ymostSteps, ystack, ykinds, yvariables, ynumbers, yvalues, yopened, ybegins, yleft, youtcomes, ymet, ysums, yvisited) (nI q) a p := by
  have h55 : ¬ (q ≤ 2 ∧ cp_bv a) → ¬ (q = 1 ∧ (p < 0 ∨ 16 < p)) → wY_put_55 post (nI q) a p yheight ycount yopen yat ydepth ystate ysteps yproduct yend ymost ymostRow ymostSteps ystack ykinds yvariables ynumbers yvalues yopened ybegins yleft youtcomes ymet ysums yvisited := fun b1 b2 => by
    unfold wY_put_55
    refine pk_eq q 6 (fun e => br_c (fun z => h0 (Or.inr (Or.inr ⟨e, Or.inl z⟩))) (fun z => br_c (fun z2 => h1 (fun y => y.elim b1 (fun y => y.elim b2 (fun y => y.2.elim z (Int32.not_lt.mpr z2))))) (fun z2 => h0 (Or.inr (Or.inr ⟨e, Or.inr (Int32.not_le.mp z2)⟩))))) (fun e => h1 (fun y => y.elim b1 (fun y => y.elim b2 (fun y => e y.1))))
  have h40 : ¬ (q ≤ 2 ∧ cp_bv a) → wY_put_40 post (nI q) a p yheight ycount yopen yat ydepth ystate ysteps yproduct yend ymost ymostRow ymostSteps ystack ykinds yvariables ynumbers yvalues yopened ybegins yleft youtcomes ymet ysums yvisited := fun b1 => by
    unfold wY_put_40
    refine pk_eq q 1 (fun e => br_c (fun z => h0 (Or.inr (Or.inl ⟨e, Or.inl z⟩))) (fun z => br_c (fun z2 => h0 (Or.inr (Or.inl ⟨e, Or.inr z2⟩))) (fun z2 => h55 b1 (fun y => y.2.elim z z2)))) (fun e => h55 b1 (fun y => e y.1))
  have h14 : ∀ t : Nat, (t = 0 → ¬ q ≤ 2) → (t ≠ 0 → q ≤ 2) → t < 2 → wY_put_14 post (nI q) a p (nI t) yheight ycount yopen yat ydepth ystate ysteps yproduct yend ymost ymostRow ymostSteps ystack ykinds yvariables ynumbers yvalues yopened ybegins yleft youtcomes ymet ysums yvisited := fun t t0 t1 t2 => by
    unfold wY_put_14
    refine br_f (nI_pos (by omega)) (pk_lt 8 q (fun z => by omega) (fun _ => pk_eq t 0 (fun e => h40 (fun y => t0 e y.1)) (fun e => br_c (fun z => h0 (Or.inl ⟨t1 e, Or.inl z⟩)) (fun z => br_c (fun z2 => h0 (Or.inl ⟨t1 e, Or.inr ((cp_lt23 a).mp z2)⟩)) (fun z2 => h40 (fun y => y.2.elim z (fun y => z2 ((cp_lt23 a).mpr y))))))))
  unfold wpY_put
  refine br_f (nI_pos (by omega)) (pk_lt 2 q (fun z => ?_) (fun z => h14 1 (fun z => by omega) (fun _ => by omega) (by omega)))
  unfold wY_put_13
  exact h14 0 (fun _ => by omega) (fun y => absurd rfl y) (by omega)
theorem yp_loop {post : Int32 → SY → Prop} {c h t : Nat} {f : Nat → Int32} (hc : c < 24) (ht : t < 2) (h0 : t = 0 → f = fun _ => 0) (h1 : t ≠ 0 → h < 6 ∧ f = fun s => ystack (64 * h + s)) (H : post (nI c) (nI h, nI (c + 1), yopen, yat, ydepth, ystate, ysteps, yproduct, yend, ymost, ymostRow, ymostSteps, ystack, ykinds, yvariables, ynumbers, cp_cpy yvalues (64 * c) f 64, yopened, ybegins, yleft, youtcomes, ymet, ysums, yvisited)) :
    ∀ (d s n : Nat), s + d = 64 → d < n → wY_put_187 post (nI t) (nI h) (nI c) yopen yat ydepth ystate ysteps yproduct yend ymost ymostRow ymostSteps n (nI s) ystack ykinds yvariables ynumbers (cp_cpy yvalues (64 * c) f s) yopened ybegins yleft youtcomes ymet ysums yvisited := by
  intro d
  induction d with
  | zero =>
    intro s n hs hn
    obtain ⟨m, rfl⟩ : ∃ m, n = m + 1 := ⟨n - 1, by omega⟩
    have e : s = 64 := by omega
    subst e
    rw [wY_put_187]
    refine br_t (by decide) (nm_r (nI_1 c) ?_)
    rw [nI_pred]
    exact H
  | succ d ih =>
    intro s n hs hn
    obtain ⟨m, rfl⟩ : ∃ m, n = m + 1 := ⟨n - 1, by omega⟩
    have go := ih (s + 1) m (by omega) (by omega)
    rw [wY_put_187]
    dsimp only
    rw [cp_ixY, cp_ixY]
    refine br_f (nI_ge (b := 64) (by omega) (by decide)) (pk_eq t 0 (fun e => ⟨vp_in_nI (by omega) (by omega), nm_r (by rw [nI_clamp (by omega)]) (nm_r (nI_1 s) ?_)⟩) (fun e => ?_))
    · rw [cp_cpy, h0 e] at go
      rw [h0 e]
      exact go
    · obtain ⟨h6, ef⟩ := h1 e
      refine ⟨vp_in_nI (by omega) (by omega), vp_in_nI (by omega) (by omega), nm_r (by rw [nI_clamp (by omega), nI_clamp (by omega)]) (nm_r (nI_1 s) ?_)⟩
      rw [cp_cpy, ef] at go
      rw [ef]
      exact go
theorem yp_all {post : Int32 → SY → Prop} {K : Nat → Nat} {c h q : Nat} {a p : Int32} (hq : q < 9) (hh : h ≤ 6) (W : cp_wf K c) (hk : ∀ j, j < c → ykinds j = nI (K j))
    (m1 : cp_bs q a p → post (-1) (nI h, nI c, yopen, yat, ydepth, ystate, ysteps, yproduct, yend, ymost, ymostRow, ymostSteps, ystack, ykinds, yvariables, ynumbers, yvalues, yopened, ybegins, yleft, youtcomes, ymet, ysums, yvisited))
    (m2 : ¬ cp_bs q a p → c = 24 → post (-2) (nI h, nI c, yopen, yat, ydepth, ystate, ysteps, yproduct, yend, ymost, ymostRow, ymostSteps, ystack, ykinds, yvariables, ynumbers, yvalues, yopened, ybegins, yleft, youtcomes, ymet, ysums, yvisited))
    (m3 : ¬ cp_bs q a p → c < 24 → cp_tq q = 1 → h = 0 → post (-3) (nI h, nI c, yopen, yat, ydepth, ystate, ysteps, yproduct, yend, ymost, ymostRow, ymostSteps, ystack, ykinds, yvariables, ynumbers, yvalues, yopened, ybegins, yleft, youtcomes, ymet, ysums, yvisited))
    (m4 : ¬ cp_bs q a p → c < 24 → (cp_tq q = 1 → 0 < h) → ¬ cp_al K c q → ∀ op : Nat → Int32, post (-4) (nI h, nI c, nI (cp_O K c).length, yat, ydepth, ystate, ysteps, yproduct, yend, ymost, ymostRow, ymostSteps, ystack, ykinds, yvariables, ynumbers, yvalues, op, ybegins, yleft, youtcomes, ymet, ysums, yvisited))
    (go : ¬ cp_bs q a p → c < 24 → (cp_tq q = 1 → 0 < h) → cp_al K c q → ∀ (op vl : Nat → Int32), (cp_tq q = 1 → vl = cp_cpy yvalues (64 * c) (fun s => ystack (64 * (h - 1) + s)) 64) → (cp_tq q = 0 → vl = cp_cpy yvalues (64 * c) (fun _ => 0) 64) →
      post (nI c) (nI (h - cp_tq q), nI (c + 1), nI (cp_O K c).length, yat, ydepth, ystate, ysteps, yproduct, yend, ymost, ymostRow, ymostSteps, ystack, upd ykinds c (nI q), upd yvariables c a, upd ynumbers c p, vl, op, ybegins, yleft, youtcomes, ymet, ysums, yvisited)) :
    wpY_put post (nI h, nI c, yopen, yat, ydepth, ystate, ysteps, yproduct, yend, ymost, ymostRow, ymostSteps, ystack, ykinds, yvariables, ynumbers, yvalues, yopened, ybegins, yleft, youtcomes, ymet, ysums, yvisited) (nI q) a p := by
  have hc24 := W.1
  have hcc : (nI c).toNatClampNeg = c := nI_clamp (by omega)
  refine yp_is hq m1 (fun nb => ?_)
  unfold wY_put_73
  refine pk_eq c 24 (fun e => m2 nb e) (fun hne => ?_)
  have hc : c < 24 := by omega
  have vpc : vp_in (nI c) 24 := vp_in_nI hc (by omega)
  have h104 : ∀ t, t = cp_tq q → wY_put_104 post (nI q) a p (nI t) (nI h) (nI c) yopen yat ydepth ystate ysteps yproduct yend ymost ymostRow ymostSteps ystack ykinds yvariables ynumbers yvalues yopened ybegins yleft youtcomes ymet ysums yvisited := fun t ht => by
    have ht2 : t = 0 ∨ t = 1 := by rw [ht]; unfold cp_tq; split <;> omega
    have h121 : (cp_tq q = 1 → 0 < h) → wY_put_121 post (nI q) a p (nI t) (nI h) (nI c) yopen yat ydepth ystate ysteps yproduct yend ymost ymostRow ymostSteps ystack ykinds yvariables ynumbers yvalues yopened ybegins yleft youtcomes ymet ysums yvisited := fun hpos => by
      unfold wY_put_121
      refine yo_mis W hq hk (fun al op => br_f (by decide) (m4 nb hc hpos al op)) (fun al op => br_t rfl ?_)
      refine ⟨vpc, nm_r (e' := upd ykinds c (nI q)) (by rw [hcc]) ⟨vpc, nm_r (e' := upd yvariables c a) (by rw [hcc]) ⟨vpc, nm_r (e' := upd ynumbers c p) (by rw [hcc]) (pk_eq t 0 (fun e => ?_) (fun e => ?_))⟩⟩⟩
      · have e0 : cp_tq q = 0 := by omega
        have := go nb hc hpos al op _ (fun z => by omega) (fun _ => rfl)
        rw [e0, Nat.sub_zero] at this
        exact ⟨65, yp_loop hc (by omega) (fun _ => rfl) (fun z => absurd e z) this 64 0 65 (by omega) (by omega)⟩
      · have e1 : cp_tq q = 1 := by omega
        obtain ⟨m, rfl⟩ : ∃ m, h = m + 1 := ⟨h - 1, by have := hpos e1; omega⟩
        have := go nb hc hpos al op _ (fun _ => rfl) (fun z => by omega)
        rw [e1, Nat.add_sub_cancel] at this
        exact nm_r (nI_pred m) ⟨65, yp_loop hc (by omega) (fun z => absurd z e) (fun _ => ⟨by omega, rfl⟩) this 64 0 65 (by omega) (by omega)⟩
    unfold wY_put_104
    refine pk_eq t 0 (fun e => h121 (fun z => by omega)) (fun e => pk_eq h 0 (fun e0 => m3 nb hc (by omega) e0) (fun e0 => h121 (fun _ => by omega)))
  have h99 : cp_tq q = 1 → wY_put_99 post (nI q) a p (nI h) (nI c) yopen yat ydepth ystate ysteps yproduct yend ymost ymostRow ymostSteps ystack ykinds yvariables ynumbers yvalues yopened ybegins yleft youtcomes ymet ysums yvisited := fun e => by
    unfold wY_put_99
    exact h104 1 e.symm
  refine pk_eq q 0 (fun e => h99 (if_pos (by omega))) (fun n0 => pk_eq q 3 (fun e => h99 (if_pos (by omega))) (fun n3 => pk_eq q 4 (fun e => h99 (if_pos (by omega))) (fun n4 => h104 0 (if_neg (by omega)).symm)))
end
theorem cp_tq01 (q : Nat) : cp_tq q = 0 ∨ cp_tq q = 1 := by unfold cp_tq; split <;> omega
theorem tq_1 {q : Nat} (h : q = 0 ∨ q = 3 ∨ q = 4) : cp_tq q = 1 := if_pos h
/-- what the new statement gives -/
theorem pt_XA {K A N : Nat → Nat} {V : Nat → Nat → Nat} {M c q : Nat} {a p : Int32} {k' k xv xn xp pv f : Nat → Int32} (hM : c < M) (nb : ¬ cp_bs q a p) (hk : ∀ j, j < M → k' j = nI (cp_pt K c q j)) (HA : cp_XA K A N V c c k xv xn xp)
    (hf : (q = 0 ∨ q = 3 ∨ q = 4) → (∀ s, s < 64 → ∃ w, w < 4 ∧ f s = nI w) ∧ pv = cp_cpy xp (64 * c) f 64) (hpv : ∀ j, j < c → ∀ s, s < 64 → pv (64 * j + s) = xp (64 * j + s)) :
    cp_XA (cp_pt K c q) (cp_pt A c a.toNatClampNeg) (cp_pt N c p.toNatClampNeg) (fun j s => if j = c then (f s).toNatClampNeg else V j s) M (c + 1) k' (upd xv c a) (upd xn c p) pv := by
  obtain ⟨_, a2, a3, a4⟩ := HA
  refine ⟨hk, fun j hj h => ?_, fun j hj h => ?_, fun j hj h s hs => ?_⟩
  · by_cases e : j = c
    · subst e
      rw [pt_c] at h
      rw [pk_us, pt_c]
      obtain ⟨w, hw, rfl⟩ := cp_in (a := a) (n := 3) (by omega) (fun z => nb (Or.inl ⟨h, Or.inl z⟩)) (fun z => nb (Or.inl ⟨h, Or.inr z⟩))
      rw [nI_clamp (by omega)]
    · rw [pt_n e] at h
      rw [pk_un e, pt_n e]
      exact a2 j (by omega) h
  · by_cases e : j = c
    · subst e
      rw [pt_c] at h
      rw [pk_us, pt_c]
      have hp0 : ¬ p < 0 := fun z => nb (by
        rcases h with h | h
        · exact Or.inr (Or.inl ⟨h, Or.inl z⟩)
        · exact Or.inr (Or.inr ⟨h, Or.inl (Int32.lt_trans z (by decide))⟩))
      obtain ⟨w, hw, rfl⟩ := nI_of hp0
      rw [nI_clamp hw]
    · rw [pt_n e] at h
      rw [pk_un e, pt_n e]
      exact a3 j (by omega) h
  · by_cases e : j = c
    · subst e
      rw [pt_c] at h
      obtain ⟨h1, rfl⟩ := hf h
      rw [cpy_in 64 s hs]
      dsimp only
      rw [if_pos rfl]
      obtain ⟨w, hw, ew⟩ := h1 s hs
      rw [ew, cp_cl4 hw]
    · rw [pt_n e] at h
      dsimp only
      rw [if_neg e, hpv j (by omega) s hs]
      exact a4 j (by omega) h s hs
theorem pt_dat {K A N : Nat → Nat} {V : Nat → Nat → Nat} {c q : Nat} {a p : Int32} {f : Nat → Int32} (nb : ¬ cp_bs q a p) (D : cp_dat K A N V) (hf : (q = 0 ∨ q = 3 ∨ q = 4) → ∀ s, s < 64 → ∃ w, w < 4 ∧ f s = nI w) :
    cp_dat (cp_pt K c q) (cp_pt A c a.toNatClampNeg) (cp_pt N c p.toNatClampNeg) (fun j s => if j = c then (f s).toNatClampNeg else V j s) := by
  intro j
  by_cases e : j = c
  · subst e
    rw [pt_c, pt_c, pt_c]
    refine ⟨fun h => ?_, fun h => ?_, fun h => ?_, fun h s hs => ?_⟩
    · obtain ⟨w, hw, rfl⟩ := cp_in (a := a) (n := 3) (by omega) (fun z => nb (Or.inl ⟨by omega, Or.inl z⟩)) (fun z => nb (Or.inl ⟨by omega, Or.inr z⟩))
      rw [nI_clamp (by omega)]
      exact hw
    · obtain ⟨w, hw, rfl⟩ := cp_in (a := p) (n := 17) (by omega) (fun z => nb (Or.inr (Or.inl ⟨h, Or.inl z⟩))) (fun z => nb (Or.inr (Or.inl ⟨h, Or.inr (Int32.lt_of_lt_of_le (show (16 : Int32) < nI 17 by decide) z)⟩)))
      rw [nI_clamp (by omega)]
      omega
    · obtain ⟨w, hw, rfl⟩ := cp_in (a := p) (n := 4) (by omega) (fun z => nb (Or.inr (Or.inr ⟨h, Or.inl (Int32.lt_trans z (by decide))⟩))) (fun z => nb (Or.inr (Or.inr ⟨h, Or.inr (Int32.lt_of_lt_of_le (show (3 : Int32) < nI 4 by decide) z)⟩)))
      rw [nI_clamp (by omega)]
      refine ⟨?_, by omega⟩
      by_cases e0 : w = 0
      · subst e0
        exact absurd (Or.inr (Or.inr ⟨h, Or.inl (by decide)⟩)) nb
      · omega
    · obtain ⟨w, hw, ew⟩ := hf h s hs
      dsimp only
      rw [if_pos rfl, ew, cp_cl4 hw]
      exact hw
  · rw [pt_n e, pt_n e, pt_n e]
    obtain ⟨d1, d2, d3, d4⟩ := D j
    refine ⟨d1, d2, d3, fun h s hs => ?_⟩
    dsimp only
    rw [if_neg e]
    exact d4 h s hs
theorem i_vc_put {k : Nat} {u : SX} {v : SY} (I : i_Rel k u v) (hk : k + 5 ≤ 2560) (v1 : Int32) (v2 : Int32) (v3 : Int32) : wpX_put (fun r u' => wpY_put (fun r' v' => r' = r ∧ i_Rel (k + 5) u' v') v v1 v2 v3) u v1 v2 v3 := by
  have I' := I
  obtain ⟨h, c, K, A, N, V, xplace, xstate, xrandomSteps, xrunWeight, xending, xbestWeight, xbestCode, xbestSteps, xstackValues, xkinds, xvariables, xnumbers, xprogramValues, xopen, xblockOf, xelseOf, xendOf, xroundsLeft, xrunVisits, xstateWeights, xvisitSums, yopen, yat, ydepth, ystate, ysteps, yproduct, yend, ymost, ymostRow, ymostSteps, ykinds, yvariables, ynumbers, yvalues, yopened, ybegins, yleft, youtcomes, ymet, ysums, yvisited, rfl, rfl, Fh⟩ := I
  obtain ⟨g1, g2, W, D, g5, g6, HA, HA'⟩ := id Fh
  by_cases h0 : v1 < 0
  · unfold wpX_put wpX_isStatement
    refine br_f (fun z => by rw [z] at h0; exact absurd h0 (by decide)) (br_f (fun z => by rw [z] at h0; exact absurd h0 (by decide)) (br_f (fun z => by rw [z] at h0; exact absurd h0 (by decide)) (br_f (fun z => by rw [z] at h0; exact absurd h0 (by decide)) (br_t (Int32.lt_trans h0 (by decide)) (br_t rfl ?_)))))
    unfold wpY_put wY_put_13 wY_put_14
    exact br_t h0 (br_t h0 ⟨rfl, I'⟩)
  rcases pk_ix v1 (n := 9) (by omega) with h1 | h1 | ⟨q, hq, rfl⟩
  · exact absurd h1 h0
  · have h9 : 8 < v1 := Int32.lt_of_lt_of_le (show (8 : Int32) < nI 9 by decide) h1
    unfold wpX_put wpX_isStatement
    refine br_f (fun z => by rw [z] at h9; exact absurd h9 (by decide)) (br_f (fun z => by rw [z] at h9; exact absurd h9 (by decide)) (br_f (fun z => by rw [z] at h9; exact absurd h9 (by decide)) (br_f (fun z => by rw [z] at h9; exact absurd h9 (by decide)) (br_f (fun z => absurd (Int32.lt_trans h9 z) (by decide)) (br_t h9 (br_t rfl ?_))))))
    unfold wpY_put wY_put_13 wY_put_14
    exact br_f h0 (br_t (Int32.lt_trans (by decide) h9) (br_f h0 (br_t h9 ⟨rfl, I'⟩)))
  · have t01 := cp_tq01 q
    refine xp_all hq g1 W HA.1 g5 g6 (fun b => ?_) (fun nb e => ?_) (fun nb a b d => ?_) (fun nb a b al => ?_) (fun nb hc hpos al pv o' k' b' e' f' p1 p0 q1 q2 q3 => ?_)
    · exact yp_all hq g1 W HA'.1 (fun _ => ⟨rfl, I'⟩) (fun z => absurd b z) (fun z => absurd b z) (fun z => absurd b z) (fun z => absurd b z)
    · exact yp_all hq g1 W HA'.1 (fun z => absurd z nb) (fun _ _ => ⟨rfl, I'⟩) (fun _ z => by omega) (fun _ z => by omega) (fun _ z => by omega)
    · exact yp_all hq g1 W HA'.1 (fun z => absurd z nb) (fun _ z => by omega) (fun _ _ _ _ => ⟨rfl, I'⟩) (fun _ _ z => by have := z b; omega) (fun _ _ z => by have := z b; omega)
    · exact yp_all hq g1 W HA'.1 (fun z => absurd z nb) (fun _ z => by omega) (fun _ _ y z => by have := b y; omega) (fun _ _ _ _ op => ⟨rfl, re_mk _ Fh⟩) (fun _ _ _ z => absurd z al)
    · refine yp_all hq g1 W HA'.1 (fun z => absurd z nb) (fun _ z => by omega) (fun _ _ y z => by have := hpos y; omega) (fun _ _ _ z => absurd al z) (fun _ _ _ _ op vl l1 l0 => ⟨rfl, ?_⟩)
      have W' := wf_put W hc hq al
      have hM' := cp_M_le W'
      have hf : (q = 0 ∨ q = 3 ∨ q = 4) → ∀ s, s < 64 → ∃ w, w < 4 ∧ (fun s => xstackValues (64 * (h - 1) + s)) s = nI w := fun _ s _ => g2 _
      refine re_mk _ ⟨by omega, g2, W', pt_dat (a := v2) (p := v3) (f := fun s => xstackValues (64 * (h - 1) + s)) nb D hf, q1, q3, pt_XA (f := fun s => xstackValues (64 * (h - 1) + s)) (k := ykinds) (by omega) nb q2 ⟨HA'.1, HA.2⟩ (fun z => ⟨hf z, p1 (tq_1 z)⟩) (fun j hj s hs => ?_), pt_XA (f := fun s => xstackValues (64 * (h - 1) + s)) (k := ykinds) (by omega) nb (fun j hj => ?_) HA' (fun z => ⟨hf z, l1 (tq_1 z)⟩) (fun j hj s hs => ?_)⟩
      · rcases t01 with t | t
        · rw [p0 t]
        · rw [p1 t, cpy_out 64 _ (by omega)]
      · by_cases e : j = c
        · subst e; rw [pk_us, pt_c]
        · rw [pk_un e, pt_n e]; exact HA'.1 j (by omega)
      · rcases t01 with t | t
        · rw [l0 t, cpy_out 64 _ (by omega)]
        · rw [l1 t, cpy_out 64 _ (by omega)]
