/-! expressions put together -/
theorem cp_mn : ∀ x, x < 4 → ∀ y, y < 4 → ((nI x - nI y) &&& 3) = nI ((x + 4 - y) % 4) := by decide +kernel
theorem cp_four : nI 4 = (4 : Int32) := rfl
def cp_tk (q : Nat) : Nat := if q < 2 then 0 else if q = 7 then 1 else 2
theorem xc_comb {post : Int32 → Prop} {q x y : Nat} (a s : Nat) (h2 : 2 ≤ q) (h9 : q ≤ 9) (hx : x < 4) (hy : y < 4) (h : post (nI (cp_cv q a s x y))) : wpX_combined post (nI q) (nI x) (nI y) := by
  have hq : q = 2 ∨ q = 3 ∨ q = 4 ∨ q = 5 ∨ q = 6 ∨ q = 7 ∨ q = 8 ∨ q = 9 := by omega
  unfold wpX_combined
  rcases hq with rfl | rfl | rfl | rfl | rfl | rfl | rfl | rfl
  · refine br_f (by decide) (br_f (by decide) (br_t rfl ?_))
    rw [nI_add, pk_andN (by omega) 2 (by decide)]
    exact h
  · refine br_f (by decide) (br_f (by decide) (br_f (by decide) (br_t rfl ?_)))
    rw [cp_mn x hx y hy]
    exact h
  · refine br_f (by decide) (br_f (by decide) (br_f (by decide) (br_f (by decide) (br_t rfl ?_))))
    have hxy := Nat.mul_le_mul (show x ≤ 3 by omega) (show y ≤ 3 by omega)
    rw [pk_mul, pk_andN (by omega) 2 (by decide)]
    exact h
  · refine br_f (by decide) (br_f (by decide) (br_f (by decide) (br_f (by decide) (br_f (by decide) (br_t rfl (pk_eq x y (fun e => ?_) (fun e => ?_)))))))
    · have h' : post (nI (if x = y then 1 else 0)) := h
      rw [if_pos e] at h'
      exact h'
    · have h' : post (nI (if x = y then 1 else 0)) := h
      rw [if_neg e] at h'
      exact h'
  · refine br_f (by decide) (br_f (by decide) (br_f (by decide) (br_f (by decide) (br_f (by decide) (br_f (by decide) (br_t rfl (pk_le y x (fun e => ?_) (fun e => ?_))))))))
    · have h' : post (nI (if x < y then 1 else 0)) := h
      rw [if_neg (by omega)] at h'
      exact h'
    · have h' : post (nI (if x < y then 1 else 0)) := h
      rw [if_pos e] at h'
      exact h'
  · refine br_f (by decide) (br_f (by decide) (br_f (by decide) (br_f (by decide) (br_f (by decide) (br_f (by decide) (br_f (by decide) (br_t rfl (pk_eq x 0 (fun e => ?_) (fun e => ?_)))))))))
    · have h' : post (nI (if x = 0 then 1 else 0)) := h
      rw [if_pos e] at h'
      exact h'
    · have h' : post (nI (if x = 0 then 1 else 0)) := h
      rw [if_neg e] at h'
      exact h'
  · have h' : post (nI (if x ≠ 0 ∧ y ≠ 0 then 1 else 0)) := h
    refine br_f (by decide) (br_f (by decide) (br_f (by decide) (br_f (by decide) (br_f (by decide) (br_f (by decide) (br_f (by decide) (br_f (by decide) (br_t rfl (pk_eq x 0 (fun e => ?_) (fun e => pk_eq y 0 (fun e2 => ?_) (fun e2 => ?_)))))))))))
    · rw [if_neg (fun z => z.1 e)] at h'
      exact h'
    · rw [if_neg (fun z => z.2 e2)] at h'
      exact h'
    · rw [if_pos ⟨e, e2⟩] at h'
      exact h'
  · have h' : post (nI (if x ≠ 0 then x else y)) := h
    refine br_f (by decide) (br_t (by decide) (pk_eq x 0 (fun e => ?_) (fun e => ?_)))
    · rw [if_neg (fun z => z e)] at h'
      exact h'
    · rw [if_pos e] at h'
      exact h'
section
variable {xexpressionCount xstatementCount xopenCount xclosedLength xplace xstate xrandomSteps xrunWeight xending xbestWeight xbestCode xbestSteps : Int32} {xstackValues xkinds xvariables xnumbers xprogramValues xopen xblockOf xelseOf xendOf xroundsLeft xrunVisits xstateWeights : Nat → Int32} {xvisitSums : Nat → Int64}
theorem xc_90 {post : SX → Prop} {J : Int32 → (Nat → Int32) → (Nat → Int32) → (Nat → Int32) → (Nat → Int32) → (Nat → Int32) → (Nat → Int32) → (Nat → Int32) → (Nat → Int32) → (Nat → Int32) → (Nat → Int32) → (Nat → Int32) → (Nat → Int32) → (Nat → Int64) → Prop} {x2 x3 x4 x7 : Int32} {cell s : Nat} (hc : cell + s < 384) (H : J (nI (s + 1)) (upd xstackValues (cell + s) x7) xkinds xvariables xnumbers xprogramValues xopen xblockOf xelseOf xendOf xroundsLeft xrunVisits xstateWeights xvisitSums) : wX_fillSlot_90 post J x2 x3 x4 (nI cell) (nI s) x7 xexpressionCount xstatementCount xopenCount xclosedLength xplace xstate xrandomSteps xrunWeight xending xbestWeight xbestCode xbestSteps xstackValues xkinds xvariables xnumbers xprogramValues xopen xblockOf xelseOf xendOf xroundsLeft xrunVisits xstateWeights xvisitSums := by
  unfold wX_fillSlot_90
  rw [nI_add]
  exact ⟨vp_in_nI hc (by omega), nm_r (by rw [nI_clamp (by omega)]) (nm_r (nI_1 s) H)⟩
theorem xc_loop {post : SX → Prop} {q a slot : Nat} {x3 : Int32} {f : Nat → Int32} (h9 : q ≤ 9) (hs6 : slot < 6) (hs2 : cp_tk q = 2 → slot < 5) (hf : cp_4 f) (ha : q < 2 → x3 = nI a) (ha1 : q = 1 → a < 3) (H : post (xexpressionCount, xstatementCount, xopenCount, xclosedLength, xplace, xstate, xrandomSteps, xrunWeight, xending, xbestWeight, xbestCode, xbestSteps, cp_fl q a (64 * slot) f 64, xkinds, xvariables, xnumbers, xprogramValues, xopen, xblockOf, xelseOf, xendOf, xroundsLeft, xrunVisits, xstateWeights, xvisitSums)) :
    ∀ (d s n : Nat), s + d = 64 → d < n → wX_fillSlot_15 post (nI q) x3 (nI (cp_tk q)) (nI (64 * slot)) xexpressionCount xstatementCount xopenCount xclosedLength xplace xstate xrandomSteps xrunWeight xending xbestWeight xbestCode xbestSteps n (nI s) (cp_fl q a (64 * slot) f s) xkinds xvariables xnumbers xprogramValues xopen xblockOf xelseOf xendOf xroundsLeft xrunVisits xstateWeights xvisitSums := by
  intro d
  induction d with
  | zero =>
    intro s n hs hn
    obtain ⟨m, rfl⟩ : ∃ m, n = m + 1 := ⟨n - 1, by omega⟩
    have e : s = 64 := by omega
    subst e
    rw [wX_fillSlot_15]
    exact br_t (by decide) H
  | succ d ih =>
    intro s n hs hn
    obtain ⟨m, rfl⟩ : ∃ m, n = m + 1 := ⟨n - 1, by omega⟩
    have go := ih (s + 1) m (by omega) (by omega)
    obtain ⟨x, hx, ex⟩ := hf (64 * slot + s)
    obtain ⟨y, hy, ey⟩ := hf (64 * slot + 64 + s)
    rw [cp_fl, ex, ey, cp_cl4 hx, cp_cl4 hy] at go
    have gx : cp_fl q a (64 * slot) f s (64 * slot + s) = nI x := by rw [fl_ge s _ (by omega), ex]
    have gy : cp_fl q a (64 * slot) f s (64 * slot + 64 + s) = nI y := by rw [fl_ge s _ (by omega), ey]
    rw [wX_fillSlot_15]
    refine br_f (nI_ge (b := 64) (by omega) (by decide)) ?_
    have h38 : ∀ x7 : Int32, (q < 2 → x7 = nI (cp_cv q a s x y)) → wX_fillSlot_38 post (wX_fillSlot_15 post (nI q) x3 (nI (cp_tk q)) (nI (64 * slot)) xexpressionCount xstatementCount xopenCount xclosedLength xplace xstate xrandomSteps xrunWeight xending xbestWeight xbestCode xbestSteps m) (nI q) x3 (nI (cp_tk q)) (nI (64 * slot)) (nI s) x7 xexpressionCount xstatementCount xopenCount xclosedLength xplace xstate xrandomSteps xrunWeight xending xbestWeight xbestCode xbestSteps (cp_fl q a (64 * slot) f s) xkinds xvariables xnumbers xprogramValues xopen xblockOf xelseOf xendOf xroundsLeft xrunVisits xstateWeights xvisitSums := by
      intro x7 h7
      unfold wX_fillSlot_38
      by_cases hq2 : q < 2
      · have e0 : cp_tk q = 0 := if_pos hq2
        rw [e0] at go ⊢
        refine br_t (by decide) (xc_90 (by omega) ?_)
        rw [h7 hq2]
        exact go
      · have et : cp_tk q = if q = 7 then 1 else 2 := if_neg hq2
        have hcell : nI (64 * slot) + 64 + nI s = nI (64 * slot + 64 + s) := by
          show nI (64 * slot) + nI 64 + nI s = _
          rw [nI_add, nI_add]
        rw [nI_add, nI_clamp (by omega), gx, hcell]
        by_cases h7 : q = 7
        · rw [if_pos h7] at et
          rw [et] at go ⊢
          refine br_f (by decide) ⟨vp_in_nI (by omega) (by omega), nm_e (br_f (by decide) ?_)⟩
          unfold wX_fillSlot_78
          refine xc_comb (y := 0) a s (by omega) h9 hx (by omega) (xc_90 (by omega) ?_)
          subst h7
          exact go
        · rw [if_neg h7] at et
          have h5 := hs2 et
          rw [et] at go ⊢
          rw [nI_clamp (by omega), gy]
          refine br_f (by decide) ⟨vp_in_nI (by omega) (by omega), nm_e (br_t rfl ⟨vp_in_nI (by omega) (by omega), ?_⟩)⟩
          unfold wX_fillSlot_78
          exact xc_comb a s (by omega) h9 hx hy (xc_90 (by omega) go)
    refine pk_eq q 1 (fun e1 => ?_) (fun e1 => ?_)
    · rw [ha (by omega)]
      rw [ha (by omega)] at h38
      refine xq_vi (ha1 e1) (by omega) (h38 _ fun _ => ?_)
      subst e1
      rfl
    · refine h38 _ fun h2 => ?_
      have e0 : q = 0 := by omega
      subst e0
      exact ha (by omega)
theorem xc_taken {post : Int32 → Prop} {q : Nat} (h9 : q ≤ 9) (h : post (nI (cp_tk q))) : wpX_takenBy post (nI q) := by
  unfold wpX_takenBy
  refine pk_eq q 0 (fun e => ?_) (fun e0 => pk_eq q 1 (fun e => ?_) (fun e1 => pk_eq q 7 (fun e => ?_) (fun e7 => ?_)))
  · rw [cp_tk, if_pos (by omega)] at h
    exact h
  · rw [cp_tk, if_pos (by omega)] at h
    exact h
  · rw [cp_tk, if_neg (by omega), if_pos e] at h
    exact h
  · rw [cp_tk, if_neg (by omega), if_neg e7] at h
    exact h
theorem xc_push {post : Int32 → SX → Prop} {q a h : Nat} {x3 : Int32} (h9 : q ≤ 9) (hh : h ≤ 6) (ht : cp_tk q ≤ h) (h6 : cp_tk q = 0 → h < 6) (hf : cp_4 xstackValues) (ha : q < 2 → x3 = nI a) (ha1 : q = 1 → a < 3)
    (H : post (nI (h - cp_tk q + 1)) (nI (h - cp_tk q + 1), xstatementCount, xopenCount, xclosedLength, xplace, xstate, xrandomSteps, xrunWeight, xending, xbestWeight, xbestCode, xbestSteps, cp_fl q a (64 * (h - cp_tk q)) xstackValues 64, xkinds, xvariables, xnumbers, xprogramValues, xopen, xblockOf, xelseOf, xendOf, xroundsLeft, xrunVisits, xstateWeights, xvisitSums)) : wX_push_42 post (nI q) x3 (nI (cp_tk q)) (nI h) xstatementCount xopenCount xclosedLength xplace xstate xrandomSteps xrunWeight xending xbestWeight xbestCode xbestSteps xstackValues xkinds xvariables xnumbers xprogramValues xopen xblockOf xelseOf xendOf xroundsLeft xrunVisits xstateWeights xvisitSums := by
  unfold wX_push_42
  refine nm_r (pk_sub ht) ?_
  unfold wpX_fillSlot
  refine xc_taken h9 (nm_r (e' := nI (64 * (h - cp_tk q))) (by show _ * nI 64 = _; rw [pk_mul, Nat.mul_comm]) ⟨65, ?_⟩)
  exact xc_loop h9 (by omega) (by omega) hf ha ha1 (nm_r (nI_1 _) H) 64 0 65 (by omega) (by omega)
end
section
variable {yheight ycount yopen yat ydepth ystate ysteps yproduct yend ymost ymostRow ymostSteps : Int32} {ystack ykinds yvariables ynumbers yvalues yopened ybegins yleft youtcomes ymet ysums : Nat → Int32} {yvisited : Nat → Int64}
theorem yc_comb {post : Int32 → Prop} {q x y : Nat} (a s : Nat) (h2 : 2 ≤ q) (h9 : q ≤ 9) (h7 : q ≠ 7) (hx : x < 4) (hy : y < 4) (h : post (nI (cp_cv q a s x y))) : wpY_combine post (yheight, ycount, yopen, yat, ydepth, ystate, ysteps, yproduct, yend, ymost, ymostRow, ymostSteps, ystack, ykinds, yvariables, ynumbers, yvalues, yopened, ybegins, yleft, youtcomes, ymet, ysums, yvisited) (nI q) (nI x) (nI y) := by
  have hq : q = 2 ∨ q = 3 ∨ q = 4 ∨ q = 5 ∨ q = 6 ∨ q = 8 ∨ q = 9 := by omega
  unfold wpY_combine
  rcases hq with rfl | rfl | rfl | rfl | rfl | rfl | rfl
  · refine br_t rfl ⟨by decide, ?_⟩
    rw [nI_add]
    have e : nI (x + y) - nI (x + y) / 4 * 4 = nI ((x + y) % 4) := pk_rem (d := 4) (by omega) (by omega) (by omega)
    rw [e]
    exact h
  · refine br_f (by decide) (br_t rfl ⟨by decide, ?_⟩)
    have e0 : nI x + 4 - nI y = nI (x + 4 - y) := by
      show nI x + nI 4 - nI y = _
      rw [nI_add, pk_sub (by omega)]
    have e : nI (x + 4 - y) - nI (x + 4 - y) / 4 * 4 = nI ((x + 4 - y) % 4) := pk_rem (d := 4) (by omega) (by omega) (by omega)
    rw [e0, e]
    exact h
  · refine br_f (by decide) (br_f (by decide) (br_t rfl ⟨by decide, ?_⟩))
    have hxy := Nat.mul_le_mul (show x ≤ 3 by omega) (show y ≤ 3 by omega)
    have e : nI (x * y) - nI (x * y) / 4 * 4 = nI ((x * y) % 4) := pk_rem (d := 4) (by omega) (by omega) (by omega)
    rw [pk_mul, e]
    exact h
  · refine br_f (by decide) (br_f (by decide) (br_f (by decide) (br_t rfl (pk_eq x y (fun e => ?_) (fun e => ?_)))))
    · have h' : post (nI (if x = y then 1 else 0)) := h
      rw [if_pos e] at h'
      exact h'
    · have h' : post (nI (if x = y then 1 else 0)) := h
      rw [if_neg e] at h'
      exact h'
  · refine br_f (by decide) (br_f (by decide) (br_f (by decide) (br_f (by decide) (br_t rfl (pk_le y x (fun e => ?_) (fun e => ?_))))))
    · have h' : post (nI (if x < y then 1 else 0)) := h
      rw [if_neg (by omega)] at h'
      exact h'
    · have h' : post (nI (if x < y then 1 else 0)) := h
      rw [if_pos e] at h'
      exact h'
  · have h' : post (nI (if x ≠ 0 ∧ y ≠ 0 then 1 else 0)) := h
    refine br_f (by decide) (br_f (by decide) (br_f (by decide) (br_f (by decide) (br_f (by decide) (br_t rfl (pk_eq x 0 (fun e => ?_) (fun e => pk_eq y 0 (fun e2 => ?_) (fun e2 => ?_))))))))
    · rw [if_neg (fun z => z.1 e)] at h'
      exact h'
    · rw [if_neg (fun z => z.2 e2)] at h'
      exact h'
    · rw [if_pos ⟨e, e2⟩] at h'
      exact h'
  · have h' : post (nI (if x ≠ 0 then x else y)) := h
    refine br_f (by decide) (br_f (by decide) (br_f (by decide) (br_f (by decide) (br_f (by decide) (br_f (by decide) (pk_eq x 0 (fun e => ?_) (fun e => ?_)))))))
    · rw [if_neg (fun z => z e)] at h'
      exact h'
    · rw [if_pos e] at h'
      exact h'
theorem yc_loop {post : Int32 → SY → Prop} {q a slot : Nat} {x2 : Int32} {f : Nat → Int32} (h9 : q ≤ 9) (hs6 : slot < 6) (hs2 : cp_tk q = 2 → slot < 5) (hf : cp_4 f) (ha : q < 2 → x2 = nI a) (ha1 : q = 1 → a < 3) (H : post (nI (slot + 1)) (nI (slot + 1), ycount, yopen, yat, ydepth, ystate, ysteps, yproduct, yend, ymost, ymostRow, ymostSteps, cp_fl q a (64 * slot) f 64, ykinds, yvariables, ynumbers, yvalues, yopened, ybegins, yleft, youtcomes, ymet, ysums, yvisited)) :
    ∀ (d s n : Nat), s + d = 64 → d < n → wY_push_102 post (nI q) x2 (nI (cp_tk q)) (nI (slot + 1)) ycount yopen yat ydepth ystate ysteps yproduct yend ymost ymostRow ymostSteps n (nI s) (cp_fl q a (64 * slot) f s) ykinds yvariables ynumbers yvalues yopened ybegins yleft youtcomes ymet ysums yvisited := by
  intro d
  induction d with
  | zero =>
    intro s n hs hn
    obtain ⟨m, rfl⟩ : ∃ m, n = m + 1 := ⟨n - 1, by omega⟩
    have e : s = 64 := by omega
    subst e
    rw [wY_push_102]
    exact br_t (by decide) H
  | succ d ih =>
    intro s n hs hn
    obtain ⟨m, rfl⟩ : ∃ m, n = m + 1 := ⟨n - 1, by omega⟩
    have go := ih (s + 1) m (by omega) (by omega)
    obtain ⟨x, hx, ex⟩ := hf (64 * slot + s)
    obtain ⟨y, hy, ey⟩ := hf (64 * slot + 64 + s)
    rw [cp_fl, ex, ey, cp_cl4 hx, cp_cl4 hy] at go
    have gx : cp_fl q a (64 * slot) f s (64 * slot + s) = nI x := by rw [fl_ge s _ (by omega), ex]
    have gy : cp_fl q a (64 * slot) f s (64 * slot + s + 64) = nI y := by rw [fl_ge s _ (by omega), show 64 * slot + s + 64 = 64 * slot + 64 + s from by omega, ey]
    have hx5 : 64 * nI (slot + 1) - 64 + nI s = nI (64 * slot + s) := by
      show nI 64 * nI (slot + 1) - nI 64 + nI s = _
      rw [pk_mul, pk_sub (by omega), nI_add]
      exact congrArg nI (by omega)
    have h167 : ∀ x7 : Int32, (cp_tk q ≠ 2 → x7 = nI (cp_cv q a s x y)) → wY_push_167 post (wY_push_102 post (nI q) x2 (nI (cp_tk q)) (nI (slot + 1)) ycount yopen yat ydepth ystate ysteps yproduct yend ymost ymostRow ymostSteps m) (nI q) x2 (nI (cp_tk q)) (nI s) (nI (64 * slot + s)) (nI x) x7 (nI (slot + 1)) ycount yopen yat ydepth ystate ysteps yproduct yend ymost ymostRow ymostSteps (cp_fl q a (64 * slot) f s) ykinds yvariables ynumbers yvalues yopened ybegins yleft youtcomes ymet ysums yvisited := by
      intro x7 h7
      have hx64 : nI (64 * slot + s) + 64 = nI (64 * slot + s + 64) := nI_add _ 64
      unfold wY_push_167
      rw [hx64]
      by_cases h2 : cp_tk q = 2
      · have h5 := hs2 h2
        have hq : 2 ≤ q ∧ q ≠ 7 := by
          unfold cp_tk at h2
          by_cases a1 : q < 2
          · rw [if_pos a1] at h2; omega
          · rw [if_neg a1] at h2
            by_cases a2 : q = 7
            · rw [if_pos a2] at h2; omega
            · exact ⟨by omega, a2⟩
        rw [h2] at go ⊢
        rw [nI_clamp (n := 64 * slot + s + 64) (by omega), gy]
        refine br_t rfl ⟨vp_in_nI (by omega) (by omega), yc_comb a s hq.1 h9 hq.2 hx hy ⟨vp_in_nI (by omega) (by omega), nm_r (by rw [nI_clamp (by omega)]) (nm_r (nI_1 s) go)⟩⟩
      · have ht2 : cp_tk q < 3 := by unfold cp_tk; split <;> (try split) <;> omega
        refine br_f (fun z => h2 ((nI_eq (b := 2) (by omega) (by omega)).mp z)) ⟨vp_in_nI (by omega) (by omega), nm_r (by rw [nI_clamp (by omega), h7 h2]) (nm_r (nI_1 s) go)⟩
    have h151 : ∀ z0 : Int32, (q ≠ 1 → cp_tk q ≠ 2 → z0 = nI (cp_cv q a s x y)) → wY_push_151 post (wY_push_102 post (nI q) x2 (nI (cp_tk q)) (nI (slot + 1)) ycount yopen yat ydepth ystate ysteps yproduct yend ymost ymostRow ymostSteps m) (nI q) x2 (nI (cp_tk q)) (nI s) (nI (64 * slot + s)) (nI x) z0 (nI (slot + 1)) ycount yopen yat ydepth ystate ysteps yproduct yend ymost ymostRow ymostSteps (cp_fl q a (64 * slot) f s) ykinds yvariables ynumbers yvalues yopened ybegins yleft youtcomes ymet ysums yvisited := by
      intro z0 hz
      unfold wY_push_151
      refine pk_eq q 1 (fun e1 => ?_) (fun e1 => h167 z0 (hz e1))
      rw [ha (by omega)]
      rw [ha (by omega)] at h167
      refine yq_vi (ha1 e1) (by omega) (h167 _ fun _ => ?_)
      subst e1
      rfl
    rw [wY_push_102]
    refine br_f (nI_ge (b := 64) (by omega) (by decide)) (nm_r hx5 ⟨vp_in_nI (by omega) (by omega), nm_r (e' := nI x) (by rw [nI_clamp (by omega), gx]) (pk_eq q 0 (fun e0 => h151 _ fun _ _ => ?_) (fun e0 => pk_eq x 0 (fun ex0 => h151 _ fun n1 n2 => ?_) (fun ex0 => h151 _ fun n1 n2 => ?_)))⟩)
    · subst e0
      exact ha (by omega)
    · have h7 : q = 7 := by
        unfold cp_tk at n2
        by_cases a2 : q = 7
        · exact a2
        · rw [if_neg (by omega), if_neg a2] at n2
          exact absurd rfl n2
      subst h7
      show 1 = nI (if x = 0 then 1 else 0)
      rw [if_pos ex0]
      rfl
    · have h7 : q = 7 := by
        unfold cp_tk at n2
        by_cases a2 : q = 7
        · exact a2
        · rw [if_neg (by omega), if_neg a2] at n2
          exact absurd rfl n2
      subst h7
      show 0 = nI (if x = 0 then 1 else 0)
      rw [if_neg ex0]
      rfl
theorem yc_push {post : Int32 → SY → Prop} {q a h : Nat} {x2 : Int32} (h9 : q ≤ 9) (hh : h ≤ 6) (ht : cp_tk q ≤ h) (h6 : cp_tk q = 0 → h < 6) (hf : cp_4 ystack) (ha : q < 2 → x2 = nI a) (ha1 : q = 1 → a < 3)
    (H : post (nI (h - cp_tk q + 1)) (nI (h - cp_tk q + 1), ycount, yopen, yat, ydepth, ystate, ysteps, yproduct, yend, ymost, ymostRow, ymostSteps, cp_fl q a (64 * (h - cp_tk q)) ystack 64, ykinds, yvariables, ynumbers, yvalues, yopened, ybegins, yleft, youtcomes, ymet, ysums, yvisited)) : wY_push_87 post (nI q) x2 (nI (cp_tk q)) (nI h) ycount yopen yat ydepth ystate ysteps yproduct yend ymost ymostRow ymostSteps ystack ykinds yvariables ynumbers yvalues yopened ybegins yleft youtcomes ymet ysums yvisited := by
  unfold wY_push_87
  refine nm_r (e' := nI (h - cp_tk q + 1)) (by rw [pk_sub ht, nI_1]) ⟨65, ?_⟩
  exact yc_loop h9 (by omega) (by omega) hf ha ha1 H 64 0 65 (by omega) (by omega)
end
