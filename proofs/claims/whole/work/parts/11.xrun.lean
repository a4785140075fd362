/-! the component carries a run out -/
theorem cp_asgI : ∀ v, v < 3 → ∀ x, x < 4 → ∀ s, s < 64 → (nI s &&& (((3 : Int32) <<< ((2 * nI v) &&& 31)) ^^^ (-1))) ||| (nI x <<< ((2 * nI v) &&& 31)) = nI (cp_asg v x s) := by decide +kernel
theorem cp_ixX (p s : Nat) : nI p * 64 + nI s = nI (64 * p + s) := by
  show nI p * nI 64 + nI s = _
  rw [pk_mul, nI_add, Nat.mul_comm]
theorem cp_ixY (p s : Nat) : 64 * nI p + nI s = nI (64 * p + s) := by
  show nI 64 * nI p + nI s = _
  rw [pk_mul, nI_add]
theorem cp_rdI {row j : Nat} (hr : row < 4096) (hj : j < 6) : ((nI row >>> ((2 * (5 - nI j)) &&& 31)) &&& 3) = nI (cp_rd row j) := by
  have hj' : j = 0 ∨ j = 1 ∨ j = 2 ∨ j = 3 ∨ j = 4 ∨ j = 5 := by omega
  have hd : ∀ k, row / 2 ^ k < 2 ^ 32 := fun k => by
    have := Nat.div_le_self row (2 ^ k)
    omega
  rcases hj' with rfl | rfl | rfl | rfl | rfl | rfl
  · rw [pk_shrN (by omega) _ 10 (by decide), pk_andN (hd _) 2 (by decide)]; rfl
  · rw [pk_shrN (by omega) _ 8 (by decide), pk_andN (hd _) 2 (by decide)]; rfl
  · rw [pk_shrN (by omega) _ 6 (by decide), pk_andN (hd _) 2 (by decide)]; rfl
  · rw [pk_shrN (by omega) _ 4 (by decide), pk_andN (hd _) 2 (by decide)]; rfl
  · rw [pk_shrN (by omega) _ 2 (by decide), pk_andN (hd _) 2 (by decide)]; rfl
  · rw [pk_shrN (by omega) _ 0 (by decide), pk_andN (hd _) 2 (by decide)]; rfl
theorem cp_rv {a z : Nat → Int32} {n p : Nat} (h : ∀ j, j < n → a j = z j) (hp : p < n) : ∀ j, j < n → upd a p (a p + 1) j = upd z p (z p + 1) j := fun j hj => by
  by_cases e : j = p
  · subst e; rw [pk_us, pk_us, h j hj]
  · rw [pk_un e, pk_un e, h j hj]
section
variable {xexpressionCount xstatementCount xopenCount xclosedLength xplace xstate xrandomSteps xrunWeight xending xbestWeight xbestCode xbestSteps : Int32} {xstackValues xkinds xvariables xnumbers xprogramValues xopen xblockOf xelseOf xendOf xroundsLeft xrunVisits xstateWeights : Nat → Int32} {xvisitSums : Nat → Int64}
theorem xr_startL {post : SX → Prop} (H : ∀ rv : Nat → Int32, (∀ j, j < 27 → rv j = 0) → post (xexpressionCount, xstatementCount, xopenCount, xclosedLength, 0, 0, 0, 16777216, 1, xbestWeight, xbestCode, xbestSteps, xstackValues, xkinds, xvariables, xnumbers, xprogramValues, xopen, xblockOf, xelseOf, xendOf, xroundsLeft, rv, xstateWeights, xvisitSums)) :
    ∀ (d i n : Nat) (rv : Nat → Int32), i + d = 27 → d < n → (∀ j, j < i → rv j = 0) → wX_startRun_2 post xexpressionCount xstatementCount xopenCount xclosedLength xplace xstate xrandomSteps xrunWeight xending xbestWeight xbestCode xbestSteps n (nI i) xstackValues xkinds xvariables xnumbers xprogramValues xopen xblockOf xelseOf xendOf xroundsLeft rv xstateWeights xvisitSums := by
  intro d
  induction d with
  | zero =>
    intro i n rv hi hn h
    obtain ⟨m, rfl⟩ : ∃ m, n = m + 1 := ⟨n - 1, by omega⟩
    have e : i = 27 := by omega
    subst e
    rw [wX_startRun_2]
    exact br_t (by decide) (H rv h)
  | succ d ih =>
    intro i n rv hi hn h
    obtain ⟨m, rfl⟩ : ∃ m, n = m + 1 := ⟨n - 1, by omega⟩
    rw [wX_startRun_2]
    refine br_f (nI_ge (b := 27) (by omega) (by decide)) ⟨vp_in_nI (by omega) (by omega), nm_r (e' := upd rv i 0) (by rw [nI_clamp (by omega)]) (nm_r (nI_1 i) ?_)⟩
    refine ih (i + 1) m (upd rv i 0) (by omega) (by omega) fun j hj => ?_
    by_cases e : j = i
    · subst e; exact pk_us
    · rw [pk_un e]; exact h j (by omega)
theorem xr_start {post : SX → Prop} (H : ∀ rv : Nat → Int32, (∀ j, j < 27 → rv j = 0) → post (xexpressionCount, xstatementCount, xopenCount, xclosedLength, 0, 0, 0, 16777216, 1, xbestWeight, xbestCode, xbestSteps, xstackValues, xkinds, xvariables, xnumbers, xprogramValues, xopen, xblockOf, xelseOf, xendOf, xroundsLeft, rv, xstateWeights, xvisitSums)) : wpX_startRun post (xexpressionCount, xstatementCount, xopenCount, xclosedLength, xplace, xstate, xrandomSteps, xrunWeight, xending, xbestWeight, xbestCode, xbestSteps, xstackValues, xkinds, xvariables, xnumbers, xprogramValues, xopen, xblockOf, xelseOf, xendOf, xroundsLeft, xrunVisits, xstateWeights, xvisitSums) := by
  unfold wpX_startRun
  exact ⟨28, xr_startL H 27 0 28 xrunVisits (by omega) (by omega) fun j hj => absurd hj (by omega)⟩
theorem xr_asg {post : SX → Prop} {v x s : Nat} {a b : Int32} (ha : a = nI v) (hb : b = nI x) (hs : xstate = nI s) (hv : v < 3) (hx : x < 4) (hs4 : s < 64) (h : post (xexpressionCount, xstatementCount, xopenCount, xclosedLength, xplace, nI (cp_asg v x s), xrandomSteps, xrunWeight, xending, xbestWeight, xbestCode, xbestSteps, xstackValues, xkinds, xvariables, xnumbers, xprogramValues, xopen, xblockOf, xelseOf, xendOf, xroundsLeft, xrunVisits, xstateWeights, xvisitSums)) : wpX_assign post (xexpressionCount, xstatementCount, xopenCount, xclosedLength, xplace, xstate, xrandomSteps, xrunWeight, xending, xbestWeight, xbestCode, xbestSteps, xstackValues, xkinds, xvariables, xnumbers, xprogramValues, xopen, xblockOf, xelseOf, xendOf, xroundsLeft, xrunVisits, xstateWeights, xvisitSums) a b := by
  subst ha hb hs
  unfold wpX_assign
  exact nm_r (cp_asgI v hv x hx s hs4) h
theorem xr_ow {post : Int32 → Prop} {K N : Nat → Nat} {p o : Nat} (hp : p < 27) (hk : xkinds p = nI (K p)) (hK : K p = 1 ∨ K p = 2) (hn : K p = 1 → xnumbers p = nI (N p) ∧ N p ≤ 16) (ho : o < 4) (h : post (nI (cp_ow K N p o))) : wpX_outcomeWeightAt post (xexpressionCount, xstatementCount, xopenCount, xclosedLength, xplace, xstate, xrandomSteps, xrunWeight, xending, xbestWeight, xbestCode, xbestSteps, xstackValues, xkinds, xvariables, xnumbers, xprogramValues, xopen, xblockOf, xelseOf, xendOf, xroundsLeft, xrunVisits, xstateWeights, xvisitSums) (nI p) (nI o) := by
  have hcp : (nI p).toNatClampNeg = p := nI_clamp (by omega)
  unfold wpX_outcomeWeightAt
  refine ⟨vp_in_nI hp (by omega), ?_⟩
  rw [hcp, hk]
  refine pk_eq (K p) 2 (fun e => ?_) (fun e => pk_le o 1 (fun h1 => pk_eq o 1 (fun e1 => ?_) (fun e1 => ?_)) (fun h1 => ?_))
  · rw [cp_ow, if_pos e] at h
    exact h
  · rw [cp_ow, if_neg e, if_pos e1] at h
    exact ⟨vp_in_nI hp (by omega), by rw [(hn (by omega)).1]; exact h⟩
  · have e0 : o = 0 := by omega
    obtain ⟨h2, h3⟩ := hn (by omega)
    rw [cp_ow, if_neg e, if_neg e1, if_pos e0] at h
    refine ⟨vp_in_nI hp (by omega), ?_⟩
    rw [h2]
    show post (nI 16 - nI (N p))
    rw [pk_sub h3]
    exact h
  · rw [cp_ow, if_neg e, if_neg (by omega), if_neg (by omega)] at h
    exact h
theorem cp_rw {r g w : Nat} (hr : r < 6) (hg : g ≤ 16 ^ r) (hw : w ≤ 16) : nI (16 ^ (6 - r) * g) / 16 * nI w = nI (16 ^ (6 - (r + 1)) * (g * w)) := by
  have e : 16 ^ (6 - r) * g = 16 * (16 ^ (6 - (r + 1)) * g) := by
    rw [show 6 - r = 6 - (r + 1) + 1 from by omega, Nat.pow_succ, Nat.mul_comm _ 16, Nat.mul_assoc]
  have hb : 16 ^ (6 - r) * g ≤ 16 ^ 6 := by
    refine Nat.le_trans (Nat.mul_le_mul_left _ hg) ?_
    rw [← Nat.pow_add, show 6 - r + r = 6 from by omega]
    exact Nat.le_refl _
  show nI (16 ^ (6 - r) * g) / nI 16 * nI w = _
  rw [pk_div (by omega) (by omega) (by omega), pk_mul, e, Nat.mul_div_cancel_left _ (by omega), Nat.mul_assoc]
theorem xr_endB {post : SX → Prop} {K : Nat → Nat} {b : Nat} {a : Int32} (ha : a = nI b) (hb : b < 27) (hk : xkinds b = nI (K b)) (hK : K b < 9)
    (h6 : K b = 6 → post (xexpressionCount, xstatementCount, xopenCount, xclosedLength, (if 0 < xroundsLeft b - 1 then nI (b + 1) else xplace), xstate, xrandomSteps, xrunWeight, xending, xbestWeight, xbestCode, xbestSteps, xstackValues, xkinds, xvariables, xnumbers, xprogramValues, xopen, xblockOf, xelseOf, xendOf, upd xroundsLeft b (xroundsLeft b - 1), xrunVisits, xstateWeights, xvisitSums)) (hn : K b ≠ 6 → post (xexpressionCount, xstatementCount, xopenCount, xclosedLength, xplace, xstate, xrandomSteps, xrunWeight, xending, xbestWeight, xbestCode, xbestSteps, xstackValues, xkinds, xvariables, xnumbers, xprogramValues, xopen, xblockOf, xelseOf, xendOf, xroundsLeft, xrunVisits, xstateWeights, xvisitSums)) : wpX_endBlock post (xexpressionCount, xstatementCount, xopenCount, xclosedLength, xplace, xstate, xrandomSteps, xrunWeight, xending, xbestWeight, xbestCode, xbestSteps, xstackValues, xkinds, xvariables, xnumbers, xprogramValues, xopen, xblockOf, xelseOf, xendOf, xroundsLeft, xrunVisits, xstateWeights, xvisitSums) a := by
  subst ha
  have hcb : (nI b).toNatClampNeg = b := nI_clamp (by omega)
  unfold wpX_endBlock
  refine ⟨vp_in_nI hb (by omega), ?_⟩
  rw [hcb, hk]
  refine pk_eq (K b) 6 (fun e => ?_) hn
  have h := h6 e
  refine ⟨vp_in_nI hb (by omega), vp_in_nI hb (by omega), nm_e ⟨vp_in_nI hb (by omega), ?_⟩⟩
  rw [pk_us]
  by_cases h0 : 0 < xroundsLeft b - 1
  · rw [if_pos h0] at h
    exact br_f (Int32.not_le.mpr h0) (nm_r (nI_1 b) h)
  · rw [if_neg h0] at h
    exact br_t (Int32.not_lt.mp h0) h
theorem xr_rand {post : SX → Prop} {K A N : Nat → Nat} {V : Nat → Nat → Nat} {p s r g row : Nat} (D : cp_dat K A N V) (hp : p < 27) (hr6 : r ≤ 6) (hg : g ≤ 16 ^ r) (hs : s < 64) (hrow : row < 4096) (hk : xkinds p = nI (K p)) (hK : K p = 1 ∨ K p = 2)
    (hv : xvariables p = nI (A p)) (hn : K p = 1 → xnumbers p = nI (N p)) (es : xstate = nI s) (er : xrandomSteps = nI r) (ew : xrunWeight = nI (16 ^ (6 - r) * g))
    (h3 : r = 6 → post (xexpressionCount, xstatementCount, xopenCount, xclosedLength, xplace, xstate, xrandomSteps, xrunWeight, -3, xbestWeight, xbestCode, xbestSteps, xstackValues, xkinds, xvariables, xnumbers, xprogramValues, xopen, xblockOf, xelseOf, xendOf, xroundsLeft, xrunVisits, xstateWeights, xvisitSums)) (h4 : r ≠ 6 → cp_ow K N p (cp_rd row r) = 0 → post (xexpressionCount, xstatementCount, xopenCount, xclosedLength, xplace, xstate, nI (r + 1), xrunWeight, -4, xbestWeight, xbestCode, xbestSteps, xstackValues, xkinds, xvariables, xnumbers, xprogramValues, xopen, xblockOf, xelseOf, xendOf, xroundsLeft, xrunVisits, xstateWeights, xvisitSums))
    (h5 : r ≠ 6 → cp_ow K N p (cp_rd row r) ≠ 0 → post (xexpressionCount, xstatementCount, xopenCount, xclosedLength, xplace, nI (cp_asg (A p) (cp_rd row r) s), nI (r + 1), nI (16 ^ (6 - (r + 1)) * (g * cp_ow K N p (cp_rd row r))), xending, xbestWeight, xbestCode, xbestSteps, xstackValues, xkinds, xvariables, xnumbers, xprogramValues, xopen, xblockOf, xelseOf, xendOf, xroundsLeft, xrunVisits, xstateWeights, xvisitSums)) :
    wpX_takeRandomStep post (xexpressionCount, xstatementCount, xopenCount, xclosedLength, xplace, xstate, xrandomSteps, xrunWeight, xending, xbestWeight, xbestCode, xbestSteps, xstackValues, xkinds, xvariables, xnumbers, xprogramValues, xopen, xblockOf, xelseOf, xendOf, xroundsLeft, xrunVisits, xstateWeights, xvisitSums) (nI p) (nI row) := by
  subst es er ew
  have hcp : (nI p).toNatClampNeg = p := nI_clamp (by omega)
  have hd := cp_rd_lt row r
  unfold wpX_takeRandomStep
  refine pk_lt r 6 (fun h => ?_) (fun h => h3 (by omega))
  unfold wpX_outcomeIn
  rw [cp_rdI hrow h]
  refine xr_ow (K := K) (N := N) hp hk hK (fun e => ⟨hn e, (D p).2.1 e⟩) hd (nm_r (nI_1 r) ?_)
  have hw := cp_ow_le D hK (cp_rd row r)
  refine pk_eq (cp_ow K N p (cp_rd row r)) 0 (fun e => h4 (by omega) e) (fun e => ⟨by decide, nm_r (cp_rw h hg hw) ⟨vp_in_nI hp (by omega), ?_⟩⟩)
  exact xr_asg (by rw [hcp]; exact hv) rfl rfl ((D p).1 (by omega)) hd hs (h5 (by omega) e)
end
