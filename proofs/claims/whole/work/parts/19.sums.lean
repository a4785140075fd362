/-! sums over the values at the end -/
theorem cp_vi : ∀ v, v < 3 → ∀ s, s < 64 → ((nI s >>> ((2 * nI v) &&& 31)) &&& 3) = nI (s / 4 ^ v % 4) := by decide +kernel
theorem kw_congr {v k w l : Nat} {sw sw' : Nat → Int32} (h : ∀ s, s < 64 → sw s = sw' s) : cp_kw v k w l sw 64 = cp_kw v k w l sw' 64 := by
  unfold cp_kw
  exact si_congr 64 fun s hs => by rw [h s hs]
theorem kw_in {v k w l : Nat} {sw : Nat → Int32} {n : Nat} (h1 : n / 4 ^ v % 4 = k) (h2 : n / 4 ^ w % 4 = l) : cp_kw v k w l sw n + sw n = cp_kw v k w l sw (n + 1) := by
  rw [kw_s, if_pos ⟨h1, h2⟩]
theorem kw_no {v k w l : Nat} {sw : Nat → Int32} {n : Nat} (h : ¬ (n / 4 ^ v % 4 = k ∧ n / 4 ^ w % 4 = l)) : cp_kw v k w l sw n = cp_kw v k w l sw (n + 1) := by
  rw [kw_s, if_neg h, Int32.add_zero]
theorem cp_gcd (g l : Nat) : Nat.gcd g l = Nat.gcd l (g % l) := by
  rw [Nat.gcd_comm g l, Nat.gcd_rec l g, Nat.gcd_comm]
theorem xg_loop {post : Int32 → Prop} : ∀ (k g l t n : Nat), l < 2 ^ k → g < 2 ^ 31 → l < 2 ^ 31 → t + 2 * k < 1000 → 2 * k < n → post (nI (Nat.gcd g l)) → wX_commonDivisor_7 post n (nI g) (nI l) (nI t) := by
  have h0 : ∀ g t n, t < 1000 → 0 < n → post (nI (Nat.gcd g 0)) → wX_commonDivisor_7 post n (nI g) (nI 0) (nI t) := fun g t n ht hn hp => by
    obtain ⟨m, rfl⟩ : ∃ m, n = m + 1 := ⟨n - 1, by omega⟩
    rw [Nat.gcd_zero_right] at hp
    rw [wX_commonDivisor_7]
    exact br_f (nI_ge (b := 1000) ht (by decide)) (br_t rfl hp)
  have h1 : ∀ g l t n, t < 1000 → 0 < l → g < 2 ^ 31 → l < 2 ^ 31 → wX_commonDivisor_7 post n (nI l) (nI (g % l)) (nI (t + 1)) → wX_commonDivisor_7 post (n + 1) (nI g) (nI l) (nI t) := fun g l t n ht hl hg hl2 hp => by
    rw [wX_commonDivisor_7]
    have hne : ¬ nI l = 0 := nI_ne0 hl hl2
    exact br_f (nI_ge (b := 1000) ht (by decide)) (br_f hne ⟨hne, nm_r (pk_rem hg hl hl2) (nm_r (nI_1 t) hp)⟩)
  intro k
  induction k with
  | zero =>
    intro g l t n hl hg hl2 ht hn hp
    have e : l = 0 := by omega
    subst e
    exact h0 g t n (by omega) (by omega) hp
  | succ k ih =>
    intro g l t n hl hg hl2 ht hn hp
    by_cases e : l = 0
    · subst e
      exact h0 g t n (by omega) (by omega) hp
    · have hm := Nat.mod_lt g (show 0 < l by omega)
      obtain ⟨m, rfl⟩ : ∃ m, n = m + 1 + 1 := ⟨n - 2, by omega⟩
      rw [cp_gcd] at hp
      refine h1 g l t (m + 1) (by omega) (by omega) hg hl2 ?_
      by_cases e2 : g % l = 0
      · rw [e2] at hp ⊢
        exact h0 l (t + 1) (m + 1) (by omega) (by omega) hp
      · rw [cp_gcd] at hp
        exact h1 l (g % l) (t + 1) m (by omega) (by omega) hl2 (by omega) (ih (g % l) (l % (g % l)) (t + 1 + 1) m (cp_half (by omega) (by omega) hl) (by omega) (Nat.lt_trans (Nat.mod_lt _ (by omega)) (by omega)) (by omega) (by omega) hp)
theorem xg_gcd {post : Int32 → Prop} {g l : Nat} (hg : g ≤ 16777216) (hl : l ≤ 16777216) (hp : post (nI (Nat.gcd g l))) : wpX_commonDivisor post (nI g) (nI l) := by
  unfold wpX_commonDivisor
  exact ⟨51, xg_loop 25 g l 0 51 (by omega) (by omega) (by omega) (by omega) (by omega) hp⟩
section
variable {xexpressionCount xstatementCount xopenCount xclosedLength xplace xstate xrandomSteps xrunWeight xending xbestWeight xbestCode xbestSteps : Int32} {xstackValues xkinds xvariables xnumbers xprogramValues xopen xblockOf xelseOf xendOf xroundsLeft xrunVisits xstateWeights : Nat → Int32} {xvisitSums : Nat → Int64}
theorem xq_vi {post : Int32 → Prop} {v s : Nat} (hv : v < 3) (hs : s < 64) (h : post (nI (s / 4 ^ v % 4))) : wpX_valueIn post (nI s) (nI v) := by
  unfold wpX_valueIn
  rw [cp_vi v hv s hs]
  exact h
theorem xq_kwL {post : Int32 → Prop} (H : post (cp_si xstateWeights 64)) : ∀ (d i n : Nat), i + d = 64 → d < n → wX_keptWeight_4 post xexpressionCount xstatementCount xopenCount xclosedLength xplace xstate xrandomSteps xrunWeight xending xbestWeight xbestCode xbestSteps xstackValues xkinds xvariables xnumbers xprogramValues xopen xblockOf xelseOf xendOf xroundsLeft xrunVisits xstateWeights xvisitSums n (cp_si xstateWeights i) (nI i) := by
  intro d
  induction d with
  | zero =>
    intro i n hi hn
    obtain ⟨m, rfl⟩ : ∃ m, n = m + 1 := ⟨n - 1, by omega⟩
    have e : i = 64 := by omega
    subst e
    rw [wX_keptWeight_4]
    exact br_t (by decide) H
  | succ d ih =>
    intro i n hi hn
    obtain ⟨m, rfl⟩ : ∃ m, n = m + 1 := ⟨n - 1, by omega⟩
    rw [wX_keptWeight_4]
    exact br_f (nI_ge (b := 64) (by omega) (by decide)) ⟨vp_in_nI (by omega) (by omega), nm_r (e' := cp_si xstateWeights (i + 1)) (by rw [nI_clamp (by omega), cp_si]) (nm_r (nI_1 i) (ih (i + 1) m (by omega) (by omega)))⟩
theorem xq_kw {post : Int32 → Prop} (H : post (cp_si xstateWeights 64)) : wpX_keptWeight post (xexpressionCount, xstatementCount, xopenCount, xclosedLength, xplace, xstate, xrandomSteps, xrunWeight, xending, xbestWeight, xbestCode, xbestSteps, xstackValues, xkinds, xvariables, xnumbers, xprogramValues, xopen, xblockOf, xelseOf, xendOf, xroundsLeft, xrunVisits, xstateWeights, xvisitSums) := by
  unfold wpX_keptWeight
  exact ⟨65, xq_kwL H 64 0 65 (by omega) (by omega)⟩
theorem xq_wwL {post : Int32 → Prop} {v k w l : Nat} (hv : v < 3) (hk : k < 4) (hw : w < 3) (hl : l < 4) (H : post (cp_kw v k w l xstateWeights 64)) : ∀ (d i n : Nat), i + d = 64 → d < n → wX_keptWeightWith_6 post (nI v) (nI k) (nI w) (nI l) xexpressionCount xstatementCount xopenCount xclosedLength xplace xstate xrandomSteps xrunWeight xending xbestWeight xbestCode xbestSteps xstackValues xkinds xvariables xnumbers xprogramValues xopen xblockOf xelseOf xendOf xroundsLeft xrunVisits xstateWeights xvisitSums n (cp_kw v k w l xstateWeights i) (nI i) := by
  intro d
  induction d with
  | zero =>
    intro i n hi hn
    obtain ⟨m, rfl⟩ : ∃ m, n = m + 1 := ⟨n - 1, by omega⟩
    have e : i = 64 := by omega
    subst e
    rw [wX_keptWeightWith_6]
    exact br_t (by decide) H
  | succ d ih =>
    intro i n hi hn
    obtain ⟨m, rfl⟩ : ∃ m, n = m + 1 := ⟨n - 1, by omega⟩
    have h1 := Nat.mod_lt (i / 4 ^ v) (show 0 < 4 by omega)
    have h2 := Nat.mod_lt (i / 4 ^ w) (show 0 < 4 by omega)
    have go := ih (i + 1) m (by omega) (by omega)
    rw [wX_keptWeightWith_6]
    refine br_f (nI_ge (b := 64) (by omega) (by decide)) (xq_vi hv (by omega) (xq_vi hw (by omega) (pk_eq (i / 4 ^ v % 4) k (fun e1 => pk_eq (i / 4 ^ w % 4) l (fun e2 => ?_) (fun e2 => ?_)) (fun e1 => ?_))))
    · exact ⟨vp_in_nI (by omega) (by omega), nm_r (e' := cp_kw v k w l xstateWeights (i + 1)) (by rw [nI_clamp (by omega), kw_in e1 e2]) (nm_r (nI_1 i) go)⟩
    · rw [kw_no (fun z => e2 z.2)]
      exact nm_r (nI_1 i) go
    · rw [kw_no (fun z => e1 z.1)]
      exact nm_r (nI_1 i) go
theorem xq_ww {post : Int32 → Prop} {v k w l : Nat} (hv : v < 3) (hk : k < 4) (hw : w < 3) (hl : l < 4) (H : post (cp_kw v k w l xstateWeights 64)) : wpX_keptWeightWith post (xexpressionCount, xstatementCount, xopenCount, xclosedLength, xplace, xstate, xrandomSteps, xrunWeight, xending, xbestWeight, xbestCode, xbestSteps, xstackValues, xkinds, xvariables, xnumbers, xprogramValues, xopen, xblockOf, xelseOf, xendOf, xroundsLeft, xrunVisits, xstateWeights, xvisitSums) (nI v) (nI k) (nI w) (nI l) := by
  unfold wpX_keptWeightWith
  exact ⟨65, xq_wwL hv hk hw hl H 64 0 65 (by omega) (by omega)⟩
theorem xq_exp {post : Int32 → SX → Prop} {v : Nat} (hv : v < 3) (H : post (cp_si (fun s => xstateWeights s * nI (s / 4 ^ v % 4)) 64) (xexpressionCount, xstatementCount, xopenCount, xclosedLength, xplace, xstate, xrandomSteps, xrunWeight, xending, xbestWeight, xbestCode, xbestSteps, xstackValues, xkinds, xvariables, xnumbers, xprogramValues, xopen, xblockOf, xelseOf, xendOf, xroundsLeft, xrunVisits, xstateWeights, xvisitSums)) : ∃ n, wX_expected_17 post (nI v) xexpressionCount xstatementCount xopenCount xclosedLength xplace xstate xrandomSteps xrunWeight xending xbestWeight xbestCode xbestSteps xstackValues xkinds xvariables xnumbers xprogramValues xopen xblockOf xelseOf xendOf xroundsLeft xrunVisits xstateWeights xvisitSums n 0 0 := by
  rw [kw_exp v xstateWeights 64] at H
  have step : ∀ (k n : Nat) (y : Int32), k < 4 → wX_expected_17 post (nI v) xexpressionCount xstatementCount xopenCount xclosedLength xplace xstate xrandomSteps xrunWeight xending xbestWeight xbestCode xbestSteps xstackValues xkinds xvariables xnumbers xprogramValues xopen xblockOf xelseOf xendOf xroundsLeft xrunVisits xstateWeights xvisitSums n (y + nI k * cp_kw v k v k xstateWeights 64) (nI (k + 1)) → wX_expected_17 post (nI v) xexpressionCount xstatementCount xopenCount xclosedLength xplace xstate xrandomSteps xrunWeight xending xbestWeight xbestCode xbestSteps xstackValues xkinds xvariables xnumbers xprogramValues xopen xblockOf xelseOf xendOf xroundsLeft xrunVisits xstateWeights xvisitSums (n + 1) y (nI k) := fun k n y hk h => by
    rw [wX_expected_17]
    exact br_f (nI_ge (b := 4) hk (by decide)) (xq_ww hv hk hv hk (nm_e (nm_r (nI_1 k) h)))
  refine ⟨5, step 0 4 0 (by omega) (step 1 3 _ (by omega) (step 2 2 _ (by omega) (step 3 1 _ (by omega) ?_)))⟩
  rw [wX_expected_17]
  refine br_t (by decide) ?_
  rw [Int32.zero_add]
  exact H
/-- as whole numbers -/
def cp_Q (v w : Nat) (sw : Nat → Int32) (x3 : Int64) (k l : Nat) : Prop := x3 * (cp_kw v k w l sw 64).toInt64 = (cp_kw v k v k sw 64).toInt64 * (cp_kw w l w l sw 64).toInt64
theorem xq_51 {post : Int32 → SX → Prop} {J : Int32 → Prop} {v w k : Nat} {x3 : Int64} (hv : v < 3) (hw : w < 3) (hk : k < 4) (HJ : (∀ l, l < 4 → cp_Q v w xstateWeights x3 k l) → J (nI (k + 1))) (H0 : (¬ ∀ k l, k < 4 → l < 4 → cp_Q v w xstateWeights x3 k l) → post 0 (xexpressionCount, xstatementCount, xopenCount, xclosedLength, xplace, xstate, xrandomSteps, xrunWeight, xending, xbestWeight, xbestCode, xbestSteps, xstackValues, xkinds, xvariables, xnumbers, xprogramValues, xopen, xblockOf, xelseOf, xendOf, xroundsLeft, xrunVisits, xstateWeights, xvisitSums)) :
    ∀ (d l n : Nat), l + d = 4 → d < n → (∀ l', l' < l → cp_Q v w xstateWeights x3 k l') → wX_independent_51 post J (nI v) (nI w) x3 (nI k) (cp_kw v k v k xstateWeights 64).toInt64 xexpressionCount xstatementCount xopenCount xclosedLength xplace xstate xrandomSteps xrunWeight xending xbestWeight xbestCode xbestSteps xstackValues xkinds xvariables xnumbers xprogramValues xopen xblockOf xelseOf xendOf xroundsLeft xrunVisits xstateWeights xvisitSums n (nI l) := by
  intro d
  induction d with
  | zero =>
    intro l n hl hn h
    obtain ⟨m, rfl⟩ : ∃ m, n = m + 1 := ⟨n - 1, by omega⟩
    have e : l = 4 := by omega
    subst e
    rw [wX_independent_51]
    exact br_t (by decide) (nm_r (nI_1 k) (HJ h))
  | succ d ih =>
    intro l n hl hn h
    obtain ⟨m, rfl⟩ : ∃ m, n = m + 1 := ⟨n - 1, by omega⟩
    rw [wX_independent_51]
    refine br_f (nI_ge (b := 4) (by omega) (by decide)) (xq_ww hw (by omega) hw (by omega) (xq_ww hv hk hw (by omega) (br_c (fun e => ?_) (fun e => ?_))))
    · refine nm_r (nI_1 l) (ih (l + 1) m (by omega) (by omega) fun l' hl' => ?_)
      by_cases e2 : l' = l
      · subst e2; exact e
      · exact h l' (by omega)
    · exact H0 fun z => e (z k l hk (by omega))
theorem xq_29 {post : Int32 → SX → Prop} {v w : Nat} {x3 : Int64} (hv : v < 3) (hw : w < 3) (H1 : (∀ k l, k < 4 → l < 4 → cp_Q v w xstateWeights x3 k l) → post 1 (xexpressionCount, xstatementCount, xopenCount, xclosedLength, xplace, xstate, xrandomSteps, xrunWeight, xending, xbestWeight, xbestCode, xbestSteps, xstackValues, xkinds, xvariables, xnumbers, xprogramValues, xopen, xblockOf, xelseOf, xendOf, xroundsLeft, xrunVisits, xstateWeights, xvisitSums)) (H0 : (¬ ∀ k l, k < 4 → l < 4 → cp_Q v w xstateWeights x3 k l) → post 0 (xexpressionCount, xstatementCount, xopenCount, xclosedLength, xplace, xstate, xrandomSteps, xrunWeight, xending, xbestWeight, xbestCode, xbestSteps, xstackValues, xkinds, xvariables, xnumbers, xprogramValues, xopen, xblockOf, xelseOf, xendOf, xroundsLeft, xrunVisits, xstateWeights, xvisitSums)) :
    ∀ (d k n : Nat), k + d = 4 → d < n → (∀ k' l, k' < k → l < 4 → cp_Q v w xstateWeights x3 k' l) → wX_independent_29 post (nI v) (nI w) x3 xexpressionCount xstatementCount xopenCount xclosedLength xplace xstate xrandomSteps xrunWeight xending xbestWeight xbestCode xbestSteps xstackValues xkinds xvariables xnumbers xprogramValues xopen xblockOf xelseOf xendOf xroundsLeft xrunVisits xstateWeights xvisitSums n (nI k) := by
  intro d
  induction d with
  | zero =>
    intro k n hk hn h
    obtain ⟨m, rfl⟩ : ∃ m, n = m + 1 := ⟨n - 1, by omega⟩
    have e : k = 4 := by omega
    subst e
    rw [wX_independent_29]
    exact br_t (by decide) (H1 h)
  | succ d ih =>
    intro k n hk hn h
    obtain ⟨m, rfl⟩ : ∃ m, n = m + 1 := ⟨n - 1, by omega⟩
    rw [wX_independent_29]
    refine br_f (nI_ge (b := 4) (by omega) (by decide)) (xq_ww hv (by omega) hv (by omega) ⟨5, ?_⟩)
    refine xq_51 hv hw (by omega) (fun hq => ih (k + 1) m (by omega) (by omega) fun k' l hk' hl => ?_) H0 4 0 5 (by omega) (by omega) (fun l' hl' => absurd hl' (by omega))
    by_cases e2 : k' = k
    · subst e2; exact hq l hl
    · exact h k' l (by omega) hl
end
section
variable {yheight ycount yopen yat ydepth ystate ysteps yproduct yend ymost ymostRow ymostSteps : Int32} {ystack ykinds yvariables ynumbers yvalues yopened ybegins yleft youtcomes ymet ysums : Nat → Int32} {yvisited : Nat → Int64}
theorem yq_vi {post : Int32 → Prop} {v s : Nat} (hv : v < 3) (hs : s < 64) (h : post (nI (s / 4 ^ v % 4))) : wpY_valueIn post (yheight, ycount, yopen, yat, ydepth, ystate, ysteps, yproduct, yend, ymost, ymostRow, ymostSteps, ystack, ykinds, yvariables, ynumbers, yvalues, yopened, ybegins, yleft, youtcomes, ymet, ysums, yvisited) (nI s) (nI v) := by
  unfold wpY_valueIn
  show post _
  rw [cp_vi v hv s hs]
  exact h
theorem yq_whL {post : Int32 → Prop} (H : post (cp_si ysums 64)) : ∀ (d i n : Nat), i + d = 64 → d < n → wY_whole_4 post yheight ycount yopen yat ydepth ystate ysteps yproduct yend ymost ymostRow ymostSteps ystack ykinds yvariables ynumbers yvalues yopened ybegins yleft youtcomes ymet ysums yvisited n (cp_si ysums i) (nI i) := by
  intro d
  induction d with
  | zero =>
    intro i n hi hn
    obtain ⟨m, rfl⟩ : ∃ m, n = m + 1 := ⟨n - 1, by omega⟩
    have e : i = 64 := by omega
    subst e
    rw [wY_whole_4]
    exact br_t (by decide) H
  | succ d ih =>
    intro i n hi hn
    obtain ⟨m, rfl⟩ : ∃ m, n = m + 1 := ⟨n - 1, by omega⟩
    rw [wY_whole_4]
    exact br_f (nI_ge (b := 64) (by omega) (by decide)) ⟨vp_in_nI (by omega) (by omega), nm_r (e' := cp_si ysums (i + 1)) (by rw [nI_clamp (by omega), cp_si]) (nm_r (nI_1 i) (ih (i + 1) m (by omega) (by omega)))⟩
theorem yq_wh {post : Int32 → Prop} (H : post (cp_si ysums 64)) : wpY_whole post (yheight, ycount, yopen, yat, ydepth, ystate, ysteps, yproduct, yend, ymost, ymostRow, ymostSteps, ystack, ykinds, yvariables, ynumbers, yvalues, yopened, ybegins, yleft, youtcomes, ymet, ysums, yvisited) := by
  unfold wpY_whole
  exact ⟨65, yq_whL H 64 0 65 (by omega) (by omega)⟩
theorem yq_toL {post : Int32 → Prop} {v k w l : Nat} (hv : v < 3) (hk : k < 4) (hw : w < 3) (hl : l < 4) (H : post (cp_kw v k w l ysums 64)) : ∀ (d i n : Nat), i + d = 64 → d < n → wY_total_6 post (nI v) (nI k) (nI w) (nI l) yheight ycount yopen yat ydepth ystate ysteps yproduct yend ymost ymostRow ymostSteps ystack ykinds yvariables ynumbers yvalues yopened ybegins yleft youtcomes ymet ysums yvisited n (cp_kw v k w l ysums i) (nI i) := by
  intro d
  induction d with
  | zero =>
    intro i n hi hn
    obtain ⟨m, rfl⟩ : ∃ m, n = m + 1 := ⟨n - 1, by omega⟩
    have e : i = 64 := by omega
    subst e
    rw [wY_total_6]
    exact br_t (by decide) H
  | succ d ih =>
    intro i n hi hn
    obtain ⟨m, rfl⟩ : ∃ m, n = m + 1 := ⟨n - 1, by omega⟩
    have h1 := Nat.mod_lt (i / 4 ^ v) (show 0 < 4 by omega)
    have h2 := Nat.mod_lt (i / 4 ^ w) (show 0 < 4 by omega)
    have go := ih (i + 1) m (by omega) (by omega)
    rw [wY_total_6]
    refine br_f (nI_ge (b := 64) (by omega) (by decide)) (yq_vi hv (by omega) (pk_eq (i / 4 ^ v % 4) k (fun e1 => yq_vi hw (by omega) (pk_eq (i / 4 ^ w % 4) l (fun e2 => ?_) (fun e2 => ?_))) (fun e1 => ?_)))
    · exact ⟨vp_in_nI (by omega) (by omega), nm_r (e' := cp_kw v k w l ysums (i + 1)) (by rw [nI_clamp (by omega), kw_in e1 e2]) (nm_r (nI_1 i) go)⟩
    · rw [kw_no (fun z => e2 z.2)]
      exact nm_r (nI_1 i) go
    · rw [kw_no (fun z => e1 z.1)]
      exact nm_r (nI_1 i) go
theorem yq_to {post : Int32 → Prop} {v k w l : Nat} (hv : v < 3) (hk : k < 4) (hw : w < 3) (hl : l < 4) (H : post (cp_kw v k w l ysums 64)) : wpY_total post (yheight, ycount, yopen, yat, ydepth, ystate, ysteps, yproduct, yend, ymost, ymostRow, ymostSteps, ystack, ykinds, yvariables, ynumbers, yvalues, yopened, ybegins, yleft, youtcomes, ymet, ysums, yvisited) (nI v) (nI k) (nI w) (nI l) := by
  unfold wpY_total
  exact ⟨65, yq_toL hv hk hw hl H 64 0 65 (by omega) (by omega)⟩
theorem yq_exp {post : Int32 → SY → Prop} {v : Nat} (hv : v < 3) (H : post (cp_si (fun s => ysums s * nI (s / 4 ^ v % 4)) 64) (yheight, ycount, yopen, yat, ydepth, ystate, ysteps, yproduct, yend, ymost, ymostRow, ymostSteps, ystack, ykinds, yvariables, ynumbers, yvalues, yopened, ybegins, yleft, youtcomes, ymet, ysums, yvisited)) : ∀ (d i n : Nat), i + d = 64 → d < n → wY_expected_18 post (nI v) yheight ycount yopen yat ydepth ystate ysteps yproduct yend ymost ymostRow ymostSteps ystack ykinds yvariables ynumbers yvalues yopened ybegins yleft youtcomes ymet ysums yvisited n (cp_si (fun s => ysums s * nI (s / 4 ^ v % 4)) i) (nI i) := by
  intro d
  induction d with
  | zero =>
    intro i n hi hn
    obtain ⟨m, rfl⟩ : ∃ m, n = m + 1 := ⟨n - 1, by omega⟩
    have e : i = 64 := by omega
    subst e
    rw [wY_expected_18]
    exact br_t (by decide) H
  | succ d ih =>
    intro i n hi hn
    obtain ⟨m, rfl⟩ : ∃ m, n = m + 1 := ⟨n - 1, by omega⟩
    rw [wY_expected_18]
    refine br_f (nI_ge (b := 64) (by omega) (by decide)) ⟨vp_in_nI (by omega) (by omega), yq_vi hv (by omega) ?_⟩
    exact nm_r (e' := cp_si (fun s => ysums s * nI (s / 4 ^ v % 4)) (i + 1)) (by rw [nI_clamp (by omega)]; rfl) (nm_r (nI_1 i) (ih (i + 1) m (by omega) (by omega)))
theorem yq_divL {post : Int32 → Prop} : ∀ (n g l : Nat), l < n → g < 2 ^ 31 → l < 2 ^ 31 → post (nI (Nat.gcd g l)) → wY_divisor_5 post yheight ycount yopen yat ydepth ystate ysteps yproduct yend ymost ymostRow ymostSteps ystack ykinds yvariables ynumbers yvalues yopened ybegins yleft youtcomes ymet ysums yvisited n (nI g) (nI l) := by
  intro n
  induction n with
  | zero => intro g l h; omega
  | succ n ih =>
    intro g l hl hg hl2 hp
    rw [wY_divisor_5]
    by_cases e : l = 0
    · subst e
      rw [Nat.gcd_zero_right] at hp
      exact br_t (by decide) hp
    · rw [cp_gcd] at hp
      have hm := Nat.mod_lt g (show 0 < l by omega)
      exact br_f (nI_nle (by omega) hl2) ⟨nI_ne0 (by omega) hl2, nm_r (pk_rem hg (by omega) hl2) (ih l (g % l) (by omega) hl2 (by omega) hp)⟩
theorem yq_div {post : Int32 → Prop} {g l : Nat} (hg : g < 2 ^ 31) (hl : l < 2 ^ 31) (hp : post (nI (Nat.gcd g l))) : wpY_divisor post (yheight, ycount, yopen, yat, ydepth, ystate, ysteps, yproduct, yend, ymost, ymostRow, ymostSteps, ystack, ykinds, yvariables, ynumbers, yvalues, yopened, ybegins, yleft, youtcomes, ymet, ysums, yvisited) (nI g) (nI l) := by
  unfold wpY_divisor
  exact ⟨l + 1, yq_divL (l + 1) g l (by omega) hg hl hp⟩
theorem yq_34 {post : Int32 → SY → Prop} {v w : Nat} {x3 : Int64} (hv : v < 3) (hw : w < 3) (H1 : (∀ k l, k < 4 → l < 4 → cp_Q v w ysums x3 k l) → post 1 (yheight, ycount, yopen, yat, ydepth, ystate, ysteps, yproduct, yend, ymost, ymostRow, ymostSteps, ystack, ykinds, yvariables, ynumbers, yvalues, yopened, ybegins, yleft, youtcomes, ymet, ysums, yvisited)) (H0 : (¬ ∀ k l, k < 4 → l < 4 → cp_Q v w ysums x3 k l) → post 0 (yheight, ycount, yopen, yat, ydepth, ystate, ysteps, yproduct, yend, ymost, ymostRow, ymostSteps, ystack, ykinds, yvariables, ynumbers, yvalues, yopened, ybegins, yleft, youtcomes, ymet, ysums, yvisited)) :
    ∀ (d c n : Nat) (x5 : Int32), c + d = 16 → d < n → ((x5 = 1 ∧ ∀ c', c' < c → cp_Q v w ysums x3 (c' / 4) (c' % 4)) ∨ (x5 = 0 ∧ ¬ ∀ k l, k < 4 → l < 4 → cp_Q v w ysums x3 k l)) → wY_independent_34 post (nI v) (nI w) x3 yheight ycount yopen yat ydepth ystate ysteps yproduct yend ymost ymostRow ymostSteps ystack ykinds yvariables ynumbers yvalues yopened ybegins yleft youtcomes ymet ysums yvisited n x5 (nI c) := by
  intro d
  induction d with
  | zero =>
    intro c n x5 hc hn h
    obtain ⟨m, rfl⟩ : ∃ m, n = m + 1 := ⟨n - 1, by omega⟩
    have e : c = 16 := by omega
    subst e
    rw [wY_independent_34]
    refine br_t (by decide) ?_
    rcases h with ⟨rfl, h⟩ | ⟨rfl, h⟩
    · refine H1 fun k l hk hl => ?_
      have := h (4 * k + l) (by omega)
      rw [show (4 * k + l) / 4 = k from by omega, show (4 * k + l) % 4 = l from by omega] at this
      exact this
    · exact H0 h
  | succ d ih =>
    intro c n x5 hc hn h
    obtain ⟨m, rfl⟩ : ∃ m, n = m + 1 := ⟨n - 1, by omega⟩
    have h4 := Nat.mod_lt c (show 0 < 4 by omega)
    rw [wY_independent_34]
    refine br_f (nI_ge (b := 16) (by omega) (by decide)) ⟨by decide, nm_r (pk_div (d := 4) (by omega) (by omega) (by omega)) ⟨by decide, nm_r (pk_rem (d := 4) (by omega) (by omega) (by omega)) ?_⟩⟩
    refine yq_to hv (by omega) hw h4 (yq_to hv (by omega) hv (by omega) (yq_to hw h4 hw h4 (br_c (fun e => ?_) (fun e => ?_))))
    · refine nm_r (nI_1 c) (ih (c + 1) m x5 (by omega) (by omega) ?_)
      rcases h with ⟨rfl, h⟩ | ⟨rfl, h⟩
      · refine Or.inl ⟨rfl, fun c' hc' => ?_⟩
        by_cases e2 : c' = c
        · subst e2; exact e
        · exact h c' (by omega)
      · exact Or.inr ⟨rfl, h⟩
    · exact nm_r (nI_1 c) (ih (c + 1) m 0 (by omega) (by omega) (Or.inr ⟨rfl, fun z => e (z (c / 4) (c % 4) (by omega) h4)⟩))
end
