/-! the component: a run to its end, and the tally -/
theorem tl_sw {R : Nat → cp_S} {sw : Nat → Int32} {a : Nat} (h : ∀ s, s < 64 → sw s = nI (cp_Sm R a s)) (hs : (R a).2.1 < 64) : ∀ s, s < 64 → upd sw (R a).2.1 (sw (R a).2.1 + nI (cp_wt (R a) a)) s = nI (cp_Sm R (a + 1) s) := fun s h64 => by
  by_cases e : s = (R a).2.1
  · rw [e, pk_us, h _ hs, nI_add, cp_Sm, if_pos rfl]
  · rw [pk_un e, h s h64, cp_Sm, if_neg (fun z => e z.symm), Nat.add_zero]
theorem tl_B {R : Nat → cp_S} (h : ∀ a, cp_wt (R a) a ≤ 16777216) : ∀ n, (cp_Bm R n).1 ≤ 16777216 := by
  intro n
  induction n with
  | zero => exact Nat.zero_le _
  | succ n ih =>
    rw [cp_Bm]
    split
    · exact h n
    · exact ih
theorem tl_B4 {R : Nat → cp_S} (h : ∀ a, (R a).2.2.1 ≤ 6) : ∀ n, n ≤ 4096 → (cp_Bm R n).2.1 < 4096 ∧ (cp_Bm R n).2.2 ≤ 6 := by
  intro n
  induction n with
  | zero => intro _; exact ⟨by show 0 < 4096; omega, Nat.zero_le _⟩
  | succ n ih =>
    intro hn
    rw [cp_Bm]
    split
    · exact ⟨by show n < 4096; omega, h n⟩
    · exact ih (by omega)
theorem tl_wt (q : cp_S) (row : Nat) (hr : q.2.2.1 ≤ 6) (hg : q.2.2.2.1 ≤ 16 ^ q.2.2.1) : cp_wt q row ≤ 16777216 := by
  unfold cp_wt
  split
  · exact cp_wt_le hr hg
  · omega
theorem cp_sh6 : ∀ r, r ≤ 6 → ((1 : Int32) <<< ((2 * (6 - nI r)) &&& 31)) = nI (4 ^ (6 - r)) := by
  have h : ∀ r, r < 7 → ((1 : Int32) <<< ((2 * (6 - nI r)) &&& 31)) = nI (4 ^ (6 - r)) := by decide +kernel
  exact fun r hr => h r (by omega)
section
variable {xexpressionCount xstatementCount xopenCount xclosedLength xplace xstate xrandomSteps xrunWeight xending xbestWeight xbestCode xbestSteps : Int32} {xstackValues xkinds xvariables xnumbers xprogramValues xopen xblockOf xelseOf xendOf xroundsLeft xrunVisits xstateWeights : Nat → Int32} {xvisitSums : Nat → Int64} {K A N E F B : Nat → Nat} {V : Nat → Nat → Nat} {M c : Nat}
theorem xs_268 {post : SX → Prop} {e : Int32} (h : post (xexpressionCount, xstatementCount, xopenCount, xclosedLength, xplace, xstate, xrandomSteps, xrunWeight, (if e = 1 then 0 else e), xbestWeight, xbestCode, xbestSteps, xstackValues, xkinds, xvariables, xnumbers, xprogramValues, xopen, xblockOf, xelseOf, xendOf, xroundsLeft, xrunVisits, xstateWeights, xvisitSums)) : wX_carryOut_268 post xexpressionCount xstatementCount xopenCount xclosedLength xplace xstate xrandomSteps xrunWeight e xbestWeight xbestCode xbestSteps xstackValues xkinds xvariables xnumbers xprogramValues xopen xblockOf xelseOf xendOf xroundsLeft xrunVisits xstateWeights xvisitSums := by
  unfold wX_carryOut_268
  by_cases he : e = 1
  · rw [if_pos he] at h
    exact br_t he h
  · rw [if_neg he] at h
    exact br_f he h
theorem xs_loop {post : SX → Prop} {row : Nat} (G : cp_G K A N E F B V M c) (HX : cp_X K M E F B xblockOf xelseOf xendOf) (HA : cp_XA K A N V M c xkinds xvariables xnumbers xprogramValues) (hrow : row < 4096) :
    ∀ (n t f x p s r g : Nat) (e : Int32) (L z : Nat → Int32) (pl st sp rw en : Int32) (rl rv : Nat → Int32), cp_I K M x p s r g L → cp_mu K x p ≤ n → t + n < 100000 → n < f → cp_RX K p s r g e L z pl st sp rw en rl rv →
    (∀ (pl' rw' : Int32) (rl' rv' : Nat → Int32), ((cp_mr K A N E F B V M (cp_rd row) n (p, s, r, g, e, L, z)).2.2.2.2.1 = 1 → rw' = nI (16 ^ (6 - (cp_mr K A N E F B V M (cp_rd row) n (p, s, r, g, e, L, z)).2.2.1) * (cp_mr K A N E F B V M (cp_rd row) n (p, s, r, g, e, L, z)).2.2.2.1)) →
      (∀ j, j < 27 → rv' j = (cp_mr K A N E F B V M (cp_rd row) n (p, s, r, g, e, L, z)).2.2.2.2.2.2 j) →
      post (xexpressionCount, xstatementCount, xopenCount, nI M, pl', nI (cp_mr K A N E F B V M (cp_rd row) n (p, s, r, g, e, L, z)).2.1, nI (cp_mr K A N E F B V M (cp_rd row) n (p, s, r, g, e, L, z)).2.2.1, rw', (if (cp_mr K A N E F B V M (cp_rd row) n (p, s, r, g, e, L, z)).2.2.2.2.1 = 1 then 0 else (cp_mr K A N E F B V M (cp_rd row) n (p, s, r, g, e, L, z)).2.2.2.2.1), xbestWeight, xbestCode, xbestSteps, xstackValues, xkinds, xvariables, xnumbers, xprogramValues, xopen, xblockOf, xelseOf, xendOf, rl', rv', xstateWeights, xvisitSums)) →
    wX_carryOut_6 post (nI row) f (nI t) xexpressionCount xstatementCount xopenCount (nI M) pl st sp rw en xbestWeight xbestCode xbestSteps xstackValues xkinds xvariables xnumbers xprogramValues xopen xblockOf xelseOf xendOf rl rv xstateWeights xvisitSums := by
  have hM : M ≤ 27 := by rw [G.2.1]; exact (cp_M_le G.1).2
  intro n
  induction n with
  | zero =>
    intro t f x p s r g e L z pl st sp rw en rl rv I hmu ht hf R H
    obtain ⟨m, rfl⟩ : ∃ m, f = m + 1 := ⟨f - 1, by omega⟩
    have hs : ¬ (p < M ∧ e = 1) := fun h => by
      obtain ⟨x', I', htm⟩ := cp_adv (e := e) (z := z) G (cp_rd_lt row) I h.1
      have := cp_mu_lt I'.2.2.2.2.1 (by have := I'.1; omega) htm
      omega
    obtain ⟨rfl, rfl, rfl, rw1, rfl, rl1, rv1⟩ := R
    have h1 := xs_268 (H (nI p) rw rl rv rw1 rv1)
    rw [wX_carryOut_6]
    refine br_f (nI_ge (b := 100000) (by omega) (by decide)) ?_
    by_cases hp : p < M
    · exact br_f (nI_ge hp (by omega)) (br_f (fun z => hs ⟨hp, z⟩) h1)
    · exact br_t (nI_le (by omega) (by have := I.1; omega)) h1
  | succ n ih =>
    intro t f x p s r g e L z pl st sp rw en rl rv I hmu ht hf R H
    obtain ⟨m, rfl⟩ : ∃ m, f = m + 1 := ⟨f - 1, by omega⟩
    by_cases hs : p < M ∧ e = 1
    · obtain ⟨hp, rfl⟩ := hs
      obtain ⟨x', I', htm⟩ := cp_adv (e := 1) (z := z) G (cp_rd_lt row) I hp
      have hmu' := cp_mu_lt I'.2.2.2.2.1 (by have := I'.1; omega) htm
      rw [cp_mr_go (q := (p, s, r, g, 1, L, z)) ⟨hp, rfl⟩] at H
      refine xs_step G HX HA hrow (by omega) I hp R fun pl' st' sp' rw' en' rl' rv' R' => ?_
      exact ih (t + 1) m x' _ _ _ _ _ _ _ pl' st' sp' rw' en' rl' rv' I' (by omega) (by omega) (by omega) R' H
    · rw [cp_mr_stop hs] at H
      obtain ⟨rfl, rfl, rfl, rw1, rfl, rl1, rv1⟩ := R
      have h1 := xs_268 (H (nI p) rw rl rv rw1 rv1)
      rw [wX_carryOut_6]
      refine br_f (nI_ge (b := 100000) (by omega) (by decide)) ?_
      by_cases hp : p < M
      · exact br_f (nI_ge hp (by omega)) (br_f (fun z => hs ⟨hp, z⟩) h1)
      · exact br_t (nI_le (by omega) (by have := I.1; omega)) h1
theorem xs_run {post : SX → Prop} {row : Nat} (G : cp_G K A N E F B V M c) (HX : cp_X K M E F B xblockOf xelseOf xendOf) (HA : cp_XA K A N V M c xkinds xvariables xnumbers xprogramValues) (hrow : row < 4096)
    (H : ∀ (pl' rw' : Int32) (rl' rv' : Nat → Int32), ((cp_fin K A N E F B V M row).2.2.2.2.1 = 1 → rw' = nI (16 ^ (6 - (cp_fin K A N E F B V M row).2.2.1) * (cp_fin K A N E F B V M row).2.2.2.1)) →
      (∀ j, j < 27 → rv' j = (cp_fin K A N E F B V M row).2.2.2.2.2.2 j) →
      post (xexpressionCount, xstatementCount, xopenCount, nI M, pl', nI (cp_fin K A N E F B V M row).2.1, nI (cp_fin K A N E F B V M row).2.2.1, rw', (if (cp_fin K A N E F B V M row).2.2.2.2.1 = 1 then 0 else (cp_fin K A N E F B V M row).2.2.2.2.1), xbestWeight, xbestCode, xbestSteps, xstackValues, xkinds, xvariables, xnumbers, xprogramValues, xopen, xblockOf, xelseOf, xendOf, rl', rv', xstateWeights, xvisitSums)) :
    wpX_carryOut post (xexpressionCount, xstatementCount, xopenCount, nI M, xplace, xstate, xrandomSteps, xrunWeight, xending, xbestWeight, xbestCode, xbestSteps, xstackValues, xkinds, xvariables, xnumbers, xprogramValues, xopen, xblockOf, xelseOf, xendOf, xroundsLeft, xrunVisits, xstateWeights, xvisitSums) (nI row) := by
  unfold wpX_carryOut
  refine xr_start fun rv hrv => ?_
  exact ⟨1001, xs_loop G HX HA hrow 1000 0 1001 0 0 0 0 1 1 (fun _ => 0) (fun _ => 0) _ _ _ _ _ _ _ (cp_I0 G _) (Nat.le_trans (cp_mu_bd _ _ _) (by omega)) (by omega) (by omega) ⟨rfl, rfl, rfl, fun _ => rfl, rfl, fun b hb => absurd hb (by rw [cp_O]; exact List.not_mem_nil), hrv⟩ H⟩
theorem xt_keptL {post : SX → Prop} {x1 : Int32} (hc : c ≤ 24) (vs0 : Nat → Int64)
    (H1 : xrunWeight ≤ xbestWeight → ∀ vs : Nat → Int64, (∀ j, j < c → vs j = vs0 j + xrunWeight.toInt64 * (xrunVisits j).toInt64) → post (xexpressionCount, nI c, xopenCount, xclosedLength, xplace, xstate, xrandomSteps, xrunWeight, xending, xbestWeight, xbestCode, xbestSteps, xstackValues, xkinds, xvariables, xnumbers, xprogramValues, xopen, xblockOf, xelseOf, xendOf, xroundsLeft, xrunVisits, xstateWeights, vs))
    (H2 : ¬ xrunWeight ≤ xbestWeight → ∀ vs : Nat → Int64, (∀ j, j < c → vs j = vs0 j + xrunWeight.toInt64 * (xrunVisits j).toInt64) → post (xexpressionCount, nI c, xopenCount, xclosedLength, xplace, xstate, xrandomSteps, xrunWeight, xending, xrunWeight, x1, xrandomSteps, xstackValues, xkinds, xvariables, xnumbers, xprogramValues, xopen, xblockOf, xelseOf, xendOf, xroundsLeft, xrunVisits, xstateWeights, vs)) :
    ∀ (d i n : Nat) (vs : Nat → Int64), i + d = c → d < n → (∀ j, j < i → vs j = vs0 j + xrunWeight.toInt64 * (xrunVisits j).toInt64) → (∀ j, i ≤ j → vs j = vs0 j) →
    wX_tallyKeptRun_18 post x1 xexpressionCount (nI c) xopenCount xclosedLength xplace xstate xrandomSteps xrunWeight xending xbestWeight xbestCode xbestSteps n (nI i) xstackValues xkinds xvariables xnumbers xprogramValues xopen xblockOf xelseOf xendOf xroundsLeft xrunVisits xstateWeights vs := by
  intro d
  induction d with
  | zero =>
    intro i n vs hi hn h1 h2
    obtain ⟨m, rfl⟩ : ∃ m, n = m + 1 := ⟨n - 1, by omega⟩
    have e : i = c := by omega
    subst e
    rw [wX_tallyKeptRun_18]
    exact br_t (nI_le (by omega) (by omega)) (br_c (fun h => H1 h vs h1) (fun h => H2 h vs h1))
  | succ d ih =>
    intro i n vs hi hn h1 h2
    obtain ⟨m, rfl⟩ : ∃ m, n = m + 1 := ⟨n - 1, by omega⟩
    have hci : (nI i).toNatClampNeg = i := nI_clamp (by omega)
    have vpi : vp_in (nI i) 27 := vp_in_nI (by omega) (by omega)
    rw [wX_tallyKeptRun_18]
    refine br_f (nI_ge (by omega) (by omega)) ⟨vpi, vpi, vpi, nm_r (e' := vp_updL vs i (vs i + xrunWeight.toInt64 * (xrunVisits i).toInt64)) (by rw [hci]) (nm_r (nI_1 i) ?_)⟩
    refine ih (i + 1) m _ (by omega) (by omega) (fun j hj => ?_) (fun j hj => ?_)
    · by_cases e : j = i
      · subst e
        rw [pk_uLs, h2 j (Nat.le_refl _)]
      · rw [pk_uLn e]
        exact h1 j (by omega)
    · rw [pk_uLn (by omega)]
      exact h2 j (by omega)
theorem xt_kept {post : SX → Prop} {x1 : Int32} {s : Nat} (hc : c ≤ 24) (hs : s < 64) (es : xstate = nI s)
    (H1 : xrunWeight ≤ xbestWeight → ∀ vs : Nat → Int64, (∀ j, j < c → vs j = xvisitSums j + xrunWeight.toInt64 * (xrunVisits j).toInt64) → post (xexpressionCount, nI c, xopenCount, xclosedLength, xplace, xstate, xrandomSteps, xrunWeight, xending, xbestWeight, xbestCode, xbestSteps, xstackValues, xkinds, xvariables, xnumbers, xprogramValues, xopen, xblockOf, xelseOf, xendOf, xroundsLeft, xrunVisits, upd xstateWeights s (xstateWeights s + xrunWeight), vs))
    (H2 : ¬ xrunWeight ≤ xbestWeight → ∀ vs : Nat → Int64, (∀ j, j < c → vs j = xvisitSums j + xrunWeight.toInt64 * (xrunVisits j).toInt64) → post (xexpressionCount, nI c, xopenCount, xclosedLength, xplace, xstate, xrandomSteps, xrunWeight, xending, xrunWeight, x1, xrandomSteps, xstackValues, xkinds, xvariables, xnumbers, xprogramValues, xopen, xblockOf, xelseOf, xendOf, xroundsLeft, xrunVisits, upd xstateWeights s (xstateWeights s + xrunWeight), vs)) :
    wpX_tallyKeptRun post (xexpressionCount, nI c, xopenCount, xclosedLength, xplace, xstate, xrandomSteps, xrunWeight, xending, xbestWeight, xbestCode, xbestSteps, xstackValues, xkinds, xvariables, xnumbers, xprogramValues, xopen, xblockOf, xelseOf, xendOf, xroundsLeft, xrunVisits, xstateWeights, xvisitSums) x1 := by
  unfold wpX_tallyKeptRun
  have vps : vp_in xstate 64 := by rw [es]; exact vp_in_nI hs (by omega)
  refine ⟨vps, vps, nm_r (e' := upd xstateWeights s (xstateWeights s + xrunWeight)) (by rw [es, nI_clamp (by omega)]) ⟨c + 1, ?_⟩⟩
  exact xt_keptL (xstateWeights := upd xstateWeights s (xstateWeights s + xrunWeight)) hc xvisitSums H1 H2 c 0 (c + 1) xvisitSums (by omega) (by omega) (fun j hj => absurd hj (by omega)) (fun _ _ => rfl)
end
