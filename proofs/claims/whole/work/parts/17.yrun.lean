/-! the reference: a run to its end, and the tally -/
theorem cp_rdY {row j : Nat} (hr : row < 4096) (hj : j < 6) : ((nI row >>> ((10 - (2 * nI j)) &&& 31)) &&& 3) = nI (cp_rd row j) := by
  have hj' : j = 0 ∨ j = 1 ∨ j = 2 ∨ j = 3 ∨ j = 4 ∨ j = 5 := by omega
  have hd : ∀ k, row / 2 ^ k < 2 ^ 32 := fun k => by
    have := Nat.div_le_self row (2 ^ k)
    omega
  rcases hj' with rfl | rfl | rfl | rfl | rfl | rfl
  · rw [pk_shrN (by omega) _ 10 (by decide), pk_andN (hd _) 2 (by decide)]; rfl
  · rw [pk_shrN (by omega) _ 8 (by decide), pk_andN (hd _) 2 (by decide)]; rfl
  · rw [pk_shrN (by omega) _ 6 (by decide), pk_andN (hd _) 2 (by decide)]; rfl
  · rw [pk_shrN (by omega) _ 4 (by decide), pk_andN (hd _) 2 (by decide)]; rfl
  · rw [pk_shrN (by omega) _ 2 (by decide), pk_andN (hd _) 2 (by decide)]; rfl
  · rw [pk_shrN (by omega) _ 0 (by decide), pk_andN (hd _) 2 (by decide)]; rfl
theorem cp_mskY {row r : Nat} (hr : row < 4096) (h6 : r ≤ 6) : (nI row &&& (((1 : Int32) <<< ((12 - (2 * nI r)) &&& 31)) - 1)) = nI (row % 4 ^ (6 - r)) := by
  have hj' : r = 0 ∨ r = 1 ∨ r = 2 ∨ r = 3 ∨ r = 4 ∨ r = 5 ∨ r = 6 := by omega
  rcases hj' with rfl | rfl | rfl | rfl | rfl | rfl | rfl
  · rw [pk_andN (by omega) 12 (by decide)]; rfl
  · rw [pk_andN (by omega) 10 (by decide)]; rfl
  · rw [pk_andN (by omega) 8 (by decide)]; rfl
  · rw [pk_andN (by omega) 6 (by decide)]; rfl
  · rw [pk_andN (by omega) 4 (by decide)]; rfl
  · rw [pk_andN (by omega) 2 (by decide)]; rfl
  · rw [pk_andN (by omega) 0 (by decide)]; rfl
section
variable {yheight ycount yopen yat ydepth ystate ysteps yproduct yend ymost ymostRow ymostSteps : Int32} {ystack ykinds yvariables ynumbers yvalues yopened ybegins yleft youtcomes ymet ysums : Nat → Int32} {yvisited : Nat → Int64} {K A N E F B : Nat → Nat} {V : Nat → Nat → Nat} {M c : Nat}
theorem yx_loop {post : SY → Prop} {row : Nat} (G : cp_G K A N E F B V M c) (HA : cp_XA K A N V c c ykinds yvariables ynumbers yvalues) (ho : ∀ j, j < 6 → youtcomes j = nI (cp_rd row j)) :
    ∀ (n t f x p s r g : Nat) (e : Int32) (L z : Nat → Int32) (pl dp st sp pr en : Int32) (bg lf mt : Nat → Int32), cp_I K M x p s r g L → cp_ev e → cp_mu K x p ≤ n → t + 2 * n + 1 < 4000 → 2 * n + 1 < f → cp_RY K c p s r g e L z pl dp bg lf st sp pr en mt →
    (∀ (pl' dp' sp' pr' : Int32) (bg' lf' mt' : Nat → Int32), ((cp_mr K A N E F B V M (cp_rd row) n (p, s, r, g, e, L, z)).2.2.2.2.1 = 1 → sp' = nI (cp_mr K A N E F B V M (cp_rd row) n (p, s, r, g, e, L, z)).2.2.1 ∧ pr' = nI (cp_mr K A N E F B V M (cp_rd row) n (p, s, r, g, e, L, z)).2.2.2.1) →
      (∀ j, j < c → K j ≠ 8 → mt' j = (cp_mr K A N E F B V M (cp_rd row) n (p, s, r, g, e, L, z)).2.2.2.2.2.2 j) →
      post (yheight, nI c, yopen, pl', dp', nI (cp_mr K A N E F B V M (cp_rd row) n (p, s, r, g, e, L, z)).2.1, sp', pr', (if (cp_mr K A N E F B V M (cp_rd row) n (p, s, r, g, e, L, z)).2.2.2.2.1 = 1 then 0 else (cp_mr K A N E F B V M (cp_rd row) n (p, s, r, g, e, L, z)).2.2.2.2.1), ymost, ymostRow, ymostSteps, ystack, ykinds, yvariables, ynumbers, yvalues, yopened, bg', lf', youtcomes, mt', ysums, yvisited)) →
    wY_run_53 post f (nI t) yheight (nI c) yopen pl dp st sp pr en ymost ymostRow ymostSteps ystack ykinds yvariables ynumbers yvalues yopened bg lf youtcomes mt ysums yvisited := by
  have hMc := cp_M_le G.1
  rw [← G.2.1] at hMc
  have hc := G.1.1
  have hstop : ∀ (t f p s r g : Nat) (e : Int32) (L z : Nat → Int32) (pl dp st sp pr en : Int32) (bg lf mt : Nat → Int32), p ≤ M → ¬ (p < M ∧ e = 1) → t + 1 < 4000 → 1 < f → cp_RY K c p s r g e L z pl dp bg lf st sp pr en mt →
      (∀ (pl' dp' sp' pr' : Int32) (bg' lf' mt' : Nat → Int32), (e = 1 → sp' = nI r ∧ pr' = nI g) → (∀ j, j < c → K j ≠ 8 → mt' j = z j) → post (yheight, nI c, yopen, pl', dp', nI s, sp', pr', (if e = 1 then 0 else e), ymost, ymostRow, ymostSteps, ystack, ykinds, yvariables, ynumbers, yvalues, yopened, bg', lf', youtcomes, mt', ysums, yvisited)) →
      wY_run_53 post f (nI t) yheight (nI c) yopen pl dp st sp pr en ymost ymostRow ymostSteps ystack ykinds yvariables ynumbers yvalues yopened bg lf youtcomes mt ysums yvisited := by
    intro t f p s r g e L z pl dp st sp pr en bg lf mt hpM hs ht hf R H
    obtain ⟨m, rfl⟩ : ∃ m, f = m + 1 + 1 := ⟨f - 2, by omega⟩
    obtain ⟨rfl, rfl, rh, rl, rfl, rsp, rfl, rm⟩ := R
    have h1 := H _ _ sp pr bg lf mt rsp rm
    rw [wY_run_53]
    refine br_f (nI_ge (b := 4000) (by omega) (by decide)) ?_
    by_cases he : yend = 1
    all_goals skip
    · sorry
    · sorry
  sorry
end
