/-! the reference: a run to its end, and the tally -/
theorem cp_rdY {row j : Nat} (hr : row < 4096) (hj : j < 6) : ((nI row >>> ((10 - (2 * nI j)) &&& 31)) &&& 3) = nI (cp_rd row j) := by
  have hj' : j = 0 ∨ j = 1 ∨ j = 2 ∨ j = 3 ∨ j = 4 ∨ j = 5 := by omega
  have hd : ∀ k, row / 2 ^ k < 2 ^ 32 := fun k => by
    have := Nat.div_le_self row (2 ^ k)
    omega
  rcases hj' with rfl | rfl | rfl | rfl | rfl | rfl
  · rw [pk_shrN (by omega) _ 10 (by decide), pk_andN (hd _) 2 (by decide)]; rfl
  · rw [pk_shrN (by omega) _ 8 (by decide), pk_andN (hd _) 2 (by decide)]; rfl
  · rw [pk_shrN (by omega) _ 6 (by decide), pk_andN (hd _) 2 (by decide)]; rfl
  · rw [pk_shrN (by omega) _ 4 (by decide), pk_andN (hd _) 2 (by decide)]; rfl
  · rw [pk_shrN (by omega) _ 2 (by decide), pk_andN (hd _) 2 (by decide)]; rfl
  · rw [pk_shrN (by omega) _ 0 (by decide), pk_andN (hd _) 2 (by decide)]; rfl
theorem cp_mskY {row r : Nat} (hr : row < 4096) (h6 : r ≤ 6) : (nI row &&& (((1 : Int32) <<< ((12 - (2 * nI r)) &&& 31)) - 1)) = nI (row % 4 ^ (6 - r)) := by
  have hj' : r = 0 ∨ r = 1 ∨ r = 2 ∨ r = 3 ∨ r = 4 ∨ r = 5 ∨ r = 6 := by omega
  rcases hj' with rfl | rfl | rfl | rfl | rfl | rfl | rfl
  · rw [pk_andN (by omega) 12 (by decide)]
  · rw [pk_andN (by omega) 10 (by decide)]
  · rw [pk_andN (by omega) 8 (by decide)]
  · rw [pk_andN (by omega) 6 (by decide)]
  · rw [pk_andN (by omega) 4 (by decide)]
  · rw [pk_andN (by omega) 2 (by decide)]
  · rw [pk_andN (by omega) 0 (by decide)]
section
variable {yheight ycount yopen yat ydepth ystate ysteps yproduct yend ymost ymostRow ymostSteps : Int32} {ystack ykinds yvariables ynumbers yvalues yopened ybegins yleft youtcomes ymet ysums : Nat → Int32} {yvisited : Nat → Int64} {K A N E F B : Nat → Nat} {V : Nat → Nat → Nat} {M c : Nat}
theorem yx_one {post : SY → Prop} {row t f x p s r g : Nat} {L z : Nat → Int32} {pl dp st sp pr en : Int32} {bg lf mt : Nat → Int32} (G : cp_G K A N E F B V M c) (HA : cp_XA K A N V c c ykinds yvariables ynumbers yvalues) (ho : ∀ j, j < 6 → youtcomes j = nI (cp_rd row j))
    (I : cp_I K M x p s r g L) (hp : p < M) (h5 : K p ≠ 5) (ht : t < 4000) (R : cp_RY K c p s r g 1 L z pl dp bg lf st sp pr en mt)
    (H : ∀ (pl dp : Int32) (bg lf : Nat → Int32) (st sp pr en : Int32) (mt : Nat → Int32), cp_RY K c (cp_step K A N E F B V (cp_rd row) p s r g 1 L z).1 (cp_step K A N E F B V (cp_rd row) p s r g 1 L z).2.1 (cp_step K A N E F B V (cp_rd row) p s r g 1 L z).2.2.1 (cp_step K A N E F B V (cp_rd row) p s r g 1 L z).2.2.2.1 (cp_step K A N E F B V (cp_rd row) p s r g 1 L z).2.2.2.2.1 (cp_step K A N E F B V (cp_rd row) p s r g 1 L z).2.2.2.2.2.1 (cp_step K A N E F B V (cp_rd row) p s r g 1 L z).2.2.2.2.2.2 pl dp bg lf st sp pr en mt → wY_run_53 post f (nI (t + 1)) yheight (nI c) yopen pl dp st sp pr en ymost ymostRow ymostSteps ystack ykinds yvariables ynumbers yvalues yopened bg lf youtcomes mt ysums yvisited) :
    wY_run_53 post (f + 1) (nI t) yheight (nI c) yopen pl dp st sp pr en ymost ymostRow ymostSteps ystack ykinds yvariables ynumbers yvalues yopened bg lf youtcomes mt ysums yvisited := by
  have hc := G.1.1
  have hM := (cp_M_le G.1).2
  rw [wY_run_53]
  refine br_f (nI_ge (b := 4000) ht (by decide)) (br_t R.2.2.2.2.2.2.1 ?_)
  by_cases hpc : p < c
  · have ha : pl = nI p := by rw [R.1, if_pos hpc]
    refine br_f (by rw [ha]; exact nI_ge hpc (by omega)) ?_
    exact ys_step G HA ho I hpc R (fun _ pl dp bg lf st sp pr en mt R' => nm_r (nI_1 t) (H pl dp bg lf st sp pr en mt R')) (fun e => absurd e h5)
  · have ha : pl = nI c := by rw [R.1, if_neg hpc]
    have h8 := G.1.2.1 p (by omega)
    have hl : (cp_O K p).length = M - p := by rw [G.2.1]; exact cp_lenM G.1 (by omega)
    obtain ⟨r1, r2, r3, r4, r5, r6, r7, r8⟩ := R
    refine br_t (by rw [ha]; exact nI_le (Nat.le_refl _) (by omega)) (br_f (by rw [r2, hl]; exact nI_nle (by omega) (by rw [G.2.1]; omega)) ?_)
    exact ys_end (dg := cp_rd row) G HA.1 I hp h8 (by rw [ha, if_neg (by omega)]) r2 r3 r4 r5 (r6 rfl) r7 r8 fun pl dp lf R' => nm_r (nI_1 t) (H pl dp _ lf _ _ _ _ _ R')
theorem yx_else {post : SY → Prop} {row t f x p s r g : Nat} {L z : Nat → Int32} {pl dp st sp pr en : Int32} {bg lf mt : Nat → Int32} (G : cp_G K A N E F B V M c) (HA : cp_XA K A N V c c ykinds yvariables ynumbers yvalues) (ho : ∀ j, j < 6 → youtcomes j = nI (cp_rd row j))
    (I : cp_I K M x p s r g L) (hp : p < M) (h5 : K p = 5) (ht : t + 1 < 4000) (R : cp_RY K c p s r g 1 L z pl dp bg lf st sp pr en mt)
    (H : ∀ (pl dp : Int32) (bg lf : Nat → Int32) (st sp pr en : Int32) (mt : Nat → Int32), cp_RY K c (cp_step K A N E F B V (cp_rd row) p s r g 1 L z).1 (cp_step K A N E F B V (cp_rd row) p s r g 1 L z).2.1 (cp_step K A N E F B V (cp_rd row) p s r g 1 L z).2.2.1 (cp_step K A N E F B V (cp_rd row) p s r g 1 L z).2.2.2.1 (cp_step K A N E F B V (cp_rd row) p s r g 1 L z).2.2.2.2.1 (cp_step K A N E F B V (cp_rd row) p s r g 1 L z).2.2.2.2.2.1 (cp_step K A N E F B V (cp_rd row) p s r g 1 L z).2.2.2.2.2.2 pl dp bg lf st sp pr en mt → wY_run_53 post f (nI (t + 1 + 1)) yheight (nI c) yopen pl dp st sp pr en ymost ymostRow ymostSteps ystack ykinds yvariables ynumbers yvalues yopened bg lf youtcomes mt ysums yvisited) :
    wY_run_53 post (f + 1 + 1) (nI t) yheight (nI c) yopen pl dp st sp pr en ymost ymostRow ymostSteps ystack ykinds yvariables ynumbers yvalues yopened bg lf youtcomes mt ysums yvisited := by
  have hc := G.1.1
  have hM := (cp_M_le G.1).2
  have hMe := G.2.1
  have hpc : p < c := by
    by_cases h : p < c
    · exact h
    · have := G.1.2.1 p (by omega)
      omega
  have T := G.2.2.1
  have hO := T.2.1 p hp (Or.inl h5)
  obtain ⟨_, hb, hkb⟩ := cp_O_head hO
  obtain ⟨b', t', ho', hb4, _⟩ := (G.1.2.2 p hpc).2.2.1 h5
  rw [hO] at ho'
  have e1 := (List.cons.inj ho').1
  rw [← e1] at hb4
  obtain ⟨t1, t2, t3, t4, t5⟩ := T.1 (B p) (by omega) hkb
  have hBE : B (E (B p)) = B p := by
    have h := T.2.1 (E (B p)) t2 (Or.inr t3)
    rw [t4] at h
    exact (List.cons.inj h).1.symm
  obtain ⟨i1, i2, i3, i4, i5, i6⟩ := I
  have I2 : cp_I K M x (E (B p)) s r g L := ⟨by omega, i2, i3, i4, i5, by rw [t4, ← hO]; exact i6⟩
  rw [wY_run_53]
  have ha : pl = nI p := by rw [R.1, if_pos hpc]
  refine br_f (nI_ge (b := 4000) (by omega) (by decide)) (br_t R.2.2.2.2.2.2.1 (br_f (by rw [ha]; exact nI_ge hpc (by omega)) ?_))
  refine ys_step G HA ho ⟨i1, i2, i3, i4, i5, i6⟩ hpc R (fun n5 => absurd h5 n5) (fun _ pl mt R5 => nm_r (nI_1 t) ?_)
  refine yx_one G HA ho I2 t2 (by omega) ht R5 fun pl dp bg lf st sp pr en mt R' => H pl dp bg lf st sp pr en mt ?_
  rw [cp_s8i t3 (by rw [hBE]; omega)] at R'
  rw [cp_s57 (Or.inl h5)]
  obtain ⟨r1, r2, r3, r4, r5, r6, r7, r8⟩ := R'
  refine ⟨r1, r2, r3, r4, r5, r6, r7, fun j hj h8 => ?_⟩
  rw [r8 j hj h8]
  exact pk_un (fun e => h8 (by rw [e]; exact t3))
theorem yx_stop {post : SY → Prop} {t f p s r g : Nat} {e : Int32} {L z : Nat → Int32} {pl dp st sp pr en : Int32} {bg lf mt : Nat → Int32} (G : cp_G K A N E F B V M c) (hpM : p ≤ M) (hs : ¬ (p < M ∧ e = 1)) (ht : t + 1 < 4000) (hf : 1 < f) (R : cp_RY K c p s r g e L z pl dp bg lf st sp pr en mt)
    (H : ∀ (pl' dp' sp' pr' : Int32) (bg' lf' mt' : Nat → Int32), (e = 1 → sp' = nI r ∧ pr' = nI g) → (∀ j, j < c → K j ≠ 8 → mt' j = z j) → post (yheight, nI c, yopen, pl', dp', nI s, sp', pr', (if e = 1 then 0 else e), ymost, ymostRow, ymostSteps, ystack, ykinds, yvariables, ynumbers, yvalues, yopened, bg', lf', youtcomes, mt', ysums, yvisited)) :
    wY_run_53 post f (nI t) yheight (nI c) yopen pl dp st sp pr en ymost ymostRow ymostSteps ystack ykinds yvariables ynumbers yvalues yopened bg lf youtcomes mt ysums yvisited := by
  have hc := G.1.1
  have hMc := cp_M_le G.1
  obtain ⟨m, rfl⟩ : ∃ m, f = m + 1 + 1 := ⟨f - 2, by omega⟩
  obtain ⟨r1, r2, r3, r4, r5, r6, r7, r8⟩ := R
  have h1 := H pl dp sp pr bg lf mt r6 r8
  rw [← r5] at h1
  rw [wY_run_53]
  refine br_f (nI_ge (b := 4000) (by omega) (by decide)) ?_
  by_cases he : e = 1
  · have hp : p = M := by
      by_cases h : p < M
      · exact absurd ⟨h, he⟩ hs
      · omega
    rw [if_pos he] at h1
    have ha : pl = nI c := by rw [r1, if_neg (by rw [hp, G.2.1]; omega)]
    have hd : dp = nI 0 := by rw [r2, hp, G.2.1, cp_OM G.1]; rfl
    refine br_t (by rw [r7]; exact he) (br_t (by rw [ha]; exact nI_le (Nat.le_refl _) (by omega)) (br_t (by rw [hd]; decide) (nm_r (nI_1 t) ?_)))
    rw [wY_run_53]
    exact br_f (nI_ge (b := 4000) (by omega) (by decide)) (br_f (by decide) h1)
  · rw [if_neg he, ← r7] at h1
    exact br_f (by rw [r7]; exact he) h1
theorem yx_loop {post : SY → Prop} {row : Nat} (G : cp_G K A N E F B V M c) (HA : cp_XA K A N V c c ykinds yvariables ynumbers yvalues) (ho : ∀ j, j < 6 → youtcomes j = nI (cp_rd row j)) :
    ∀ (n t f x p s r g : Nat) (e : Int32) (L z : Nat → Int32) (pl dp st sp pr en : Int32) (bg lf mt : Nat → Int32), cp_I K M x p s r g L → cp_mu K x p ≤ n → t + 2 * n + 1 < 4000 → 2 * n + 1 < f → cp_RY K c p s r g e L z pl dp bg lf st sp pr en mt →
    (∀ (pl' dp' sp' pr' : Int32) (bg' lf' mt' : Nat → Int32), ((cp_mr K A N E F B V M (cp_rd row) n (p, s, r, g, e, L, z)).2.2.2.2.1 = 1 → sp' = nI (cp_mr K A N E F B V M (cp_rd row) n (p, s, r, g, e, L, z)).2.2.1 ∧ pr' = nI (cp_mr K A N E F B V M (cp_rd row) n (p, s, r, g, e, L, z)).2.2.2.1) → (∀ j, j < c → K j ≠ 8 → mt' j = (cp_mr K A N E F B V M (cp_rd row) n (p, s, r, g, e, L, z)).2.2.2.2.2.2 j) →
      post (yheight, nI c, yopen, pl', dp', nI (cp_mr K A N E F B V M (cp_rd row) n (p, s, r, g, e, L, z)).2.1, sp', pr', (if (cp_mr K A N E F B V M (cp_rd row) n (p, s, r, g, e, L, z)).2.2.2.2.1 = 1 then 0 else (cp_mr K A N E F B V M (cp_rd row) n (p, s, r, g, e, L, z)).2.2.2.2.1), ymost, ymostRow, ymostSteps, ystack, ykinds, yvariables, ynumbers, yvalues, yopened, bg', lf', youtcomes, mt', ysums, yvisited)) →
    wY_run_53 post f (nI t) yheight (nI c) yopen pl dp st sp pr en ymost ymostRow ymostSteps ystack ykinds yvariables ynumbers yvalues yopened bg lf youtcomes mt ysums yvisited := by
  have hM : M ≤ 27 := by rw [G.2.1]; exact (cp_M_le G.1).2
  intro n
  induction n with
  | zero =>
    intro t f x p s r g e L z pl dp st sp pr en bg lf mt I hmu ht hf R H
    have hs : ¬ (p < M ∧ e = 1) := fun h => by
      obtain ⟨x', I', htm⟩ := cp_adv (e := e) (z := z) G (cp_rd_lt row) I h.1
      have := cp_mu_lt I'.2.2.2.2.1 (by have := I'.1; omega) htm
      omega
    exact yx_stop G I.1 hs (by omega) (by omega) R H
  | succ n ih =>
    intro t f x p s r g e L z pl dp st sp pr en bg lf mt I hmu ht hf R H
    by_cases hs : p < M ∧ e = 1
    · obtain ⟨hp, rfl⟩ := hs
      obtain ⟨x', I', htm⟩ := cp_adv (e := 1) (z := z) G (cp_rd_lt row) I hp
      have hmu' := cp_mu_lt I'.2.2.2.2.1 (by have := I'.1; omega) htm
      rw [cp_mr_go (q := (p, s, r, g, 1, L, z)) ⟨hp, rfl⟩] at H
      obtain ⟨m, rfl⟩ : ∃ m, f = m + 1 + 1 := ⟨f - 2, by omega⟩
      by_cases h5 : K p = 5
      · exact yx_else G HA ho I hp h5 (by omega) R fun pl dp bg lf st sp pr en mt R' => ih (t + 1 + 1) m x' _ _ _ _ _ _ _ pl dp st sp pr en bg lf mt I' (by omega) (by omega) (by omega) R' H
      · exact yx_one G HA ho I hp h5 (by omega) R fun pl dp bg lf st sp pr en mt R' => ih (t + 1) (m + 1) x' _ _ _ _ _ _ _ pl dp st sp pr en bg lf mt I' (by omega) (by omega) (by omega) R' H
    · rw [cp_mr_stop hs] at H
      exact yx_stop G I.1 hs (by omega) (by omega) R H
theorem yx_32 {post : SY → Prop} (H : ∀ mt : Nat → Int32, (∀ j, j < 24 → mt j = 0) → ∃ n, wY_run_53 post n 0 yheight ycount yopen yat ydepth ystate ysteps yproduct yend ymost ymostRow ymostSteps ystack ykinds yvariables ynumbers yvalues yopened ybegins yleft youtcomes mt ysums yvisited) :
    ∀ (d i n : Nat) (mt : Nat → Int32), i + d = 24 → d < n → (∀ j, j < i → mt j = 0) → wY_run_32 post yheight ycount yopen yat ydepth ystate ysteps yproduct yend ymost ymostRow ymostSteps n (nI i) ystack ykinds yvariables ynumbers yvalues yopened ybegins yleft youtcomes mt ysums yvisited := by
  intro d
  induction d with
  | zero =>
    intro i n mt hi hn h
    obtain ⟨m, rfl⟩ : ∃ m, n = m + 1 := ⟨n - 1, by omega⟩
    have e : i = 24 := by omega
    subst e
    rw [wY_run_32]
    exact br_t (by decide) (H mt h)
  | succ d ih =>
    intro i n mt hi hn h
    obtain ⟨m, rfl⟩ : ∃ m, n = m + 1 := ⟨n - 1, by omega⟩
    rw [wY_run_32]
    refine br_f (nI_ge (b := 24) (by omega) (by decide)) ⟨vp_in_nI (by omega) (by omega), nm_r (e' := upd mt i 0) (by rw [nI_clamp (by omega)]) (nm_r (nI_1 i) ?_)⟩
    refine ih (i + 1) m (upd mt i 0) (by omega) (by omega) fun j hj => ?_
    by_cases e : j = i
    · subst e; exact pk_us
    · rw [pk_un e]; exact h j (by omega)
theorem yx_run {post : SY → Prop} {row : Nat} (G : cp_G K A N E F B V M c) (HA : cp_XA K A N V c c ykinds yvariables ynumbers yvalues) (ho : ∀ j, j < 6 → youtcomes j = nI (cp_rd row j))
    (H : ∀ (pl' dp' sp' pr' : Int32) (bg' lf' mt' : Nat → Int32), ((cp_fin K A N E F B V M row).2.2.2.2.1 = 1 → sp' = nI (cp_fin K A N E F B V M row).2.2.1 ∧ pr' = nI (cp_fin K A N E F B V M row).2.2.2.1) → (∀ j, j < c → K j ≠ 8 → mt' j = (cp_fin K A N E F B V M row).2.2.2.2.2.2 j) →
      post (yheight, nI c, yopen, pl', dp', nI (cp_fin K A N E F B V M row).2.1, sp', pr', (if (cp_fin K A N E F B V M row).2.2.2.2.1 = 1 then 0 else (cp_fin K A N E F B V M row).2.2.2.2.1), ymost, ymostRow, ymostSteps, ystack, ykinds, yvariables, ynumbers, yvalues, yopened, bg', lf', youtcomes, mt', ysums, yvisited)) :
    wpY_run post (yheight, nI c, yopen, yat, ydepth, ystate, ysteps, yproduct, yend, ymost, ymostRow, ymostSteps, ystack, ykinds, yvariables, ynumbers, yvalues, yopened, ybegins, yleft, youtcomes, ymet, ysums, yvisited) := by
  have hc := G.1.1
  unfold wpY_run
  refine ⟨25, yx_32 (fun mt hmt => ⟨2003, ?_⟩) 24 0 25 ymet (by omega) (by omega) fun j hj => absurd hj (by omega)⟩
  refine yx_loop G HA ho 1000 0 2003 0 0 0 0 1 1 (fun _ => 0) (fun _ => 0) _ _ _ _ _ _ _ _ _ (cp_I0 G _) (Nat.le_trans (cp_mu_bd _ _ _) (by omega)) (by omega) (by omega) ⟨?_, rfl, trivial, trivial, rfl, fun _ => ⟨rfl, rfl⟩, rfl, fun j hj _ => hmt j (by omega)⟩ H
  split
  · rfl
  · exact congrArg nI (show 0 = c by omega)
end
