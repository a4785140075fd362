/-! the reference: all runs -/
section
variable {yheight ycount yopen yat ydepth ystate ysteps yproduct yend ymost ymostRow ymostSteps : Int32} {ystack ykinds yvariables ynumbers yvalues yopened ybegins yleft youtcomes ymet ysums : Nat → Int32} {yvisited : Nat → Int64} {K A N E F B : Nat → Nat} {V : Nat → Nat → Nat} {M c : Nat}
theorem yn_49 {post : SY → Prop} {x1 x2 : Int32} (vs0 : Nat → Int64)
    (H1 : x2 ≤ ymost → ∀ vs : Nat → Int64, (∀ j, j < 24 → vs j = vs0 j + x2.toInt64 * (ymet j).toInt64) → post (yheight, ycount, yopen, yat, ydepth, ystate, ysteps, yproduct, yend, ymost, ymostRow, ymostSteps, ystack, ykinds, yvariables, ynumbers, yvalues, yopened, ybegins, yleft, youtcomes, ymet, ysums, vs))
    (H2 : ¬ x2 ≤ ymost → ∀ vs : Nat → Int64, (∀ j, j < 24 → vs j = vs0 j + x2.toInt64 * (ymet j).toInt64) → post (yheight, ycount, yopen, yat, ydepth, ystate, ysteps, yproduct, yend, x2, x1, ysteps, ystack, ykinds, yvariables, ynumbers, yvalues, yopened, ybegins, yleft, youtcomes, ymet, ysums, vs)) :
    ∀ (d i n : Nat) (vs : Nat → Int64), i + d = 24 → d < n → (∀ j, j < i → vs j = vs0 j + x2.toInt64 * (ymet j).toInt64) → (∀ j, i ≤ j → vs j = vs0 j) →
    wY_note_49 post x1 x2 yheight ycount yopen yat ydepth ystate ysteps yproduct yend ymost ymostRow ymostSteps n (nI i) ystack ykinds yvariables ynumbers yvalues yopened ybegins yleft youtcomes ymet ysums vs := by
  intro d
  induction d with
  | zero =>
    intro i n vs hi hn h1 h2
    obtain ⟨m, rfl⟩ : ∃ m, n = m + 1 := ⟨n - 1, by omega⟩
    have e : i = 24 := by omega
    subst e
    rw [wY_note_49]
    exact br_t (by decide) (br_c (fun h => H1 h vs h1) (fun h => H2 h vs h1))
  | succ d ih =>
    intro i n vs hi hn h1 h2
    obtain ⟨m, rfl⟩ : ∃ m, n = m + 1 := ⟨n - 1, by omega⟩
    have hci : (nI i).toNatClampNeg = i := nI_clamp (by omega)
    have vpi : vp_in (nI i) 24 := vp_in_nI (by omega) (by omega)
    rw [wY_note_49]
    refine br_f (nI_ge (b := 24) (by omega) (by decide)) ⟨vpi, vpi, vpi, nm_r (e' := vp_updL vs i (vs i + x2.toInt64 * (ymet i).toInt64)) (by rw [hci]) (nm_r (nI_1 i) ?_)⟩
    refine ih (i + 1) m _ (by omega) (by omega) (fun j hj => ?_) (fun j hj => ?_)
    · by_cases e : j = i
      · subst e
        rw [pk_uLs, h2 j (Nat.le_refl _)]
      · rw [pk_uLn e]
        exact h1 j (by omega)
    · rw [pk_uLn (by omega)]
      exact h2 j (by omega)
theorem yn_10 {post : SY → Prop} {x1 : Int32} {s : Nat} (hs : s < 64) (es : ystate = nI s) {wt : Nat}
    (H1 : nI wt ≤ ymost → ∀ vs : Nat → Int64, (∀ j, j < 24 → vs j = yvisited j + (nI wt).toInt64 * (ymet j).toInt64) → post (yheight, ycount, yopen, yat, ydepth, ystate, ysteps, yproduct, yend, ymost, ymostRow, ymostSteps, ystack, ykinds, yvariables, ynumbers, yvalues, yopened, ybegins, yleft, youtcomes, ymet, upd ysums s (ysums s + nI wt), vs))
    (H2 : ¬ nI wt ≤ ymost → ∀ vs : Nat → Int64, (∀ j, j < 24 → vs j = yvisited j + (nI wt).toInt64 * (ymet j).toInt64) → post (yheight, ycount, yopen, yat, ydepth, ystate, ysteps, yproduct, yend, nI wt, x1, ysteps, ystack, ykinds, yvariables, ynumbers, yvalues, yopened, ybegins, yleft, youtcomes, ymet, upd ysums s (ysums s + nI wt), vs)) :
    ∀ (d j n w : Nat), j + d = 6 → d < n → 16 ^ d * w = wt → wY_note_10 post x1 yheight ycount yopen yat ydepth ystate ysteps yproduct yend ymost ymostRow ymostSteps ystack ykinds yvariables ynumbers yvalues yopened ybegins yleft youtcomes ymet ysums yvisited n (nI w) (nI j) := by
  intro d
  induction d with
  | zero =>
    intro j n w hj hn hw
    obtain ⟨m, rfl⟩ : ∃ m, n = m + 1 := ⟨n - 1, by omega⟩
    have e : j = 6 := by omega
    have e2 : w = wt := by omega
    subst e e2
    have vps : vp_in ystate 64 := by rw [es]; exact vp_in_nI hs (by omega)
    rw [wY_note_10]
    refine br_t (by decide) ⟨vps, vps, nm_r (e' := upd ysums s (ysums s + nI w)) (by rw [es, nI_clamp (by omega)]) ⟨25, ?_⟩⟩
    exact yn_49 (ysums := upd ysums s (ysums s + nI w)) yvisited H1 H2 24 0 25 yvisited (by omega) (by omega) (fun j hj => absurd hj (by omega)) (fun _ _ => rfl)
  | succ d ih =>
    intro j n w hj hn hw
    obtain ⟨m, rfl⟩ : ∃ m, n = m + 1 := ⟨n - 1, by omega⟩
    rw [wY_note_10]
    refine br_f (nI_ge (b := 6) (by omega) (by decide)) (nm_r (e' := nI (16 * w)) (pk_mul 16 w) (nm_r (nI_1 j) (ih (j + 1) m (16 * w) (by omega) (by omega) ?_)))
    rw [← hw, Nat.pow_succ, Nat.mul_assoc]
theorem yn_note {post : SY → Prop} {x1 : Int32} {s r g : Nat} (hs : s < 64) (hr : r ≤ 6) (es : ystate = nI s) (er : ysteps = nI r) (eg : yproduct = nI g)
    (H1 : nI (16 ^ (6 - r) * g) ≤ ymost → ∀ vs : Nat → Int64, (∀ j, j < 24 → vs j = yvisited j + (nI (16 ^ (6 - r) * g)).toInt64 * (ymet j).toInt64) → post (yheight, ycount, yopen, yat, ydepth, ystate, ysteps, yproduct, yend, ymost, ymostRow, ymostSteps, ystack, ykinds, yvariables, ynumbers, yvalues, yopened, ybegins, yleft, youtcomes, ymet, upd ysums s (ysums s + nI (16 ^ (6 - r) * g)), vs))
    (H2 : ¬ nI (16 ^ (6 - r) * g) ≤ ymost → ∀ vs : Nat → Int64, (∀ j, j < 24 → vs j = yvisited j + (nI (16 ^ (6 - r) * g)).toInt64 * (ymet j).toInt64) → post (yheight, ycount, yopen, yat, ydepth, ystate, ysteps, yproduct, yend, nI (16 ^ (6 - r) * g), x1, ysteps, ystack, ykinds, yvariables, ynumbers, yvalues, yopened, ybegins, yleft, youtcomes, ymet, upd ysums s (ysums s + nI (16 ^ (6 - r) * g)), vs)) :
    wpY_note post (yheight, ycount, yopen, yat, ydepth, ystate, ysteps, yproduct, yend, ymost, ymostRow, ymostSteps, ystack, ykinds, yvariables, ynumbers, yvalues, yopened, ybegins, yleft, youtcomes, ymet, ysums, yvisited) x1 := by
  unfold wpY_note
  have h := yn_10 hs es H1 H2 (6 - r) r 8 g (by omega) (by omega) rfl
  rw [← er, ← eg] at h
  exact ⟨8, h⟩
theorem yw_2 {post : SY → Prop} (H : ∀ (sw : Nat → Int32) (vs : Nat → Int64), (∀ s, s < 64 → sw s = 0) → (∀ j, j < 24 → vs j = 0) → ∃ n, wY_work_43 post n 0 yheight ycount yopen yat ydepth ystate ysteps yproduct yend 0 ymostRow 0 ystack ykinds yvariables ynumbers yvalues yopened ybegins yleft youtcomes ymet sw vs) :
    ∀ (d i n : Nat) (sw : Nat → Int32) (vs : Nat → Int64), i + d = 64 → d < n → (∀ j, j < i → sw j = 0) → (∀ j, j < i → j < 24 → vs j = 0) → wY_work_2 post yheight ycount yopen yat ydepth ystate ysteps yproduct yend ymost ymostRow ymostSteps n (nI i) ystack ykinds yvariables ynumbers yvalues yopened ybegins yleft youtcomes ymet sw vs := by
  intro d
  induction d with
  | zero =>
    intro i n sw vs hi hn h1 h2
    obtain ⟨m, rfl⟩ : ∃ m, n = m + 1 := ⟨n - 1, by omega⟩
    have e : i = 64 := by omega
    subst e
    rw [wY_work_2]
    exact br_t (by decide) (H sw vs h1 fun j hj => h2 j (by omega) hj)
  | succ d ih =>
    intro i n sw vs hi hn h1 h2
    obtain ⟨m, rfl⟩ : ∃ m, n = m + 1 := ⟨n - 1, by omega⟩
    have hrem : nI i - nI i / 24 * 24 = nI (i % 24) := pk_rem (d := 24) (by omega) (by omega) (by omega)
    have hlt := Nat.mod_lt i (show 0 < 24 by omega)
    rw [wY_work_2]
    refine br_f (nI_ge (b := 64) (by omega) (by decide)) ⟨vp_in_nI (by omega) (by omega), nm_r (e' := upd sw i 0) (by rw [nI_clamp (by omega)]) ⟨by decide, ?_⟩⟩
    rw [hrem, nI_clamp (by omega)]
    refine ⟨vp_in_nI hlt (by omega), nm_e (nm_r (nI_1 i) (ih (i + 1) m _ _ (by omega) (by omega) (fun j hj => ?_) (fun j hj hj24 => ?_)))⟩
    · by_cases e : j = i
      · subst e; exact pk_us
      · rw [pk_un e]; exact h1 j (by omega)
    · by_cases e : j = i % 24
      · rw [e]; exact pk_uLs
      · rw [pk_uLn e]
        refine h2 j ?_ hj24
        by_cases e2 : j = i
        · rw [e2, Nat.mod_eq_of_lt (by omega)] at e
          omega
        · omega
theorem yw_52 {post : SY → Prop} {J : Int32 → Int32 → Int32 → Int32 → Int32 → Int32 → Int32 → Int32 → Int32 → Int32 → Int32 → Int32 → Int32 → (Nat → Int32) → (Nat → Int32) → (Nat → Int32) → (Nat → Int32) → (Nat → Int32) → (Nat → Int32) → (Nat → Int32) → (Nat → Int32) → (Nat → Int32) → (Nat → Int32) → (Nat → Int32) → (Nat → Int64) → Prop} {a : Nat} (ha : a < 4096) (H : ∀ oc : Nat → Int32, (∀ j, j < 6 → oc j = nI (cp_rd a j)) →
      ∃ n, wY_work_52 post J (nI a) yheight ycount yopen yat ydepth ystate ysteps yproduct yend ymost ymostRow ymostSteps n (nI 6) ystack ykinds yvariables ynumbers yvalues yopened ybegins yleft oc ymet ysums yvisited) : ∀ (d i : Nat) (oc : Nat → Int32), i + d = 6 → (∀ j, j < i → oc j = nI (cp_rd a j)) →
    ∃ n, wY_work_52 post J (nI a) yheight ycount yopen yat ydepth ystate ysteps yproduct yend ymost ymostRow ymostSteps n (nI i) ystack ykinds yvariables ynumbers yvalues yopened ybegins yleft oc ymet ysums yvisited := by
  intro d
  induction d with
  | zero =>
    intro i oc hi h
    have e : i = 6 := by omega
    subst e
    exact H oc h
  | succ d ih =>
    intro i oc hi h
    obtain ⟨n, hn⟩ := ih (i + 1) (upd oc i (nI (cp_rd a i))) (by omega) (fun j hj => by
      by_cases e : j = i
      · subst e; exact pk_us
      · rw [pk_un e]; exact h j (by omega))
    refine ⟨n + 1, ?_⟩
    rw [wY_work_52]
    exact br_f (nI_ge (b := 6) (by omega) (by decide)) ⟨vp_in_nI (by omega) (by omega), nm_r (e' := upd oc i (nI (cp_rd a i))) (by rw [nI_clamp (by omega), cp_rdY ha (by omega)]) (nm_r (nI_1 i) hn)⟩
theorem yw_loop {post : SY → Prop} (G : cp_G K A N E F B V M c) (HA : cp_XA K A N V c c ykinds yvariables ynumbers yvalues)
    (H : ∀ (pl dp st sp pr en mw : Int32) (bg lf oc mt sw : Nat → Int32) (vs : Nat → Int64), cp_TL (cp_fin K A N E F B V M) K c 4096 sw vs → ((cp_Bm (cp_fin K A N E F B V M) 4096).1 ≠ 0 → mw = nI (cp_Bm (cp_fin K A N E F B V M) 4096).2.1) →
      post (yheight, nI c, yopen, pl, dp, st, sp, pr, en, nI (cp_Bm (cp_fin K A N E F B V M) 4096).1, mw, nI (cp_Bm (cp_fin K A N E F B V M) 4096).2.2, ystack, ykinds, yvariables, ynumbers, yvalues, yopened, bg, lf, oc, mt, sw, vs)) :
    ∀ (d a f : Nat) (pl dp st sp pr en bm mw bs : Int32) (bg lf oc mt sw : Nat → Int32) (vs : Nat → Int64), a + d = 4096 → d < f → cp_TL (cp_fin K A N E F B V M) K c a sw vs → bm = nI (cp_Bm (cp_fin K A N E F B V M) a).1 → ((cp_Bm (cp_fin K A N E F B V M) a).1 ≠ 0 → mw = nI (cp_Bm (cp_fin K A N E F B V M) a).2.1) → bs = nI (cp_Bm (cp_fin K A N E F B V M) a).2.2 →
    wY_work_43 post f (nI a) yheight (nI c) yopen pl dp st sp pr en bm mw bs ystack ykinds yvariables ynumbers yvalues yopened bg lf oc mt sw vs := by
  have hc := G.1.1
  have hfin := cp_finI G
  intro d
  induction d with
  | zero =>
    intro a f pl dp st sp pr en bm mw bs bg lf oc mt sw vs had hf HT hB1 hB hB2
    obtain ⟨m, rfl⟩ : ∃ m, f = m + 1 := ⟨f - 1, by omega⟩
    have e : a = 4096 := by omega
    subst e hB1 hB2
    rw [wY_work_43]
    exact br_t (by decide) (H pl dp st sp pr en mw bg lf oc mt sw vs HT hB)
  | succ d ih =>
    intro a f pl dp st sp pr en bm mw bs bg lf oc mt sw vs had hf HT hB1 hB hB2
    obtain ⟨m, rfl⟩ : ∃ m, f = m + 1 := ⟨f - 1, by omega⟩
    have ha : a < 4096 := by omega
    rw [wY_work_43]
    refine br_f (nI_ge (b := 4096) ha (by decide)) ?_
    refine yw_52 ha (fun oc' hoc => ⟨1, ?_⟩) 6 0 oc (by omega) (fun j hj => absurd hj (by omega))
    rw [wY_work_52]
    refine br_t (by decide) ?_
    refine yx_run (row := a) G HA hoc fun pl' dp' sp' pr' bg' lf' mt' hsp hmt => ?_
    obtain ⟨_, f2, f3, f4, f5, _⟩ := hfin a
    have hBle := tl_B (R := cp_fin K A N E F B V M) (fun b => tl_wt _ _ (hfin b).2.2.1 (hfin b).2.2.2.1) a
    have hwle : cp_wt (cp_fin K A N E F B V M a) a ≤ 16777216 := tl_wt _ _ f3 f4
    generalize hfd : cp_fin K A N E F B V M = R at *
    by_cases he : (R a).2.2.2.2.1 = 1
    · obtain ⟨rfl, rfl⟩ := hsp he
      rw [if_pos he]
      refine br_t rfl ?_
      rw [cp_mskY ha f3]
      have hml : a % 4 ^ (6 - (R a).2.2.1) ≤ a := Nat.mod_le _ _
      refine pk_eq (a % 4 ^ (6 - (R a).2.2.1)) 0 (fun h0 => ?_) (fun h0 => ?_)
      · have hcnt : cp_cnt (R a) a := ⟨he, h0⟩
        have hw := cp_wt_cnt hcnt
        have hTL : ∀ vs' : Nat → Int64, (∀ j, j < 24 → vs' j = vs j + (nI (16 ^ (6 - (R a).2.2.1) * (R a).2.2.2.1)).toInt64 * (mt' j).toInt64) → cp_TL R K c (a + 1) (upd sw (R a).2.1 (sw (R a).2.1 + nI (16 ^ (6 - (R a).2.2.1) * (R a).2.2.2.1))) vs' := fun vs' hvs => by
          rw [← hw] at hvs ⊢
          exact ⟨tl_sw HT.1 f2, fun j hj hk => by rw [hvs j (by omega), HT.2 j hj hk, cp_Vm_cnt hcnt, hmt j hj hk]⟩
        refine yn_note (s := (R a).2.1) (r := (R a).2.2.1) (g := (R a).2.2.2.1) f2 f3 rfl rfl rfl (fun hb vs' hvs => nm_r (nI_1 a) ?_) (fun hb vs' hvs => nm_r (nI_1 a) ?_)
        · have hT := hTL vs' hvs
          rw [← hw, hB1, nI_leI (by omega) (by omega)] at hb
          have e1 : cp_Bm R (a + 1) = cp_Bm R a := by rw [cp_Bm, if_neg (by omega)]
          exact ih (a + 1) m _ _ _ _ _ _ _ _ _ _ _ _ _ _ _ (by omega) (by omega) hT (by rw [e1]; exact hB1) (by rw [e1]; exact hB) (by rw [e1]; exact hB2)
        · have hT := hTL vs' hvs
          have hb2 := hb
          rw [← hw, hB1, nI_leI (by omega) (by omega)] at hb2
          have e1 : cp_Bm R (a + 1) = (cp_wt (R a) a, a, (R a).2.2.1) := by rw [cp_Bm, if_pos (by omega)]
          exact ih (a + 1) m _ _ _ _ _ _ _ _ _ _ _ _ _ _ _ (by omega) (by omega) hT (by rw [e1, hw]) (fun _ => by rw [e1]) (by rw [e1])
      · have hcnt : ¬ cp_cnt (R a) a := fun z => h0 z.2
        exact nm_r (nI_1 a) (ih (a + 1) m _ _ _ _ _ _ _ _ _ _ _ _ _ _ _ (by omega) (by omega) ⟨fun s hs => by rw [cp_Sm_not hcnt]; exact HT.1 s hs, fun j hj hk => by rw [cp_Vm_not hcnt]; exact HT.2 j hj hk⟩ (by rw [cp_Bm_not hcnt]; exact hB1) (by rw [cp_Bm_not hcnt]; exact hB) (by rw [cp_Bm_not hcnt]; exact hB2))
    · rw [if_neg he]
      have hne : ¬ (R a).2.2.2.2.1 = 0 := by
        rcases f5 with h | h | h | h
        · exact absurd h he
        · rw [h]; decide
        · rw [h]; decide
        · rw [h]; decide
      have hcnt : ¬ cp_cnt (R a) a := fun z => he z.1
      exact br_f hne (nm_r (nI_1 a) (ih (a + 1) m _ _ _ _ _ _ _ _ _ _ _ _ _ _ _ (by omega) (by omega) ⟨fun s hs => by rw [cp_Sm_not hcnt]; exact HT.1 s hs, fun j hj hk => by rw [cp_Vm_not hcnt]; exact HT.2 j hj hk⟩ (by rw [cp_Bm_not hcnt]; exact hB1) (by rw [cp_Bm_not hcnt]; exact hB) (by rw [cp_Bm_not hcnt]; exact hB2)))
theorem yw_all {post : SY → Prop} (G : cp_G K A N E F B V M c) (HA : cp_XA K A N V c c ykinds yvariables ynumbers yvalues)
    (H : ∀ (pl dp st sp pr en mw : Int32) (bg lf oc mt sw : Nat → Int32) (vs : Nat → Int64), cp_TL (cp_fin K A N E F B V M) K c 4096 sw vs → ((cp_Bm (cp_fin K A N E F B V M) 4096).1 ≠ 0 → mw = nI (cp_Bm (cp_fin K A N E F B V M) 4096).2.1) →
      post (yheight, nI c, yopen, pl, dp, st, sp, pr, en, nI (cp_Bm (cp_fin K A N E F B V M) 4096).1, mw, nI (cp_Bm (cp_fin K A N E F B V M) 4096).2.2, ystack, ykinds, yvariables, ynumbers, yvalues, yopened, bg, lf, oc, mt, sw, vs)) :
    wpY_work post (yheight, nI c, yopen, yat, ydepth, ystate, ysteps, yproduct, yend, ymost, ymostRow, ymostSteps, ystack, ykinds, yvariables, ynumbers, yvalues, yopened, ybegins, yleft, youtcomes, ymet, ysums, yvisited) := by
  have hc := G.1.1
  unfold wpY_work
  refine ⟨65, yw_2 (fun sw vs h1 h2 => ⟨4097, ?_⟩) 64 0 65 ysums yvisited (by omega) (by omega) (fun j hj => absurd hj (by omega)) (fun j hj => absurd hj (by omega))⟩
  exact yw_loop G HA H 4096 0 4097 _ _ _ _ _ _ _ _ _ _ _ _ _ _ _ (by omega) (by omega) ⟨h1, fun j hj _ => h2 j (by omega)⟩ rfl (fun z => absurd rfl z) rfl
end
