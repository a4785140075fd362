/-! the reference: search, blocks, outcomes -/
section
variable {yheight ycount yopen yat ydepth ystate ysteps yproduct yend ymost ymostRow ymostSteps : Int32} {ystack ykinds yvariables ynumbers yvalues yopened ybegins yleft youtcomes ymet ysums : Nat → Int32} {yvisited : Nat → Int64} {K : Nat → Nat} {c : Nat}
theorem yf_80 {post : Int32 → Prop} {J : Int32 → Int32 → Prop} {x2 : Int32} {k m m' : Nat} (hk24 : k < 24) (hk : ykinds k = nI (K k)) (hK : K k ≤ 8) (h8 : K k = 8 → m = m' + 1) (hn : K k ≠ 8 → m = m') (H : J (nI m') (nI (k + 1))) :
    wY_find_80 post J x2 (nI k) (nI m) yheight ycount yopen yat ydepth ystate ysteps yproduct yend ymost ymostRow ymostSteps ystack ykinds yvariables ynumbers yvalues yopened ybegins yleft youtcomes ymet ysums yvisited := by
  unfold wY_find_80
  refine ⟨vp_in_nI hk24 (by omega), ?_⟩
  rw [nI_clamp (by omega), hk]
  refine pk_eq (K k) 8 (fun e => ?_) (fun e => ?_)
  · rw [h8 e]
    exact nm_r (nI_pred m') (nm_r (nI_1 k) H)
  · rw [hn e]
    exact nm_r (nI_1 k) H
theorem yf_50 {post : Int32 → Prop} {J : Int32 → Int32 → Prop} {x2 : Int32} {k m m' : Nat} (hk24 : k < 24) (hk : ykinds k = nI (K k)) (hK : K k ≤ 8) (hin : (K k = 4 ∨ K k = 6) → m' = m + 1) (h8 : K k = 8 → m = m' + 1) (hn : ¬ (K k = 4 ∨ K k = 6) → K k ≠ 8 → m = m') (H : J (nI m') (nI (k + 1))) :
    wY_find_50 post J x2 (nI m) (nI k) yheight ycount yopen yat ydepth ystate ysteps yproduct yend ymost ymostRow ymostSteps ystack ykinds yvariables ynumbers yvalues yopened ybegins yleft youtcomes ymet ysums yvisited := by
  have hck : (nI k).toNatClampNeg = k := nI_clamp (by omega)
  have h73 : (K k = 4 ∨ K k = 6) → wY_find_73 post J x2 (nI m) (nI k) yheight ycount yopen yat ydepth ystate ysteps yproduct yend ymost ymostRow ymostSteps ystack ykinds yvariables ynumbers yvalues yopened ybegins yleft youtcomes ymet ysums yvisited := fun h => by
    unfold wY_find_73
    rw [nI_1]
    exact yf_80 hk24 hk hK (fun e => by omega) (fun _ => (hin h).symm) H
  unfold wY_find_50
  refine ⟨vp_in_nI hk24 (by omega), ?_⟩
  rw [hck, hk]
  refine pk_eq (K k) 4 (fun e => h73 (Or.inl e)) (fun e4 => ⟨vp_in_nI hk24 (by omega), pk_eq (K k) 6 (fun e => h73 (Or.inr e)) (fun e6 => ?_)⟩)
  exact yf_80 hk24 hk hK h8 (hn (by omega)) H
theorem yf_loop {post : Int32 → Prop} {x2 : Int32} {e : Nat} {S : List Nat} {oe : Prop} (hoe : oe ↔ ¬ x2 = 0) (hc : c ≤ 24) (hk : ∀ j, j < c → ykinds j = nI (K j)) (hK : ∀ j, j < c → K j ≤ 8) (hlen : ∀ p, (cp_O K p).length ≤ 3) (he : e < 2 ^ 31)
    (H : post (nI (if e < c then e else c))) : ∀ (d k n : Nat), k + d = e → d < n → cp_tg K S oe k e → wY_find_7 post x2 yheight (nI c) yopen yat ydepth ystate ysteps yproduct yend ymost ymostRow ymostSteps ystack ykinds yvariables ynumbers yvalues yopened ybegins yleft youtcomes ymet ysums yvisited n (nI ((cp_O K k).length - S.length)) (nI k) := by
  intro d
  induction d with
  | zero =>
    intro k n hkd hn tg
    obtain ⟨m, rfl⟩ : ∃ m, n = m + 1 := ⟨n - 1, by omega⟩
    have e1 : k = e := by omega
    subst e1
    obtain ⟨_, t2, t3, t4, t5⟩ := tg
    rw [t3, Nat.sub_self, wY_find_7]
    by_cases hkc : k < c
    · rw [if_pos hkc] at H
      have hck : (nI k).toNatClampNeg = k := nI_clamp (by omega)
      refine br_f (nI_ge hkc (by omega)) (br_t rfl ⟨vp_in_nI (by omega) (by omega), ?_⟩)
      rw [hck, hk k hkc]
      have hK8 := hK k hkc
      refine pk_eq (K k) 8 (fun _ => H) (fun n8 => ?_)
      cases t2 with
      | inl h => exact absurd h n8
      | inr h =>
        refine br_f (hoe.mp h.1) ⟨vp_in_nI (by omega) (by omega), br_t (by rw [h.2]; rfl) H⟩
    · rw [if_neg hkc] at H
      exact br_t (nI_le (by omega) he) H
  | succ d ih =>
    intro k n hkd hn tg
    obtain ⟨m, rfl⟩ : ∃ m, n = m + 1 := ⟨n - 1, by omega⟩
    have htg := tg
    obtain ⟨t1, t2, t3, t4, t5⟩ := tg
    rw [wY_find_7]
    by_cases hkc : k < c
    · have hck : (nI k).toNatClampNeg = k := nI_clamp (by omega)
      have hK8 := hK k hkc
      have hl3 := hlen k
      have hsf := t4 k (Nat.le_refl _) (by omega)
      have hsl := hsf.length_le
      have hsf' := (t4 (k + 1) (by omega) (by omega)).length_le
      have hns := t5 k (Nat.le_refl _) (by omega)
      have h50 : (cp_O K k = S → K k ≠ 8) → wY_find_50 post (wY_find_7 post x2 yheight (nI c) yopen yat ydepth ystate ysteps yproduct yend ymost ymostRow ymostSteps ystack ykinds yvariables ynumbers yvalues yopened ybegins yleft youtcomes ymet ysums yvisited m) x2 (nI ((cp_O K k).length - S.length)) (nI k) yheight (nI c) yopen yat ydepth ystate ysteps yproduct yend ymost ymostRow ymostSteps ystack ykinds yvariables ynumbers yvalues yopened ybegins yleft youtcomes ymet ysums yvisited := fun hn8 => by
        refine yf_50 (m' := (cp_O K (k + 1)).length - S.length) (by omega) (hk k hkc) hK8 (fun h => ?_) (fun h => ?_) (fun h h8 => ?_) (ih (k + 1) m (by omega) (by omega) ⟨by omega, t2, t3, fun j h1 h2 => t4 j (by omega) h2, fun j h1 h2 => t5 j (by omega) h2⟩)
        · rw [cp_O_in h, List.length_cons]; omega
        · have hne : (cp_O K k).length ≠ S.length := fun z => hn8 (hsf.eq_of_length z.symm).symm h
          rw [cp_O_end h, List.length_tail]
          omega
        · rw [cp_O_st (by omega) (by omega) h8]
      refine br_f (nI_ge hkc (by omega)) (pk_eq ((cp_O K k).length - S.length) 0 (fun h0 => ⟨vp_in_nI (by omega) (by omega), ?_⟩) (fun h0 => h50 fun z => absurd (by rw [z]; omega) h0))
      have hOS : cp_O K k = S := (hsf.eq_of_length (by omega)).symm
      have n8 : K k ≠ 8 := fun z => hns ⟨hOS, Or.inl z⟩
      rw [hck, hk k hkc]
      refine pk_eq (K k) 8 (fun z => absurd z n8) (fun _ => br_c (fun _ => h50 fun _ => n8) (fun hx => ⟨vp_in_nI (by omega) (by omega), ?_⟩))
      exact pk_eq (K k) 5 (fun z => absurd ⟨hOS, Or.inr ⟨hoe.mpr hx, z⟩⟩ hns) (fun _ => h50 fun _ => n8)
    · rw [if_neg (by omega)] at H
      exact br_t (nI_le (by omega) (by omega)) H
theorem yf_find {post : Int32 → Prop} {x2 a : Int32} {i e : Nat} {S : List Nat} {oe : Prop} (ha : a = nI i) (hoe : oe ↔ ¬ x2 = 0) (hc : c ≤ 24) (hk : ∀ j, j < c → ykinds j = nI (K j)) (hK : ∀ j, j < c → K j ≤ 8) (hlen : ∀ p, (cp_O K p).length ≤ 3) (he : e < 2 ^ 31)
    (tg : cp_tg K S oe (i + 1) e) (hO : cp_O K (i + 1) = S) (H : post (nI (if e < c then e else c))) : wpY_find post (yheight, nI c, yopen, yat, ydepth, ystate, ysteps, yproduct, yend, ymost, ymostRow, ymostSteps, ystack, ykinds, yvariables, ynumbers, yvalues, yopened, ybegins, yleft, youtcomes, ymet, ysums, yvisited) a x2 := by
  subst ha
  unfold wpY_find
  have h1 := tg.1
  have h2 : wY_find_7 post x2 yheight (nI c) yopen yat ydepth ystate ysteps yproduct yend ymost ymostRow ymostSteps ystack ykinds yvariables ynumbers yvalues yopened ybegins yleft youtcomes ymet ysums yvisited (e - (i + 1) + 1) (nI ((cp_O K (i + 1)).length - S.length)) (nI (i + 1)) := yf_loop (post := post) hoe hc hk hK hlen he H (e - (i + 1)) (i + 1) (e - (i + 1) + 1) (by omega) (by omega) tg
  rw [hO, Nat.sub_self] at h2
  exact nm_r (nI_1 i) ⟨_, h2⟩
theorem yg_beh {post : SY → Prop} {a : Int32} {e : Nat} (ha : a = nI (if e < c then e else c)) (hc : c ≤ 24) (h : post (yheight, nI c, yopen, nI (if e + 1 < c then e + 1 else c), ydepth, ystate, ysteps, yproduct, yend, ymost, ymostRow, ymostSteps, ystack, ykinds, yvariables, ynumbers, yvalues, yopened, ybegins, yleft, youtcomes, ymet, ysums, yvisited)) : wpY_goBehind post (yheight, nI c, yopen, yat, ydepth, ystate, ysteps, yproduct, yend, ymost, ymostRow, ymostSteps, ystack, ykinds, yvariables, ynumbers, yvalues, yopened, ybegins, yleft, youtcomes, ymet, ysums, yvisited) a := by
  subst ha
  unfold wpY_goBehind
  by_cases hec : e < c
  · rw [if_pos hec]
    have e1 : (if e + 1 < c then e + 1 else c) = e + 1 := by split <;> omega
    rw [e1] at h
    exact br_f (nI_ge hec (by omega)) (nm_r (nI_1 e) h)
  · rw [if_neg hec]
    rw [if_neg (show ¬ e + 1 < c by omega)] at h
    exact br_t (nI_le (Nat.le_refl _) (by omega)) h
theorem ye_in {post : SY → Prop} {a b : Int32} {d : Nat} (hd : ydepth = nI d) (h4 : d < 4) (h : post (yheight, ycount, yopen, yat, nI (d + 1), ystate, ysteps, yproduct, yend, ymost, ymostRow, ymostSteps, ystack, ykinds, yvariables, ynumbers, yvalues, yopened, upd ybegins d a, upd yleft d b, youtcomes, ymet, ysums, yvisited)) : wpY_enter post (yheight, ycount, yopen, yat, ydepth, ystate, ysteps, yproduct, yend, ymost, ymostRow, ymostSteps, ystack, ykinds, yvariables, ynumbers, yvalues, yopened, ybegins, yleft, youtcomes, ymet, ysums, yvisited) a b := by
  subst hd
  have hcd : (nI d).toNatClampNeg = d := nI_clamp (by omega)
  unfold wpY_enter
  exact ⟨vp_in_nI h4 (by omega), nm_r (by rw [hcd]) ⟨vp_in_nI h4 (by omega), nm_r (by rw [hcd]) (nm_r (nI_1 d) h)⟩⟩
theorem yb_end {post : SY → Prop} {b d : Nat} (hd : ydepth = nI (d + 1)) (h3 : d < 3) (hh : ybegins d = nI b) (hb : b < 24) (hk : ykinds b = nI (K b)) (hK : K b < 9)
    (h6 : K b = 6 → (yleft d ≤ 1 → post (yheight, ycount, yopen, yat, nI d, ystate, ysteps, yproduct, yend, ymost, ymostRow, ymostSteps, ystack, ykinds, yvariables, ynumbers, yvalues, yopened, ybegins, yleft, youtcomes, ymet, ysums, yvisited)) ∧ (¬ yleft d ≤ 1 → post (yheight, ycount, yopen, nI (b + 1), nI (d + 1), ystate, ysteps, yproduct, yend, ymost, ymostRow, ymostSteps, ystack, ykinds, yvariables, ynumbers, yvalues, yopened, ybegins, upd yleft d (yleft d - 1), youtcomes, ymet, ysums, yvisited))) (hn : K b ≠ 6 → post (yheight, ycount, yopen, yat, nI d, ystate, ysteps, yproduct, yend, ymost, ymostRow, ymostSteps, ystack, ykinds, yvariables, ynumbers, yvalues, yopened, ybegins, yleft, youtcomes, ymet, ysums, yvisited)) : wpY_endBlock post (yheight, ycount, yopen, yat, ydepth, ystate, ysteps, yproduct, yend, ymost, ymostRow, ymostSteps, ystack, ykinds, yvariables, ynumbers, yvalues, yopened, ybegins, yleft, youtcomes, ymet, ysums, yvisited) := by
  subst hd
  have hcd : (nI d).toNatClampNeg = d := nI_clamp (by omega)
  have hcb : (nI b).toNatClampNeg = b := nI_clamp (by omega)
  have vpd : vp_in (nI d) 4 := vp_in_nI (by omega) (by omega)
  unfold wpY_endBlock
  refine nm_r (nI_pred d) ⟨vpd, ?_⟩
  rw [hcd, hh, hcb, hk]
  refine ⟨vp_in_nI hb (by omega), pk_eq (K b) 6 (fun e => ⟨vpd, ?_⟩) hn⟩
  obtain ⟨ha, hz⟩ := h6 e
  exact ⟨ha, fun h => ⟨vpd, vpd, nm_e ⟨vpd, nm_r (nI_1 b) (nm_r (nI_1 d) (hz h))⟩⟩⟩
theorem yk_loop {post : SY → Prop} {b : Nat} {t : List Nat} (hb : K b = 6) (hl3 : t.length < 3) (H : wY_breakOff_51 post yheight ycount yopen yat (nI t.length) ystate ysteps yproduct yend ymost ymostRow ymostSteps ystack ykinds yvariables ynumbers yvalues yopened ybegins yleft youtcomes ymet ysums yvisited) :
    ∀ (l : List Nat) (n : Nat), cp_hl ybegins (l ++ b :: t) → (∀ x, x ∈ l → K x ≠ 6) → (∀ x, x ∈ l ++ b :: t → x < 24 ∧ ykinds x = nI (K x) ∧ K x < 9) → (l ++ b :: t).length ≤ 3 → l.length + 1 < n → wY_breakOff_2 post yheight ycount yopen yat ystate ysteps yproduct yend ymost ymostRow ymostSteps ystack ykinds yvariables ynumbers yvalues yopened ybegins yleft youtcomes ymet ysums yvisited n 1 (nI (l ++ b :: t).length) := by
  have hstop : ∀ n, wY_breakOff_2 post yheight ycount yopen yat ystate ysteps yproduct yend ymost ymostRow ymostSteps ystack ykinds yvariables ynumbers yvalues yopened ybegins yleft youtcomes ymet ysums yvisited (n + 1) 0 (nI t.length) := fun n => by
    rw [wY_breakOff_2]
    exact br_c (fun _ => H) (fun _ => br_t rfl H)
  intro l
  induction l with
  | nil =>
    intro n hh _ hk hl hn
    obtain ⟨m, rfl⟩ : ∃ m, n = m + 1 + 1 := ⟨n - 2, by simp only [List.length_nil] at hn; omega⟩
    obtain ⟨k1, k2, k3⟩ := hk b (List.mem_cons_self ..)
    have hct : (nI t.length).toNatClampNeg = t.length := nI_clamp (by omega)
    have hcb : (nI b).toNatClampNeg = b := nI_clamp (by omega)
    have hh1 : ybegins t.length = nI b := hh.1
    rw [List.nil_append, List.length_cons, wY_breakOff_2]
    refine br_f (nI_nle (by omega) (by omega)) (br_f (by decide) (nm_r (nI_pred _) ⟨vp_in_nI (by omega) (by omega), ?_⟩))
    rw [hct, hh1, hcb, k2]
    exact ⟨vp_in_nI k1 (by omega), br_t (by rw [hb]; rfl) (hstop m)⟩
  | cons a l ih =>
    intro n hh hx hk hl hn
    simp only [List.length_cons] at hn
    obtain ⟨m, rfl⟩ : ∃ m, n = m + 1 := ⟨n - 1, by omega⟩
    obtain ⟨k1, k2, k3⟩ := hk a (List.mem_cons_self ..)
    have hh1 : ybegins (l ++ b :: t).length = nI a := hh.1
    have hl' : (l ++ b :: t).length < 3 := by
      rw [List.cons_append, List.length_cons] at hl
      omega
    have hct : (nI (l ++ b :: t).length).toNatClampNeg = (l ++ b :: t).length := nI_clamp (by omega)
    have hcb : (nI a).toNatClampNeg = a := nI_clamp (by omega)
    rw [List.cons_append, List.length_cons, wY_breakOff_2]
    refine br_f (nI_nle (by omega) (by omega)) (br_f (by decide) (nm_r (nI_pred _) ⟨vp_in_nI (by omega) (by omega), ?_⟩))
    rw [hct, hh1, hcb, k2]
    refine ⟨vp_in_nI k1 (by omega), pk_eq (K a) 6 (fun z => absurd z (hx a (List.mem_cons_self ..))) (fun _ => ?_)⟩
    exact ih m hh.2 (fun x h => hx x (List.mem_cons_of_mem _ h)) (fun x h => hk x (List.mem_cons_of_mem _ h)) (by omega) (by omega)
theorem yv_give {post : SY → Prop} {v x s : Nat} {a b : Int32} (ha : a = nI v) (hb : b = nI x) (hs : ystate = nI s) (hv : v < 3) (hx : x < 4) (hs4 : s < 64) (h : post (yheight, ycount, yopen, yat, ydepth, nI (cp_asg v x s), ysteps, yproduct, yend, ymost, ymostRow, ymostSteps, ystack, ykinds, yvariables, ynumbers, yvalues, yopened, ybegins, yleft, youtcomes, ymet, ysums, yvisited)) : wpY_give post (yheight, ycount, yopen, yat, ydepth, ystate, ysteps, yproduct, yend, ymost, ymostRow, ymostSteps, ystack, ykinds, yvariables, ynumbers, yvalues, yopened, ybegins, yleft, youtcomes, ymet, ysums, yvisited) a b := by
  subst ha hb hs
  unfold wpY_give
  exact nm_r (cp_asgI v hv x hx s hs4) h
theorem yr_70 {post : SY → Prop} {p o w r g s v : Nat} (hp : p < 24) (ho : o < 4) (hw : w ≤ 16) (hv : yvariables p = nI v) (hv3 : v < 3) (hs : s < 64) (es : ystate = nI s) (er : ysteps = nI r) (eg : yproduct = nI g)
    (h4 : w = 0 → post (yheight, ycount, yopen, yat, ydepth, ystate, ysteps, yproduct, -4, ymost, ymostRow, ymostSteps, ystack, ykinds, yvariables, ynumbers, yvalues, yopened, ybegins, yleft, youtcomes, ymet, ysums, yvisited)) (h5 : w ≠ 0 → post (yheight, ycount, yopen, yat, ydepth, nI (cp_asg v o s), nI (r + 1), nI (g * w), yend, ymost, ymostRow, ymostSteps, ystack, ykinds, yvariables, ynumbers, yvalues, yopened, ybegins, yleft, youtcomes, ymet, ysums, yvisited)) : wY_random_70 post (nI p) (nI o) (nI w) yheight ycount yopen yat ydepth ystate ysteps yproduct yend ymost ymostRow ymostSteps ystack ykinds yvariables ynumbers yvalues yopened ybegins yleft youtcomes ymet ysums yvisited := by
  subst es er eg
  unfold wY_random_70
  refine pk_eq w 0 h4 (fun e => nm_r (nI_1 r) (nm_r (pk_mul g w) ⟨vp_in_nI hp (by omega), ?_⟩))
  exact yv_give (by rw [nI_clamp (by omega)]; exact hv) rfl rfl hv3 ho hs (h5 e)
theorem yr_rand {post : SY → Prop} {A N : Nat → Nat} {V : Nat → Nat → Nat} {p s r g o : Nat} (D : cp_dat K A N V) (hp : p < 24) (hr6 : r ≤ 6) (hs : s < 64) (ho : r < 6 → youtcomes r = nI o) (ho4 : o < 4) (hk : ykinds p = nI (K p)) (hK : K p = 1 ∨ K p = 2)
    (hv : yvariables p = nI (A p)) (hn : K p = 1 → ynumbers p = nI (N p)) (es : ystate = nI s) (er : ysteps = nI r) (eg : yproduct = nI g)
    (h3 : r = 6 → post (yheight, ycount, yopen, yat, ydepth, ystate, ysteps, yproduct, -3, ymost, ymostRow, ymostSteps, ystack, ykinds, yvariables, ynumbers, yvalues, yopened, ybegins, yleft, youtcomes, ymet, ysums, yvisited)) (h4 : r ≠ 6 → cp_ow K N p o = 0 → post (yheight, ycount, yopen, yat, ydepth, ystate, ysteps, yproduct, -4, ymost, ymostRow, ymostSteps, ystack, ykinds, yvariables, ynumbers, yvalues, yopened, ybegins, yleft, youtcomes, ymet, ysums, yvisited))
    (h5 : r ≠ 6 → cp_ow K N p o ≠ 0 → post (yheight, ycount, yopen, yat, ydepth, nI (cp_asg (A p) o s), nI (r + 1), nI (g * cp_ow K N p o), yend, ymost, ymostRow, ymostSteps, ystack, ykinds, yvariables, ynumbers, yvalues, yopened, ybegins, yleft, youtcomes, ymet, ysums, yvisited)) : wpY_random post (yheight, ycount, yopen, yat, ydepth, ystate, ysteps, yproduct, yend, ymost, ymostRow, ymostSteps, ystack, ykinds, yvariables, ynumbers, yvalues, yopened, ybegins, yleft, youtcomes, ymet, ysums, yvisited) (nI p) := by
  have er' := er
  subst er'
  have hcp : (nI p).toNatClampNeg = p := nI_clamp (by omega)
  have hw := cp_ow_le D hK o
  have vpp : vp_in (nI p) 24 := vp_in_nI hp (by omega)
  unfold wpY_random
  refine pk_eq r 6 h3 (fun h6 => ⟨vp_in_nI (by omega) (by omega), nm_r (show youtcomes (nI r).toNatClampNeg = nI o by rw [nI_clamp (by omega)]; exact ho (by omega)) ⟨vpp, ?_⟩⟩)
  have h70 : wY_random_70 post (nI p) (nI o) (nI (cp_ow K N p o)) yheight ycount yopen yat ydepth ystate (nI r) yproduct yend ymost ymostRow ymostSteps ystack ykinds yvariables ynumbers yvalues yopened ybegins yleft youtcomes ymet ysums yvisited := yr_70 hp ho4 hw hv ((D p).1 (by omega)) hs es rfl eg (h4 h6) (h5 h6)
  rw [hcp, hk]
  refine pk_eq (K p) 1 (fun e1 => ?_) (fun e1 => ?_)
  · have hN := (D p).2.1 e1
    rw [hn e1]
    refine pk_eq o 1 (fun o1 => ⟨vpp, ?_⟩) (fun o1 => pk_eq o 0 (fun o0 => ⟨vpp, ?_⟩) (fun o0 => ?_))
    · unfold wY_random_69
      rw [cp_ow, if_neg (by omega), if_pos o1] at h70
      exact h70
    · unfold wY_random_69
      rw [cp_ow, if_neg (by omega), if_neg o1, if_pos o0] at h70
      show wY_random_70 post (nI p) (nI o) (nI 16 - nI (N p)) yheight ycount yopen yat ydepth ystate (nI r) yproduct yend ymost ymostRow ymostSteps ystack ykinds yvariables ynumbers yvalues yopened ybegins yleft youtcomes ymet ysums yvisited
      rw [pk_sub hN]
      exact h70
    · unfold wY_random_69
      rw [cp_ow, if_neg (by omega), if_neg o1, if_neg o0] at h70
      exact h70
  · rw [cp_ow, if_pos (by omega)] at h70
    exact h70
end
