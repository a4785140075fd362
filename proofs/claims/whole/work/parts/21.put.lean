/-! may the statement stand there? -/
def cp_al (K : Nat → Nat) (c q : Nat) : Prop :=
  ((q = 4 ∨ q = 6) → (cp_O K c).length < 3) ∧ (q = 5 → ∃ b t, cp_O K c = b :: t ∧ K b = 4 ∧ ¬ cp_he K c b) ∧ (q = 7 → ∃ b, b ∈ cp_O K c ∧ K b = 6) ∧ (q = 8 → cp_O K c ≠ [])
def cp_pt (K : Nat → Nat) (c q : Nat) : Nat → Nat := fun j => if j = c then q else K j
theorem pt_c {K : Nat → Nat} {c q : Nat} : cp_pt K c q c = q := if_pos rfl
theorem pt_n {K : Nat → Nat} {c q j : Nat} (h : j ≠ c) : cp_pt K c q j = K j := if_neg h
theorem pt_O {K : Nat → Nat} {c q p : Nat} (h : p ≤ c) : cp_O (cp_pt K c q) p = cp_O K p := cp_O_congr (n := c) (fun j hj => pt_n (by omega)) p h
theorem wf_put {K : Nat → Nat} {c q : Nat} (W : cp_wf K c) (hc : c < 24) (hq : q < 9) (al : cp_al K c q) : cp_wf (cp_pt K c q) (c + 1) := by
  refine ⟨by omega, fun j hj => by rw [pt_n (by omega)]; exact W.2.1 j (by omega), fun j hj => ?_⟩
  by_cases e : j = c
  · subst e
    obtain ⟨a1, a2, a3, a4⟩ := al
    unfold cp_ok
    rw [pt_c, pt_O (Nat.le_refl _)]
    refine ⟨by omega, a1, fun h5 => ?_, fun h7 => ?_, a4⟩
    · obtain ⟨b, t, e1, e2, e3⟩ := a2 h5
      have hb := (cp_O_head e1).2.1
      refine ⟨b, t, e1, by rw [pt_n (by omega)]; exact e2, fun e he h5 z => e3 ⟨e, he, by rw [pt_n (by omega)] at h5; exact h5, ?_⟩⟩
      rw [pt_O (by omega), e1, (cp_O_head e1).1] at z
      exact z
    · obtain ⟨b, e1, e2⟩ := a3 h7
      have hb := (cp_O_mem e1).2.1
      exact ⟨b, e1, by rw [pt_n (by omega)]; exact e2⟩
  · exact cp_ok_congr (fun i hi => (pt_n (by omega)).symm) (W.2.2 j (by omega))
theorem wf_drop {K : Nat → Nat} {c : Nat} (W : cp_wf K (c + 1)) : cp_wf (cp_pt K c 8) c := by
  refine ⟨by have := W.1; omega, fun j hj => ?_, fun j hj => cp_ok_congr (fun i hi => (pt_n (by omega)).symm) (W.2.2 j (by omega))⟩
  by_cases e : j = c
  · rw [e, pt_c]
  · rw [pt_n e]
    exact W.2.1 j (by omega)
theorem wf_0 : cp_wf (fun _ => 8) 0 := ⟨by omega, fun _ _ => rfl, fun q hq => absurd hq (by omega)⟩
theorem lk_he {K : Nat → Nat} {c b : Nat} {bO eO fO : Nat → Int32} (W : cp_wf K c) (H : cp_LK K (cp_M K c) bO eO fO) (hb : b < c) (hk : K b = 4) : eO b = -1 ↔ ¬ cp_he K c b := by
  have hM := cp_M_le W
  constructor
  · intro e ⟨q, h1, h2, h3⟩
    have h4 := (H.2.1 q (by omega) h2 b _ h3).2
    rw [e] at h4
    exact cp_m1_ne (j := q) (by omega) h4.symm
  · intro h
    cases H.2.2.1 b (by omega) (Or.inl hk) with
    | inl e => exact e
    | inr e =>
      obtain ⟨q, q1, q2, q3, q4, _⟩ := e
      refine absurd ⟨q, ?_, q3, q4⟩ h
      by_cases hq : q < c
      · exact hq
      · have := W.2.1 q (by omega)
        omega
theorem oo_loop {K : Nat → Nat} {n : Nat} {a : Nat → Int32} : ∀ {l : List Nat}, cp_oo K n a l → ((∃ j, j < l.length ∧ a j = 3) ↔ ∃ b, b ∈ l ∧ K b = 6) := by
  intro l
  induction l with
  | nil => intro _; exact ⟨fun ⟨j, h, _⟩ => absurd h (Nat.not_lt_zero _), fun ⟨b, h, _⟩ => absurd h List.not_mem_nil⟩
  | cons b t ih =>
    intro h
    have h2 := ih h.2
    constructor
    · intro ⟨j, hj, h3⟩
      rw [List.length_cons] at hj
      by_cases e : j = t.length
      · subst e
        rcases h.1 with h1 | h1 | h1
        · exact ⟨b, List.mem_cons_self .., h1.1⟩
        · rw [h1.2.2] at h3; exact absurd h3 (by decide)
        · rw [h1.2.2] at h3; exact absurd h3 (by decide)
      · obtain ⟨b', hb', h6⟩ := h2.mp ⟨j, by omega, h3⟩
        exact ⟨b', List.mem_cons_of_mem _ hb', h6⟩
    · intro ⟨b', hb', h6⟩
      cases List.mem_cons.mp hb' with
      | inl e =>
        rcases h.1 with h1 | h1 | h1
        · exact ⟨t.length, by rw [List.length_cons]; omega, h1.2⟩
        · rw [e] at h6; omega
        · rw [e] at h6; omega
      | inr e =>
        obtain ⟨j, hj, h3⟩ := h2.mpr ⟨b', e, h6⟩
        exact ⟨j, by rw [List.length_cons]; omega, h3⟩
section
variable {xexpressionCount xstatementCount xopenCount xclosedLength xplace xstate xrandomSteps xrunWeight xending xbestWeight xbestCode xbestSteps : Int32} {xstackValues xkinds xvariables xnumbers xprogramValues xopen xblockOf xelseOf xendOf xroundsLeft xrunVisits xstateWeights : Nat → Int32} {xvisitSums : Nat → Int64} {K : Nat → Nat} {c : Nat}
theorem xb_allow {post : Int32 → Prop} {q : Nat} (W : cp_wf K c) (hq : q < 9) (hk : ∀ j, j < cp_M K c → xkinds j = nI (K j)) (hh : cp_hl xopen (cp_O K c)) (HL : cp_LK K (cp_M K c) xblockOf xelseOf xendOf)
    (h1 : cp_al K c q → post 1) (h0 : ¬ cp_al K c q → post 0) : wpX_blocksAllow post (xexpressionCount, xstatementCount, nI (cp_O K c).length, xclosedLength, xplace, xstate, xrandomSteps, xrunWeight, xending, xbestWeight, xbestCode, xbestSteps, xstackValues, xkinds, xvariables, xnumbers, xprogramValues, xopen, xblockOf, xelseOf, xendOf, xroundsLeft, xrunVisits, xstateWeights, xvisitSums) (nI q) := by
  have hM := cp_M_le W
  have hc24 := W.1
  have hlen := cp_len W c
  have hmem : ∀ b, b ∈ cp_O K c → b < 27 ∧ xkinds b = nI (K b) ∧ K b < 9 := fun b hb => by
    have h1 := (cp_O_mem hb).2.1
    have h2 := (W.2.2 b h1).1
    exact ⟨by omega, hk b (by omega), by omega⟩
  have h36 : (q = 4 ∨ q = 6) → wX_blocksAllow_36 post xexpressionCount xstatementCount (nI (cp_O K c).length) xclosedLength xplace xstate xrandomSteps xrunWeight xending xbestWeight xbestCode xbestSteps xstackValues xkinds xvariables xnumbers xprogramValues xopen xblockOf xelseOf xendOf xroundsLeft xrunVisits xstateWeights xvisitSums := fun hq46 => by
    unfold wX_blocksAllow_36
    refine pk_le 3 (cp_O K c).length (fun h => h0 fun z => ?_) (fun h => h1 ⟨fun _ => h, fun e => by omega, fun e => by omega, fun e => by omega⟩)
    have := z.1 hq46
    omega
  unfold wpX_blocksAllow
  refine pk_lt q 4 (fun h => h1 ⟨fun e => by omega, fun e => by omega, fun e => by omega, fun e => by omega⟩) (fun h4 => pk_lt 8 q (fun h => by omega) (fun _ => pk_eq q 4 (fun e => h36 (Or.inl e)) (fun n4 => pk_eq q 5 (fun e5 => ?_) (fun n5 => pk_eq q 6 (fun e => h36 (Or.inr e)) (fun n6 => pk_eq q 7 (fun e7 => ?_) (fun n7 => pk_eq q 8 (fun e8 => ?_) (fun _ => trivial)))))))
  · refine pk_le (cp_O K c).length 0 (fun h => h0 fun z => ?_) (fun h => ?_)
    · obtain ⟨b, t, e, _⟩ := z.2.1 e5
      rw [e, List.length_cons] at h
      omega
    · obtain ⟨b, t, ho⟩ := List.exists_cons_of_ne_nil (show cp_O K c ≠ [] from fun z => by rw [z] at h; exact absurd h (by decide))
      have hb := (cp_O_head ho).2.1
      obtain ⟨m1, m2, m3⟩ := hmem b (by rw [ho]; exact List.mem_cons_self ..)
      have hl1 : nI (cp_O K c).length - 1 = nI t.length := by rw [ho, List.length_cons, nI_pred]
      have hlt : t.length < 3 := by rw [ho, List.length_cons] at hlen; omega
      have hct : (nI t.length).toNatClampNeg = t.length := nI_clamp (by omega)
      have hop : xopen t.length = nI b := by rw [ho] at hh; exact hh.1
      have hcb : (nI b).toNatClampNeg = b := nI_clamp (by omega)
      have al : K b = 4 → ¬ cp_he K c b → cp_al K c q := fun a b' => ⟨fun e => by omega, fun _ => ⟨b, t, ho, a, b'⟩, fun e => by omega, fun e => by omega⟩
      have nal : ¬ (K b = 4 ∧ ¬ cp_he K c b) → ¬ cp_al K c q := fun h z => by
        obtain ⟨b', t', e1, e2, e3⟩ := z.2.1 e5
        rw [ho] at e1
        obtain ⟨rfl, rfl⟩ := List.cons.inj e1
        exact h ⟨e2, e3⟩
      rw [hl1]
      refine ⟨vp_in_nI hlt (by omega), ?_⟩
      rw [hct, hop]
      unfold wpX_awaitsElse
      refine ⟨vp_in_nI m1 (by omega), ?_⟩
      rw [hcb, m2]
      refine pk_eq (K b) 4 (fun k4 => ⟨vp_in_nI m1 (by omega), br_c (fun e => br_f (by decide) (h1 (al k4 ((lk_he W HL hb k4).mp e)))) (fun e => br_t rfl (h0 (nal fun z => e ((lk_he W HL hb k4).mpr z.2))))⟩) (fun k4 => br_t rfl (h0 (nal fun z => k4 z.1)))
  · refine xl_il (K := K) hh hlen hmem ?_
    by_cases hl : ∃ b, b ∈ cp_O K c ∧ K b = 6
    · obtain ⟨l1, b, t, e1, e2, e3, e4⟩ := il_some hl
      have hb := (cp_O_mem (show b ∈ cp_O K c by rw [e1]; exact List.mem_append_right _ (List.mem_cons_self ..))).2.1
      rw [e4]
      exact br_f (cp_m1_ne (by omega)) (h1 ⟨fun e => by omega, fun e => by omega, fun _ => hl, fun e => by omega⟩)
    · rw [il_none hl]
      exact br_t rfl (h0 fun z => hl (z.2.2.1 e7))
  · refine pk_le (cp_O K c).length 0 (fun h => h0 fun z => ?_) (fun h => h1 ⟨fun e => by omega, fun e => by omega, fun e => by omega, fun _ z => ?_⟩)
    · exact z.2.2.2 e8 (List.length_eq_zero_iff.mp (by omega))
    · rw [z] at h
      exact absurd h (by decide)
theorem xm_loop {post : SX → Prop} {h c : Nat} (hh : h < 6) (hc : c < 24) (H : post (xexpressionCount, xstatementCount, xopenCount, xclosedLength, xplace, xstate, xrandomSteps, xrunWeight, xending, xbestWeight, xbestCode, xbestSteps, xstackValues, xkinds, xvariables, xnumbers, cp_cpy xprogramValues (64 * c) (fun s => xstackValues (64 * h + s)) 64, xopen, xblockOf, xelseOf, xendOf, xroundsLeft, xrunVisits, xstateWeights, xvisitSums)) :
    ∀ (d s n : Nat), s + d = 64 → d < n → wX_moveTopTo_26 post (nI (64 * h)) (nI (64 * c)) xexpressionCount xstatementCount xopenCount xclosedLength xplace xstate xrandomSteps xrunWeight xending xbestWeight xbestCode xbestSteps n (nI s) xstackValues xkinds xvariables xnumbers (cp_cpy xprogramValues (64 * c) (fun s => xstackValues (64 * h + s)) s) xopen xblockOf xelseOf xendOf xroundsLeft xrunVisits xstateWeights xvisitSums := by
  intro d
  induction d with
  | zero =>
    intro s n hs hn
    obtain ⟨m, rfl⟩ : ∃ m, n = m + 1 := ⟨n - 1, by omega⟩
    have e : s = 64 := by omega
    subst e
    rw [wX_moveTopTo_26]
    exact br_t (by decide) H
  | succ d ih =>
    intro s n hs hn
    obtain ⟨m, rfl⟩ : ∃ m, n = m + 1 := ⟨n - 1, by omega⟩
    have go := ih (s + 1) m (by omega) (by omega)
    rw [wX_moveTopTo_26]
    dsimp only
    rw [nI_add, nI_add]
    exact br_f (nI_ge (b := 64) (by omega) (by decide)) ⟨vp_in_nI (by omega) (by omega), vp_in_nI (by omega) (by omega), nm_r (by rw [nI_clamp (by omega), nI_clamp (by omega)]; rfl) (nm_r (nI_1 s) go)⟩
theorem xm_move {post : SX → Prop} {h c : Nat} (hh : h < 6) (hc : c < 24) (H : post (nI h, xstatementCount, xopenCount, xclosedLength, xplace, xstate, xrandomSteps, xrunWeight, xending, xbestWeight, xbestCode, xbestSteps, xstackValues, xkinds, xvariables, xnumbers, cp_cpy xprogramValues (64 * c) (fun s => xstackValues (64 * h + s)) 64, xopen, xblockOf, xelseOf, xendOf, xroundsLeft, xrunVisits, xstateWeights, xvisitSums)) : wpX_moveTopTo post (nI (h + 1), xstatementCount, xopenCount, xclosedLength, xplace, xstate, xrandomSteps, xrunWeight, xending, xbestWeight, xbestCode, xbestSteps, xstackValues, xkinds, xvariables, xnumbers, xprogramValues, xopen, xblockOf, xelseOf, xendOf, xroundsLeft, xrunVisits, xstateWeights, xvisitSums) (nI c) := by
  unfold wpX_moveTopTo
  refine nm_r (nI_pred h) (nm_r (e' := nI (64 * h)) (by show _ * nI 64 = _; rw [pk_mul, Nat.mul_comm]) (nm_r (e' := nI (64 * c)) (by show _ * nI 64 = _; rw [pk_mul, Nat.mul_comm]) ⟨65, ?_⟩))
  exact xm_loop hh hc H 64 0 65 (by omega) (by omega)
end
section
variable {yheight ycount yopen yat ydepth ystate ysteps yproduct yend ymost ymostRow ymostSteps : Int32} {ystack ykinds yvariables ynumbers yvalues yopened ybegins yleft youtcomes ymet ysums : Nat → Int32} {yvisited : Nat → Int64} {K : Nat → Nat} {c : Nat}
theorem yo_99 {post : SY → Prop} {J : Int32 → Int32 → (Nat → Int32) → (Nat → Int32) → (Nat → Int32) → (Nat → Int32) → (Nat → Int32) → (Nat → Int32) → (Nat → Int32) → (Nat → Int32) → (Nat → Int32) → (Nat → Int32) → (Nat → Int32) → (Nat → Int64) → Prop} {i m m' : Nat} (hi : i < 24) (hk : ykinds i = nI (K i)) (hK : K i ≤ 8) (h8 : K i = 8 → m = m' + 1) (hn : K i ≠ 8 → m = m')
    (H : J (nI (i + 1)) (nI m') ystack ykinds yvariables ynumbers yvalues yopened ybegins yleft youtcomes ymet ysums yvisited) : wY_findOpen_99 post J (nI i) yheight ycount (nI m) yat ydepth ystate ysteps yproduct yend ymost ymostRow ymostSteps ystack ykinds yvariables ynumbers yvalues yopened ybegins yleft youtcomes ymet ysums yvisited := by
  unfold wY_findOpen_99
  refine ⟨vp_in_nI hi (by omega), ?_⟩
  rw [nI_clamp (by omega), hk]
  refine pk_eq (K i) 8 (fun e => ?_) (fun e => ?_)
  · rw [h8 e]
    exact nm_r (nI_pred m') (nm_r (nI_1 i) H)
  · rw [hn e]
    exact nm_r (nI_1 i) H
theorem yo_loop {post : SY → Prop} (W : cp_wf K c) (hk : ∀ j, j < c → ykinds j = nI (K j)) (H : ∀ op : Nat → Int32, cp_oo K c op (cp_O K c) → post (yheight, nI c, nI (cp_O K c).length, yat, ydepth, ystate, ysteps, yproduct, yend, ymost, ymostRow, ymostSteps, ystack, ykinds, yvariables, ynumbers, yvalues, op, ybegins, yleft, youtcomes, ymet, ysums, yvisited)) :
    ∀ (d i n : Nat) (op : Nat → Int32), i + d = c → d < n → cp_oo K i op (cp_O K i) → wY_findOpen_7 post yheight (nI c) yat ydepth ystate ysteps yproduct yend ymost ymostRow ymostSteps n (nI i) (nI (cp_O K i).length) ystack ykinds yvariables ynumbers yvalues op ybegins yleft youtcomes ymet ysums yvisited := by
  have hc24 := W.1
  intro d
  induction d with
  | zero =>
    intro i n op hi hn h
    obtain ⟨m, rfl⟩ : ∃ m, n = m + 1 := ⟨n - 1, by omega⟩
    have e : i = c := by omega
    subst e
    rw [wY_findOpen_7]
    exact br_t (nI_le (Nat.le_refl _) (by omega)) (H op h)
  | succ d ih =>
    intro i n op hi hn h
    obtain ⟨m, rfl⟩ : ∃ m, n = m + 1 := ⟨n - 1, by omega⟩
    have hic : i < c := by omega
    obtain ⟨k8, kin, k5, k7, kE⟩ := W.2.2 i hic
    have hlen := cp_len W i
    have hci : (nI i).toNatClampNeg = i := nI_clamp (by omega)
    have vpi : vp_in (nI i) 24 := vp_in_nI (by omega) (by omega)
    have hki := hk i hic
    have h70 : ∀ (mm : Nat) (op' : Nat → Int32), K i ≠ 5 → (K i = 8 → mm = (cp_O K (i + 1)).length + 1) → (K i ≠ 8 → mm = (cp_O K (i + 1)).length) → cp_oo K (i + 1) op' (cp_O K (i + 1)) →
        wY_findOpen_70 post (wY_findOpen_7 post yheight (nI c) yat ydepth ystate ysteps yproduct yend ymost ymostRow ymostSteps m) (nI i) yheight (nI c) (nI mm) yat ydepth ystate ysteps yproduct yend ymost ymostRow ymostSteps ystack ykinds yvariables ynumbers yvalues op' ybegins yleft youtcomes ymet ysums yvisited := by
      intro mm op' n5 e8 n8 hoo
      unfold wY_findOpen_70
      refine ⟨vpi, ?_⟩
      rw [hci, hki]
      exact pk_eq (K i) 5 (fun z => absurd z n5) (fun _ => yo_99 (K := K) (by omega) hki k8 e8 n8 (ih (i + 1) m op' (by omega) (by omega) hoo))
    have h36 : (K i = 4 ∨ K i = 6) → wY_findOpen_36 post (wY_findOpen_7 post yheight (nI c) yat ydepth ystate ysteps yproduct yend ymost ymostRow ymostSteps m) (nI i) yheight (nI c) (nI (cp_O K i).length) yat ydepth ystate ysteps yproduct yend ymost ymostRow ymostSteps ystack ykinds yvariables ynumbers yvalues op ybegins yleft youtcomes ymet ysums yvisited := by
      intro h46
      have hl3 := kin h46
      have hO := cp_O_in h46
      have hcl : (nI (cp_O K i).length).toNatClampNeg = (cp_O K i).length := nI_clamp (by omega)
      have hnhe : ¬ cp_he K (i + 1) i := fun ⟨q, q1, q2, q3⟩ => by
        have := (cp_O_head q3).2.1
        omega
      have hst : cp_oo K (i + 1) op (cp_O K i) := oo_st (fun b _ => he_st (Or.inl (by omega))) h
      have h59 : ∀ x : Int32, (K i = 6 ∧ x = 3 ∨ K i = 4 ∧ x = 1) → wY_findOpen_59 post (wY_findOpen_7 post yheight (nI c) yat ydepth ystate ysteps yproduct yend ymost ymostRow ymostSteps m) (nI i) x (nI (cp_O K i).length) yheight (nI c) (nI (cp_O K i).length) yat ydepth ystate ysteps yproduct yend ymost ymostRow ymostSteps ystack ykinds yvariables ynumbers yvalues op ybegins yleft youtcomes ymet ysums yvisited := by
        intro x hx
        unfold wY_findOpen_59
        refine ⟨vp_in_nI hl3 (by omega), nm_r (by rw [hcl]) (nm_r (nI_1 _) (h70 _ _ (by omega) (fun e => by omega) (fun _ => by rw [hO, List.length_cons]) ?_))⟩
        rw [hO]
        refine ⟨?_, oo_upd (fun b _ => Iff.rfl) hst (Nat.le_refl _)⟩
        rw [pk_us]
        rcases hx with hx | hx
        · exact Or.inl hx
        · exact Or.inr (Or.inr ⟨hx.1, hnhe, hx.2⟩)
      unfold wY_findOpen_36
      refine ⟨vpi, ?_⟩
      rw [hci, hki]
      exact pk_eq (K i) 4 (fun e => h59 1 (Or.inr ⟨e, rfl⟩)) (fun e => h59 3 (Or.inl ⟨by omega, rfl⟩))
    rw [wY_findOpen_7]
    refine br_f (nI_ge hic (by omega)) ⟨vpi, ?_⟩
    rw [hci, hki]
    refine pk_eq (K i) 4 (fun e => h36 (Or.inl e)) (fun n4 => ⟨vpi, pk_eq (K i) 6 (fun e => h36 (Or.inr e)) (fun n6 => ?_)⟩)
    by_cases e5 : K i = 5
    · obtain ⟨b, t, ho, hb4, hu⟩ := k5 e5
      have hO := cp_O_st (K := K) (p := i) (by omega) (by omega) (by omega)
      have hlt : t.length < 3 := by rw [ho, List.length_cons] at hlen; omega
      have hl1 : nI (cp_O K i).length - 1 = nI t.length := by rw [ho, List.length_cons, nI_pred]
      have hct : (nI t.length).toNatClampNeg = t.length := nI_clamp (by omega)
      have hoo : cp_oo K (i + 1) (upd op t.length 2) (cp_O K (i + 1)) := by
        have ht := (cp_O_head ho).1
        rw [hO, ho]
        rw [ho] at h
        refine ⟨Or.inr (Or.inl ⟨hb4, ⟨i, by omega, e5, by rw [ho, ht]⟩, pk_us⟩), oo_upd (fun b' hb' => he_st (Or.inr fun z => ?_)) h.2 (Nat.le_refl _)⟩
        rw [ho] at z
        have e1 := (List.cons.inj z).1
        rw [← e1, ht] at hb'
        exact cp_O_self K b hb'
      unfold wY_findOpen_70
      refine ⟨vpi, ?_⟩
      rw [hci, hki]
      refine pk_eq (K i) 5 (fun _ => br_f (by rw [ho, List.length_cons]; exact nI_nle (by omega) (by omega)) ?_) (fun z => absurd e5 z)
      rw [hl1]
      exact ⟨vp_in_nI hlt (by omega), nm_r (by rw [hct]) (yo_99 (K := K) (m' := (cp_O K (i + 1)).length) (by omega) hki k8 (fun e => by omega) (fun _ => by rw [hO]) (ih (i + 1) m _ (by omega) (by omega) hoo))⟩
    · by_cases e8 : K i = 8
      · obtain ⟨b, t, ho⟩ := List.exists_cons_of_ne_nil (kE e8)
        have hO : cp_O K (i + 1) = t := by rw [cp_O_end e8, ho, List.tail_cons]
        refine h70 _ _ e5 (fun _ => by rw [hO, ho, List.length_cons]) (fun z => absurd e8 z) ?_
        rw [hO]
        rw [ho] at h
        exact oo_st (fun b _ => he_st (Or.inl e5)) h.2
      · have hO := cp_O_st (K := K) (p := i) n4 n6 e8
        refine h70 _ _ e5 (fun z => absurd z e8) (fun _ => by rw [hO]) ?_
        rw [hO]
        exact oo_st (fun b _ => he_st (Or.inl e5)) h
theorem yo_in {post : Int32 → Prop} {len : Nat} (hl : len ≤ 3) (h1 : (∃ j, j < len ∧ yopened j = 3) → post 1) (h0 : (¬ ∃ j, j < len ∧ yopened j = 3) → post 0) :
    ∀ (d k n : Nat) (x1 : Int32), k + d = len → d < n → ((x1 = 1 ∧ ∃ j, j < k ∧ yopened j = 3) ∨ (x1 = 0 ∧ ¬ ∃ j, j < k ∧ yopened j = 3)) → wY_inLoop_4 post yheight ycount (nI len) yat ydepth ystate ysteps yproduct yend ymost ymostRow ymostSteps ystack ykinds yvariables ynumbers yvalues yopened ybegins yleft youtcomes ymet ysums yvisited n x1 (nI k) := by
  intro d
  induction d with
  | zero =>
    intro k n x1 hk hn h
    obtain ⟨m, rfl⟩ : ∃ m, n = m + 1 := ⟨n - 1, by omega⟩
    have e : k = len := by omega
    subst e
    rw [wY_inLoop_4]
    refine br_t (nI_le (Nat.le_refl _) (by omega)) ?_
    rcases h with ⟨rfl, h⟩ | ⟨rfl, h⟩
    · exact ⟨rfl, h1 h⟩
    · exact ⟨rfl, h0 h⟩
  | succ d ih =>
    intro k n x1 hk hn h
    obtain ⟨m, rfl⟩ : ∃ m, n = m + 1 := ⟨n - 1, by omega⟩
    have hck : (nI k).toNatClampNeg = k := nI_clamp (by omega)
    rw [wY_inLoop_4]
    refine br_f (nI_ge (by omega) (by omega)) ?_
    rcases h with ⟨rfl, j, hj, h3⟩ | ⟨rfl, h⟩
    · exact br_f (by decide) (nm_r (nI_1 k) (ih (k + 1) m 1 (by omega) (by omega) (Or.inl ⟨rfl, j, by omega, h3⟩)))
    · refine br_t rfl ⟨vp_in_nI (by omega) (by omega), ?_⟩
      rw [hck]
      refine br_c (fun e => nm_r (nI_1 k) (ih (k + 1) m 1 (by omega) (by omega) (Or.inl ⟨rfl, k, by omega, e⟩))) (fun e => nm_r (nI_1 k) (ih (k + 1) m 0 (by omega) (by omega) (Or.inr ⟨rfl, fun ⟨j, hj, h3⟩ => ?_⟩)))
      by_cases e2 : j = k
      · subst e2; exact e h3
      · exact h ⟨j, by omega, h3⟩
theorem yo_mis {post : Int32 → SY → Prop} {q : Nat} (W : cp_wf K c) (hq : q < 9) (hk : ∀ j, j < c → ykinds j = nI (K j))
    (h1 : ¬ cp_al K c q → ∀ op : Nat → Int32, post 1 (yheight, nI c, nI (cp_O K c).length, yat, ydepth, ystate, ysteps, yproduct, yend, ymost, ymostRow, ymostSteps, ystack, ykinds, yvariables, ynumbers, yvalues, op, ybegins, yleft, youtcomes, ymet, ysums, yvisited)) (h0 : cp_al K c q → ∀ op : Nat → Int32, post 0 (yheight, nI c, nI (cp_O K c).length, yat, ydepth, ystate, ysteps, yproduct, yend, ymost, ymostRow, ymostSteps, ystack, ykinds, yvariables, ynumbers, yvalues, op, ybegins, yleft, youtcomes, ymet, ysums, yvisited)) : wpY_isMisplaced post (yheight, nI c, yopen, yat, ydepth, ystate, ysteps, yproduct, yend, ymost, ymostRow, ymostSteps, ystack, ykinds, yvariables, ynumbers, yvalues, yopened, ybegins, yleft, youtcomes, ymet, ysums, yvisited) (nI q) := by
  have hlen := cp_len W c
  unfold wpY_isMisplaced wpY_findOpen
  refine ⟨c + 1, yo_loop W hk (fun op hoo => ?_) c 0 (c + 1) yopened (by omega) (by omega) trivial⟩
  have h15 : (q = 4 ∨ q = 6) → wY_isMisplaced_15 post yheight (nI c) (nI (cp_O K c).length) yat ydepth ystate ysteps yproduct yend ymost ymostRow ymostSteps ystack ykinds yvariables ynumbers yvalues op ybegins yleft youtcomes ymet ysums yvisited := fun hq46 => by
    unfold wY_isMisplaced_15
    refine pk_eq (cp_O K c).length 3 (fun h => h1 (fun z => ?_) op) (fun h => h0 ⟨fun _ => by omega, fun e => by omega, fun e => by omega, fun e => by omega⟩ op)
    have := z.1 hq46
    omega
  refine pk_eq q 4 (fun e => h15 (Or.inl e)) (fun n4 => pk_eq q 6 (fun e => h15 (Or.inr e)) (fun n6 => pk_eq q 5 (fun e5 => ?_) (fun n5 => pk_eq q 7 (fun e7 => ?_) (fun n7 => pk_eq q 8 (fun e8 => ?_) (fun n8 => h0 ⟨fun e => by omega, fun e => by omega, fun e => by omega, fun e => by omega⟩ op)))))
  · refine pk_eq (cp_O K c).length 0 (fun h => h1 (fun z => ?_) op) (fun h => ?_)
    · obtain ⟨b, t, e, _⟩ := z.2.1 e5
      rw [e, List.length_cons] at h
      omega
    · obtain ⟨b, t, ho⟩ := List.exists_cons_of_ne_nil (show cp_O K c ≠ [] from fun z => h (by rw [z]; rfl))
      have hl1 : nI (cp_O K c).length - 1 = nI t.length := by rw [ho, List.length_cons, nI_pred]
      have hlt : t.length < 3 := by rw [ho, List.length_cons] at hlen; omega
      have hct : (nI t.length).toNatClampNeg = t.length := nI_clamp (by omega)
      have nal : ¬ (K b = 4 ∧ ¬ cp_he K c b) → ¬ cp_al K c q := fun h z => by
        obtain ⟨b', t', e1, e2, e3⟩ := z.2.1 e5
        rw [ho] at e1
        obtain ⟨rfl, rfl⟩ := List.cons.inj e1
        exact h ⟨e2, e3⟩
      have hoo1 := hoo
      rw [ho] at hoo1
      rw [hl1]
      refine ⟨vp_in_nI hlt (by omega), ?_⟩
      rw [hct]
      rcases hoo1.1 with h2 | h2 | h2
      · rw [h2.2]
        exact br_f (by decide) (h1 (nal fun z => by have := z.1; omega) op)
      · rw [h2.2.2]
        exact br_f (by decide) (h1 (nal fun z => z.2 h2.2.1) op)
      · rw [h2.2.2]
        exact br_t rfl (h0 ⟨fun e => by omega, fun _ => ⟨b, t, ho, h2.1, h2.2.1⟩, fun e => by omega, fun e => by omega⟩ op)
  · unfold wpY_inLoop
    have hiff := oo_loop hoo
    exact ⟨5, yo_in (len := (cp_O K c).length) (yopened := op) hlen (fun h => br_f (by decide) (h0 ⟨fun e => by omega, fun e => by omega, fun _ => hiff.mp h, fun e => by omega⟩ op)) (fun h => br_t rfl (h1 (fun z => h (hiff.mpr (z.2.2.1 e7))) op)) (cp_O K c).length 0 5 0 (by omega) (by omega) (Or.inr ⟨rfl, fun ⟨j, hj, _⟩ => absurd hj (by omega)⟩)⟩
  · refine pk_eq (cp_O K c).length 0 (fun h => h1 (fun z => ?_) op) (fun h => h0 ⟨fun e => by omega, fun e => by omega, fun e => by omega, fun _ z => h (by rw [z]; rfl)⟩ op)
    exact z.2.2.2 e8 (List.length_eq_zero_iff.mp h)
end
