/-! the component links its blocks -/
section
variable {xexpressionCount xstatementCount xopenCount xclosedLength xplace xstate xrandomSteps xrunWeight xending xbestWeight xbestCode xbestSteps : Int32} {xstackValues xkinds xvariables xnumbers xprogramValues xopen xblockOf xelseOf xendOf xroundsLeft xrunVisits xstateWeights : Nat → Int32} {xvisitSums : Nat → Int64}
theorem xl_end {post : SX → Prop} {q b : Nat} (hq : q < 27) (hb : b < 27) (h : post (xexpressionCount, xstatementCount, xopenCount, xclosedLength, xplace, xstate, xrandomSteps, xrunWeight, xending, xbestWeight, xbestCode, xbestSteps, xstackValues, xkinds, xvariables, xnumbers, xprogramValues, xopen, upd xblockOf q (nI b), xelseOf, upd xendOf b (nI q), xroundsLeft, xrunVisits, xstateWeights, xvisitSums)) : wpX_linkEnd post (xexpressionCount, xstatementCount, xopenCount, xclosedLength, xplace, xstate, xrandomSteps, xrunWeight, xending, xbestWeight, xbestCode, xbestSteps, xstackValues, xkinds, xvariables, xnumbers, xprogramValues, xopen, xblockOf, xelseOf, xendOf, xroundsLeft, xrunVisits, xstateWeights, xvisitSums) (nI q) (nI b) := by
  unfold wpX_linkEnd
  exact ⟨vp_in_nI hq (by omega), nm_r (by rw [nI_clamp (by omega)]) ⟨vp_in_nI hb (by omega), nm_r (by rw [nI_clamp (by omega)]) h⟩⟩
theorem xl_ilL {post : Int32 → Prop} {K : Nat → Nat} : ∀ (l : List Nat) (n : Nat), cp_hl xopen l → l.length ≤ 3 → (∀ b, b ∈ l → b < 27 ∧ xkinds b = nI (K b) ∧ K b < 9) → post (cp_il K l) → l.length < n → wX_innermostLoop_7 post xexpressionCount xstatementCount xopenCount xclosedLength xplace xstate xrandomSteps xrunWeight xending xbestWeight xbestCode xbestSteps xstackValues xkinds xvariables xnumbers xprogramValues xopen xblockOf xelseOf xendOf xroundsLeft xrunVisits xstateWeights xvisitSums n (nI l.length - 1) := by
  intro l
  induction l with
  | nil =>
    intro n _ _ _ hp hn
    obtain ⟨m, rfl⟩ : ∃ m, n = m + 1 := ⟨n - 1, by simp only [List.length_nil] at hn; omega⟩
    exact br_t (by decide) hp
  | cons b t ih =>
    intro n hh hl hk hp hn
    simp only [List.length_cons] at hn hl ⊢
    obtain ⟨m, rfl⟩ : ∃ m, n = m + 1 := ⟨n - 1, by omega⟩
    obtain ⟨hb, hkb, hk9⟩ := hk b (List.mem_cons_self ..)
    have hc : (nI t.length).toNatClampNeg = t.length := nI_clamp (by omega)
    have hcb : (nI b).toNatClampNeg = b := nI_clamp (by omega)
    rw [nI_pred, wX_innermostLoop_7]
    simp only [hc, hh.1, hcb, hkb]
    refine br_f (nI_pos (by omega)) ⟨vp_in_nI (by omega) (by omega), vp_in_nI hb (by omega), pk_eq (K b) 6 (fun e => ?_) (fun e => ?_)⟩
    · rw [cp_il, if_pos e] at hp
      exact ⟨vp_in_nI (by omega) (by omega), hp⟩
    · rw [cp_il, if_neg e] at hp
      refine nm_r (e' := nI t.length - 1) (Int32.sub_eq_add_neg ..).symm ?_
      exact ih m hh.2 (by omega) (fun a ha => hk a (List.mem_cons_of_mem _ ha)) hp (by omega)
theorem xl_il {post : Int32 → Prop} {K : Nat → Nat} {l : List Nat} (hh : cp_hl xopen l) (hl : l.length ≤ 3) (hk : ∀ b, b ∈ l → b < 27 ∧ xkinds b = nI (K b) ∧ K b < 9) (hp : post (cp_il K l)) : wpX_innermostLoop post (xexpressionCount, xstatementCount, nI l.length, xclosedLength, xplace, xstate, xrandomSteps, xrunWeight, xending, xbestWeight, xbestCode, xbestSteps, xstackValues, xkinds, xvariables, xnumbers, xprogramValues, xopen, xblockOf, xelseOf, xendOf, xroundsLeft, xrunVisits, xstateWeights, xvisitSums) := by
  unfold wpX_innermostLoop
  exact nm_e ⟨4, xl_ilL (xopenCount := nI l.length) l 4 hh hl hk hp (by omega)⟩
theorem xl_stmt {post : SX → Prop} {K : Nat → Nat} {c q : Nat} (W : cp_wf K c) (hq : q < c) (hk : ∀ j, j < c → xkinds j = nI (K j)) (hh : cp_hl xopen (cp_O K q)) (HL : cp_LK K q xblockOf xelseOf xendOf)
    (H : ∀ o' b' e' f' : Nat → Int32, cp_LK K (q + 1) b' e' f' → cp_hl o' (cp_O K (q + 1)) → post (xexpressionCount, xstatementCount, nI (cp_O K (q + 1)).length, xclosedLength, xplace, xstate, xrandomSteps, xrunWeight, xending, xbestWeight, xbestCode, xbestSteps, xstackValues, xkinds, xvariables, xnumbers, xprogramValues, o', b', e', f', xroundsLeft, xrunVisits, xstateWeights, xvisitSums)) :
    wpX_linkStatement post (xexpressionCount, xstatementCount, nI (cp_O K q).length, xclosedLength, xplace, xstate, xrandomSteps, xrunWeight, xending, xbestWeight, xbestCode, xbestSteps, xstackValues, xkinds, xvariables, xnumbers, xprogramValues, xopen, xblockOf, xelseOf, xendOf, xroundsLeft, xrunVisits, xstateWeights, xvisitSums) (nI q) := by
  have hc24 := W.1
  have hlen := cp_len W q
  obtain ⟨k8, kin, k5, k7, kE⟩ := W.2.2 q hq
  have hcq : (nI q).toNatClampNeg = q := nI_clamp (by omega)
  have hmem : ∀ b, b ∈ cp_O K q → b < 27 ∧ xkinds b = nI (K b) ∧ K b < 9 := fun b hb => by
    have h1 := (cp_O_mem hb).2.1
    have h2 := (W.2.2 b (by omega)).1
    exact ⟨by omega, hk b (by omega), by omega⟩
  have hin : (K q = 4 ∨ K q = 6) → wX_linkStatement_40 post (nI q) xexpressionCount xstatementCount (nI (cp_O K q).length) xclosedLength xplace xstate xrandomSteps xrunWeight xending xbestWeight xbestCode xbestSteps xstackValues xkinds xvariables xnumbers xprogramValues xopen xblockOf xelseOf xendOf xroundsLeft xrunVisits xstateWeights xvisitSums := fun h46 => by
    have hl3 := kin h46
    have e := cp_O_in h46
    have hcl : (nI (cp_O K q).length).toNatClampNeg = (cp_O K q).length := nI_clamp (by omega)
    have h1 := H (upd xopen (cp_O K q).length (nI q)) xblockOf (upd xelseOf q (-1)) xendOf (lk_in h46 HL) (by rw [e]; exact hl_push hh)
    rw [e, List.length_cons] at h1
    unfold wX_linkStatement_40
    exact ⟨vp_in_nI (by omega) (by omega), nm_r (by rw [hcq]) ⟨vp_in_nI (by omega) (by omega), nm_r (by rw [hcl]) (nm_r (nI_1 _) h1)⟩⟩
  unfold wpX_linkStatement
  refine ⟨vp_in_nI (by omega) (by omega), nm_r (show xkinds (nI q).toNatClampNeg = nI (K q) by rw [hcq]; exact hk q hq) ?_⟩
  refine pk_lt (K q) 4 (fun h4 => ?_) (fun h4 => pk_lt 8 (K q) (fun h8 => by omega) (fun _ => pk_eq (K q) 4 (fun e4 => hin (Or.inl e4)) (fun n4 => pk_eq (K q) 5 (fun e5 => ?_) (fun n5 => pk_eq (K q) 6 (fun e6 => hin (Or.inr e6)) (fun n6 => pk_eq (K q) 7 (fun e7 => ?_) (fun n7 => pk_eq (K q) 8 (fun e8 => ?_) (fun _ => trivial)))))))
  · have e := cp_O_st (K := K) (p := q) (by omega) (by omega) (by omega)
    have h1 := H xopen xblockOf xelseOf xendOf (lk_st (by omega) HL) (by rw [e]; exact hh)
    rw [e] at h1
    exact h1
  · obtain ⟨b, t, ho, hb4, hu⟩ := k5 e5
    have hb := (cp_O_head ho).2.1
    have e := cp_O_st (K := K) (p := q) (by omega) (by omega) (by omega)
    have h1 := H xopen (upd xblockOf q (nI b)) (upd xelseOf b (nI q)) xendOf (lk_else e5 ho hu HL) (by rw [e]; exact hh)
    rw [e] at h1
    have hl1 : nI (cp_O K q).length - 1 = nI t.length := by rw [ho, List.length_cons, nI_pred]
    have hlt : t.length < 3 := by rw [ho, List.length_cons] at hlen; omega
    have hct : (nI t.length).toNatClampNeg = t.length := nI_clamp (by omega)
    have hop : xopen t.length = nI b := by rw [ho] at hh; exact hh.1
    have hcb : (nI b).toNatClampNeg = b := nI_clamp (by omega)
    rw [hl1]
    refine ⟨vp_in_nI hlt (by omega), vp_in_nI (by omega) (by omega), nm_r (e' := upd xblockOf q (nI b)) (by rw [hcq, hct, hop]) ⟨vp_in_nI (by omega) (by omega), ?_⟩⟩
    rw [hcq, pk_us, hcb]
    exact ⟨vp_in_nI (by omega) (by omega), nm_e h1⟩
  · obtain ⟨l1, b, t, e1, e2, e3, e4⟩ := il_some (k7 e7)
    have hbm : b ∈ cp_O K q := by rw [e1]; exact List.mem_append_right _ (List.mem_cons_self ..)
    have ht : t = cp_O K b := (cp_chain K q b t ⟨l1, e1.symm⟩).1
    have e := cp_O_st (K := K) (p := q) (by omega) (by omega) (by omega)
    have h1 := H xopen (upd xblockOf q (nI b)) xelseOf xendOf (lk_brk e7 (by rw [e1, ht]) e2 e3 HL) (by rw [e]; exact hh)
    rw [e] at h1
    refine xl_il (K := K) hh hlen hmem ?_
    rw [e4]
    exact ⟨vp_in_nI (by omega) (by omega), nm_r (by rw [hcq]) h1⟩
  · obtain ⟨b, t, ho⟩ := List.exists_cons_of_ne_nil (kE e8)
    have hb := (cp_O_head ho).2.1
    have e : cp_O K (q + 1) = t := by rw [cp_O_end e8, ho, List.tail_cons]
    have h1 := H xopen (upd xblockOf q (nI b)) xelseOf (upd xendOf b (nI q)) (lk_end e8 ho HL) (by rw [e]; rw [ho] at hh; exact hh.2)
    rw [e] at h1
    have hl1 : nI (cp_O K q).length - 1 = nI t.length := by rw [ho, List.length_cons, nI_pred]
    have hlt : t.length < 3 := by rw [ho, List.length_cons] at hlen; omega
    have hct : (nI t.length).toNatClampNeg = t.length := nI_clamp (by omega)
    have hop : xopen t.length = nI b := by rw [ho] at hh; exact hh.1
    refine nm_r hl1 ⟨vp_in_nI hlt (by omega), ?_⟩
    rw [hct, hop]
    exact xl_end (by omega) (by omega) h1
end
section
variable {xexpressionCount xstatementCount xopenCount xclosedLength xplace xstate xrandomSteps xrunWeight xending xbestWeight xbestCode xbestSteps : Int32} {xstackValues xkinds xvariables xnumbers xprogramValues xopen xblockOf xelseOf xendOf xroundsLeft xrunVisits xstateWeights : Nat → Int32} {xvisitSums : Nat → Int64}
theorem xl_41 {post : SX → Prop} {K : Nat → Nat} {c : Nat} (W : cp_wf K c) : ∀ (d p n : Nat) (kk bb ff : Nat → Int32), p + d = cp_M K c → c ≤ p → d < n → cp_hl xopen (cp_O K p) → (∀ j, j < p → kk j = nI (K j)) → cp_LK K p bb xelseOf ff →
    (∀ k' b' f' : Nat → Int32, (∀ j, j < cp_M K c → k' j = nI (K j)) → cp_LK K (cp_M K c) b' xelseOf f' → post (xexpressionCount, xstatementCount, xopenCount, nI (cp_M K c), xplace, xstate, xrandomSteps, xrunWeight, xending, xbestWeight, xbestCode, xbestSteps, xstackValues, k', xvariables, xnumbers, xprogramValues, xopen, b', xelseOf, f', xroundsLeft, xrunVisits, xstateWeights, xvisitSums)) →
    wX_linkBlocks_41 post n (nI (cp_O K p).length - 1) xexpressionCount xstatementCount xopenCount (nI p) xplace xstate xrandomSteps xrunWeight xending xbestWeight xbestCode xbestSteps xstackValues kk xvariables xnumbers xprogramValues xopen bb xelseOf ff xroundsLeft xrunVisits xstateWeights xvisitSums := by
  have hM := cp_M_le W
  intro d
  induction d with
  | zero =>
    intro p n kk bb ff hp hc hn hh hk HL H
    obtain ⟨m, rfl⟩ : ∃ m, n = m + 1 := ⟨n - 1, by omega⟩
    have e : p = cp_M K c := by omega
    subst e
    rw [cp_OM W, wX_linkBlocks_41]
    exact br_t (by decide) (H kk bb ff hk HL)
  | succ d ih =>
    intro p n kk bb ff hp hc hn hh hk HL H
    obtain ⟨m, rfl⟩ : ∃ m, n = m + 1 := ⟨n - 1, by omega⟩
    have h8 := W.2.1 p hc
    obtain ⟨b, t, ho⟩ := List.exists_cons_of_ne_nil ((cp_okM W (show p < cp_M K c by omega)).2.2.2.2 h8)
    have hb := (cp_O_head ho).2.1
    have hlen := cp_len W p
    have e : cp_O K (p + 1) = t := by rw [cp_O_end h8, ho, List.tail_cons]
    rw [ho] at hh hlen
    rw [List.length_cons] at hlen
    have hct : (nI t.length).toNatClampNeg = t.length := nI_clamp (by omega)
    have hcp : (nI p).toNatClampNeg = p := nI_clamp (by omega)
    have h2 := ih (p + 1) m (upd kk p 8) (upd bb p (nI b)) (upd ff b (nI p)) (by omega) (by omega) (by omega) (by rw [e]; exact hh.2) (fun j hj => by
      by_cases hjp : j = p
      · subst hjp; rw [pk_us, h8]; rfl
      · rw [pk_un hjp]; exact hk j (by omega)) (lk_end h8 ho HL) H
    rw [e] at h2
    rw [ho, List.length_cons, nI_pred, wX_linkBlocks_41]
    refine br_f (nI_pos (by omega)) ⟨vp_in_nI (by omega) (by omega), nm_r (e' := upd kk p 8) (by rw [hcp]) ⟨vp_in_nI (by omega) (by omega), ?_⟩⟩
    rw [hct, hh.1]
    exact xl_end (by omega) (by omega) (nm_r (nI_1 p) (nm_r (e' := nI t.length - 1) (Int32.sub_eq_add_neg ..).symm h2))
theorem xl_7 {post : SX → Prop} {K : Nat → Nat} {c : Nat} (W : cp_wf K c) (hk : ∀ j, j < c → xkinds j = nI (K j))
    (H : ∀ o' k' b' e' f' : Nat → Int32, cp_hl o' (cp_O K c) → (∀ j, j < cp_M K c → k' j = nI (K j)) → cp_LK K (cp_M K c) b' e' f' → post (xexpressionCount, nI c, nI (cp_O K c).length, nI (cp_M K c), xplace, xstate, xrandomSteps, xrunWeight, xending, xbestWeight, xbestCode, xbestSteps, xstackValues, k', xvariables, xnumbers, xprogramValues, o', b', e', f', xroundsLeft, xrunVisits, xstateWeights, xvisitSums)) :
    ∀ (d q n : Nat) (oo bb ee ff : Nat → Int32), q + d = c → d < n → cp_hl oo (cp_O K q) → cp_LK K q bb ee ff →
    wX_linkBlocks_7 post n (nI q) xexpressionCount (nI c) (nI (cp_O K q).length) xclosedLength xplace xstate xrandomSteps xrunWeight xending xbestWeight xbestCode xbestSteps xstackValues xkinds xvariables xnumbers xprogramValues oo bb ee ff xroundsLeft xrunVisits xstateWeights xvisitSums := by
  have hc24 := W.1
  intro d
  induction d with
  | zero =>
    intro q n oo bb ee ff hq hn hh HL
    obtain ⟨m, rfl⟩ : ∃ m, n = m + 1 := ⟨n - 1, by omega⟩
    have e : q = c := by omega
    subst e
    rw [wX_linkBlocks_7]
    exact br_t (nI_le (by omega) (by omega)) (nm_e ⟨_, xl_41 W (cp_M K q - q) q (cp_M K q - q + 1) xkinds bb ff (by have := cp_M_le W; omega) (Nat.le_refl _) (by omega) hh hk HL fun k' b' f' h1 h2 => H oo k' b' ee f' hh h1 h2⟩)
  | succ d ih =>
    intro q n oo bb ee ff hq hn hh HL
    obtain ⟨m, rfl⟩ : ∃ m, n = m + 1 := ⟨n - 1, by omega⟩
    rw [wX_linkBlocks_7]
    refine br_f (nI_ge (by omega) (by omega)) ?_
    refine xl_stmt W (show q < c by omega) hk hh HL fun o' b' e' f' h1 h2 => ?_
    exact nm_r (nI_1 q) (ih (q + 1) m o' b' e' f' (by omega) (by omega) h2 h1)
theorem xl_all {post : SX → Prop} {K : Nat → Nat} {c : Nat} (W : cp_wf K c) (hk : ∀ j, j < c → xkinds j = nI (K j))
    (H : ∀ o' k' b' e' f' : Nat → Int32, cp_hl o' (cp_O K c) → (∀ j, j < cp_M K c → k' j = nI (K j)) → cp_LK K (cp_M K c) b' e' f' → post (xexpressionCount, nI c, nI (cp_O K c).length, nI (cp_M K c), xplace, xstate, xrandomSteps, xrunWeight, xending, xbestWeight, xbestCode, xbestSteps, xstackValues, k', xvariables, xnumbers, xprogramValues, o', b', e', f', xroundsLeft, xrunVisits, xstateWeights, xvisitSums)) :
    wpX_linkBlocks post (xexpressionCount, nI c, xopenCount, xclosedLength, xplace, xstate, xrandomSteps, xrunWeight, xending, xbestWeight, xbestCode, xbestSteps, xstackValues, xkinds, xvariables, xnumbers, xprogramValues, xopen, xblockOf, xelseOf, xendOf, xroundsLeft, xrunVisits, xstateWeights, xvisitSums) := by
  unfold wpX_linkBlocks
  exact ⟨c + 1, xl_7 W hk H c 0 (c + 1) xopen xblockOf xelseOf xendOf (by omega) (by omega) trivial lk_0⟩
end
