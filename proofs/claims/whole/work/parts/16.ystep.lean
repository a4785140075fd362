/-! the reference: one step -/
theorem cp_le1 : ∀ x, x < 3 → (nI (3 - x) ≤ 1 ↔ ¬ 0 < nI (3 - x) - 1) := by decide +kernel
section
variable {yheight ycount yopen yat ydepth ystate ysteps yproduct yend ymost ymostRow ymostSteps : Int32} {ystack ykinds yvariables ynumbers yvalues yopened ybegins yleft youtcomes ymet ysums : Nat → Int32} {yvisited : Nat → Int64} {K A N E F B : Nat → Nat} {V : Nat → Nat → Nat} {M c : Nat}
theorem ys_end {post : SY → Prop} {dg : Nat → Nat} {x p s r g : Nat} {L z : Nat → Int32} (G : cp_G K A N E F B V M c) (hk : ∀ j, j < c → ykinds j = nI (K j)) (I : cp_I K M x p s r g L) (hp : p < M) (h8 : K p = 8)
    (ha : yat = nI (if p + 1 < c then p + 1 else c)) (hd : ydepth = nI (cp_O K p).length) (hh : cp_hl ybegins (cp_O K p)) (hl : cp_ll K L yleft (cp_O K p)) (es : ystate = nI s) (esp : ysteps = nI r ∧ yproduct = nI g) (ee : yend = 1) (hm : ∀ j, j < c → K j ≠ 8 → ymet j = z j)
    (H : ∀ (pl dp : Int32) (lf : Nat → Int32), cp_RY K c (cp_step K A N E F B V dg p s r g 1 L z).1 (cp_step K A N E F B V dg p s r g 1 L z).2.1 (cp_step K A N E F B V dg p s r g 1 L z).2.2.1 (cp_step K A N E F B V dg p s r g 1 L z).2.2.2.1 (cp_step K A N E F B V dg p s r g 1 L z).2.2.2.2.1 (cp_step K A N E F B V dg p s r g 1 L z).2.2.2.2.2.1 (cp_step K A N E F B V dg p s r g 1 L z).2.2.2.2.2.2 pl dp ybegins lf ystate ysteps yproduct yend ymet → post (yheight, ycount, yopen, pl, dp, ystate, ysteps, yproduct, yend, ymost, ymostRow, ymostSteps, ystack, ykinds, yvariables, ynumbers, yvalues, yopened, ybegins, lf, youtcomes, ymet, ysums, yvisited)) :
    wpY_endBlock post (yheight, ycount, yopen, yat, ydepth, ystate, ysteps, yproduct, yend, ymost, ymostRow, ymostSteps, ystack, ykinds, yvariables, ynumbers, yvalues, yopened, ybegins, yleft, youtcomes, ymet, ysums, yvisited) := by
  obtain ⟨W, rfl, T, D⟩ := G
  have hc := W.1
  obtain ⟨i1, i2, i3, i4, i5, i6⟩ := I
  have hlen := cp_len W p
  have hO := T.2.1 p hp (Or.inr h8)
  obtain ⟨_, hb, hkb⟩ := cp_O_head hO
  have hO' : cp_O K (p + 1) = cp_O K (B p) := by rw [cp_O_end h8, hO, List.tail_cons]
  have hbc : B p < c := by
    by_cases h : B p < c
    · exact h
    · have := W.2.1 (B p) (by omega)
      omega
  have hm' : ∀ j, j < c → K j ≠ 8 → ymet j = upd z p (z p + 1) j := fun j hj h => by
    rw [pk_un (fun e => h (by rw [e]; exact h8))]
    exact hm j hj h
  rw [hO, List.length_cons] at hd hlen
  have hh0 := hh
  rw [hO] at hh0 hl
  refine yb_end (K := K) hd (by omega) hh0.1 (by omega) (hk _ hbc) (by omega) (fun b6 => ?_) (fun b6 => H _ _ _ ?_)
  · have hL : L (B p) = nI (3 - x / 3 ^ (cp_O K (B p)).length % 3) := i6 (B p) (by rw [hO]; exact List.mem_cons_self ..) b6
    have hx3 := Nat.mod_lt (x / 3 ^ (cp_O K (B p)).length) (show 0 < 3 by omega)
    have hlf := hl.1 b6
    have hiff : yleft (cp_O K (B p)).length ≤ 1 ↔ ¬ 0 < L (B p) - 1 := by
      rw [hlf, hL]
      exact cp_le1 _ hx3
    have hLt : ∀ a, a ∈ cp_O K (B p) → upd L (B p) (L (B p) - 1) a = L a := fun a ha => by
      have := (cp_O_mem ha).2.1
      exact pk_un (by omega)
    refine ⟨fun h => H _ _ _ ?_, fun h => H _ _ _ ?_⟩
    · rw [cp_s8l h8 b6, if_neg (hiff.mp h)]
      refine ⟨ha, ?_, ?_, ?_, es, fun _ => esp, ee, hm'⟩
      · show _ = nI (cp_O K (p + 1)).length
        rw [hO']
      · show cp_hl ybegins (cp_O K (p + 1))
        rw [hO']
        exact hh0.2
      · show cp_ll K _ yleft (cp_O K (p + 1))
        rw [hO']
        exact ll_L hLt hl.2
    · rw [cp_s8l h8 b6, if_pos (Classical.not_not.mp fun z => h (hiff.mpr z))]
      have hO2 : cp_O K (B p + 1) = B p :: cp_O K (B p) := cp_O_in hkb
      refine ⟨?_, ?_, ?_, ?_, es, fun _ => esp, ee, hm'⟩
      · show _ = nI (if B p + 1 < c then B p + 1 else c)
        split
        · rfl
        · exact congrArg nI (by omega)
      · show _ = nI (cp_O K (B p + 1)).length
        rw [hO2, List.length_cons]
      · show cp_hl ybegins (cp_O K (B p + 1))
        rw [hO2]
        exact hh0
      · show cp_ll K _ _ (cp_O K (B p + 1))
        rw [hO2]
        exact ⟨fun _ => by show upd yleft _ _ _ = upd L (B p) (L (B p) - 1) (B p); rw [pk_us, pk_us, hlf], ll_upd (ll_L hLt hl.2) (Nat.le_refl _)⟩
  · rw [cp_s8i h8 b6]
    refine ⟨ha, ?_, ?_, ?_, es, fun _ => esp, ee, hm'⟩
    · show _ = nI (cp_O K (p + 1)).length
      rw [hO']
    · show cp_hl ybegins (cp_O K (p + 1))
      rw [hO']
      exact hh0.2
    · show cp_ll K _ yleft (cp_O K (p + 1))
      rw [hO']
      exact hl.2
theorem ys_step {post : SY → Prop} {row x p s r g : Nat} {L z : Nat → Int32} (G : cp_G K A N E F B V M c) (HA : cp_XA K A N V c c ykinds yvariables ynumbers yvalues) (ho : ∀ j, j < 6 → youtcomes j = nI (cp_rd row j))
    (I : cp_I K M x p s r g L) (hp : p < c) (R : cp_RY K c p s r g 1 L z yat ydepth ybegins yleft ystate ysteps yproduct yend ymet)
    (H : K p ≠ 5 → ∀ (pl dp : Int32) (bg lf : Nat → Int32) (st sp pr en : Int32) (mt : Nat → Int32), cp_RY K c (cp_step K A N E F B V (cp_rd row) p s r g 1 L z).1 (cp_step K A N E F B V (cp_rd row) p s r g 1 L z).2.1 (cp_step K A N E F B V (cp_rd row) p s r g 1 L z).2.2.1 (cp_step K A N E F B V (cp_rd row) p s r g 1 L z).2.2.2.1 (cp_step K A N E F B V (cp_rd row) p s r g 1 L z).2.2.2.2.1 (cp_step K A N E F B V (cp_rd row) p s r g 1 L z).2.2.2.2.2.1 (cp_step K A N E F B V (cp_rd row) p s r g 1 L z).2.2.2.2.2.2 pl dp bg lf st sp pr en mt →
      post (yheight, nI c, yopen, pl, dp, st, sp, pr, en, ymost, ymostRow, ymostSteps, ystack, ykinds, yvariables, ynumbers, yvalues, yopened, bg, lf, youtcomes, mt, ysums, yvisited))
    (H5 : K p = 5 → ∀ (pl : Int32) (mt : Nat → Int32), cp_RY K c (E (B p)) s r g 1 L (upd z p (z p + 1)) pl ydepth ybegins yleft ystate ysteps yproduct yend mt →
      post (yheight, nI c, yopen, pl, ydepth, ystate, ysteps, yproduct, yend, ymost, ymostRow, ymostSteps, ystack, ykinds, yvariables, ynumbers, yvalues, yopened, ybegins, yleft, youtcomes, mt, ysums, yvisited)) :
    wpY_step post (yheight, nI c, yopen, yat, ydepth, ystate, ysteps, yproduct, yend, ymost, ymostRow, ymostSteps, ystack, ykinds, yvariables, ynumbers, yvalues, yopened, ybegins, yleft, youtcomes, ymet, ysums, yvisited) := by
  have G0 := G
  have I0 := I
  obtain ⟨W, rfl, T, D⟩ := G
  have hc := W.1
  have hMc := cp_M_le W
  have hpM : p < cp_M K c := by omega
  obtain ⟨k8, kin, k5, k7, kE⟩ := W.2.2 p hp
  obtain ⟨i1, i2, i3, i4, i5, i6⟩ := I
  have hlen := cp_len W
  have hK8 : ∀ j, j < c → K j ≤ 8 := fun j hj => (W.2.2 j hj).1
  obtain ⟨ra, rd, rh, rl, rs, rsp, re, rm⟩ := R
  rw [if_pos hp] at ra
  subst ra rs re
  obtain ⟨rsp1, rsp2⟩ := rsp rfl
  obtain ⟨ak, av, an, ap⟩ := HA
  have hcp : (nI p).toNatClampNeg = p := nI_clamp (by omega)
  have vpp : vp_in (nI p) 24 := vp_in_nI (by omega) (by omega)
  have hnx : (if p + 1 < c then p + 1 else c) = p + 1 := by split <;> omega
  have hm : ∀ j, j < c → K j ≠ 8 → upd ymet p (ymet p + 1) j = upd z p (z p + 1) j := fun j hj h => by
    by_cases e : j = p
    · subst e; rw [pk_us, pk_us, rm j hj h]
    · rw [pk_un e, pk_un e, rm j hj h]
  have hix : (64 * nI p + nI s).toNatClampNeg = 64 * p + s := by rw [cp_ixY, nI_clamp (by omega)]
  have hvi : vp_in (64 * nI p + nI s) 1536 := by rw [cp_ixY]; exact vp_in_nI (by omega) (by omega)
  have hst : K p ≠ 4 → K p ≠ 6 → K p ≠ 8 → (nI (p + 1) = nI (if p + 1 < c then p + 1 else c) ∧ ydepth = nI (cp_O K (p + 1)).length ∧ cp_hl ybegins (cp_O K (p + 1)) ∧ cp_ll K L yleft (cp_O K (p + 1))) := fun a b d => by
    rw [cp_O_st a b d, hnx]
    exact ⟨rfl, rd, rh, rl⟩
  have hpush : ∀ (v : Int32) (L' : Nat → Int32) (p' : Nat), cp_O K p' = p :: cp_O K p → (∀ a, a ∈ cp_O K p → L' a = L a) → (K p = 6 → v = L' p) → (nI ((cp_O K p).length + 1) = nI (cp_O K p').length ∧ cp_hl (upd ybegins (cp_O K p).length (nI p)) (cp_O K p') ∧ cp_ll K L' (upd yleft (cp_O K p).length v) (cp_O K p')) := fun v L' p' hO hL hv => by
    rw [hO, List.length_cons]
    exact ⟨rfl, hl_push rh, fun h6 => by rw [pk_us]; exact hv h6, ll_upd (ll_L hL rl) (Nat.le_refl _)⟩
  unfold wpY_step
  refine ⟨vpp, nm_r (show ykinds (nI p).toNatClampNeg = nI (K p) by rw [hcp]; exact ak p hp) ⟨hvi, nm_r (show yvalues (64 * nI p + nI s).toNatClampNeg = yvalues (64 * p + s) by rw [hix]) (nm_r (nI_1 p) ⟨vpp, vpp, nm_r (e' := upd ymet p (ymet p + 1)) (by rw [hcp]) ?_⟩)⟩⟩
  refine pk_eq (K p) 0 (fun e0 => ?_) (fun n0 => pk_eq (K p) 1 (fun e1 => ?_) (fun n1 => pk_eq (K p) 2 (fun e2 => ?_) (fun n2 => pk_eq (K p) 3 (fun e3 => ?_) (fun n3 => pk_eq (K p) 4 (fun e4 => ?_) (fun n4 => pk_eq (K p) 5 (fun e5 => ?_) (fun n5 => pk_eq (K p) 6 (fun e6 => ?_) (fun n6 => pk_eq (K p) 7 (fun e7 => ?_) (fun n7 => ?_))))))))
  · obtain ⟨b1, b2, b3, b4⟩ := hst (by omega) (by omega) (by omega)
    refine ⟨vpp, yv_give (v := A p) (x := V p s) (s := s) (by rw [hcp]; exact av p hp (by omega)) (ap p hp (by omega) s i2) rfl ((D p).1 (by omega)) ((D p).2.2.2 (by omega) s i2) i2 (H (by omega) _ _ _ _ _ _ _ _ _ ?_)⟩
    rw [cp_s0 e0]
    exact ⟨b1, b2, b3, b4, rfl, rsp, rfl, hm⟩
  iterate 2
    · obtain ⟨b1, b2, b3, b4⟩ := hst (by omega) (by omega) (by omega)
      have hR : K p = 1 ∨ K p = 2 := by omega
      unfold wY_step_72
      refine yr_rand (K := K) (A := A) (N := N) (V := V) (s := s) (r := r) (g := g) (o := cp_rd row r) D (by omega) i3 i2 (fun h => ho r h) (cp_rd_lt _ _) (ak p hp) hR (av p hp (by omega)) (fun e => an p hp (Or.inl e)) rfl rsp1 rsp2
        (fun h6 => H (by omega) _ _ _ _ _ _ _ _ _ ?_) (fun h6 hw => H (by omega) _ _ _ _ _ _ _ _ _ ?_) (fun h6 hw => H (by omega) _ _ _ _ _ _ _ _ _ ?_)
      · rw [cp_sR hR, if_pos h6]
        exact ⟨b1, b2, b3, b4, rfl, fun z => absurd z cp_n3, rfl, hm⟩
      · rw [cp_sR hR, if_neg h6, if_pos hw]
        exact ⟨b1, b2, b3, b4, rfl, fun z => absurd z cp_n4, rfl, hm⟩
      · rw [cp_sR hR, if_neg h6, if_neg hw]
        exact ⟨b1, b2, b3, b4, rfl, fun _ => ⟨rfl, rfl⟩, rfl, hm⟩
  · obtain ⟨b1, b2, b3, b4⟩ := hst (by omega) (by omega) (by omega)
    have hV4 := (D p).2.2.2 (by omega) s i2
    rw [ap p hp (by omega) s i2]
    refine pk_eq (V p s) 0 (fun e => H (by omega) _ _ _ _ _ _ _ _ _ ?_) (fun e => H (by omega) _ _ _ _ _ _ _ _ _ ?_)
    · rw [cp_s3 e3, if_pos e]
      exact ⟨b1, b2, b3, b4, rfl, fun z => absurd z cp_n2, rfl, hm⟩
    · rw [cp_s3 e3, if_neg e]
      exact ⟨b1, b2, b3, b4, rfl, rsp, rfl, hm⟩
  · have hV4 := (D p).2.2.2 (by omega) s i2
    have hl3 := kin (Or.inl e4)
    have hO1 := cp_O_in (K := K) (p := p) (Or.inl e4)
    obtain ⟨t1, t2, t3, t4, _⟩ := T.1 p hpM (Or.inl e4)
    rw [ap p hp (by omega) s i2]
    unfold wpY_choose
    refine pk_eq (V p s) 0 (fun e => ?_) (fun e => ?_)
    · by_cases hF : F p = 0
      · refine yf_find (K := K) (i := p) (e := E p) (oe := True) rfl (by decide) hc ak hK8 hlen (by omega) (tg_else0 T hpM e4 hF) hO1 ?_
        refine yg_beh (e := E p) rfl hc ?_
        have fin : cp_RY K c (cp_step K A N E F B V (cp_rd row) p s r g 1 L z).1 (cp_step K A N E F B V (cp_rd row) p s r g 1 L z).2.1 (cp_step K A N E F B V (cp_rd row) p s r g 1 L z).2.2.1 (cp_step K A N E F B V (cp_rd row) p s r g 1 L z).2.2.2.1 (cp_step K A N E F B V (cp_rd row) p s r g 1 L z).2.2.2.2.1 (cp_step K A N E F B V (cp_rd row) p s r g 1 L z).2.2.2.2.2.1 (cp_step K A N E F B V (cp_rd row) p s r g 1 L z).2.2.2.2.2.2 (nI (if E p + 1 < c then E p + 1 else c)) ydepth ybegins yleft (nI s) ysteps yproduct 1 (upd ymet p (ymet p + 1)) := by
          rw [cp_s4 e4, if_pos e, if_pos hF]
          have hO' : cp_O K (E p + 1) = cp_O K p := by rw [cp_O_end t3, t4, List.tail_cons]
          exact ⟨rfl, by show _ = nI (cp_O K (E p + 1)).length; rw [hO']; exact rd, by show cp_hl _ (cp_O K (E p + 1)); rw [hO']; exact rh, by show cp_ll _ _ _ (cp_O K (E p + 1)); rw [hO']; exact rl, rfl, rsp, rfl, hm⟩
        by_cases hEc : E p < c
        · rw [if_pos hEc]
          refine br_f (nI_ge hEc (by omega)) ⟨vp_in_nI (by omega) (by omega), ?_⟩
          rw [nI_clamp (by omega), ak _ hEc, t3]
          exact br_f (by decide) (H (by omega) _ _ _ _ _ _ _ _ _ fin)
        · rw [if_neg hEc]
          exact br_t (nI_le (Nat.le_refl _) (by omega)) (H (by omega) _ _ _ _ _ _ _ _ _ fin)
      · obtain ⟨f1, f2, f3, f4⟩ := T.2.2.2.1 p hpM e4 hF
        have hFc : F p < c := by
          by_cases h : F p < c
          · exact h
          · have := W.2.1 (F p) (by omega)
            omega
        refine yf_find (K := K) (i := p) (e := F p) (oe := True) rfl (by decide) hc ak hK8 hlen (by omega) (tg_else1 T hpM e4 hF) hO1 ?_
        refine yg_beh (e := F p) rfl hc ?_
        rw [if_pos hFc]
        refine br_f (nI_ge hFc (by omega)) ⟨vp_in_nI (by omega) (by omega), ?_⟩
        rw [nI_clamp (by omega), ak _ hFc, f3]
        refine br_t rfl (ye_in (d := (cp_O K p).length) rd (by omega) (H (by omega) _ _ _ _ _ _ _ _ _ ?_))
        rw [cp_s4 e4, if_pos e, if_neg hF]
        obtain ⟨b1, b2, b3⟩ := hpush 1 L (F p + 1) (by rw [cp_O_st (by omega) (by omega) (by omega), f4]) (fun _ _ => rfl) (fun h => by omega)
        exact ⟨rfl, b1, b2, b3, rfl, rsp, rfl, hm⟩
    · refine ye_in (d := (cp_O K p).length) rd (by omega) (H (by omega) _ _ _ _ _ _ _ _ _ ?_)
      rw [cp_s4 e4, if_neg e]
      obtain ⟨b1, b2, b3⟩ := hpush 1 L (p + 1) hO1 (fun _ _ => rfl) (fun h => by omega)
      exact ⟨by show _ = nI (if p + 1 < c then p + 1 else c); rw [hnx], b1, b2, b3, rfl, rsp, rfl, hm⟩
  · have hO := T.2.1 p hpM (Or.inl e5)
    obtain ⟨_, hb, hkb⟩ := cp_O_head hO
    obtain ⟨t1, t2, t3, t4, t5⟩ := T.1 (B p) (by omega) hkb
    have hpE : p < E (B p) := by
      by_cases h : p < E (B p)
      · exact h
      · by_cases h2 : p = E (B p)
        · rw [← h2] at t3; omega
        · exact absurd (by rw [hO]; exact List.mem_cons_self ..) (cp_gone t3 t4 (show E (B p) < p by omega))
    refine yf_find (K := K) (i := p) (e := E (B p)) (oe := False) rfl (by decide) hc ak hK8 hlen (by omega) (tg_end T (by omega) hkb (by omega) (by omega)) (by rw [cp_O_st (by omega) (by omega) (by omega), hO]) (H5 e5 _ _ ?_)
    exact ⟨rfl, by rw [t4, ← hO]; exact rd, by rw [t4, ← hO]; exact rh, by rw [t4, ← hO]; exact rl, rfl, rsp, rfl, hm⟩
  · have hl3 := kin (Or.inr e6)
    have hO1 := cp_O_in (K := K) (p := p) (Or.inr e6)
    refine ⟨vpp, ?_⟩
    rw [hcp, an p hp (Or.inr e6)]
    refine ye_in (d := (cp_O K p).length) rd (by omega) (H (by omega) _ _ _ _ _ _ _ _ _ ?_)
    rw [cp_s6 e6]
    obtain ⟨b1, b2, b3⟩ := hpush (nI (N p)) (upd L p (nI (N p))) (p + 1) hO1 (fun a ha => pk_un (by have := (cp_O_mem ha).2.1; omega)) (fun _ => by rw [pk_us])
    exact ⟨by show _ = nI (if p + 1 < c then p + 1 else c); rw [hnx], b1, b2, b3, rfl, rsp, rfl, hm⟩
  · obtain ⟨l, hO, hk6, hl6⟩ := T.2.2.1 p hpM e7
    have hmem : ∀ y, y ∈ cp_O K p → y < 24 ∧ ykinds y = nI (K y) ∧ K y < 9 := fun y hy => by
      have h1 := (cp_O_mem hy).2.1
      have h2 := hK8 y (by omega)
      exact ⟨by omega, ak y (by omega), by omega⟩
    have hbp : B p < p := (cp_O_mem (show B p ∈ cp_O K p by rw [hO]; exact List.mem_append_right _ (List.mem_cons_self ..))).2.1
    obtain ⟨t1, t2, t3, t4, t5⟩ := T.1 (B p) (by omega) (Or.inr hk6)
    have hlp := hlen p
    have hlb : (cp_O K (B p)).length < 3 := by rw [hO, List.length_append, List.length_cons] at hlp; omega
    have hh2 : cp_hl ybegins (B p :: cp_O K (B p)) := hl_app (l := l) (by rw [← hO]; exact rh)
    have hl2 : cp_ll K L yleft (B p :: cp_O K (B p)) := ll_app (l := l) (by rw [← hO]; exact rl)
    have hO' : cp_O K (E (B p) + 1) = cp_O K (B p) := by rw [cp_O_end t3, t4, List.tail_cons]
    unfold wpY_breakOff
    refine ⟨5, ?_⟩
    rw [rd, hO]
    refine yk_loop (K := K) hk6 hlb ?_ l 5 (by rw [← hO]; exact rh) hl6 (by rw [← hO]; exact hmem) (by rw [← hO]; exact hlp) (by rw [hO, List.length_append, List.length_cons] at hlp; omega)
    unfold wY_breakOff_51
    refine ⟨vp_in_nI (by omega) (by omega), ?_⟩
    rw [nI_clamp (by omega), hh2.1]
    refine yf_find (K := K) (i := B p) (e := E (B p)) (oe := False) rfl (by decide) hc ak hK8 hlen (by omega) (tg_end T (by omega) (Or.inr hk6) (by omega) (by omega)) (cp_O_in (Or.inr hk6)) ?_
    refine yg_beh (e := E (B p)) rfl hc (H (by omega) _ _ _ _ _ _ _ _ _ ?_)
    rw [cp_s57 (Or.inr e7)]
    exact ⟨rfl, by show _ = nI (cp_O K (E (B p) + 1)).length; rw [hO'], by show cp_hl _ (cp_O K (E (B p) + 1)); rw [hO']; exact hh2.2, by show cp_ll _ _ _ (cp_O K (E (B p) + 1)); rw [hO']; exact hl2.2, rfl, rsp, rfl, hm⟩
  · have h8 : K p = 8 := by omega
    refine ys_end (p := p) (z := z) (dg := cp_rd row) G0 ak I0 hpM h8 (by rw [hnx]) rd rh rl rfl ⟨rsp1, rsp2⟩ rfl (fun j hj h => ?_) fun pl dp lf hR => H (by omega) _ _ _ _ _ _ _ _ _ hR
    rw [pk_un (fun e => h (by rw [e]; exact h8))]
    exact rm j hj h
end
