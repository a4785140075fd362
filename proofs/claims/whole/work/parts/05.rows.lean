/-! rows of outcomes: what a row's run looks at, and that all weights come to no more than 16 to the sixth -/
def cp_sm (f : Nat → Nat) : Nat → Nat
  | 0 => 0
  | n + 1 => cp_sm f n + f n
theorem cp_sm_add (f : Nat → Nat) (a : Nat) : ∀ b, cp_sm f (a + b) = cp_sm f a + cp_sm (fun i => f (a + i)) b := by
  intro b
  induction b with
  | zero => rfl
  | succ b ih =>
    show cp_sm f (a + b) + f (a + b) = _
    rw [ih]
    simp only [cp_sm]
    omega
theorem cp_sm_congr {f f' : Nat → Nat} : ∀ n, (∀ i, i < n → f i = f' i) → cp_sm f n = cp_sm f' n := by
  intro n
  induction n with
  | zero => intro _; rfl
  | succ n ih =>
    intro h
    simp only [cp_sm]
    rw [ih fun i hi => h i (by omega), h n (by omega)]
theorem cp_sm_0 : ∀ n, cp_sm (fun _ => 0) n = 0 := by
  intro n
  induction n with
  | zero => rfl
  | succ n ih => simp only [cp_sm, ih]
theorem cp_sm_4 (f : Nat → Nat) (b : Nat) : cp_sm f (4 * b) = cp_sm (fun i => f (0 * b + i)) b + cp_sm (fun i => f (1 * b + i)) b + cp_sm (fun i => f (2 * b + i)) b + cp_sm (fun i => f (3 * b + i)) b := by
  rw [show 4 * b = 3 * b + b from by omega, cp_sm_add, show 3 * b = 2 * b + b from by omega, cp_sm_add, show 2 * b = 1 * b + b from by omega, cp_sm_add]
  simp only [Nat.one_mul, Nat.zero_mul, Nat.zero_add]
def cp_rd (row j : Nat) : Nat := row / 4 ^ (5 - j) % 4
theorem cp_rd_lt (row j : Nat) : cp_rd row j < 4 := Nat.mod_lt _ (by omega)
def cp_wt (q : cp_S) (row : Nat) : Nat := if q.2.2.2.2.1 = 1 ∧ row % 4 ^ (6 - q.2.2.1) = 0 then 16 ^ (6 - q.2.2.1) * q.2.2.2.1 else 0
theorem cp_p4 (n : Nat) : 0 < 4 ^ n := Nat.pow_pos (by omega)
theorem cp_one {P : Prop} [Decidable P] (k B W : Nat) : ∀ n, n ≤ B → cp_sm (fun i => if P ∧ (k * B + i) % B = 0 then W else 0) n ≤ W := by
  intro n
  have h : n ≤ B → cp_sm (fun i => if P ∧ (k * B + i) % B = 0 then W else 0) n ≤ if n = 0 then 0 else W := by
    induction n with
    | zero => intro _; exact Nat.le_refl _
    | succ n ih =>
      intro hn
      have h1 := ih (by omega)
      have h2 : (k * B + n) % B = n := by
        rw [Nat.add_comm, Nat.mul_comm, Nat.add_mul_mod_self_left, Nat.mod_eq_of_lt (by omega)]
      simp only [cp_sm]
      rw [h2, if_neg (show ¬ n + 1 = 0 by omega)]
      by_cases h0 : n = 0
      · rw [if_pos h0] at h1
        have : (if P ∧ n = 0 then W else 0) ≤ W := by split <;> omega
        omega
      · rw [if_neg h0] at h1
        rw [if_neg (fun z => h0 z.2)]
        omega
  intro hn
  have h1 := h hn
  have : (if n = 0 then 0 else W) ≤ W := by split <;> omega
  omega
section
variable {K A N E F B : Nat → Nat} {V : Nat → Nat → Nat} {M c : Nat}
theorem cp_mr_stop {dg : Nat → Nat} {q : cp_S} (h : ¬ (q.1 < M ∧ q.2.2.2.2.1 = 1)) : ∀ n, cp_mr K A N E F B V M dg n q = q := by
  intro n
  cases n with
  | zero => rfl
  | succ n => rw [cp_mr, if_neg h]
theorem cp_mr_go {dg : Nat → Nat} {q : cp_S} (h : q.1 < M ∧ q.2.2.2.2.1 = 1) (n : Nat) : cp_mr K A N E F B V M dg (n + 1) q = cp_mr K A N E F B V M dg n (cp_step K A N E F B V dg q.1 q.2.1 q.2.2.1 q.2.2.2.1 q.2.2.2.2.1 q.2.2.2.2.2.1 q.2.2.2.2.2.2) := by
  rw [cp_mr, if_pos h]
theorem cp_mr_r (dg : Nat → Nat) : ∀ n (q : cp_S), q.2.2.1 ≤ (cp_mr K A N E F B V M dg n q).2.2.1 := by
  intro n
  induction n with
  | zero => intro q; exact Nat.le_refl _
  | succ n ih =>
    intro q
    by_cases h : q.1 < M ∧ q.2.2.2.2.1 = 1
    · rw [cp_mr_go h]
      exact Nat.le_trans cp_step_r (ih _)
    · rw [cp_mr_stop h]
      exact Nat.le_refl _
theorem cp_pre {dg dg' : Nat → Nat} : ∀ n (q : cp_S), (∀ j, q.2.2.1 ≤ j → j < (cp_mr K A N E F B V M dg n q).2.2.1 → dg j = dg' j) → cp_mr K A N E F B V M dg' n q = cp_mr K A N E F B V M dg n q := by
  intro n
  induction n with
  | zero => intro q _; rfl
  | succ n ih =>
    intro q hq
    by_cases h : q.1 < M ∧ q.2.2.2.2.1 = 1
    · rw [cp_mr_go h] at hq ⊢
      rw [cp_mr_go h]
      have hs : cp_step K A N E F B V dg' q.1 q.2.1 q.2.2.1 q.2.2.2.1 q.2.2.2.2.1 q.2.2.2.2.2.1 q.2.2.2.2.2.2 = cp_step K A N E F B V dg q.1 q.2.1 q.2.2.1 q.2.2.2.1 q.2.2.2.2.1 q.2.2.2.2.2.1 q.2.2.2.2.2.2 := by
        refine cp_step_dg fun hR h6 => hq _ (Nat.le_refl _) ?_
        have h1 := cp_mr_r (K := K) (A := A) (N := N) (E := E) (F := F) (B := B) (V := V) (M := M) dg n (cp_step K A N E F B V dg q.1 q.2.1 q.2.2.1 q.2.2.2.1 q.2.2.2.2.1 q.2.2.2.2.2.1 q.2.2.2.2.2.2)
        rw [cp_step_rr hR h6] at h1
        omega
      rw [hs]
      refine ih _ fun j hj1 hj2 => hq j (Nat.le_trans cp_step_r hj1) hj2
    · rw [cp_mr_stop h, cp_mr_stop h]
theorem cp_kraft (D : cp_dat K A N V) : ∀ n (q : cp_S) k, q.2.2.1 ≤ 6 →
    cp_sm (fun i => cp_wt (cp_mr K A N E F B V M (cp_rd (k * 4 ^ (6 - q.2.2.1) + i)) n q) (k * 4 ^ (6 - q.2.2.1) + i)) (4 ^ (6 - q.2.2.1)) ≤ 16 ^ (6 - q.2.2.1) * q.2.2.2.1 := by
  have stop : ∀ (q : cp_S) k, cp_sm (fun i => cp_wt q (k * 4 ^ (6 - q.2.2.1) + i)) (4 ^ (6 - q.2.2.1)) ≤ 16 ^ (6 - q.2.2.1) * q.2.2.2.1 := fun q k => by
    unfold cp_wt
    exact cp_one k (4 ^ (6 - q.2.2.1)) _ _ (Nat.le_refl _)
  intro n
  induction n with
  | zero => intro q k _; exact stop q k
  | succ n ih =>
    intro q k hr
    by_cases h : q.1 < M ∧ q.2.2.2.2.1 = 1
    · obtain ⟨p, s, r, g, e, L, z⟩ := q
      dsimp only at h hr ⊢
      by_cases hR : (K p = 1 ∨ K p = 2) ∧ r ≠ 6
      · obtain ⟨m, hm⟩ : ∃ m, 6 - r = m + 1 := ⟨5 - r, by omega⟩
        have h5 : 5 - r = m := by omega
        have h5' : 6 - (r + 1) = m := by omega
        have part : ∀ o, o < 4 → cp_sm (fun i => cp_wt (cp_mr K A N E F B V M (cp_rd (k * 4 ^ (m + 1) + (o * 4 ^ m + i))) (n + 1) (p, s, r, g, e, L, z)) (k * 4 ^ (m + 1) + (o * 4 ^ m + i))) (4 ^ m) ≤ 16 ^ m * (g * cp_ow K N p o) := by
          intro o ho
          have hrow : ∀ i, k * 4 ^ (m + 1) + (o * 4 ^ m + i) = (4 * k + o) * 4 ^ m + i := fun i => by
            rw [Nat.pow_succ, Nat.add_mul, Nat.mul_comm 4 k, Nat.mul_assoc, Nat.mul_comm (4 ^ m) 4]
            omega
          have hdig : ∀ i, i < 4 ^ m → cp_rd ((4 * k + o) * 4 ^ m + i) r = o := fun i hi => by
            unfold cp_rd
            rw [h5, Nat.add_comm, Nat.mul_comm, Nat.add_mul_div_left _ _ (cp_p4 m), Nat.div_eq_of_lt hi]
            omega
          have hstep : ∀ i, i < 4 ^ m → cp_mr K A N E F B V M (cp_rd (k * 4 ^ (m + 1) + (o * 4 ^ m + i))) (n + 1) (p, s, r, g, e, L, z) = cp_mr K A N E F B V M (cp_rd ((4 * k + o) * 4 ^ m + i)) n (cp_step K A N E F B V (fun _ => o) p s r g e L z) := fun i hi => by
            rw [hrow i, cp_mr_go h]
            exact congrArg _ (cp_step_dg fun _ _ => (hdig i hi).symm)
          rw [cp_sm_congr (4 ^ m) (f' := fun i => cp_wt (cp_mr K A N E F B V M (cp_rd ((4 * k + o) * 4 ^ m + i)) n (cp_step K A N E F B V (fun _ => o) p s r g e L z)) ((4 * k + o) * 4 ^ m + i)) fun i hi => by
            rw [hstep i hi, hrow i]]
          rw [cp_sR hR.1, if_neg hR.2]
          by_cases hw : cp_ow K N p o = 0
          · rw [if_pos hw]
            rw [cp_sm_congr (4 ^ m) (f' := fun _ => 0) fun i _ => by
              rw [cp_mr_stop (fun z => absurd z.2 (show ¬ (-4 : Int32) = 1 by decide))]
              unfold cp_wt
              rw [if_neg (fun z => absurd z.1 (show ¬ (-4 : Int32) = 1 by decide))]]
            rw [cp_sm_0]
            exact Nat.zero_le _
          · rw [if_neg hw]
            have := ih (p + 1, cp_asg (A p) o s, r + 1, g * cp_ow K N p o, e, L, upd z p (z p + 1)) (4 * k + o) (by show r + 1 ≤ 6; omega)
            dsimp only at this
            rw [h5'] at this
            exact this
        rw [hm, show 4 ^ (m + 1) = 4 * 4 ^ m from by rw [Nat.pow_succ, Nat.mul_comm], cp_sm_4]
        have e4 : 4 * 4 ^ m = 4 ^ (m + 1) := by rw [Nat.pow_succ, Nat.mul_comm]
        rw [e4]
        have p0 := part 0 (by omega)
        have p1 := part 1 (by omega)
        have p2 := part 2 (by omega)
        have p3 := part 3 (by omega)
        have hsum := cp_ow_sum D hR.1
        have hb : 16 ^ m * (g * cp_ow K N p 0) + 16 ^ m * (g * cp_ow K N p 1) + 16 ^ m * (g * cp_ow K N p 2) + 16 ^ m * (g * cp_ow K N p 3) ≤ 16 ^ (m + 1) * g := by
          rw [← Nat.mul_add, ← Nat.mul_add, ← Nat.mul_add, ← Nat.mul_add, ← Nat.mul_add, ← Nat.mul_add, Nat.pow_succ, Nat.mul_assoc, Nat.mul_comm 16 g]
          exact Nat.mul_le_mul_left _ (Nat.mul_le_mul_left _ hsum)
        omega
      · have hdet := cp_step_det (K := K) (A := A) (N := N) (E := E) (F := F) (B := B) (V := V) (dg := fun _ => 0) (s := s) (g := g) (e := e) (L := L) (z := z) hR
        rw [cp_sm_congr (4 ^ (6 - r)) (f' := fun i => cp_wt (cp_mr K A N E F B V M (cp_rd (k * 4 ^ (6 - r) + i)) n (cp_step K A N E F B V (fun _ => 0) p s r g e L z)) (k * 4 ^ (6 - r) + i)) fun i _ => by
          rw [cp_mr_go h]
          exact congrArg (fun y => cp_wt (cp_mr K A N E F B V M (cp_rd (k * 4 ^ (6 - r) + i)) n y) (k * 4 ^ (6 - r) + i)) (cp_step_dg fun a b => absurd ⟨a, b⟩ hR)]
        have := ih (cp_step K A N E F B V (fun _ => 0) p s r g e L z) k (by rw [hdet.1]; exact hr)
        rw [hdet.1, hdet.2] at this
        exact this
    · have := stop q k
      rw [cp_sm_congr (4 ^ (6 - q.2.2.1)) (f' := fun i => cp_wt q (k * 4 ^ (6 - q.2.2.1) + i)) fun i _ => by
        rw [cp_mr_stop h]]
      exact this
end
/-! the tally over the rows -/
def cp_i0 : cp_S := (0, 0, 0, 1, 1, fun _ => 0, fun _ => 0)
def cp_fin (K A N E F B : Nat → Nat) (V : Nat → Nat → Nat) (M row : Nat) : cp_S := cp_mr K A N E F B V M (cp_rd row) 1000 cp_i0
abbrev cp_cnt (q : cp_S) (row : Nat) : Prop := q.2.2.2.2.1 = 1 ∧ row % 4 ^ (6 - q.2.2.1) = 0
def cp_Sm (R : Nat → cp_S) : Nat → Nat → Nat
  | 0, _ => 0
  | n + 1, s => cp_Sm R n s + (if (R n).2.1 = s then cp_wt (R n) n else 0)
def cp_Vm (R : Nat → cp_S) : Nat → Nat → Int64
  | 0, _ => 0
  | n + 1, i => if cp_cnt (R n) n then cp_Vm R n i + (nI (cp_wt (R n) n)).toInt64 * ((R n).2.2.2.2.2.2 i).toInt64 else cp_Vm R n i
def cp_Bm (R : Nat → cp_S) : Nat → Nat × Nat × Nat
  | 0 => (0, 0, 0)
  | n + 1 => if (cp_Bm R n).1 < cp_wt (R n) n then (cp_wt (R n) n, n, (R n).2.2.1) else cp_Bm R n
theorem cp_wt_cnt {q : cp_S} {row : Nat} (h : cp_cnt q row) : cp_wt q row = 16 ^ (6 - q.2.2.1) * q.2.2.2.1 := if_pos h
theorem cp_wt_not {q : cp_S} {row : Nat} (h : ¬ cp_cnt q row) : cp_wt q row = 0 := if_neg h
theorem cp_Vm_cnt {R : Nat → cp_S} {n i : Nat} (h : cp_cnt (R n) n) : cp_Vm R (n + 1) i = cp_Vm R n i + (nI (cp_wt (R n) n)).toInt64 * ((R n).2.2.2.2.2.2 i).toInt64 := by
  rw [cp_Vm, if_pos h]
theorem cp_Vm_not {R : Nat → cp_S} {n i : Nat} (h : ¬ cp_cnt (R n) n) : cp_Vm R (n + 1) i = cp_Vm R n i := by
  rw [cp_Vm, if_neg h]
theorem cp_Sm_not {R : Nat → cp_S} {n : Nat} (h : ¬ cp_cnt (R n) n) (s : Nat) : cp_Sm R (n + 1) s = cp_Sm R n s := by
  rw [cp_Sm, cp_wt_not h]
  split <;> rfl
theorem cp_Bm_not {R : Nat → cp_S} {n : Nat} (h : ¬ cp_cnt (R n) n) : cp_Bm R (n + 1) = cp_Bm R n := by
  rw [cp_Bm, cp_wt_not h, if_neg (by omega)]
theorem cp_skip {R : Nat → cp_S} {c : Nat} : ∀ d, (∀ a, c ≤ a → a < c + d → ¬ cp_cnt (R a) a) → cp_Sm R (c + d) = cp_Sm R c ∧ cp_Vm R (c + d) = cp_Vm R c ∧ cp_Bm R (c + d) = cp_Bm R c := by
  intro d
  induction d with
  | zero => intro _; exact ⟨rfl, rfl, rfl⟩
  | succ d ih =>
    intro h
    obtain ⟨h1, h2, h3⟩ := ih fun a ha hb => h a ha (by omega)
    have hn := h (c + d) (by omega) (by omega)
    refine ⟨funext fun s => ?_, funext fun s => ?_, ?_⟩
    · show cp_Sm R (c + d + 1) s = _
      rw [cp_Sm_not hn, h1]
    · show cp_Vm R (c + d + 1) s = _
      rw [cp_Vm_not hn, h2]
    · show cp_Bm R (c + d + 1) = _
      rw [cp_Bm_not hn, h3]
/-- the sum over all states of what they got is the sum of the weights -/
theorem cp_sm_ite (y w : Nat) : ∀ n, cp_sm (fun s => if y = s then w else 0) n = if y < n then w else 0 := by
  intro n
  induction n with
  | zero => rfl
  | succ n ih =>
    simp only [cp_sm]
    rw [ih]
    by_cases h : y < n
    · rw [if_pos h, if_neg (by omega), if_pos (by omega), Nat.add_zero]
    · rw [if_neg h]
      by_cases h2 : y = n
      · rw [if_pos h2, if_pos (by omega)]; omega
      · rw [if_neg h2, if_neg (by omega)]
theorem cp_sm_plus (f f' : Nat → Nat) : ∀ n, cp_sm (fun i => f i + f' i) n = cp_sm f n + cp_sm f' n := by
  intro n
  induction n with
  | zero => rfl
  | succ n ih =>
    simp only [cp_sm]
    rw [ih]
    omega
theorem cp_Sm_tot {R : Nat → cp_S} : ∀ n, cp_sm (cp_Sm R n) 64 ≤ cp_sm (fun a => cp_wt (R a) a) n := by
  intro n
  induction n with
  | zero => exact Nat.le_of_eq (cp_sm_0 64)
  | succ n ih =>
    have : cp_Sm R (n + 1) = fun s => cp_Sm R n s + (fun s => if (R n).2.1 = s then cp_wt (R n) n else 0) s := rfl
    rw [this, cp_sm_plus, cp_sm_ite]
    show _ ≤ cp_sm (fun a => cp_wt (R a) a) n + cp_wt (R n) n
    split <;> omega
theorem cp_sm_mono (f : Nat → Nat) : ∀ d n, cp_sm f n ≤ cp_sm f (n + d) := by
  intro d
  induction d with
  | zero => intro n; exact Nat.le_refl _
  | succ d ih =>
    intro n
    have := ih n
    show _ ≤ cp_sm f (n + d) + f (n + d)
    omega
theorem cp_sm_ge (f : Nat → Nat) {i n : Nat} (h : i < n) : f i ≤ cp_sm f n := by
  obtain ⟨d, rfl⟩ : ∃ d, n = i + 1 + d := ⟨n - (i + 1), by omega⟩
  have := cp_sm_mono f d (i + 1)
  have h2 : cp_sm f (i + 1) = cp_sm f i + f i := rfl
  omega
section
variable {K A N E F B : Nat → Nat} {V : Nat → Nat → Nat} {M c : Nat}
/-- in all no more than 16 to the sixth -/
theorem cp_all (D : cp_dat K A N V) {n : Nat} (hn : n ≤ 4096) : cp_sm (cp_Sm (cp_fin K A N E F B V M) n) 64 ≤ 16777216 := by
  refine Nat.le_trans (cp_Sm_tot n) ?_
  obtain ⟨d, hd⟩ : ∃ d, 4096 = n + d := ⟨4096 - n, by omega⟩
  refine Nat.le_trans (cp_sm_mono _ d n) ?_
  rw [← hd]
  have h := cp_kraft (E := E) (F := F) (B := B) (M := M) D 1000 cp_i0 0 (Nat.zero_le _)
  have e : (fun i => cp_wt (cp_mr K A N E F B V M (cp_rd (0 * 4 ^ (6 - cp_i0.2.2.1) + i)) 1000 cp_i0) (0 * 4 ^ (6 - cp_i0.2.2.1) + i)) = fun a => cp_wt (cp_fin K A N E F B V M a) a := by
    funext i
    rw [Nat.zero_mul, Nat.zero_add]
    rfl
  rw [e] at h
  exact h
theorem cp_same {a b : Nat} (h : a / 4 ^ (6 - (cp_fin K A N E F B V M a).2.2.1) = b / 4 ^ (6 - (cp_fin K A N E F B V M a).2.2.1)) (hr : (cp_fin K A N E F B V M a).2.2.1 ≤ 6) : cp_fin K A N E F B V M b = cp_fin K A N E F B V M a := by
  unfold cp_fin at *
  refine cp_pre 1000 cp_i0 fun j _ hj => ?_
  generalize (cp_mr K A N E F B V M (cp_rd a) 1000 cp_i0).2.2.1 = r at *
  have e : 4 ^ (5 - j) = 4 ^ (6 - r) * 4 ^ (r - 1 - j) := by
    rw [← Nat.pow_add]
    exact congrArg _ (by omega)
  unfold cp_rd
  rw [e, ← Nat.div_div_eq_div_mul, ← Nat.div_div_eq_div_mul, h]
/-- the head of a block of rows: all rows before it lie in blocks before it -/
def cp_hd (R : Nat → cp_S) (c : Nat) : Prop := ∀ a, a < c → (a / 4 ^ (6 - (R a).2.2.1) + 1) * 4 ^ (6 - (R a).2.2.1) ≤ c
theorem cp_hd_next {a : Nat} (hr : ∀ a, (cp_fin K A N E F B V M a).2.2.1 ≤ 6) (H : cp_hd (cp_fin K A N E F B V M) a) :
    a % 4 ^ (6 - (cp_fin K A N E F B V M a).2.2.1) = 0 ∧ cp_hd (cp_fin K A N E F B V M) (a + 4 ^ (6 - (cp_fin K A N E F B V M a).2.2.1)) ∧
    ∀ b, a + 1 ≤ b → b < a + 4 ^ (6 - (cp_fin K A N E F B V M a).2.2.1) → ¬ cp_cnt (cp_fin K A N E F B V M b) b := by
  have hB := cp_p4 (6 - (cp_fin K A N E F B V M a).2.2.1)
  have hS : ∀ b, a / 4 ^ (6 - (cp_fin K A N E F B V M a).2.2.1) = b / 4 ^ (6 - (cp_fin K A N E F B V M a).2.2.1) → cp_fin K A N E F B V M b = cp_fin K A N E F B V M a := fun b h => cp_same h (hr a)
  generalize hr' : cp_fin K A N E F B V M a = q at *
  generalize hQ : 4 ^ (6 - q.2.2.1) = Q at *
  have h0 : a % Q = 0 := by
    by_cases h0 : a % Q = 0
    · exact h0
    · have hdm := Nat.div_add_mod a Q
      have h1 : a / Q * Q < a := by rw [Nat.mul_comm]; omega
      have h2 : a / Q * Q / Q = a / Q := Nat.mul_div_cancel _ hB
      have h3 := H (a / Q * Q) h1
      rw [hS (a / Q * Q) h2.symm, hQ, h2, Nat.add_mul, Nat.one_mul, Nat.mul_comm] at h3
      have := Nat.mod_lt a hB
      omega
  have hdm := Nat.div_add_mod a Q
  have hin : ∀ b, a ≤ b → b < a + Q → b / Q = a / Q := fun b h1 h2 => by
    obtain ⟨d, rfl⟩ : ∃ d, b = a + d := ⟨b - a, by omega⟩
    rw [show a + d = d + Q * (a / Q) from by omega, Nat.add_mul_div_left _ _ hB, Nat.div_eq_of_lt (by omega), Nat.zero_add]
  refine ⟨h0, fun b hb => ?_, fun b h1 h2 => ?_⟩
  · by_cases h : b < a
    · exact Nat.le_trans (H b h) (by omega)
    · rw [hS b (hin b (by omega) hb).symm, hQ, hin b (by omega) hb, Nat.add_mul, Nat.one_mul, Nat.mul_comm]
      omega
  · intro z
    have h3 := z.2
    rw [hS b (hin b (by omega) h2).symm, hQ] at h3
    have h4 := hin b (by omega) h2
    have h5 := Nat.div_add_mod b Q
    rw [h4] at h5
    omega
end
/-! a run comes to its end -/
def cp_ev (e : Int32) : Prop := e = 1 ∨ e = -2 ∨ e = -3 ∨ e = -4
section
variable {K A N E F B : Nat → Nat} {V : Nat → Nat → Nat} {M c : Nat} {dg : Nat → Nat}
theorem cp_step_e {p s r g : Nat} {e : Int32} {L z : Nat → Int32} (h : cp_ev e) : cp_ev (cp_step K A N E F B V dg p s r g e L z).2.2.2.2.1 := by
  unfold cp_step
  repeat' split
  all_goals first | exact h | exact Or.inr (Or.inl rfl) | exact Or.inr (Or.inr (Or.inl rfl)) | exact Or.inr (Or.inr (Or.inr rfl))
theorem cp_runI (G : cp_G K A N E F B V M c) (hd : ∀ j, dg j < 4) : ∀ n x (q : cp_S), cp_I K M x q.1 q.2.1 q.2.2.1 q.2.2.2.1 q.2.2.2.2.2.1 → cp_ev q.2.2.2.2.1 → cp_mu K x q.1 ≤ n →
    (∃ x', cp_I K M x' (cp_mr K A N E F B V M dg n q).1 (cp_mr K A N E F B V M dg n q).2.1 (cp_mr K A N E F B V M dg n q).2.2.1 (cp_mr K A N E F B V M dg n q).2.2.2.1 (cp_mr K A N E F B V M dg n q).2.2.2.2.2.1) ∧
    cp_ev (cp_mr K A N E F B V M dg n q).2.2.2.2.1 ∧ ¬ ((cp_mr K A N E F B V M dg n q).1 < M ∧ (cp_mr K A N E F B V M dg n q).2.2.2.2.1 = 1) := by
  have hM : M ≤ 27 := by rw [G.2.1]; exact (cp_M_le G.1).2
  intro n
  induction n with
  | zero =>
    intro x q I he hmu
    refine ⟨⟨x, I⟩, he, fun h => ?_⟩
    obtain ⟨x', I', ht⟩ := cp_adv (e := q.2.2.2.2.1) (z := q.2.2.2.2.2.2) G hd I h.1
    have := cp_mu_lt I'.2.2.2.2.1 (by have := I'.1; omega) ht
    omega
  | succ n ih =>
    intro x q I he hmu
    by_cases h : q.1 < M ∧ q.2.2.2.2.1 = 1
    · rw [cp_mr_go h]
      obtain ⟨x', I', ht⟩ := cp_adv (e := q.2.2.2.2.1) (z := q.2.2.2.2.2.2) G hd I h.1
      have := cp_mu_lt I'.2.2.2.2.1 (by have := I'.1; omega) ht
      exact ih x' _ I' (cp_step_e he) (by omega)
    · rw [cp_mr_stop h]
      exact ⟨⟨x, I⟩, he, h⟩
theorem cp_I0 (G : cp_G K A N E F B V M c) (L : Nat → Int32) : cp_I K M 0 0 0 0 1 L :=
  ⟨Nat.zero_le _, by omega, by omega, by omega, by omega, fun b hb => absurd hb (by rw [cp_O]; exact List.not_mem_nil)⟩
theorem cp_finI (G : cp_G K A N E F B V M c) (row : Nat) :
    (cp_fin K A N E F B V M row).1 ≤ M ∧ (cp_fin K A N E F B V M row).2.1 < 64 ∧ (cp_fin K A N E F B V M row).2.2.1 ≤ 6 ∧ (cp_fin K A N E F B V M row).2.2.2.1 ≤ 16 ^ (cp_fin K A N E F B V M row).2.2.1 ∧
    cp_ev (cp_fin K A N E F B V M row).2.2.2.2.1 ∧ ¬ ((cp_fin K A N E F B V M row).1 < M ∧ (cp_fin K A N E F B V M row).2.2.2.2.1 = 1) := by
  obtain ⟨⟨x, I⟩, he, hs⟩ := cp_runI G (cp_rd_lt row) 1000 0 cp_i0 (cp_I0 G _) (Or.inl rfl) (Nat.le_trans (cp_mu_bd _ _ _) (by omega))
  exact ⟨I.1, I.2.1, I.2.2.1, I.2.2.2.1, he, hs⟩
theorem cp_wt_le {q : cp_S} (hr : q.2.2.1 ≤ 6) (hg : q.2.2.2.1 ≤ 16 ^ q.2.2.1) : 16 ^ (6 - q.2.2.1) * q.2.2.2.1 ≤ 16777216 := by
  refine Nat.le_trans (Nat.mul_le_mul_left _ hg) ?_
  rw [← Nat.pow_add, show 6 - q.2.2.1 + q.2.2.1 = 6 from by omega]
  omega
end
