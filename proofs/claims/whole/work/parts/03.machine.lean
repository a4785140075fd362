/-! the machine that both sides walk: place p, values s, random steps r, product g, ending e, rounds left L, visits z -/
abbrev cp_S : Type := Nat × Nat × Nat × Nat × Int32 × (Nat → Int32) × (Nat → Int32)
def cp_asg (v x s : Nat) : Nat := s / 4 ^ (v + 1) * 4 ^ (v + 1) + x * 4 ^ v + s % 4 ^ v
theorem cp_asg_lt : ∀ v, v < 3 → ∀ x, x < 4 → ∀ s, s < 64 → cp_asg v x s < 64 := by decide +kernel
def cp_ow (K N : Nat → Nat) (p o : Nat) : Nat := if K p = 2 then 4 else if o = 1 then N p else if o = 0 then 16 - N p else 0
def cp_step (K A N E F B : Nat → Nat) (V : Nat → Nat → Nat) (dg : Nat → Nat) (p s r g : Nat) (e : Int32) (L z : Nat → Int32) : cp_S :=
  if K p = 0 then (p + 1, cp_asg (A p) (V p s) s, r, g, e, L, upd z p (z p + 1))
  else if K p = 1 ∨ K p = 2 then
    (if r = 6 then (p + 1, s, r, g, -3, L, upd z p (z p + 1))
     else if cp_ow K N p (dg r) = 0 then (p + 1, s, r + 1, g, -4, L, upd z p (z p + 1))
     else (p + 1, cp_asg (A p) (dg r) s, r + 1, g * cp_ow K N p (dg r), e, L, upd z p (z p + 1)))
  else if K p = 3 then (p + 1, s, r, g, (if V p s = 0 then -2 else e), L, upd z p (z p + 1))
  else if K p = 4 then ((if V p s = 0 then (if F p = 0 then E p else F p) + 1 else p + 1), s, r, g, e, L, upd z p (z p + 1))
  else if K p = 6 then (p + 1, s, r, g, e, upd L p (nI (N p)), upd z p (z p + 1))
  else if K p = 5 ∨ K p = 7 then (E (B p) + 1, s, r, g, e, L, upd z p (z p + 1))
  else if K (B p) = 6 then ((if 0 < L (B p) - 1 then B p + 1 else p + 1), s, r, g, e, upd L (B p) (L (B p) - 1), upd z p (z p + 1))
  else (p + 1, s, r, g, e, L, upd z p (z p + 1))
def cp_mr (K A N E F B : Nat → Nat) (V : Nat → Nat → Nat) (M : Nat) (dg : Nat → Nat) : Nat → cp_S → cp_S
  | 0, q => q
  | n + 1, q => if q.1 < M ∧ q.2.2.2.2.1 = 1 then cp_mr K A N E F B V M dg n (cp_step K A N E F B V dg q.1 q.2.1 q.2.2.1 q.2.2.2.1 q.2.2.2.2.1 q.2.2.2.2.2.1 q.2.2.2.2.2.2) else q
section
variable {K A N E F B : Nat → Nat} {V : Nat → Nat → Nat} {M : Nat} {dg : Nat → Nat} {p s r g : Nat} {e : Int32} {L z : Nat → Int32}
theorem cp_s0 (h : K p = 0) : cp_step K A N E F B V dg p s r g e L z = (p + 1, cp_asg (A p) (V p s) s, r, g, e, L, upd z p (z p + 1)) := if_pos h
theorem cp_sR (h : K p = 1 ∨ K p = 2) : cp_step K A N E F B V dg p s r g e L z = (if r = 6 then (p + 1, s, r, g, -3, L, upd z p (z p + 1))
     else if cp_ow K N p (dg r) = 0 then (p + 1, s, r + 1, g, -4, L, upd z p (z p + 1))
     else (p + 1, cp_asg (A p) (dg r) s, r + 1, g * cp_ow K N p (dg r), e, L, upd z p (z p + 1))) := by
  unfold cp_step
  rw [if_neg (by omega), if_pos h]
theorem cp_s3 (h : K p = 3) : cp_step K A N E F B V dg p s r g e L z = (p + 1, s, r, g, (if V p s = 0 then -2 else e), L, upd z p (z p + 1)) := by
  unfold cp_step
  rw [if_neg (by omega), if_neg (by omega), if_pos h]
theorem cp_s4 (h : K p = 4) : cp_step K A N E F B V dg p s r g e L z = ((if V p s = 0 then (if F p = 0 then E p else F p) + 1 else p + 1), s, r, g, e, L, upd z p (z p + 1)) := by
  unfold cp_step
  rw [if_neg (by omega), if_neg (by omega), if_neg (by omega), if_pos h]
theorem cp_s6 (h : K p = 6) : cp_step K A N E F B V dg p s r g e L z = (p + 1, s, r, g, e, upd L p (nI (N p)), upd z p (z p + 1)) := by
  unfold cp_step
  rw [if_neg (by omega), if_neg (by omega), if_neg (by omega), if_neg (by omega), if_pos h]
theorem cp_s57 (h : K p = 5 ∨ K p = 7) : cp_step K A N E F B V dg p s r g e L z = (E (B p) + 1, s, r, g, e, L, upd z p (z p + 1)) := by
  unfold cp_step
  rw [if_neg (by omega), if_neg (by omega), if_neg (by omega), if_neg (by omega), if_neg (by omega), if_pos h]
theorem cp_s8l (h : K p = 8) (hb : K (B p) = 6) : cp_step K A N E F B V dg p s r g e L z = ((if 0 < L (B p) - 1 then B p + 1 else p + 1), s, r, g, e, upd L (B p) (L (B p) - 1), upd z p (z p + 1)) := by
  unfold cp_step
  rw [if_neg (by omega), if_neg (by omega), if_neg (by omega), if_neg (by omega), if_neg (by omega), if_neg (by omega), if_pos hb]
theorem cp_s8i (h : K p = 8) (hb : K (B p) ≠ 6) : cp_step K A N E F B V dg p s r g e L z = (p + 1, s, r, g, e, L, upd z p (z p + 1)) := by
  unfold cp_step
  rw [if_neg (by omega), if_neg (by omega), if_neg (by omega), if_neg (by omega), if_neg (by omega), if_neg (by omega), if_neg hb]
end
/-! time: a number that grows at every step -/
def cp_inn : Nat → Nat → Nat
  | 0, p => p
  | n + 1, p => 4 * p * 128 ^ (n + 1) + cp_inn n p
def cp_ot (f : Nat → Nat) : List Nat → Nat → Nat
  | [], _ => 0
  | b :: t, m => f b * 128 ^ m + cp_ot f t (m + 1)
def cp_sl (K : Nat → Nat) (x b : Nat) : Nat := 4 * b + (if K b = 6 then x / 3 ^ (cp_O K b).length % 3 else 0)
def cp_tm (K : Nat → Nat) (x p : Nat) : Nat := cp_inn (3 - (cp_O K p).length) p + cp_ot (cp_sl K x) (cp_O K p) (4 - (cp_O K p).length)
theorem cp_sl_le (K : Nat → Nat) (x b : Nat) : 4 * b ≤ cp_sl K x b ∧ cp_sl K x b ≤ 4 * b + 2 := by
  unfold cp_sl
  split
  · have := Nat.mod_lt (x / 3 ^ (cp_O K b).length) (show 0 < 3 by omega)
    omega
  · omega
theorem cp_inn_lt {p p' : Nat} (h : p < p') : ∀ n, cp_inn n p < cp_inn n p' := by
  intro n
  induction n with
  | zero => exact h
  | succ n ih =>
    have := Nat.mul_le_mul_right (128 ^ (n + 1)) (show 4 * p ≤ 4 * p' by omega)
    simp only [cp_inn]
    omega
theorem cp_inn_bd {p : Nat} (h : p ≤ 27) : ∀ n, cp_inn n p < 128 ^ (n + 1) := by
  intro n
  induction n with
  | zero => simp only [cp_inn]; omega
  | succ n ih =>
    have h1 := Nat.mul_le_mul_right (128 ^ (n + 1)) (show 4 * p ≤ 108 by omega)
    have h2 : 128 ^ (n + 1 + 1) = 128 ^ (n + 1) * 128 := Nat.pow_succ ..
    simp only [cp_inn]
    generalize 128 ^ (n + 1) = Q at *
    omega
theorem cp_ot_congr {f f' : Nat → Nat} : ∀ (l : List Nat) (m : Nat), (∀ b, b ∈ l → f b = f' b) → cp_ot f l m = cp_ot f' l m := by
  intro l
  induction l with
  | nil => intro _ _; rfl
  | cons b t ih =>
    intro m h
    simp only [cp_ot]
    rw [h b (List.mem_cons_self ..), ih (m + 1) fun y hy => h y (List.mem_cons_of_mem _ hy)]
theorem cp_ot_app (f : Nat → Nat) (b : Nat) (t : List Nat) : ∀ (l : List Nat) (m : Nat), cp_ot f (l ++ b :: t) m = cp_ot f l m + f b * 128 ^ (m + l.length) + cp_ot f t (m + l.length + 1) := by
  intro l
  induction l with
  | nil => intro m; simp only [List.nil_append, cp_ot, List.length_nil, Nat.add_zero, Nat.zero_add]
  | cons a l ih =>
    intro m
    simp only [List.cons_append, cp_ot, List.length_cons]
    rw [ih (m + 1), show m + 1 + l.length = m + (l.length + 1) from by omega]
    omega
theorem cp_ot_bd {f : Nat → Nat} : ∀ (l : List Nat) (m y : Nat), (∀ b, b ∈ l → f b < 128) → y < 128 ^ m → y + cp_ot f l m < 128 ^ (m + l.length) := by
  intro l
  induction l with
  | nil => intro m y _ h; exact h
  | cons a l ih =>
    intro m y hf h
    have h1 := Nat.mul_le_mul_right (128 ^ m) (show f a ≤ 127 by have := hf a (List.mem_cons_self ..); omega)
    have h2 : 128 ^ (m + 1) = 128 ^ m * 128 := Nat.pow_succ ..
    have h3 := ih (m + 1) (y + f a * 128 ^ m) (fun b hb => hf b (List.mem_cons_of_mem _ hb)) (by rw [h2]; generalize 128 ^ m = Q at *; omega)
    simp only [cp_ot, List.length_cons]
    rw [show m + (l.length + 1) = m + 1 + l.length from by omega]
    omega
theorem cp_tA {K : Nat → Nat} {x p p' : Nat} (hO : cp_O K p' = cp_O K p) (h : p < p') : cp_tm K x p < cp_tm K x p' := by
  unfold cp_tm
  rw [hO]
  have := cp_inn_lt h (3 - (cp_O K p).length)
  omega
theorem cp_tB {K : Nat → Nat} {x x' p p' : Nat} (hO : cp_O K p' = p :: cp_O K p) (hl : (cp_O K p).length < 3) (h : p < p')
    (hx : ∀ b, b ∈ cp_O K p → cp_sl K x b = cp_sl K x' b) : cp_tm K x p < cp_tm K x' p' := by
  unfold cp_tm
  rw [hO, List.length_cons, cp_ot_congr (cp_O K p) _ hx]
  obtain ⟨m, hm⟩ : ∃ m, 3 - (cp_O K p).length = m + 1 := ⟨2 - (cp_O K p).length, by omega⟩
  rw [hm, show 4 - (cp_O K p).length = m + 1 + 1 from by omega, show 3 - ((cp_O K p).length + 1) = m from by omega,
    show 4 - ((cp_O K p).length + 1) = m + 1 from by omega]
  simp only [cp_inn, cp_ot]
  have h1 := cp_inn_lt h m
  have h2 := Nat.mul_le_mul_right (128 ^ (m + 1)) (cp_sl_le K x' p).1
  omega
theorem cp_tC {K : Nat → Nat} {x p p' b : Nat} {l t : List Nat} (hO : cp_O K p = l ++ b :: t) (hO' : cp_O K p' = t) (hl : (cp_O K p).length ≤ 3) (hp : p ≤ 27) (h : b < p') : cp_tm K x p < cp_tm K x p' := by
  have hlen : (cp_O K p).length = l.length + (t.length + 1) := by rw [hO, List.length_append, List.length_cons]
  obtain ⟨m, hm⟩ : ∃ m, 3 - t.length = m + 1 := ⟨2 - t.length, by omega⟩
  have hsl : ∀ a, a ∈ l → cp_sl K x a < 128 := fun a ha => by
    have h1 : a ∈ cp_O K p := by rw [hO]; exact List.mem_append_left _ ha
    have h2 := (cp_O_mem h1).2.1
    have h3 := (cp_sl_le K x a).2
    omega
  have hb := cp_ot_bd l (4 - (cp_O K p).length) (cp_inn (3 - (cp_O K p).length) p) hsl (by
    have := cp_inn_bd hp (3 - (cp_O K p).length)
    rw [show 4 - (cp_O K p).length = 3 - (cp_O K p).length + 1 from by omega]
    exact this)
  have e1 : 4 - (cp_O K p).length + l.length = m + 1 := by omega
  have e2 : cp_tm K x p = cp_inn (3 - (cp_O K p).length) p + cp_ot (cp_sl K x) l (4 - (cp_O K p).length) + cp_sl K x b * 128 ^ (m + 1) + cp_ot (cp_sl K x) t (m + 1 + 1) := by
    unfold cp_tm
    have := cp_ot_app (cp_sl K x) b t l (4 - (cp_O K p).length)
    rw [e1, ← hO] at this
    omega
  have e3 : cp_tm K x p' = 4 * p' * 128 ^ (m + 1) + cp_inn m p' + cp_ot (cp_sl K x) t (m + 1 + 1) := by
    unfold cp_tm
    rw [hO', hm, show 4 - t.length = m + 1 + 1 from by omega]
    simp only [cp_inn]
  rw [e1] at hb
  have h4 := Nat.mul_le_mul_right (128 ^ (m + 1)) (show cp_sl K x b + 1 ≤ 4 * p' by have := (cp_sl_le K x b).2; omega)
  rw [Nat.add_mul, Nat.one_mul] at h4
  omega
theorem cp_tD {K : Nat → Nat} {x x' p p' b : Nat} {t : List Nat} (hO : cp_O K p = b :: t) (hO' : cp_O K p' = b :: t) (hl : (cp_O K p).length ≤ 3) (hp : p ≤ 27)
    (hb : cp_sl K x b < cp_sl K x' b) (hx : ∀ a, a ∈ t → cp_sl K x a = cp_sl K x' a) : cp_tm K x p < cp_tm K x' p' := by
  have hi := cp_inn_bd hp (3 - (b :: t).length)
  have hlen : (b :: t).length ≤ 3 := by rw [← hO]; exact hl
  unfold cp_tm
  rw [hO, hO']
  simp only [cp_ot]
  rw [cp_ot_congr t _ hx]
  rw [show 4 - (b :: t).length = 3 - (b :: t).length + 1 from by omega]
  have h4 := Nat.mul_le_mul_right (128 ^ (3 - (b :: t).length + 1)) (show cp_sl K x b + 1 ≤ cp_sl K x' b from hb)
  rw [Nat.add_mul, Nat.one_mul] at h4
  omega
def cp_ct (f : Nat → Nat) (T : Nat) : Nat → Nat
  | 0 => 0
  | n + 1 => cp_ct f T n + (if T < f n then 1 else 0)
theorem cp_ct_le {f : Nat → Nat} {T T' : Nat} (h : T ≤ T') : ∀ n, cp_ct f T' n ≤ cp_ct f T n := by
  intro n
  induction n with
  | zero => exact Nat.le_refl _
  | succ n ih =>
    simp only [cp_ct]
    split <;> split <;> omega
theorem cp_ct_lt {f : Nat → Nat} {T T' i : Nat} (h : T < T') (hi : T' = f i) : ∀ n, i < n → cp_ct f T' n < cp_ct f T n := by
  intro n
  induction n with
  | zero => intro h; omega
  | succ n ih =>
    intro hn
    simp only [cp_ct]
    by_cases e : i = n
    · subst e
      have := cp_ct_le (f := f) (Nat.le_of_lt h) i
      rw [if_neg (by omega), if_pos (by omega)]
      omega
    · have := ih (by omega)
      split <;> split <;> omega
theorem cp_ct_bd (f : Nat → Nat) (T : Nat) : ∀ n, cp_ct f T n ≤ n := by
  intro n
  induction n with
  | zero => exact Nat.le_refl _
  | succ n ih =>
    simp only [cp_ct]
    split <;> omega
/-- how many steps may follow -/
def cp_mu (K : Nat → Nat) (x p : Nat) : Nat := cp_ct (fun i => cp_tm K (i % 27) (i / 27)) (cp_tm K x p) 756
theorem cp_mu_lt {K : Nat → Nat} {x p x' p' : Nat} (hx : x' < 27) (hp : p' ≤ 27) (h : cp_tm K x p < cp_tm K x' p') : cp_mu K x' p' < cp_mu K x p := by
  unfold cp_mu
  refine cp_ct_lt (i := 27 * p' + x') h ?_ 756 (by omega)
  show _ = cp_tm K ((27 * p' + x') % 27) ((27 * p' + x') / 27)
  rw [show (27 * p' + x') % 27 = x' from by omega, show (27 * p' + x') / 27 = p' from by omega]
theorem cp_mu_bd (K : Nat → Nat) (x p : Nat) : cp_mu K x p ≤ 756 := cp_ct_bd _ _ _
theorem cp_dig : ∀ x, x < 27 → ∀ d, d < 3 → ∀ v, v < 3 → ∃ x', x' < 27 ∧ x' / 3 ^ d % 3 = v ∧ ∀ j, j < 3 → j ≠ d → x' / 3 ^ j % 3 = x / 3 ^ j % 3 := by
  have h1 : ∀ x, x < 27 → ∀ d, d < 3 → ∀ v, v < 3 → (x - x / 3 ^ d % 3 * 3 ^ d + v * 3 ^ d < 27 ∧ (x - x / 3 ^ d % 3 * 3 ^ d + v * 3 ^ d) / 3 ^ d % 3 = v) := by decide +kernel
  have h2 : ∀ x, x < 27 → ∀ d, d < 3 → ∀ v, v < 3 → ∀ j, j < 3 → (j = d ∨ (x - x / 3 ^ d % 3 * 3 ^ d + v * 3 ^ d) / 3 ^ j % 3 = x / 3 ^ j % 3) := by decide +kernel
  exact fun x hx d hd v hv => ⟨_, (h1 x hx d hd v hv).1, (h1 x hx d hd v hv).2, fun j hj hn => (h2 x hx d hd v hv j hj).resolve_left hn⟩
