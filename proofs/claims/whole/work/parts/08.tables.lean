/-! expressions as tables -/
def cp_4 (f : Nat → Int32) : Prop := ∀ j, ∃ v, v < 4 ∧ f j = nI v
def cp_cv (kind a s x y : Nat) : Nat :=
  if kind = 0 then a else if kind = 1 then s / 4 ^ a % 4 else if kind = 2 then (x + y) % 4 else if kind = 3 then (x + 4 - y) % 4
  else if kind = 4 then x * y % 4 else if kind = 5 then (if x = y then 1 else 0) else if kind = 6 then (if x < y then 1 else 0)
  else if kind = 7 then (if x = 0 then 1 else 0) else if kind = 8 then (if x ≠ 0 ∧ y ≠ 0 then 1 else 0) else (if x ≠ 0 then x else y)
theorem cv_lt {kind a s x y : Nat} (h : kind = 0 → a < 4) (hx : x < 4) (hy : y < 4) : cp_cv kind a s x y < 4 := by
  unfold cp_cv
  repeat' split
  all_goals first | omega | exact Nat.mod_lt _ (by omega) | exact h ‹_›
def cp_fl (kind a cell : Nat) (f : Nat → Int32) : Nat → (Nat → Int32)
  | 0 => f
  | s + 1 => upd (cp_fl kind a cell f s) (cell + s) (nI (cp_cv kind a s (f (cell + s)).toNatClampNeg (f (cell + 64 + s)).toNatClampNeg))
theorem fl_ge {kind a cell : Nat} {f : Nat → Int32} : ∀ s j, cell + s ≤ j → cp_fl kind a cell f s j = f j := by
  intro s
  induction s with
  | zero => intro j _; rfl
  | succ s ih =>
    intro j hj
    rw [cp_fl, pk_un (by omega)]
    exact ih j (by omega)
theorem cp_cl4 {v : Nat} (h : v < 4) : (nI v).toNatClampNeg = v := nI_clamp (by omega)
theorem fl_4 {kind a cell : Nat} {f : Nat → Int32} (h : kind = 0 → a < 4) (hf : cp_4 f) : ∀ s, cp_4 (cp_fl kind a cell f s) := by
  intro s
  induction s with
  | zero => exact hf
  | succ s ih =>
    intro j
    rw [cp_fl]
    by_cases e : j = cell + s
    · subst e
      obtain ⟨x, hx, ex⟩ := hf (cell + s)
      obtain ⟨y, hy, ey⟩ := hf (cell + 64 + s)
      rw [pk_us, ex, ey, cp_cl4 hx, cp_cl4 hy]
      exact ⟨_, cv_lt h hx hy, rfl⟩
    · rw [pk_un e]
      exact ih j
/-! a stretch that is copied -/
def cp_cpy (g : Nat → Int32) (to : Nat) (f : Nat → Int32) : Nat → (Nat → Int32)
  | 0 => g
  | s + 1 => upd (cp_cpy g to f s) (to + s) (f s)
theorem cpy_in {g f : Nat → Int32} {to : Nat} : ∀ s j, j < s → cp_cpy g to f s (to + j) = f j := by
  intro s
  induction s with
  | zero => intro j h; omega
  | succ s ih =>
    intro j h
    rw [cp_cpy]
    by_cases e : j = s
    · subst e; exact pk_us
    · rw [pk_un (by omega)]
      exact ih j (by omega)
theorem cpy_out {g f : Nat → Int32} {to : Nat} : ∀ s j, (j < to ∨ to + s ≤ j) → cp_cpy g to f s j = g j := by
  intro s
  induction s with
  | zero => intro j _; rfl
  | succ s ih =>
    intro j h
    rw [cp_cpy, pk_un (by omega)]
    exact ih j (by omega)
/-! sums -/
def cp_si (f : Nat → Int32) : Nat → Int32
  | 0 => 0
  | n + 1 => cp_si f n + f n
theorem si_congr {f f' : Nat → Int32} : ∀ n, (∀ i, i < n → f i = f' i) → cp_si f n = cp_si f' n := by
  intro n
  induction n with
  | zero => intro _; rfl
  | succ n ih =>
    intro h
    rw [cp_si, cp_si, ih fun i hi => h i (by omega), h n (by omega)]
theorem si_nI (g : Nat → Nat) : ∀ n, cp_si (fun s => nI (g s)) n = nI (cp_sm g n) := by
  intro n
  induction n with
  | zero => rfl
  | succ n ih => rw [cp_si, ih, nI_add, cp_sm]
def cp_kw (v k w l : Nat) (sw : Nat → Int32) (n : Nat) : Int32 := cp_si (fun s => if s / 4 ^ v % 4 = k ∧ s / 4 ^ w % 4 = l then sw s else 0) n
theorem kw_s (v k w l : Nat) (sw : Nat → Int32) (n : Nat) : cp_kw v k w l sw (n + 1) = cp_kw v k w l sw n + (if n / 4 ^ v % 4 = k ∧ n / 4 ^ w % 4 = l then sw n else 0) := rfl
theorem kw_nat {v k w l : Nat} {sw : Nat → Int32} {g : Nat → Nat} (h : ∀ s, s < 64 → sw s = nI (g s)) : cp_kw v k w l sw 64 = nI (cp_sm (fun s => if s / 4 ^ v % 4 = k ∧ s / 4 ^ w % 4 = l then g s else 0) 64) := by
  rw [← si_nI]
  refine si_congr 64 fun s hs => ?_
  rw [h s hs]
  split <;> rfl
theorem sm_le {f f' : Nat → Nat} (h : ∀ i, f i ≤ f' i) : ∀ n, cp_sm f n ≤ cp_sm f' n := by
  intro n
  induction n with
  | zero => exact Nat.le_refl _
  | succ n ih =>
    rw [cp_sm, cp_sm]
    have := h n
    omega
theorem kw_exp (v : Nat) (sw : Nat → Int32) : ∀ n, cp_si (fun s => sw s * nI (s / 4 ^ v % 4)) n = 0 * cp_kw v 0 v 0 sw n + 1 * cp_kw v 1 v 1 sw n + 2 * cp_kw v 2 v 2 sw n + 3 * cp_kw v 3 v 3 sw n := by
  intro n
  induction n with
  | zero => rfl
  | succ n ih =>
    rw [cp_si, ih, kw_s, kw_s, kw_s, kw_s]
    have h4 := Nat.mod_lt (n / 4 ^ v) (show 0 < 4 by omega)
    generalize n / 4 ^ v % 4 = d at *
    have hd : d = 0 ∨ d = 1 ∨ d = 2 ∨ d = 3 := by omega
    rcases hd with rfl | rfl | rfl | rfl
    · simp only [nI_0]
      simp
    · rw [show nI 1 = (1 : Int32) from rfl]
      simp
      grind
    · rw [show nI 2 = (2 : Int32) from rfl]
      simp
      grind
    · rw [show nI 3 = (3 : Int32) from rfl]
      simp
      grind
