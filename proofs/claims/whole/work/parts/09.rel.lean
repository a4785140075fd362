/-! how the two sides stand to the machine -/
def cp_ll (K : Nat → Nat) (L lf : Nat → Int32) : List Nat → Prop
  | [] => True
  | b :: t => (K b = 6 → lf t.length = L b) ∧ cp_ll K L lf t
theorem ll_upd {K : Nat → Nat} {L lf : Nat → Int32} {k : Nat} {x : Int32} : ∀ {t : List Nat}, cp_ll K L lf t → t.length ≤ k → cp_ll K L (upd lf k x) t := by
  intro t
  induction t with
  | nil => intro _ _; trivial
  | cons b t ih =>
    intro h hk
    rw [List.length_cons] at hk
    exact ⟨by rw [pk_un (by omega)]; exact h.1, ih h.2 (by omega)⟩
theorem ll_L {K : Nat → Nat} {L L' lf : Nat → Int32} : ∀ {t : List Nat}, (∀ a, a ∈ t → L' a = L a) → cp_ll K L lf t → cp_ll K L' lf t := by
  intro t
  induction t with
  | nil => intro _ _; trivial
  | cons b t ih =>
    intro hL h
    exact ⟨by rw [hL b (List.mem_cons_self ..)]; exact h.1, ih (fun a ha => hL a (List.mem_cons_of_mem _ ha)) h.2⟩
theorem ll_app {K : Nat → Nat} {L lf : Nat → Int32} {t : List Nat} : ∀ {l : List Nat}, cp_ll K L lf (l ++ t) → cp_ll K L lf t := by
  intro l
  induction l with
  | nil => intro h; exact h
  | cons b l ih => intro h; exact ih h.2
def cp_RY (K : Nat → Nat) (c p s r g : Nat) (e : Int32) (L z : Nat → Int32) (pl dp : Int32) (bg lf : Nat → Int32) (st sp pr en : Int32) (mt : Nat → Int32) : Prop :=
  pl = nI (if p < c then p else c) ∧ dp = nI (cp_O K p).length ∧ cp_hl bg (cp_O K p) ∧ cp_ll K L lf (cp_O K p) ∧ st = nI s ∧ (e = 1 → sp = nI r ∧ pr = nI g) ∧ en = e ∧ ∀ j, j < c → K j ≠ 8 → mt j = z j
def cp_RX (K : Nat → Nat) (p s r g : Nat) (e : Int32) (L z : Nat → Int32) (pl st sp rw en : Int32) (rl rv : Nat → Int32) : Prop :=
  pl = nI p ∧ st = nI s ∧ sp = nI r ∧ (e = 1 → rw = nI (16 ^ (6 - r) * g)) ∧ en = e ∧ (∀ b, b ∈ cp_O K p → K b = 6 → rl b = L b) ∧ ∀ j, j < 27 → rv j = z j
theorem cp_n2 : ¬ (-2 : Int32) = 1 := by decide
theorem cp_n3 : ¬ (-3 : Int32) = 1 := by decide
theorem cp_n4 : ¬ (-4 : Int32) = 1 := by decide
