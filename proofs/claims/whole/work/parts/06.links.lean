/-! what the link arrays hold once the first n statements are read -/
def cp_LK (K : Nat → Nat) (n : Nat) (bO eO fO : Nat → Int32) : Prop :=
  (∀ q, q < n → K q = 8 → ∀ b t, cp_O K q = b :: t → bO q = nI b ∧ fO b = nI q) ∧
  (∀ q, q < n → K q = 5 → ∀ b t, cp_O K q = b :: t → bO q = nI b ∧ eO b = nI q) ∧
  (∀ b, b < n → (K b = 4 ∨ K b = 6) → eO b = -1 ∨ ∃ q, b < q ∧ q < n ∧ K q = 5 ∧ cp_O K q = b :: cp_O K b ∧ eO b = nI q) ∧
  (∀ q, q < n → K q = 7 → ∃ l b, bO q = nI b ∧ cp_O K q = l ++ b :: cp_O K b ∧ K b = 6 ∧ ∀ x, x ∈ l → K x ≠ 6)
section
variable {K : Nat → Nat} {n b : Nat} {t l : List Nat} {bO eO fO : Nat → Int32}
theorem lk_0 : cp_LK K 0 bO eO fO := ⟨fun q h => absurd h (by omega), fun q h => absurd h (by omega), fun q h => absurd h (by omega), fun q h => absurd h (by omega)⟩
theorem lk_st (h : K n ≤ 3) (H : cp_LK K n bO eO fO) : cp_LK K (n + 1) bO eO fO := by
  obtain ⟨h1, h2, h3, h4⟩ := H
  refine ⟨fun q hq hk => ?_, fun q hq hk => ?_, fun q hq hk => ?_, fun q hq hk => ?_⟩
  · exact h1 q (by have : q ≠ n := (fun z => by subst z; omega); omega) hk
  · exact h2 q (by have : q ≠ n := (fun z => by subst z; omega); omega) hk
  · cases h3 q (by have : q ≠ n := (fun z => by subst z; omega); omega) hk with
    | inl h => exact Or.inl h
    | inr h =>
      obtain ⟨y, a1, a2, a3⟩ := h
      exact Or.inr ⟨y, a1, by omega, a3⟩
  · exact h4 q (by have : q ≠ n := (fun z => by subst z; omega); omega) hk
theorem lk_in (h : K n = 4 ∨ K n = 6) (H : cp_LK K n bO eO fO) : cp_LK K (n + 1) bO (upd eO n (-1)) fO := by
  obtain ⟨h1, h2, h3, h4⟩ := H
  refine ⟨fun q hq hk => ?_, fun q hq hk b t ho => ?_, fun q hq hk => ?_, fun q hq hk => ?_⟩
  · exact h1 q (by have : q ≠ n := (fun z => by subst z; omega); omega) hk
  · have hqn : q < n := by have : q ≠ n := (fun z => by subst z; omega); omega
    obtain ⟨a1, a2⟩ := h2 q hqn hk b t ho
    have := (cp_O_head ho).2.1
    exact ⟨a1, by rw [pk_un (by omega)]; exact a2⟩
  · by_cases hqn : q = n
    · subst hqn
      exact Or.inl pk_us
    · rw [pk_un hqn]
      cases h3 q (by omega) hk with
      | inl h => exact Or.inl h
      | inr h =>
        obtain ⟨y, a1, a2, a3⟩ := h
        exact Or.inr ⟨y, a1, by omega, a3⟩
  · exact h4 q (by have : q ≠ n := (fun z => by subst z; omega); omega) hk
theorem lk_else (h : K n = 5) (ho : cp_O K n = b :: t) (hu : ∀ e, e < n → K e = 5 → cp_O K e ≠ cp_O K n) (H : cp_LK K n bO eO fO) : cp_LK K (n + 1) (upd bO n (nI b)) (upd eO b (nI n)) fO := by
  obtain ⟨h1, h2, h3, h4⟩ := H
  obtain ⟨ht, hb, hkb⟩ := cp_O_head ho
  refine ⟨fun q hq hk b' t' ho' => ?_, fun q hq hk b' t' ho' => ?_, fun q hq hk => ?_, fun q hq hk => ?_⟩
  · have hqn : q ≠ n := (fun z => by subst z; omega)
    rw [pk_un hqn]
    exact h1 q (by omega) hk b' t' ho'
  · by_cases hqn : q = n
    · subst hqn
      rw [ho] at ho'
      obtain ⟨rfl, rfl⟩ := List.cons.inj ho'
      exact ⟨pk_us, pk_us⟩
    · rw [pk_un hqn]
      obtain ⟨a1, a2⟩ := h2 q (by omega) hk b' t' ho'
      refine ⟨a1, ?_⟩
      by_cases hbb : b' = b
      · subst hbb
        exact absurd (by rw [ho, ho', ht, (cp_O_head ho').1]) (hu q (by omega) hk)
      · rw [pk_un hbb]
        exact a2
  · by_cases hqb : q = b
    · subst hqb
      exact Or.inr ⟨n, hb, by omega, h, by rw [ho, ht], pk_us⟩
    · rw [pk_un hqb]
      have hqn : q ≠ n := (fun z => by subst z; omega)
      cases h3 q (by omega) hk with
      | inl h => exact Or.inl h
      | inr h =>
        obtain ⟨y, a1, a2, a3⟩ := h
        exact Or.inr ⟨y, a1, by omega, a3⟩
  · have hqn : q ≠ n := (fun z => by subst z; omega)
    rw [pk_un hqn]
    exact h4 q (by omega) hk
theorem lk_brk (h : K n = 7) (ho : cp_O K n = l ++ b :: cp_O K b) (h6 : K b = 6) (hl : ∀ x, x ∈ l → K x ≠ 6) (H : cp_LK K n bO eO fO) : cp_LK K (n + 1) (upd bO n (nI b)) eO fO := by
  obtain ⟨h1, h2, h3, h4⟩ := H
  refine ⟨fun q hq hk b' t' ho' => ?_, fun q hq hk b' t' ho' => ?_, fun q hq hk => ?_, fun q hq hk => ?_⟩
  · have hqn : q ≠ n := (fun z => by subst z; omega)
    rw [pk_un hqn]
    exact h1 q (by omega) hk b' t' ho'
  · have hqn : q ≠ n := (fun z => by subst z; omega)
    rw [pk_un hqn]
    exact h2 q (by omega) hk b' t' ho'
  · have hqn : q ≠ n := (fun z => by subst z; omega)
    cases h3 q (by omega) hk with
    | inl h => exact Or.inl h
    | inr h =>
      obtain ⟨y, a1, a2, a3⟩ := h
      exact Or.inr ⟨y, a1, by omega, a3⟩
  · by_cases hqn : q = n
    · subst hqn
      exact ⟨l, b, pk_us, ho, h6, hl⟩
    · rw [pk_un hqn]
      exact h4 q (by omega) hk
theorem lk_end (h : K n = 8) (ho : cp_O K n = b :: t) (H : cp_LK K n bO eO fO) : cp_LK K (n + 1) (upd bO n (nI b)) eO (upd fO b (nI n)) := by
  obtain ⟨h1, h2, h3, h4⟩ := H
  refine ⟨fun q hq hk b' t' ho' => ?_, fun q hq hk b' t' ho' => ?_, fun q hq hk => ?_, fun q hq hk => ?_⟩
  · by_cases hqn : q = n
    · subst hqn
      rw [ho] at ho'
      obtain ⟨rfl, rfl⟩ := List.cons.inj ho'
      exact ⟨pk_us, pk_us⟩
    · obtain ⟨a1, a2⟩ := h1 q (by omega) hk b' t' ho'
      have hbb : b' ≠ b := fun z => by
        subst z
        exact cp_gone hk ho' (show q < n by omega) (by rw [ho]; exact List.mem_cons_self ..)
      rw [pk_un hqn, pk_un hbb]
      exact ⟨a1, a2⟩
  · have hqn : q ≠ n := (fun z => by subst z; omega)
    rw [pk_un hqn]
    exact h2 q (by omega) hk b' t' ho'
  · have hqn : q ≠ n := (fun z => by subst z; omega)
    cases h3 q (by omega) hk with
    | inl h => exact Or.inl h
    | inr h =>
      obtain ⟨y, a1, a2, a3⟩ := h
      exact Or.inr ⟨y, a1, by omega, a3⟩
  · have hqn : q ≠ n := (fun z => by subst z; omega)
    rw [pk_un hqn]
    exact h4 q (by omega) hk
/-- the arrays are the tables -/
def cp_X (K : Nat → Nat) (M : Nat) (E F B : Nat → Nat) (bO eO fO : Nat → Int32) : Prop :=
  (∀ b, b < M → (K b = 4 ∨ K b = 6) → fO b = nI (E b)) ∧
  (∀ b, b < M → (K b = 4 ∨ K b = 6) → (F b = 0 ∧ eO b = -1) ∨ (F b ≠ 0 ∧ eO b = nI (F b))) ∧
  (∀ q, q < M → (K q = 5 ∨ K q = 7 ∨ K q = 8) → bO q = nI (B q) ∧ B q < M)
theorem cp_m1_ne {j : Nat} (h : j < 2 ^ 31) : nI j ≠ -1 := fun z => by
  have := congrArg Int32.toInt z
  rw [nI_toInt h, show (-1 : Int32).toInt = -1 from by decide] at this
  omega
theorem lk_T {c : Nat} (W : cp_wf K c) (H : cp_LK K (cp_M K c) bO eO fO) : ∃ E F B, cp_T K (cp_M K c) E F B ∧ cp_X K (cp_M K c) E F B bO eO fO := by
  obtain ⟨h1, h2, h3, h4⟩ := H
  have hM := (cp_M_le W).2
  have hc : ∀ j : Nat, j < cp_M K c → (nI j).toNatClampNeg = j := fun j hj => nI_clamp (by omega)
  have hE : ∀ b, b < cp_M K c → (K b = 4 ∨ K b = 6) → ∃ e, (fO b).toNatClampNeg = e ∧ fO b = nI e ∧ b < e ∧ e < cp_M K c ∧ K e = 8 ∧ cp_O K e = b :: cp_O K b ∧ ∀ k, b < k → k ≤ e → (b :: cp_O K b) <:+ cp_O K k := fun b hb hk => by
    obtain ⟨e, a1, a2, a3, a4, a5⟩ := cp_end_ex (cp_OM W) hk hb
    have hf := (h1 e a2 a3 b _ a4).2
    exact ⟨e, by rw [hf, hc e a2], hf, a1, a2, a3, a4, a5⟩
  have hB : ∀ q, q < cp_M K c → (K q = 5 ∨ K q = 8) → ∃ b, cp_O K q = b :: cp_O K b ∧ bO q = nI b ∧ b < q := fun q hq hk => by
    have ok := cp_okM W hq
    have hne : cp_O K q ≠ [] := by
      cases hk with
      | inl h5 =>
        obtain ⟨b, t, e, _⟩ := ok.2.2.1 h5
        rw [e]
        exact List.cons_ne_nil _ _
      | inr h8 => exact ok.2.2.2.2 h8
    obtain ⟨b, t, ho⟩ := List.exists_cons_of_ne_nil hne
    have hh := cp_O_head ho
    refine ⟨b, by rw [ho, hh.1], ?_, hh.2.1⟩
    cases hk with
    | inl h5 => exact (h2 q hq h5 b t ho).1
    | inr h8 => exact (h1 q hq h8 b t ho).1
  refine ⟨fun b => (fO b).toNatClampNeg, fun b => if eO b = -1 then 0 else (eO b).toNatClampNeg, fun q => (bO q).toNatClampNeg, ⟨?_, ?_, ?_, ?_, ?_⟩, ?_, ?_, ?_⟩
  · intro b hb hk
    obtain ⟨e, a1, _, a3⟩ := hE b hb hk
    dsimp only
    rw [a1]
    exact a3
  · intro q hq hk
    obtain ⟨b, a1, a2, a3⟩ := hB q hq hk
    dsimp only
    rw [a2, hc b (by omega)]
    exact a1
  · intro q hq hk
    obtain ⟨l, b, a1, a2, a3, a4⟩ := h4 q hq hk
    have hb := (cp_O_mem (show b ∈ cp_O K q by rw [a2]; exact List.mem_append_right _ (List.mem_cons_self ..))).2.1
    dsimp only
    rw [a1, hc b (by omega)]
    exact ⟨l, a2, a3, a4⟩
  · intro b hb hk hF
    dsimp only at hF ⊢
    cases h3 b hb (Or.inl hk) with
    | inl h => exact absurd (if_pos h) hF
    | inr h =>
      obtain ⟨q, a1, a2, a3, a4, a5⟩ := h
      rw [a5, if_neg (cp_m1_ne (by omega)), hc q a2]
      exact ⟨a1, a2, a3, a4⟩
  · intro q hq hk
    obtain ⟨b, a1, a2, a3⟩ := hB q hq (Or.inl hk)
    dsimp only
    rw [a2, hc b (by omega), (h2 q hq hk b _ a1).2, if_neg (cp_m1_ne (by omega)), hc q hq]
  · intro b hb hk
    obtain ⟨e, a1, a2, _⟩ := hE b hb hk
    dsimp only
    rw [a1]
    exact a2
  · intro b hb hk
    dsimp only
    cases h3 b hb hk with
    | inl h => exact Or.inl ⟨if_pos h, h⟩
    | inr h =>
      obtain ⟨q, a1, a2, a3, a4, a5⟩ := h
      rw [a5, if_neg (cp_m1_ne (by omega)), hc q a2]
      exact Or.inr ⟨by omega, rfl⟩
  · intro q hq hk
    dsimp only
    by_cases h7 : K q = 7
    · obtain ⟨l, b, a1, a2, a3, a4⟩ := h4 q hq h7
      have hb := (cp_O_mem (show b ∈ cp_O K q by rw [a2]; exact List.mem_append_right _ (List.mem_cons_self ..))).2.1
      rw [a1, hc b (by omega)]
      exact ⟨rfl, by omega⟩
    · obtain ⟨b, a1, a2, a3⟩ := hB q hq (by omega)
      rw [a2, hc b (by omega)]
      exact ⟨rfl, by omega⟩
end
/-! a list held in an array, its head highest -/
def cp_hl (a : Nat → Int32) : List Nat → Prop
  | [] => True
  | b :: t => a t.length = nI b ∧ cp_hl a t
theorem hl_upd {a : Nat → Int32} {k : Nat} {x : Int32} : ∀ {t : List Nat}, cp_hl a t → t.length ≤ k → cp_hl (upd a k x) t := by
  intro t
  induction t with
  | nil => intro _ _; trivial
  | cons b t ih =>
    intro h hk
    rw [List.length_cons] at hk
    exact ⟨by rw [pk_un (by omega)]; exact h.1, ih h.2 (by omega)⟩
theorem hl_push {a : Nat → Int32} {t : List Nat} {b : Nat} (h : cp_hl a t) : cp_hl (upd a t.length (nI b)) (b :: t) := ⟨pk_us, hl_upd h (Nat.le_refl _)⟩
theorem hl_app {a : Nat → Int32} {t : List Nat} : ∀ {l : List Nat}, cp_hl a (l ++ t) → cp_hl a t := by
  intro l
  induction l with
  | nil => intro h; exact h
  | cons b l ih => intro h; exact ih h.2
/-- the innermost LOOP, or -1 -/
def cp_il (K : Nat → Nat) : List Nat → Int32
  | [] => -1
  | b :: t => if K b = 6 then nI b else cp_il K t
theorem il_some {K : Nat → Nat} : ∀ {l : List Nat}, (∃ b, b ∈ l ∧ K b = 6) → ∃ l1 b t, l = l1 ++ b :: t ∧ K b = 6 ∧ (∀ x, x ∈ l1 → K x ≠ 6) ∧ cp_il K l = nI b := by
  intro l
  induction l with
  | nil => intro ⟨b, hb, _⟩; exact absurd hb List.not_mem_nil
  | cons a l ih =>
    intro ⟨b, hb, h6⟩
    by_cases ha : K a = 6
    · exact ⟨[], a, l, rfl, ha, fun x hx => absurd hx List.not_mem_nil, if_pos ha⟩
    · cases List.mem_cons.mp hb with
      | inl e => subst e; exact absurd h6 ha
      | inr e =>
        obtain ⟨l1, b', t, e1, e2, e3, e4⟩ := ih ⟨b, e, h6⟩
        refine ⟨a :: l1, b', t, by rw [e1]; rfl, e2, fun x hx => ?_, ?_⟩
        · cases List.mem_cons.mp hx with
          | inl e => subst e; exact ha
          | inr e => exact e3 x e
        · rw [cp_il, if_neg ha]
          exact e4
theorem il_none {K : Nat → Nat} : ∀ {l : List Nat}, (¬ ∃ b, b ∈ l ∧ K b = 6) → cp_il K l = -1 := by
  intro l
  induction l with
  | nil => intro _; rfl
  | cons a l ih =>
    intro h
    rw [cp_il, if_neg fun z => h ⟨a, List.mem_cons_self .., z⟩]
    exact ih fun ⟨b, hb, h6⟩ => h ⟨b, List.mem_cons_of_mem _ hb, h6⟩
/-! has the block an ELSE among the first n statements? -/
def cp_he (K : Nat → Nat) (n b : Nat) : Prop := ∃ q, q < n ∧ K q = 5 ∧ cp_O K q = b :: cp_O K b
theorem he_st {K : Nat → Nat} {n b : Nat} (h : K n ≠ 5 ∨ cp_O K n ≠ b :: cp_O K b) : cp_he K (n + 1) b ↔ cp_he K n b := by
  constructor
  · intro ⟨q, h1, h2, h3⟩
    refine ⟨q, ?_, h2, h3⟩
    by_cases hq : q = n
    · subst hq
      cases h with
      | inl h => exact absurd h2 h
      | inr h => exact absurd h3 h
    · omega
  · intro ⟨q, h1, h2⟩
    exact ⟨q, by omega, h2⟩
/-- how the reference marks the blocks that have begun: 1 an IF, 2 an IF with ELSE, 3 a LOOP -/
def cp_oo (K : Nat → Nat) (n : Nat) (a : Nat → Int32) : List Nat → Prop
  | [] => True
  | b :: t => ((K b = 6 ∧ a t.length = 3) ∨ (K b = 4 ∧ cp_he K n b ∧ a t.length = 2) ∨ (K b = 4 ∧ ¬ cp_he K n b ∧ a t.length = 1)) ∧ cp_oo K n a t
theorem oo_upd {K : Nat → Nat} {n n' k : Nat} {a : Nat → Int32} {x : Int32} : ∀ {t : List Nat}, (∀ b, b ∈ t → (cp_he K n' b ↔ cp_he K n b)) → cp_oo K n a t → t.length ≤ k → cp_oo K n' (upd a k x) t := by
  intro t
  induction t with
  | nil => intro _ _ _; trivial
  | cons b t ih =>
    intro he h hk
    rw [List.length_cons] at hk
    refine ⟨?_, ih (fun y hy => he y (List.mem_cons_of_mem _ hy)) h.2 (by omega)⟩
    rw [pk_un (by omega), he b (List.mem_cons_self ..)]
    exact h.1
theorem oo_st {K : Nat → Nat} {n n' : Nat} {a : Nat → Int32} : ∀ {t : List Nat}, (∀ b, b ∈ t → (cp_he K n' b ↔ cp_he K n b)) → cp_oo K n a t → cp_oo K n' a t := by
  intro t
  induction t with
  | nil => intro _ _; trivial
  | cons b t ih =>
    intro he h
    refine ⟨?_, ih (fun y hy => he y (List.mem_cons_of_mem _ hy)) h.2⟩
    rw [he b (List.mem_cons_self ..)]
    exact h.1
