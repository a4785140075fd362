section
/-! pure rows to paste: stores, nI and lN arithmetic, masks, shifts, narrowing, branches by naturals (pk_le, pk_lt, pk_eq), loops (lp1 .. lp16: the measure of the state; rp1 ..: recursion), negatives. Take what you need -/
theorem pk_us {f : Nat → Int32} {k : Nat} {x : Int32} : upd f k x k = x := if_pos rfl
theorem pk_un {f : Nat → Int32} {k j : Nat} {x : Int32} (h : j ≠ k) : upd f k x j = f j := if_neg h
theorem pk_uLs {f : Nat → Int64} {k : Nat} {x : Int64} : vp_updL f k x k = x := if_pos rfl
theorem pk_uLn {f : Nat → Int64} {k j : Nat} {x : Int64} (h : j ≠ k) : vp_updL f k x j = f j := if_neg h
theorem pk_sub {a b : Nat} (h : b ≤ a) : nI a - nI b = nI (a - b) := by
  obtain ⟨c, rfl⟩ : ∃ c, a = c + b := ⟨a - b, by omega⟩
  rw [← nI_add, Int32.add_sub_cancel, Nat.add_sub_cancel]
theorem pk_m1 (n : Nat) : nI (n + 1) + (-1) = nI n := by
  rw [← nI_1, Int32.add_assoc, show (1 : Int32) + (-1) = 0 from rfl, Int32.add_zero]
theorem pk_mul (a b : Nat) : nI a * nI b = nI (a * b) := (Int32.ofNat_mul a b).symm
theorem pk_div {a d : Nat} (ha : a < 2 ^ 31) (h0 : 0 < d) (hd : d < 2 ^ 31) : nI a / nI d = nI (a / d) := by
  apply Int32.toInt_inj.mp
  rw [lg_idiv_nonneg (by rw [nI_toInt ha]; omega) (by rw [nI_toInt hd]; omega), nI_toInt ha, nI_toInt hd, nI_toInt (Nat.lt_of_le_of_lt (Nat.div_le_self a d) ha)]
  first | rfl | exact (Int.natCast_ediv _ _).symm
theorem pk_rem {a d : Nat} (ha : a < 2 ^ 31) (h0 : 0 < d) (hd : d < 2 ^ 31) : nI a - nI a / nI d * nI d = nI (a % d) := by
  rw [pk_div ha h0 hd, pk_mul, pk_sub (Nat.div_mul_le_self a d)]
  exact congrArg nI (by have := Nat.div_add_mod' a d; omega)
theorem pk_sub_toInt {a b : Nat} (ha : a < 2 ^ 30) (hb : b < 2 ^ 30) : (nI a - nI b).toInt = (a : Int) - b := by
  rw [Int32.toInt_sub, nI_toInt (by omega), nI_toInt (by omega)]
  exact Int.bmod_eq_of_le (by omega) (by omega)
theorem pk_sneg {a b : Nat} (hb : b < 2 ^ 30) (h : a < b) : nI a - nI b < 0 := by
  rw [Int32.lt_iff_toInt_lt, pk_sub_toInt (by omega) hb, show (0 : Int32).toInt = 0 from by decide]
  omega
theorem pk_ix (x : Int32) {n : Nat} (hn : n < 2 ^ 31) : x < 0 ∨ nI n ≤ x ∨ ∃ j : Nat, j < n ∧ x = nI j := by
  by_cases h : x < 0
  · exact Or.inl h
  · obtain ⟨j, hj, rfl⟩ := nI_of h
    by_cases h2 : j < n
    · exact Or.inr (Or.inr ⟨j, h2, rfl⟩)
    · exact Or.inr (Or.inl (nI_le (by omega) hj))
theorem pk_le {x y : Int32} {A B : Prop} (a b : Nat) (f : a ≤ b → A) (g : b < a → B) (hx : x = nI a := by rfl) (hy : y = nI b := by rfl) (ha : a < 2 ^ 31 := by omega) (hb : b < 2 ^ 31 := by omega) : (x ≤ y → A) ∧ (¬ x ≤ y → B) := by
  subst hx hy
  rw [nI_leI ha hb]
  exact ⟨f, fun z => g (by omega)⟩
theorem pk_lt {x y : Int32} {A B : Prop} (a b : Nat) (f : a < b → A) (g : b ≤ a → B) (hx : x = nI a := by rfl) (hy : y = nI b := by rfl) (ha : a < 2 ^ 31 := by omega) (hb : b < 2 ^ 31 := by omega) : (x < y → A) ∧ (¬ x < y → B) := by
  subst hx hy
  rw [nI_ltI ha hb]
  exact ⟨f, fun z => g (by omega)⟩
theorem pk_eq {x y : Int32} {A B : Prop} (a b : Nat) (f : a = b → A) (g : a ≠ b → B) (hx : x = nI a := by rfl) (hy : y = nI b := by rfl) (ha : a < 2 ^ 31 := by omega) (hb : b < 2 ^ 31 := by omega) : (x = y → A) ∧ (¬ x = y → B) := by
  subst hx hy
  rw [nI_eq ha hb]
  exact ⟨f, g⟩
theorem pk_in {x : Int32} (n N : Nat) (h : n < N) (hx : x = nI n := by rfl) (hN : N < 2 ^ 31 := by omega) : vp_in x N := by
  subst hx
  exact vp_in_nI h hN
theorem pk_cl {x : Int32} (n : Nat) (hx : x = nI n := by rfl) (h : n < 2 ^ 31 := by omega) : x.toNatClampNeg = n := by
  subst hx
  exact nI_clamp h
theorem pk_tn {n : Nat} (h : n < 2 ^ 32) : (nI n).toBitVec.toNat = n := Nat.mod_eq_of_lt h
theorem pk_and (x : Int32) {m : Int32} (k : Nat) (hm : m.toBitVec.toNat = 2 ^ k - 1) : x &&& m = nI (x.toBitVec.toNat % 2 ^ k) := by
  apply Int32.toBitVec_inj.mp
  apply BitVec.eq_of_toNat_eq
  rw [Int32.toBitVec_and, BitVec.toNat_and, hm, Nat.and_two_pow_sub_one_eq_mod]
  show _ = (BitVec.ofNat 32 _).toNat
  rw [BitVec.toNat_ofNat]
  exact (Nat.mod_eq_of_lt (Nat.lt_of_le_of_lt (Nat.mod_le _ _) x.toBitVec.isLt)).symm
theorem pk_andN {n : Nat} (h : n < 2 ^ 32) {m : Int32} (k : Nat) (hm : m.toBitVec.toNat = 2 ^ k - 1) : nI n &&& m = nI (n % 2 ^ k) := by
  rw [pk_and _ k hm, pk_tn h]
theorem pk_andE (x : Int32) {m : Int32} (k : Nat) (hm : m.toBitVec.toNat = 2 ^ k - 1) : ∃ j : Nat, j < 2 ^ k ∧ x &&& m = nI j := ⟨_, Nat.mod_lt _ (Nat.two_pow_pos k), pk_and x k hm⟩
theorem pk_andIn (x : Int32) {m : Int32} (k : Nat) (hm : m.toBitVec.toNat = 2 ^ k - 1) (hk : k ≤ 30) : vp_in (x &&& m) (2 ^ k) := by
  obtain ⟨j, hj, e⟩ := pk_andE x k hm
  rw [e]
  exact vp_in_nI hj (Nat.lt_of_le_of_lt (Nat.pow_le_pow_right (by decide) hk) (by decide))
theorem pk_shl (a s : Int32) (k : Nat) (hs : (s.toBitVec.smod 32).toNat = k) : (a <<< s).toBitVec.toNat = a.toBitVec.toNat * 2 ^ k % 2 ^ 32 := by
  show (a.toBitVec <<< (s.toBitVec.smod 32).toNat).toNat = _
  rw [hs, BitVec.toNat_shiftLeft, Nat.shiftLeft_eq]
theorem pk_shlN {n : Nat} (s : Int32) (k : Nat) (hs : (s.toBitVec.smod 32).toNat = k) (h : n * 2 ^ k < 2 ^ 32) : nI n <<< s = nI (n * 2 ^ k) := by
  apply Int32.toBitVec_inj.mp
  apply BitVec.eq_of_toNat_eq
  have hn : n < 2 ^ 32 := Nat.lt_of_le_of_lt (Nat.le_mul_of_pos_right n (Nat.two_pow_pos k)) h
  rw [pk_shl _ _ k hs, pk_tn hn, pk_tn h, Nat.mod_eq_of_lt h]
theorem pk_shr (a s : Int32) (k : Nat) (hs : (s.toBitVec.smod 32).toNat = k) : (a >>> s).toInt = a.toInt >>> k := by
  show (a.toBitVec.sshiftRight (s.toBitVec.smod 32).toNat).toInt = _
  rw [hs, BitVec.toInt_sshiftRight]
  rfl
theorem pk_shrN {n : Nat} (h : n < 2 ^ 31) (s : Int32) (k : Nat) (hs : (s.toBitVec.smod 32).toNat = k) : nI n >>> s = nI (n / 2 ^ k) := by
  apply Int32.toInt_inj.mp
  have h2 : n / 2 ^ k ≤ n := Nat.div_le_self _ _
  rw [pk_shr _ _ k hs, nI_toInt h, nI_toInt (by omega), Int.shiftRight_eq_div_pow]
  rfl
theorem pk_ushr (x s : Int32) (k : Nat) (hs : ((s.toUInt32 &&& Int32.toUInt32 31).toBitVec % 32).toNat = k) : (x.toUInt32 >>> (s.toUInt32 &&& Int32.toUInt32 31)).toInt32.toBitVec.toNat = x.toBitVec.toNat / 2 ^ k := by
  have e : (x.toUInt32 >>> (s.toUInt32 &&& Int32.toUInt32 31)).toInt32.toBitVec = x.toBitVec >>> k := by
    rw [← hs]
    exact UInt32.toBitVec_shiftRight _ _
  rw [e, BitVec.toNat_ushiftRight, Nat.shiftRight_eq_div_pow]
theorem pk_ushrN {n : Nat} (hn : n < 2 ^ 32) (s : Int32) (k : Nat) (hs : ((s.toUInt32 &&& Int32.toUInt32 31).toBitVec % 32).toNat = k) : ((nI n).toUInt32 >>> (s.toUInt32 &&& Int32.toUInt32 31)).toInt32 = nI (n / 2 ^ k) := by
  apply Int32.toBitVec_inj.mp
  apply BitVec.eq_of_toNat_eq
  rw [pk_ushr _ s k hs, pk_tn hn, pk_tn (Nat.lt_of_le_of_lt (Nat.div_le_self _ _) hn)]
theorem pk_nb (z : Int32) : narrow .byte (.int z.toInt8.toInt32) = .int z.toInt8.toInt32 := congrArg Value.int (by simp)
theorem pk_ns (z : Int32) : narrow .short (.int z.toInt16.toInt32) = .int z.toInt16.toInt32 := congrArg Value.int (by simp)
theorem pk_fb (r : Int32) : fits .byte (.int r.toInt8.toInt32) = true := by
  have ⟨a, b⟩ := lg_i2b_range r
  have h1 : (-128 : Int32).toInt = -128 := by decide
  have h2 : (127 : Int32).toInt = 127 := by decide
  simp only [fits, Bool.and_eq_true, decide_eq_true_eq, Int32.le_iff_toInt_le, h1, h2]
  omega
theorem pk_fs (r : Int32) : fits .short (.int r.toInt16.toInt32) = true := by
  have ⟨a, b⟩ := lg_i2s_range r
  have h1 : (-32768 : Int32).toInt = -32768 := by decide
  have h2 : (32767 : Int32).toInt = 32767 := by decide
  simp only [fits, Bool.and_eq_true, decide_eq_true_eq, Int32.le_iff_toInt_le, h1, h2]
  omega
theorem pk_charN {q : Nat} (hq : q < 65536) : narrow .char (.int (nI q)) = .int (nI q) ∧ fits .char (.int (nI q)) = true := by
  constructor
  · have e : (nI q).toUInt32.toUInt16.toUInt32.toInt32 = nI q := by
      apply Int32.toBitVec_inj.mp
      apply BitVec.eq_of_toNat_eq
      show (nI q).toUInt32.toUInt16.toUInt32.toNat = q % 2 ^ 32
      rw [UInt16.toNat_toUInt32, UInt32.toNat_toUInt16, show (nI q).toUInt32.toNat = q % 2 ^ 32 from rfl]
      omega
    exact congrArg Value.int e
  · have a : (0 : Int32) ≤ nI q := nI_pos' (by omega)
    have b : nI q ≤ 65535 := nI_le (b := 65535) (by omega) (by decide)
    show (decide ((0 : Int32) ≤ nI q) && decide (nI q ≤ 65535)) = true
    rw [decide_eq_true a, decide_eq_true b]
    rfl
theorem pk_char (x : Int32) : (x.toUInt32 % 65536).toInt32 = nI (x.toBitVec.toNat % 65536) := by
  apply Int32.toBitVec_inj.mp
  apply BitVec.eq_of_toNat_eq
  rw [pk_tn (by omega)]
  show (x.toUInt32 % 65536).toNat = _
  rw [UInt32.toNat_mod]
  rfl
theorem pk_nc (x : Int32) : narrow .char (.int (x.toUInt32 % 65536).toInt32) = .int (x.toUInt32 % 65536).toInt32 := by
  rw [pk_char]
  exact (pk_charN (Nat.mod_lt _ (by decide))).1
theorem pk_fc (x : Int32) : fits .char (.int (x.toUInt32 % 65536).toInt32) = true := by
  rw [pk_char]
  exact (pk_charN (Nat.mod_lt _ (by decide))).2
theorem pk_vb (z : Int32) : vp_nar .byte z.toInt8.toInt32 = z.toInt8.toInt32 := by rw [vp_nar_byte]; simp
theorem pk_vs (z : Int32) : vp_nar .short z.toInt16.toInt32 = z.toInt16.toInt32 := by rw [vp_nar_short]; simp
theorem pk_vc (z : Int32) : vp_nar .char (z.toUInt32 % 65536).toInt32 = (z.toUInt32 % 65536).toInt32 := Value.int.inj (pk_nc z)
theorem pk_lT {n : Nat} (h : n < 2 ^ 63) : (lN n).toInt = (n : Int) := lg_ofNat_toInt h
theorem pk_lLT {a b : Nat} (ha : a < 2 ^ 63) (hb : b < 2 ^ 63) : lN a < lN b ↔ a < b := by
  rw [Int64.lt_iff_toInt_lt, pk_lT ha, pk_lT hb]; omega
theorem pk_lLE {a b : Nat} (ha : a < 2 ^ 63) (hb : b < 2 ^ 63) : lN a ≤ lN b ↔ a ≤ b := by
  rw [Int64.le_iff_toInt_le, pk_lT ha, pk_lT hb]; omega
theorem pk_lEQ {a b : Nat} (ha : a < 2 ^ 63) (hb : b < 2 ^ 63) : lN a = lN b ↔ a = b := by
  rw [← Int64.toInt_inj, pk_lT ha, pk_lT hb]; omega
theorem pk_lOf {x : Int64} (h : ¬ x < 0) : ∃ k : Nat, k < 2 ^ 63 ∧ x = lN k := by
  rw [Int64.lt_iff_toInt_lt] at h
  have h0 : (0 : Int64).toInt = 0 := by decide
  have hx := Int64.toInt_lt x
  refine ⟨x.toInt.toNat, by omega, Int64.toInt_inj.mp ?_⟩
  rw [pk_lT (by omega)]
  omega
theorem pk_lDiv {a b : Nat} (ha : a < 2 ^ 63) (h0 : 0 < b) (hb : b < 2 ^ 63) : lN a / lN b = lN (a / b) := by
  apply Int64.toInt_inj.mp
  rw [lg_ldiv_nonneg (by rw [pk_lT ha]; omega) (by rw [pk_lT hb]; omega), pk_lT ha, pk_lT hb, pk_lT (Nat.lt_of_le_of_lt (Nat.div_le_self a b) ha)]
  rfl
theorem pk_lRem {a b : Nat} (ha : a < 2 ^ 63) (h0 : 0 < b) (hb : b < 2 ^ 63) : lN a - lN a / lN b * lN b = lN (a % b) := by
  rw [pk_lDiv ha h0 hb, lN_mul, lN_sub (Nat.div_mul_le_self a b)]
  exact congrArg lN (by have := Nat.div_add_mod' a b; omega)
theorem pk_loop {σ : Type} (W : Nat → Nat → σ → Prop) (I : Nat → σ → Prop) (e i0 : Nat) (s : σ) (hi : i0 ≤ e) (h0 : I i0 s) (hx : ∀ n s, I e s → W (n + 1) e s)
    (hs : ∀ n i s, i < e → I i s → (∀ s', I (i + 1) s' → W n (i + 1) s') → W (n + 1) i s) : ∃ n, W n i0 s :=
  ⟨e + 1, loop_i W I e hx hs (e + 1) i0 s hi (by omega) h0⟩
theorem pk_loopD {σ : Type} (W : Nat → Nat → σ → Prop) (I : Nat → σ → Prop) (hx : ∀ n s, I 0 s → W (n + 1) 0 s)
    (hs : ∀ n i s, I (i + 1) s → (∀ s', I i s' → W n i s') → W (n + 1) (i + 1) s) : ∀ (e : Nat) (s : σ), I e s → W (e + 1) e s := by
  intro e
  induction e with
  | zero => exact fun s h => hx 0 s h
  | succ e ih => exact fun s h => hs (e + 1) e s h (fun s' h' => ih s' h')
theorem lp1 {A1 : Type} (W : Nat → A1 → Prop) (I : A1 → Prop) (μ : A1 → Nat) (hs : ∀ (n : Nat) (a1 : A1), I a1 → (∀ (b1 : A1), I b1 → μ b1 < μ a1 → W n b1) → W (n + 1) a1) (a1 : A1) (h : I a1) : ∃ n, W n a1 :=
  loop_m (σ := A1) (fun n s => W n s) (fun s => I s) (fun s => μ s) (fun n s hI hk => hs n s hI (fun b1 h9 hm => hk b1 h9 hm)) a1 h
theorem lp2 {A1 A2 : Type} (W : Nat → A1 → A2 → Prop) (I : A1 → A2 → Prop) (μ : A1 → A2 → Nat) (hs : ∀ (n : Nat) (a1 : A1) (a2 : A2), I a1 a2 → (∀ (b1 : A1) (b2 : A2), I b1 b2 → μ b1 b2 < μ a1 a2 → W n b1 b2) → W (n + 1) a1 a2) (a1 : A1) (a2 : A2) (h : I a1 a2) : ∃ n, W n a1 a2 :=
  loop_m (σ := A1 × A2) (fun n s => W n s.1 s.2) (fun s => I s.1 s.2) (fun s => μ s.1 s.2) (fun n s hI hk => hs n s.1 s.2 hI (fun b1 b2 h9 hm => hk (b1, b2) h9 hm)) (a1, a2) h
theorem lp3 {A1 A2 A3 : Type} (W : Nat → A1 → A2 → A3 → Prop) (I : A1 → A2 → A3 → Prop) (μ : A1 → A2 → A3 → Nat) (hs : ∀ (n : Nat) (a1 : A1) (a2 : A2) (a3 : A3), I a1 a2 a3 → (∀ (b1 : A1) (b2 : A2) (b3 : A3), I b1 b2 b3 → μ b1 b2 b3 < μ a1 a2 a3 → W n b1 b2 b3) → W (n + 1) a1 a2 a3) (a1 : A1) (a2 : A2) (a3 : A3) (h : I a1 a2 a3) : ∃ n, W n a1 a2 a3 :=
  loop_m (σ := A1 × A2 × A3) (fun n s => W n s.1 s.2.1 s.2.2) (fun s => I s.1 s.2.1 s.2.2) (fun s => μ s.1 s.2.1 s.2.2) (fun n s hI hk => hs n s.1 s.2.1 s.2.2 hI (fun b1 b2 b3 h9 hm => hk (b1, b2, b3) h9 hm)) (a1, a2, a3) h
theorem lp4 {A1 A2 A3 A4 : Type} (W : Nat → A1 → A2 → A3 → A4 → Prop) (I : A1 → A2 → A3 → A4 → Prop) (μ : A1 → A2 → A3 → A4 → Nat) (hs : ∀ (n : Nat) (a1 : A1) (a2 : A2) (a3 : A3) (a4 : A4), I a1 a2 a3 a4 → (∀ (b1 : A1) (b2 : A2) (b3 : A3) (b4 : A4), I b1 b2 b3 b4 → μ b1 b2 b3 b4 < μ a1 a2 a3 a4 → W n b1 b2 b3 b4) → W (n + 1) a1 a2 a3 a4) (a1 : A1) (a2 : A2) (a3 : A3) (a4 : A4) (h : I a1 a2 a3 a4) : ∃ n, W n a1 a2 a3 a4 :=
  loop_m (σ := A1 × A2 × A3 × A4) (fun n s => W n s.1 s.2.1 s.2.2.1 s.2.2.2) (fun s => I s.1 s.2.1 s.2.2.1 s.2.2.2) (fun s => μ s.1 s.2.1 s.2.2.1 s.2.2.2) (fun n s hI hk => hs n s.1 s.2.1 s.2.2.1 s.2.2.2 hI (fun b1 b2 b3 b4 h9 hm => hk (b1, b2, b3, b4) h9 hm)) (a1, a2, a3, a4) h
theorem lp5 {A1 A2 A3 A4 A5 : Type} (W : Nat → A1 → A2 → A3 → A4 → A5 → Prop) (I : A1 → A2 → A3 → A4 → A5 → Prop) (μ : A1 → A2 → A3 → A4 → A5 → Nat) (hs : ∀ (n : Nat) (a1 : A1) (a2 : A2) (a3 : A3) (a4 : A4) (a5 : A5), I a1 a2 a3 a4 a5 → (∀ (b1 : A1) (b2 : A2) (b3 : A3) (b4 : A4) (b5 : A5), I b1 b2 b3 b4 b5 → μ b1 b2 b3 b4 b5 < μ a1 a2 a3 a4 a5 → W n b1 b2 b3 b4 b5) → W (n + 1) a1 a2 a3 a4 a5) (a1 : A1) (a2 : A2) (a3 : A3) (a4 : A4) (a5 : A5) (h : I a1 a2 a3 a4 a5) : ∃ n, W n a1 a2 a3 a4 a5 :=
  loop_m (σ := A1 × A2 × A3 × A4 × A5) (fun n s => W n s.1 s.2.1 s.2.2.1 s.2.2.2.1 s.2.2.2.2) (fun s => I s.1 s.2.1 s.2.2.1 s.2.2.2.1 s.2.2.2.2) (fun s => μ s.1 s.2.1 s.2.2.1 s.2.2.2.1 s.2.2.2.2) (fun n s hI hk => hs n s.1 s.2.1 s.2.2.1 s.2.2.2.1 s.2.2.2.2 hI (fun b1 b2 b3 b4 b5 h9 hm => hk (b1, b2, b3, b4, b5) h9 hm)) (a1, a2, a3, a4, a5) h
theorem lp6 {A1 A2 A3 A4 A5 A6 : Type} (W : Nat → A1 → A2 → A3 → A4 → A5 → A6 → Prop) (I : A1 → A2 → A3 → A4 → A5 → A6 → Prop) (μ : A1 → A2 → A3 → A4 → A5 → A6 → Nat) (hs : ∀ (n : Nat) (a1 : A1) (a2 : A2) (a3 : A3) (a4 : A4) (a5 : A5) (a6 : A6), I a1 a2 a3 a4 a5 a6 → (∀ (b1 : A1) (b2 : A2) (b3 : A3) (b4 : A4) (b5 : A5) (b6 : A6), I b1 b2 b3 b4 b5 b6 → μ b1 b2 b3 b4 b5 b6 < μ a1 a2 a3 a4 a5 a6 → W n b1 b2 b3 b4 b5 b6) → W (n + 1) a1 a2 a3 a4 a5 a6) (a1 : A1) (a2 : A2) (a3 : A3) (a4 : A4) (a5 : A5) (a6 : A6) (h : I a1 a2 a3 a4 a5 a6) : ∃ n, W n a1 a2 a3 a4 a5 a6 :=
  loop_m (σ := A1 × A2 × A3 × A4 × A5 × A6) (fun n s => W n s.1 s.2.1 s.2.2.1 s.2.2.2.1 s.2.2.2.2.1 s.2.2.2.2.2) (fun s => I s.1 s.2.1 s.2.2.1 s.2.2.2.1 s.2.2.2.2.1 s.2.2.2.2.2) (fun s => μ s.1 s.2.1 s.2.2.1 s.2.2.2.1 s.2.2.2.2.1 s.2.2.2.2.2) (fun n s hI hk => hs n s.1 s.2.1 s.2.2.1 s.2.2.2.1 s.2.2.2.2.1 s.2.2.2.2.2 hI (fun b1 b2 b3 b4 b5 b6 h9 hm => hk (b1, b2, b3, b4, b5, b6) h9 hm)) (a1, a2, a3, a4, a5, a6) h
theorem lp7 {A1 A2 A3 A4 A5 A6 A7 : Type} (W : Nat → A1 → A2 → A3 → A4 → A5 → A6 → A7 → Prop) (I : A1 → A2 → A3 → A4 → A5 → A6 → A7 → Prop) (μ : A1 → A2 → A3 → A4 → A5 → A6 → A7 → Nat) (hs : ∀ (n : Nat) (a1 : A1) (a2 : A2) (a3 : A3) (a4 : A4) (a5 : A5) (a6 : A6) (a7 : A7), I a1 a2 a3 a4 a5 a6 a7 → (∀ (b1 : A1) (b2 : A2) (b3 : A3) (b4 : A4) (b5 : A5) (b6 : A6) (b7 : A7), I b1 b2 b3 b4 b5 b6 b7 → μ b1 b2 b3 b4 b5 b6 b7 < μ a1 a2 a3 a4 a5 a6 a7 → W n b1 b2 b3 b4 b5 b6 b7) → W (n + 1) a1 a2 a3 a4 a5 a6 a7) (a1 : A1) (a2 : A2) (a3 : A3) (a4 : A4) (a5 : A5) (a6 : A6) (a7 : A7) (h : I a1 a2 a3 a4 a5 a6 a7) : ∃ n, W n a1 a2 a3 a4 a5 a6 a7 :=
  loop_m (σ := A1 × A2 × A3 × A4 × A5 × A6 × A7) (fun n s => W n s.1 s.2.1 s.2.2.1 s.2.2.2.1 s.2.2.2.2.1 s.2.2.2.2.2.1 s.2.2.2.2.2.2) (fun s => I s.1 s.2.1 s.2.2.1 s.2.2.2.1 s.2.2.2.2.1 s.2.2.2.2.2.1 s.2.2.2.2.2.2) (fun s => μ s.1 s.2.1 s.2.2.1 s.2.2.2.1 s.2.2.2.2.1 s.2.2.2.2.2.1 s.2.2.2.2.2.2) (fun n s hI hk => hs n s.1 s.2.1 s.2.2.1 s.2.2.2.1 s.2.2.2.2.1 s.2.2.2.2.2.1 s.2.2.2.2.2.2 hI (fun b1 b2 b3 b4 b5 b6 b7 h9 hm => hk (b1, b2, b3, b4, b5, b6, b7) h9 hm)) (a1, a2, a3, a4, a5, a6, a7) h
theorem lp8 {A1 A2 A3 A4 A5 A6 A7 A8 : Type} (W : Nat → A1 → A2 → A3 → A4 → A5 → A6 → A7 → A8 → Prop) (I : A1 → A2 → A3 → A4 → A5 → A6 → A7 → A8 → Prop) (μ : A1 → A2 → A3 → A4 → A5 → A6 → A7 → A8 → Nat) (hs : ∀ (n : Nat) (a1 : A1) (a2 : A2) (a3 : A3) (a4 : A4) (a5 : A5) (a6 : A6) (a7 : A7) (a8 : A8), I a1 a2 a3 a4 a5 a6 a7 a8 → (∀ (b1 : A1) (b2 : A2) (b3 : A3) (b4 : A4) (b5 : A5) (b6 : A6) (b7 : A7) (b8 : A8), I b1 b2 b3 b4 b5 b6 b7 b8 → μ b1 b2 b3 b4 b5 b6 b7 b8 < μ a1 a2 a3 a4 a5 a6 a7 a8 → W n b1 b2 b3 b4 b5 b6 b7 b8) → W (n + 1) a1 a2 a3 a4 a5 a6 a7 a8) (a1 : A1) (a2 : A2) (a3 : A3) (a4 : A4) (a5 : A5) (a6 : A6) (a7 : A7) (a8 : A8) (h : I a1 a2 a3 a4 a5 a6 a7 a8) : ∃ n, W n a1 a2 a3 a4 a5 a6 a7 a8 :=
  loop_m (σ := A1 × A2 × A3 × A4 × A5 × A6 × A7 × A8) (fun n s => W n s.1 s.2.1 s.2.2.1 s.2.2.2.1 s.2.2.2.2.1 s.2.2.2.2.2.1 s.2.2.2.2.2.2.1 s.2.2.2.2.2.2.2) (fun s => I s.1 s.2.1 s.2.2.1 s.2.2.2.1 s.2.2.2.2.1 s.2.2.2.2.2.1 s.2.2.2.2.2.2.1 s.2.2.2.2.2.2.2) (fun s => μ s.1 s.2.1 s.2.2.1 s.2.2.2.1 s.2.2.2.2.1 s.2.2.2.2.2.1 s.2.2.2.2.2.2.1 s.2.2.2.2.2.2.2) (fun n s hI hk => hs n s.1 s.2.1 s.2.2.1 s.2.2.2.1 s.2.2.2.2.1 s.2.2.2.2.2.1 s.2.2.2.2.2.2.1 s.2.2.2.2.2.2.2 hI (fun b1 b2 b3 b4 b5 b6 b7 b8 h9 hm => hk (b1, b2, b3, b4, b5, b6, b7, b8) h9 hm)) (a1, a2, a3, a4, a5, a6, a7, a8) h
theorem lp9 {A1 A2 A3 A4 A5 A6 A7 A8 A9 : Type} (W : Nat → A1 → A2 → A3 → A4 → A5 → A6 → A7 → A8 → A9 → Prop) (I : A1 → A2 → A3 → A4 → A5 → A6 → A7 → A8 → A9 → Prop) (μ : A1 → A2 → A3 → A4 → A5 → A6 → A7 → A8 → A9 → Nat) (hs : ∀ (n : Nat) (a1 : A1) (a2 : A2) (a3 : A3) (a4 : A4) (a5 : A5) (a6 : A6) (a7 : A7) (a8 : A8) (a9 : A9), I a1 a2 a3 a4 a5 a6 a7 a8 a9 → (∀ (b1 : A1) (b2 : A2) (b3 : A3) (b4 : A4) (b5 : A5) (b6 : A6) (b7 : A7) (b8 : A8) (b9 : A9), I b1 b2 b3 b4 b5 b6 b7 b8 b9 → μ b1 b2 b3 b4 b5 b6 b7 b8 b9 < μ a1 a2 a3 a4 a5 a6 a7 a8 a9 → W n b1 b2 b3 b4 b5 b6 b7 b8 b9) → W (n + 1) a1 a2 a3 a4 a5 a6 a7 a8 a9) (a1 : A1) (a2 : A2) (a3 : A3) (a4 : A4) (a5 : A5) (a6 : A6) (a7 : A7) (a8 : A8) (a9 : A9) (h : I a1 a2 a3 a4 a5 a6 a7 a8 a9) : ∃ n, W n a1 a2 a3 a4 a5 a6 a7 a8 a9 :=
  loop_m (σ := A1 × A2 × A3 × A4 × A5 × A6 × A7 × A8 × A9) (fun n s => W n s.1 s.2.1 s.2.2.1 s.2.2.2.1 s.2.2.2.2.1 s.2.2.2.2.2.1 s.2.2.2.2.2.2.1 s.2.2.2.2.2.2.2.1 s.2.2.2.2.2.2.2.2) (fun s => I s.1 s.2.1 s.2.2.1 s.2.2.2.1 s.2.2.2.2.1 s.2.2.2.2.2.1 s.2.2.2.2.2.2.1 s.2.2.2.2.2.2.2.1 s.2.2.2.2.2.2.2.2) (fun s => μ s.1 s.2.1 s.2.2.1 s.2.2.2.1 s.2.2.2.2.1 s.2.2.2.2.2.1 s.2.2.2.2.2.2.1 s.2.2.2.2.2.2.2.1 s.2.2.2.2.2.2.2.2) (fun n s hI hk => hs n s.1 s.2.1 s.2.2.1 s.2.2.2.1 s.2.2.2.2.1 s.2.2.2.2.2.1 s.2.2.2.2.2.2.1 s.2.2.2.2.2.2.2.1 s.2.2.2.2.2.2.2.2 hI (fun b1 b2 b3 b4 b5 b6 b7 b8 b9 h9 hm => hk (b1, b2, b3, b4, b5, b6, b7, b8, b9) h9 hm)) (a1, a2, a3, a4, a5, a6, a7, a8, a9) h
theorem lp10 {A1 A2 A3 A4 A5 A6 A7 A8 A9 A10 : Type} (W : Nat → A1 → A2 → A3 → A4 → A5 → A6 → A7 → A8 → A9 → A10 → Prop) (I : A1 → A2 → A3 → A4 → A5 → A6 → A7 → A8 → A9 → A10 → Prop) (μ : A1 → A2 → A3 → A4 → A5 → A6 → A7 → A8 → A9 → A10 → Nat) (hs : ∀ (n : Nat) (a1 : A1) (a2 : A2) (a3 : A3) (a4 : A4) (a5 : A5) (a6 : A6) (a7 : A7) (a8 : A8) (a9 : A9) (a10 : A10), I a1 a2 a3 a4 a5 a6 a7 a8 a9 a10 → (∀ (b1 : A1) (b2 : A2) (b3 : A3) (b4 : A4) (b5 : A5) (b6 : A6) (b7 : A7) (b8 : A8) (b9 : A9) (b10 : A10), I b1 b2 b3 b4 b5 b6 b7 b8 b9 b10 → μ b1 b2 b3 b4 b5 b6 b7 b8 b9 b10 < μ a1 a2 a3 a4 a5 a6 a7 a8 a9 a10 → W n b1 b2 b3 b4 b5 b6 b7 b8 b9 b10) → W (n + 1) a1 a2 a3 a4 a5 a6 a7 a8 a9 a10) (a1 : A1) (a2 : A2) (a3 : A3) (a4 : A4) (a5 : A5) (a6 : A6) (a7 : A7) (a8 : A8) (a9 : A9) (a10 : A10) (h : I a1 a2 a3 a4 a5 a6 a7 a8 a9 a10) : ∃ n, W n a1 a2 a3 a4 a5 a6 a7 a8 a9 a10 :=
  loop_m (σ := A1 × A2 × A3 × A4 × A5 × A6 × A7 × A8 × A9 × A10) (fun n s => W n s.1 s.2.1 s.2.2.1 s.2.2.2.1 s.2.2.2.2.1 s.2.2.2.2.2.1 s.2.2.2.2.2.2.1 s.2.2.2.2.2.2.2.1 s.2.2.2.2.2.2.2.2.1 s.2.2.2.2.2.2.2.2.2) (fun s => I s.1 s.2.1 s.2.2.1 s.2.2.2.1 s.2.2.2.2.1 s.2.2.2.2.2.1 s.2.2.2.2.2.2.1 s.2.2.2.2.2.2.2.1 s.2.2.2.2.2.2.2.2.1 s.2.2.2.2.2.2.2.2.2) (fun s => μ s.1 s.2.1 s.2.2.1 s.2.2.2.1 s.2.2.2.2.1 s.2.2.2.2.2.1 s.2.2.2.2.2.2.1 s.2.2.2.2.2.2.2.1 s.2.2.2.2.2.2.2.2.1 s.2.2.2.2.2.2.2.2.2) (fun n s hI hk => hs n s.1 s.2.1 s.2.2.1 s.2.2.2.1 s.2.2.2.2.1 s.2.2.2.2.2.1 s.2.2.2.2.2.2.1 s.2.2.2.2.2.2.2.1 s.2.2.2.2.2.2.2.2.1 s.2.2.2.2.2.2.2.2.2 hI (fun b1 b2 b3 b4 b5 b6 b7 b8 b9 b10 h9 hm => hk (b1, b2, b3, b4, b5, b6, b7, b8, b9, b10) h9 hm)) (a1, a2, a3, a4, a5, a6, a7, a8, a9, a10) h
theorem lp11 {A1 A2 A3 A4 A5 A6 A7 A8 A9 A10 A11 : Type} (W : Nat → A1 → A2 → A3 → A4 → A5 → A6 → A7 → A8 → A9 → A10 → A11 → Prop) (I : A1 → A2 → A3 → A4 → A5 → A6 → A7 → A8 → A9 → A10 → A11 → Prop) (μ : A1 → A2 → A3 → A4 → A5 → A6 → A7 → A8 → A9 → A10 → A11 → Nat) (hs : ∀ (n : Nat) (a1 : A1) (a2 : A2) (a3 : A3) (a4 : A4) (a5 : A5) (a6 : A6) (a7 : A7) (a8 : A8) (a9 : A9) (a10 : A10) (a11 : A11), I a1 a2 a3 a4 a5 a6 a7 a8 a9 a10 a11 → (∀ (b1 : A1) (b2 : A2) (b3 : A3) (b4 : A4) (b5 : A5) (b6 : A6) (b7 : A7) (b8 : A8) (b9 : A9) (b10 : A10) (b11 : A11), I b1 b2 b3 b4 b5 b6 b7 b8 b9 b10 b11 → μ b1 b2 b3 b4 b5 b6 b7 b8 b9 b10 b11 < μ a1 a2 a3 a4 a5 a6 a7 a8 a9 a10 a11 → W n b1 b2 b3 b4 b5 b6 b7 b8 b9 b10 b11) → W (n + 1) a1 a2 a3 a4 a5 a6 a7 a8 a9 a10 a11) (a1 : A1) (a2 : A2) (a3 : A3) (a4 : A4) (a5 : A5) (a6 : A6) (a7 : A7) (a8 : A8) (a9 : A9) (a10 : A10) (a11 : A11) (h : I a1 a2 a3 a4 a5 a6 a7 a8 a9 a10 a11) : ∃ n, W n a1 a2 a3 a4 a5 a6 a7 a8 a9 a10 a11 :=
  loop_m (σ := A1 × A2 × A3 × A4 × A5 × A6 × A7 × A8 × A9 × A10 × A11) (fun n s => W n s.1 s.2.1 s.2.2.1 s.2.2.2.1 s.2.2.2.2.1 s.2.2.2.2.2.1 s.2.2.2.2.2.2.1 s.2.2.2.2.2.2.2.1 s.2.2.2.2.2.2.2.2.1 s.2.2.2.2.2.2.2.2.2.1 s.2.2.2.2.2.2.2.2.2.2) (fun s => I s.1 s.2.1 s.2.2.1 s.2.2.2.1 s.2.2.2.2.1 s.2.2.2.2.2.1 s.2.2.2.2.2.2.1 s.2.2.2.2.2.2.2.1 s.2.2.2.2.2.2.2.2.1 s.2.2.2.2.2.2.2.2.2.1 s.2.2.2.2.2.2.2.2.2.2) (fun s => μ s.1 s.2.1 s.2.2.1 s.2.2.2.1 s.2.2.2.2.1 s.2.2.2.2.2.1 s.2.2.2.2.2.2.1 s.2.2.2.2.2.2.2.1 s.2.2.2.2.2.2.2.2.1 s.2.2.2.2.2.2.2.2.2.1 s.2.2.2.2.2.2.2.2.2.2) (fun n s hI hk => hs n s.1 s.2.1 s.2.2.1 s.2.2.2.1 s.2.2.2.2.1 s.2.2.2.2.2.1 s.2.2.2.2.2.2.1 s.2.2.2.2.2.2.2.1 s.2.2.2.2.2.2.2.2.1 s.2.2.2.2.2.2.2.2.2.1 s.2.2.2.2.2.2.2.2.2.2 hI (fun b1 b2 b3 b4 b5 b6 b7 b8 b9 b10 b11 h9 hm => hk (b1, b2, b3, b4, b5, b6, b7, b8, b9, b10, b11) h9 hm)) (a1, a2, a3, a4, a5, a6, a7, a8, a9, a10, a11) h
theorem lp12 {A1 A2 A3 A4 A5 A6 A7 A8 A9 A10 A11 A12 : Type} (W : Nat → A1 → A2 → A3 → A4 → A5 → A6 → A7 → A8 → A9 → A10 → A11 → A12 → Prop) (I : A1 → A2 → A3 → A4 → A5 → A6 → A7 → A8 → A9 → A10 → A11 → A12 → Prop) (μ : A1 → A2 → A3 → A4 → A5 → A6 → A7 → A8 → A9 → A10 → A11 → A12 → Nat) (hs : ∀ (n : Nat) (a1 : A1) (a2 : A2) (a3 : A3) (a4 : A4) (a5 : A5) (a6 : A6) (a7 : A7) (a8 : A8) (a9 : A9) (a10 : A10) (a11 : A11) (a12 : A12), I a1 a2 a3 a4 a5 a6 a7 a8 a9 a10 a11 a12 → (∀ (b1 : A1) (b2 : A2) (b3 : A3) (b4 : A4) (b5 : A5) (b6 : A6) (b7 : A7) (b8 : A8) (b9 : A9) (b10 : A10) (b11 : A11) (b12 : A12), I b1 b2 b3 b4 b5 b6 b7 b8 b9 b10 b11 b12 → μ b1 b2 b3 b4 b5 b6 b7 b8 b9 b10 b11 b12 < μ a1 a2 a3 a4 a5 a6 a7 a8 a9 a10 a11 a12 → W n b1 b2 b3 b4 b5 b6 b7 b8 b9 b10 b11 b12) → W (n + 1) a1 a2 a3 a4 a5 a6 a7 a8 a9 a10 a11 a12) (a1 : A1) (a2 : A2) (a3 : A3) (a4 : A4) (a5 : A5) (a6 : A6) (a7 : A7) (a8 : A8) (a9 : A9) (a10 : A10) (a11 : A11) (a12 : A12) (h : I a1 a2 a3 a4 a5 a6 a7 a8 a9 a10 a11 a12) : ∃ n, W n a1 a2 a3 a4 a5 a6 a7 a8 a9 a10 a11 a12 :=
  loop_m (σ := A1 × A2 × A3 × A4 × A5 × A6 × A7 × A8 × A9 × A10 × A11 × A12) (fun n s => W n s.1 s.2.1 s.2.2.1 s.2.2.2.1 s.2.2.2.2.1 s.2.2.2.2.2.1 s.2.2.2.2.2.2.1 s.2.2.2.2.2.2.2.1 s.2.2.2.2.2.2.2.2.1 s.2.2.2.2.2.2.2.2.2.1 s.2.2.2.2.2.2.2.2.2.2.1 s.2.2.2.2.2.2.2.2.2.2.2) (fun s => I s.1 s.2.1 s.2.2.1 s.2.2.2.1 s.2.2.2.2.1 s.2.2.2.2.2.1 s.2.2.2.2.2.2.1 s.2.2.2.2.2.2.2.1 s.2.2.2.2.2.2.2.2.1 s.2.2.2.2.2.2.2.2.2.1 s.2.2.2.2.2.2.2.2.2.2.1 s.2.2.2.2.2.2.2.2.2.2.2) (fun s => μ s.1 s.2.1 s.2.2.1 s.2.2.2.1 s.2.2.2.2.1 s.2.2.2.2.2.1 s.2.2.2.2.2.2.1 s.2.2.2.2.2.2.2.1 s.2.2.2.2.2.2.2.2.1 s.2.2.2.2.2.2.2.2.2.1 s.2.2.2.2.2.2.2.2.2.2.1 s.2.2.2.2.2.2.2.2.2.2.2) (fun n s hI hk => hs n s.1 s.2.1 s.2.2.1 s.2.2.2.1 s.2.2.2.2.1 s.2.2.2.2.2.1 s.2.2.2.2.2.2.1 s.2.2.2.2.2.2.2.1 s.2.2.2.2.2.2.2.2.1 s.2.2.2.2.2.2.2.2.2.1 s.2.2.2.2.2.2.2.2.2.2.1 s.2.2.2.2.2.2.2.2.2.2.2 hI (fun b1 b2 b3 b4 b5 b6 b7 b8 b9 b10 b11 b12 h9 hm => hk (b1, b2, b3, b4, b5, b6, b7, b8, b9, b10, b11, b12) h9 hm)) (a1, a2, a3, a4, a5, a6, a7, a8, a9, a10, a11, a12) h
theorem lp13 {A1 A2 A3 A4 A5 A6 A7 A8 A9 A10 A11 A12 A13 : Type} (W : Nat → A1 → A2 → A3 → A4 → A5 → A6 → A7 → A8 → A9 → A10 → A11 → A12 → A13 → Prop) (I : A1 → A2 → A3 → A4 → A5 → A6 → A7 → A8 → A9 → A10 → A11 → A12 → A13 → Prop) (μ : A1 → A2 → A3 → A4 → A5 → A6 → A7 → A8 → A9 → A10 → A11 → A12 → A13 → Nat) (hs : ∀ (n : Nat) (a1 : A1) (a2 : A2) (a3 : A3) (a4 : A4) (a5 : A5) (a6 : A6) (a7 : A7) (a8 : A8) (a9 : A9) (a10 : A10) (a11 : A11) (a12 : A12) (a13 : A13), I a1 a2 a3 a4 a5 a6 a7 a8 a9 a10 a11 a12 a13 → (∀ (b1 : A1) (b2 : A2) (b3 : A3) (b4 : A4) (b5 : A5) (b6 : A6) (b7 : A7) (b8 : A8) (b9 : A9) (b10 : A10) (b11 : A11) (b12 : A12) (b13 : A13), I b1 b2 b3 b4 b5 b6 b7 b8 b9 b10 b11 b12 b13 → μ b1 b2 b3 b4 b5 b6 b7 b8 b9 b10 b11 b12 b13 < μ a1 a2 a3 a4 a5 a6 a7 a8 a9 a10 a11 a12 a13 → W n b1 b2 b3 b4 b5 b6 b7 b8 b9 b10 b11 b12 b13) → W (n + 1) a1 a2 a3 a4 a5 a6 a7 a8 a9 a10 a11 a12 a13) (a1 : A1) (a2 : A2) (a3 : A3) (a4 : A4) (a5 : A5) (a6 : A6) (a7 : A7) (a8 : A8) (a9 : A9) (a10 : A10) (a11 : A11) (a12 : A12) (a13 : A13) (h : I a1 a2 a3 a4 a5 a6 a7 a8 a9 a10 a11 a12 a13) : ∃ n, W n a1 a2 a3 a4 a5 a6 a7 a8 a9 a10 a11 a12 a13 :=
  loop_m (σ := A1 × A2 × A3 × A4 × A5 × A6 × A7 × A8 × A9 × A10 × A11 × A12 × A13) (fun n s => W n s.1 s.2.1 s.2.2.1 s.2.2.2.1 s.2.2.2.2.1 s.2.2.2.2.2.1 s.2.2.2.2.2.2.1 s.2.2.2.2.2.2.2.1 s.2.2.2.2.2.2.2.2.1 s.2.2.2.2.2.2.2.2.2.1 s.2.2.2.2.2.2.2.2.2.2.1 s.2.2.2.2.2.2.2.2.2.2.2.1 s.2.2.2.2.2.2.2.2.2.2.2.2) (fun s => I s.1 s.2.1 s.2.2.1 s.2.2.2.1 s.2.2.2.2.1 s.2.2.2.2.2.1 s.2.2.2.2.2.2.1 s.2.2.2.2.2.2.2.1 s.2.2.2.2.2.2.2.2.1 s.2.2.2.2.2.2.2.2.2.1 s.2.2.2.2.2.2.2.2.2.2.1 s.2.2.2.2.2.2.2.2.2.2.2.1 s.2.2.2.2.2.2.2.2.2.2.2.2) (fun s => μ s.1 s.2.1 s.2.2.1 s.2.2.2.1 s.2.2.2.2.1 s.2.2.2.2.2.1 s.2.2.2.2.2.2.1 s.2.2.2.2.2.2.2.1 s.2.2.2.2.2.2.2.2.1 s.2.2.2.2.2.2.2.2.2.1 s.2.2.2.2.2.2.2.2.2.2.1 s.2.2.2.2.2.2.2.2.2.2.2.1 s.2.2.2.2.2.2.2.2.2.2.2.2) (fun n s hI hk => hs n s.1 s.2.1 s.2.2.1 s.2.2.2.1 s.2.2.2.2.1 s.2.2.2.2.2.1 s.2.2.2.2.2.2.1 s.2.2.2.2.2.2.2.1 s.2.2.2.2.2.2.2.2.1 s.2.2.2.2.2.2.2.2.2.1 s.2.2.2.2.2.2.2.2.2.2.1 s.2.2.2.2.2.2.2.2.2.2.2.1 s.2.2.2.2.2.2.2.2.2.2.2.2 hI (fun b1 b2 b3 b4 b5 b6 b7 b8 b9 b10 b11 b12 b13 h9 hm => hk (b1, b2, b3, b4, b5, b6, b7, b8, b9, b10, b11, b12, b13) h9 hm)) (a1, a2, a3, a4, a5, a6, a7, a8, a9, a10, a11, a12, a13) h
theorem lp14 {A1 A2 A3 A4 A5 A6 A7 A8 A9 A10 A11 A12 A13 A14 : Type} (W : Nat → A1 → A2 → A3 → A4 → A5 → A6 → A7 → A8 → A9 → A10 → A11 → A12 → A13 → A14 → Prop) (I : A1 → A2 → A3 → A4 → A5 → A6 → A7 → A8 → A9 → A10 → A11 → A12 → A13 → A14 → Prop) (μ : A1 → A2 → A3 → A4 → A5 → A6 → A7 → A8 → A9 → A10 → A11 → A12 → A13 → A14 → Nat) (hs : ∀ (n : Nat) (a1 : A1) (a2 : A2) (a3 : A3) (a4 : A4) (a5 : A5) (a6 : A6) (a7 : A7) (a8 : A8) (a9 : A9) (a10 : A10) (a11 : A11) (a12 : A12) (a13 : A13) (a14 : A14), I a1 a2 a3 a4 a5 a6 a7 a8 a9 a10 a11 a12 a13 a14 → (∀ (b1 : A1) (b2 : A2) (b3 : A3) (b4 : A4) (b5 : A5) (b6 : A6) (b7 : A7) (b8 : A8) (b9 : A9) (b10 : A10) (b11 : A11) (b12 : A12) (b13 : A13) (b14 : A14), I b1 b2 b3 b4 b5 b6 b7 b8 b9 b10 b11 b12 b13 b14 → μ b1 b2 b3 b4 b5 b6 b7 b8 b9 b10 b11 b12 b13 b14 < μ a1 a2 a3 a4 a5 a6 a7 a8 a9 a10 a11 a12 a13 a14 → W n b1 b2 b3 b4 b5 b6 b7 b8 b9 b10 b11 b12 b13 b14) → W (n + 1) a1 a2 a3 a4 a5 a6 a7 a8 a9 a10 a11 a12 a13 a14) (a1 : A1) (a2 : A2) (a3 : A3) (a4 : A4) (a5 : A5) (a6 : A6) (a7 : A7) (a8 : A8) (a9 : A9) (a10 : A10) (a11 : A11) (a12 : A12) (a13 : A13) (a14 : A14) (h : I a1 a2 a3 a4 a5 a6 a7 a8 a9 a10 a11 a12 a13 a14) : ∃ n, W n a1 a2 a3 a4 a5 a6 a7 a8 a9 a10 a11 a12 a13 a14 :=
  loop_m (σ := A1 × A2 × A3 × A4 × A5 × A6 × A7 × A8 × A9 × A10 × A11 × A12 × A13 × A14) (fun n s => W n s.1 s.2.1 s.2.2.1 s.2.2.2.1 s.2.2.2.2.1 s.2.2.2.2.2.1 s.2.2.2.2.2.2.1 s.2.2.2.2.2.2.2.1 s.2.2.2.2.2.2.2.2.1 s.2.2.2.2.2.2.2.2.2.1 s.2.2.2.2.2.2.2.2.2.2.1 s.2.2.2.2.2.2.2.2.2.2.2.1 s.2.2.2.2.2.2.2.2.2.2.2.2.1 s.2.2.2.2.2.2.2.2.2.2.2.2.2) (fun s => I s.1 s.2.1 s.2.2.1 s.2.2.2.1 s.2.2.2.2.1 s.2.2.2.2.2.1 s.2.2.2.2.2.2.1 s.2.2.2.2.2.2.2.1 s.2.2.2.2.2.2.2.2.1 s.2.2.2.2.2.2.2.2.2.1 s.2.2.2.2.2.2.2.2.2.2.1 s.2.2.2.2.2.2.2.2.2.2.2.1 s.2.2.2.2.2.2.2.2.2.2.2.2.1 s.2.2.2.2.2.2.2.2.2.2.2.2.2) (fun s => μ s.1 s.2.1 s.2.2.1 s.2.2.2.1 s.2.2.2.2.1 s.2.2.2.2.2.1 s.2.2.2.2.2.2.1 s.2.2.2.2.2.2.2.1 s.2.2.2.2.2.2.2.2.1 s.2.2.2.2.2.2.2.2.2.1 s.2.2.2.2.2.2.2.2.2.2.1 s.2.2.2.2.2.2.2.2.2.2.2.1 s.2.2.2.2.2.2.2.2.2.2.2.2.1 s.2.2.2.2.2.2.2.2.2.2.2.2.2) (fun n s hI hk => hs n s.1 s.2.1 s.2.2.1 s.2.2.2.1 s.2.2.2.2.1 s.2.2.2.2.2.1 s.2.2.2.2.2.2.1 s.2.2.2.2.2.2.2.1 s.2.2.2.2.2.2.2.2.1 s.2.2.2.2.2.2.2.2.2.1 s.2.2.2.2.2.2.2.2.2.2.1 s.2.2.2.2.2.2.2.2.2.2.2.1 s.2.2.2.2.2.2.2.2.2.2.2.2.1 s.2.2.2.2.2.2.2.2.2.2.2.2.2 hI (fun b1 b2 b3 b4 b5 b6 b7 b8 b9 b10 b11 b12 b13 b14 h9 hm => hk (b1, b2, b3, b4, b5, b6, b7, b8, b9, b10, b11, b12, b13, b14) h9 hm)) (a1, a2, a3, a4, a5, a6, a7, a8, a9, a10, a11, a12, a13, a14) h
theorem lp15 {A1 A2 A3 A4 A5 A6 A7 A8 A9 A10 A11 A12 A13 A14 A15 : Type} (W : Nat → A1 → A2 → A3 → A4 → A5 → A6 → A7 → A8 → A9 → A10 → A11 → A12 → A13 → A14 → A15 → Prop) (I : A1 → A2 → A3 → A4 → A5 → A6 → A7 → A8 → A9 → A10 → A11 → A12 → A13 → A14 → A15 → Prop) (μ : A1 → A2 → A3 → A4 → A5 → A6 → A7 → A8 → A9 → A10 → A11 → A12 → A13 → A14 → A15 → Nat) (hs : ∀ (n : Nat) (a1 : A1) (a2 : A2) (a3 : A3) (a4 : A4) (a5 : A5) (a6 : A6) (a7 : A7) (a8 : A8) (a9 : A9) (a10 : A10) (a11 : A11) (a12 : A12) (a13 : A13) (a14 : A14) (a15 : A15), I a1 a2 a3 a4 a5 a6 a7 a8 a9 a10 a11 a12 a13 a14 a15 → (∀ (b1 : A1) (b2 : A2) (b3 : A3) (b4 : A4) (b5 : A5) (b6 : A6) (b7 : A7) (b8 : A8) (b9 : A9) (b10 : A10) (b11 : A11) (b12 : A12) (b13 : A13) (b14 : A14) (b15 : A15), I b1 b2 b3 b4 b5 b6 b7 b8 b9 b10 b11 b12 b13 b14 b15 → μ b1 b2 b3 b4 b5 b6 b7 b8 b9 b10 b11 b12 b13 b14 b15 < μ a1 a2 a3 a4 a5 a6 a7 a8 a9 a10 a11 a12 a13 a14 a15 → W n b1 b2 b3 b4 b5 b6 b7 b8 b9 b10 b11 b12 b13 b14 b15) → W (n + 1) a1 a2 a3 a4 a5 a6 a7 a8 a9 a10 a11 a12 a13 a14 a15) (a1 : A1) (a2 : A2) (a3 : A3) (a4 : A4) (a5 : A5) (a6 : A6) (a7 : A7) (a8 : A8) (a9 : A9) (a10 : A10) (a11 : A11) (a12 : A12) (a13 : A13) (a14 : A14) (a15 : A15) (h : I a1 a2 a3 a4 a5 a6 a7 a8 a9 a10 a11 a12 a13 a14 a15) : ∃ n, W n a1 a2 a3 a4 a5 a6 a7 a8 a9 a10 a11 a12 a13 a14 a15 :=
  loop_m (σ := A1 × A2 × A3 × A4 × A5 × A6 × A7 × A8 × A9 × A10 × A11 × A12 × A13 × A14 × A15) (fun n s => W n s.1 s.2.1 s.2.2.1 s.2.2.2.1 s.2.2.2.2.1 s.2.2.2.2.2.1 s.2.2.2.2.2.2.1 s.2.2.2.2.2.2.2.1 s.2.2.2.2.2.2.2.2.1 s.2.2.2.2.2.2.2.2.2.1 s.2.2.2.2.2.2.2.2.2.2.1 s.2.2.2.2.2.2.2.2.2.2.2.1 s.2.2.2.2.2.2.2.2.2.2.2.2.1 s.2.2.2.2.2.2.2.2.2.2.2.2.2.1 s.2.2.2.2.2.2.2.2.2.2.2.2.2.2) (fun s => I s.1 s.2.1 s.2.2.1 s.2.2.2.1 s.2.2.2.2.1 s.2.2.2.2.2.1 s.2.2.2.2.2.2.1 s.2.2.2.2.2.2.2.1 s.2.2.2.2.2.2.2.2.1 s.2.2.2.2.2.2.2.2.2.1 s.2.2.2.2.2.2.2.2.2.2.1 s.2.2.2.2.2.2.2.2.2.2.2.1 s.2.2.2.2.2.2.2.2.2.2.2.2.1 s.2.2.2.2.2.2.2.2.2.2.2.2.2.1 s.2.2.2.2.2.2.2.2.2.2.2.2.2.2) (fun s => μ s.1 s.2.1 s.2.2.1 s.2.2.2.1 s.2.2.2.2.1 s.2.2.2.2.2.1 s.2.2.2.2.2.2.1 s.2.2.2.2.2.2.2.1 s.2.2.2.2.2.2.2.2.1 s.2.2.2.2.2.2.2.2.2.1 s.2.2.2.2.2.2.2.2.2.2.1 s.2.2.2.2.2.2.2.2.2.2.2.1 s.2.2.2.2.2.2.2.2.2.2.2.2.1 s.2.2.2.2.2.2.2.2.2.2.2.2.2.1 s.2.2.2.2.2.2.2.2.2.2.2.2.2.2) (fun n s hI hk => hs n s.1 s.2.1 s.2.2.1 s.2.2.2.1 s.2.2.2.2.1 s.2.2.2.2.2.1 s.2.2.2.2.2.2.1 s.2.2.2.2.2.2.2.1 s.2.2.2.2.2.2.2.2.1 s.2.2.2.2.2.2.2.2.2.1 s.2.2.2.2.2.2.2.2.2.2.1 s.2.2.2.2.2.2.2.2.2.2.2.1 s.2.2.2.2.2.2.2.2.2.2.2.2.1 s.2.2.2.2.2.2.2.2.2.2.2.2.2.1 s.2.2.2.2.2.2.2.2.2.2.2.2.2.2 hI (fun b1 b2 b3 b4 b5 b6 b7 b8 b9 b10 b11 b12 b13 b14 b15 h9 hm => hk (b1, b2, b3, b4, b5, b6, b7, b8, b9, b10, b11, b12, b13, b14, b15) h9 hm)) (a1, a2, a3, a4, a5, a6, a7, a8, a9, a10, a11, a12, a13, a14, a15) h
theorem lp16 {A1 A2 A3 A4 A5 A6 A7 A8 A9 A10 A11 A12 A13 A14 A15 A16 : Type} (W : Nat → A1 → A2 → A3 → A4 → A5 → A6 → A7 → A8 → A9 → A10 → A11 → A12 → A13 → A14 → A15 → A16 → Prop) (I : A1 → A2 → A3 → A4 → A5 → A6 → A7 → A8 → A9 → A10 → A11 → A12 → A13 → A14 → A15 → A16 → Prop) (μ : A1 → A2 → A3 → A4 → A5 → A6 → A7 → A8 → A9 → A10 → A11 → A12 → A13 → A14 → A15 → A16 → Nat) (hs : ∀ (n : Nat) (a1 : A1) (a2 : A2) (a3 : A3) (a4 : A4) (a5 : A5) (a6 : A6) (a7 : A7) (a8 : A8) (a9 : A9) (a10 : A10) (a11 : A11) (a12 : A12) (a13 : A13) (a14 : A14) (a15 : A15) (a16 : A16), I a1 a2 a3 a4 a5 a6 a7 a8 a9 a10 a11 a12 a13 a14 a15 a16 → (∀ (b1 : A1) (b2 : A2) (b3 : A3) (b4 : A4) (b5 : A5) (b6 : A6) (b7 : A7) (b8 : A8) (b9 : A9) (b10 : A10) (b11 : A11) (b12 : A12) (b13 : A13) (b14 : A14) (b15 : A15) (b16 : A16), I b1 b2 b3 b4 b5 b6 b7 b8 b9 b10 b11 b12 b13 b14 b15 b16 → μ b1 b2 b3 b4 b5 b6 b7 b8 b9 b10 b11 b12 b13 b14 b15 b16 < μ a1 a2 a3 a4 a5 a6 a7 a8 a9 a10 a11 a12 a13 a14 a15 a16 → W n b1 b2 b3 b4 b5 b6 b7 b8 b9 b10 b11 b12 b13 b14 b15 b16) → W (n + 1) a1 a2 a3 a4 a5 a6 a7 a8 a9 a10 a11 a12 a13 a14 a15 a16) (a1 : A1) (a2 : A2) (a3 : A3) (a4 : A4) (a5 : A5) (a6 : A6) (a7 : A7) (a8 : A8) (a9 : A9) (a10 : A10) (a11 : A11) (a12 : A12) (a13 : A13) (a14 : A14) (a15 : A15) (a16 : A16) (h : I a1 a2 a3 a4 a5 a6 a7 a8 a9 a10 a11 a12 a13 a14 a15 a16) : ∃ n, W n a1 a2 a3 a4 a5 a6 a7 a8 a9 a10 a11 a12 a13 a14 a15 a16 :=
  loop_m (σ := A1 × A2 × A3 × A4 × A5 × A6 × A7 × A8 × A9 × A10 × A11 × A12 × A13 × A14 × A15 × A16) (fun n s => W n s.1 s.2.1 s.2.2.1 s.2.2.2.1 s.2.2.2.2.1 s.2.2.2.2.2.1 s.2.2.2.2.2.2.1 s.2.2.2.2.2.2.2.1 s.2.2.2.2.2.2.2.2.1 s.2.2.2.2.2.2.2.2.2.1 s.2.2.2.2.2.2.2.2.2.2.1 s.2.2.2.2.2.2.2.2.2.2.2.1 s.2.2.2.2.2.2.2.2.2.2.2.2.1 s.2.2.2.2.2.2.2.2.2.2.2.2.2.1 s.2.2.2.2.2.2.2.2.2.2.2.2.2.2.1 s.2.2.2.2.2.2.2.2.2.2.2.2.2.2.2) (fun s => I s.1 s.2.1 s.2.2.1 s.2.2.2.1 s.2.2.2.2.1 s.2.2.2.2.2.1 s.2.2.2.2.2.2.1 s.2.2.2.2.2.2.2.1 s.2.2.2.2.2.2.2.2.1 s.2.2.2.2.2.2.2.2.2.1 s.2.2.2.2.2.2.2.2.2.2.1 s.2.2.2.2.2.2.2.2.2.2.2.1 s.2.2.2.2.2.2.2.2.2.2.2.2.1 s.2.2.2.2.2.2.2.2.2.2.2.2.2.1 s.2.2.2.2.2.2.2.2.2.2.2.2.2.2.1 s.2.2.2.2.2.2.2.2.2.2.2.2.2.2.2) (fun s => μ s.1 s.2.1 s.2.2.1 s.2.2.2.1 s.2.2.2.2.1 s.2.2.2.2.2.1 s.2.2.2.2.2.2.1 s.2.2.2.2.2.2.2.1 s.2.2.2.2.2.2.2.2.1 s.2.2.2.2.2.2.2.2.2.1 s.2.2.2.2.2.2.2.2.2.2.1 s.2.2.2.2.2.2.2.2.2.2.2.1 s.2.2.2.2.2.2.2.2.2.2.2.2.1 s.2.2.2.2.2.2.2.2.2.2.2.2.2.1 s.2.2.2.2.2.2.2.2.2.2.2.2.2.2.1 s.2.2.2.2.2.2.2.2.2.2.2.2.2.2.2) (fun n s hI hk => hs n s.1 s.2.1 s.2.2.1 s.2.2.2.1 s.2.2.2.2.1 s.2.2.2.2.2.1 s.2.2.2.2.2.2.1 s.2.2.2.2.2.2.2.1 s.2.2.2.2.2.2.2.2.1 s.2.2.2.2.2.2.2.2.2.1 s.2.2.2.2.2.2.2.2.2.2.1 s.2.2.2.2.2.2.2.2.2.2.2.1 s.2.2.2.2.2.2.2.2.2.2.2.2.1 s.2.2.2.2.2.2.2.2.2.2.2.2.2.1 s.2.2.2.2.2.2.2.2.2.2.2.2.2.2.1 s.2.2.2.2.2.2.2.2.2.2.2.2.2.2.2 hI (fun b1 b2 b3 b4 b5 b6 b7 b8 b9 b10 b11 b12 b13 b14 b15 b16 h9 hm => hk (b1, b2, b3, b4, b5, b6, b7, b8, b9, b10, b11, b12, b13, b14, b15, b16) h9 hm)) (a1, a2, a3, a4, a5, a6, a7, a8, a9, a10, a11, a12, a13, a14, a15, a16) h
theorem pk_least (P : Nat → Prop) (h : ∃ k, P k) : ∃ k, P k ∧ ∀ j, j < k → ¬ P j := by
  obtain ⟨k, hk⟩ := h
  induction k using Nat.strongRecOn with
  | ind k ih =>
    by_cases e : ∃ j, j < k ∧ P j
    · obtain ⟨j, hj, pj⟩ := e
      exact ih j hj pj
    · exact ⟨k, hk, fun j hj pj => e ⟨j, hj, pj⟩⟩
end
section
/-! the blocks that have begun before a place, the innermost first; where they end -/
def cp_O (K : Nat → Nat) : Nat → List Nat
  | 0 => []
  | p + 1 => if K p = 4 ∨ K p = 6 then p :: cp_O K p else if K p = 8 then (cp_O K p).tail else cp_O K p
theorem cp_O_in {K : Nat → Nat} {p : Nat} (h : K p = 4 ∨ K p = 6) : cp_O K (p + 1) = p :: cp_O K p := by
  rw [cp_O, if_pos h]
theorem cp_O_end {K : Nat → Nat} {p : Nat} (h : K p = 8) : cp_O K (p + 1) = (cp_O K p).tail := by
  rw [cp_O, if_neg (by omega), if_pos h]
theorem cp_O_st {K : Nat → Nat} {p : Nat} (h4 : K p ≠ 4) (h6 : K p ≠ 6) (h8 : K p ≠ 8) : cp_O K (p + 1) = cp_O K p := by
  rw [cp_O, if_neg (by omega), if_neg h8]
theorem cp_O_congr {K K' : Nat → Nat} {n : Nat} (h : ∀ j, j < n → K j = K' j) : ∀ p, p ≤ n → cp_O K p = cp_O K' p := by
  intro p
  induction p with
  | zero => intro _; rfl
  | succ p ih =>
    intro hp
    rw [cp_O, cp_O, h p (by omega), ih (by omega)]
theorem cp_chain (K : Nat → Nat) : ∀ p b t, (b :: t) <:+ cp_O K p → t = cp_O K b ∧ b < p ∧ (K b = 4 ∨ K b = 6) := by
  intro p
  induction p with
  | zero =>
    intro b t h
    have h' : (b :: t) <:+ ([] : List Nat) := h
    rw [List.suffix_nil] at h'
    exact absurd h' (List.cons_ne_nil _ _)
  | succ p ih =>
    intro b t h
    by_cases h46 : K p = 4 ∨ K p = 6
    · rw [cp_O_in h46, List.suffix_cons_iff] at h
      cases h with
      | inl h =>
        obtain ⟨rfl, rfl⟩ := List.cons.inj h
        exact ⟨rfl, Nat.lt_succ_self _, h46⟩
      | inr h =>
        obtain ⟨h1, h2, h3⟩ := ih b t h
        exact ⟨h1, by omega, h3⟩
    · by_cases h8 : K p = 8
      · rw [cp_O_end h8] at h
        obtain ⟨h1, h2, h3⟩ := ih b t (h.trans (List.tail_suffix _))
        exact ⟨h1, by omega, h3⟩
      · rw [cp_O_st (by omega) (by omega) h8] at h
        obtain ⟨h1, h2, h3⟩ := ih b t h
        exact ⟨h1, by omega, h3⟩
theorem cp_O_head {K : Nat → Nat} {p b : Nat} {t : List Nat} (h : cp_O K p = b :: t) : t = cp_O K b ∧ b < p ∧ (K b = 4 ∨ K b = 6) :=
  cp_chain K p b t (by rw [h]; exact List.suffix_rfl)
theorem cp_O_mem {K : Nat → Nat} {p b : Nat} (h : b ∈ cp_O K p) : (b :: cp_O K b) <:+ cp_O K p ∧ b < p ∧ (K b = 4 ∨ K b = 6) := by
  obtain ⟨s, t, e⟩ := List.append_of_mem h
  have hs : (b :: t) <:+ cp_O K p := ⟨s, e.symm⟩
  obtain ⟨rfl, h2, h3⟩ := cp_chain K p b t hs
  exact ⟨hs, h2, h3⟩
theorem cp_O_old (K : Nat → Nat) (q : Nat) : ∀ d x, x ∈ cp_O K (q + d) → x ∈ cp_O K q ∨ q ≤ x := by
  intro d
  induction d with
  | zero => intro x h; exact Or.inl h
  | succ d ih =>
    intro x h
    have h' : x ∈ cp_O K (q + d + 1) := h
    by_cases h46 : K (q + d) = 4 ∨ K (q + d) = 6
    · rw [cp_O_in h46] at h'
      cases List.mem_cons.mp h' with
      | inl e => exact Or.inr (by omega)
      | inr e => exact ih x e
    · by_cases h8 : K (q + d) = 8
      · rw [cp_O_end h8] at h'
        exact ih x (List.mem_of_mem_tail h')
      · rw [cp_O_st (by omega) (by omega) h8] at h'
        exact ih x h'
theorem cp_O_self (K : Nat → Nat) (b : Nat) : ¬ b ∈ cp_O K b := fun h => by
  have := (cp_O_mem h).2.1
  omega
/-- a block that has ended does not begin again -/
theorem cp_gone {K : Nat → Nat} {q n b : Nat} {t : List Nat} (h8 : K q = 8) (hq : cp_O K q = b :: t) (hn : q < n) : ¬ b ∈ cp_O K n := fun h => by
  obtain ⟨d, rfl⟩ : ∃ d, n = (q + 1) + d := ⟨n - (q + 1), by omega⟩
  obtain ⟨ht, hb, _⟩ := cp_O_head hq
  cases cp_O_old K (q + 1) d b h with
  | inl h =>
    rw [cp_O_end h8, hq, List.tail_cons, ht] at h
    exact cp_O_self K b h
  | inr h => omega
def cp_ok (K : Nat → Nat) (q : Nat) : Prop :=
  K q ≤ 8 ∧ ((K q = 4 ∨ K q = 6) → (cp_O K q).length < 3) ∧
  (K q = 5 → ∃ b t, cp_O K q = b :: t ∧ K b = 4 ∧ ∀ e, e < q → K e = 5 → cp_O K e ≠ cp_O K q) ∧
  (K q = 7 → ∃ b, b ∈ cp_O K q ∧ K b = 6) ∧
  (K q = 8 → cp_O K q ≠ [])
def cp_wf (K : Nat → Nat) (c : Nat) : Prop := c ≤ 24 ∧ (∀ j, c ≤ j → K j = 8) ∧ ∀ q, q < c → cp_ok K q
def cp_M (K : Nat → Nat) (c : Nat) : Nat := c + (cp_O K c).length
theorem cp_ok_congr {K K' : Nat → Nat} {q : Nat} (h : ∀ j, j ≤ q → K j = K' j) (H : cp_ok K q) : cp_ok K' q := by
  have hO : ∀ p, p ≤ q + 1 → cp_O K p = cp_O K' p := cp_O_congr fun j hj => h j (by omega)
  obtain ⟨h1, h2, h3, h4, h5⟩ := H
  unfold cp_ok
  rw [← h q (Nat.le_refl _), ← hO q (by omega)]
  refine ⟨h1, h2, fun z => ?_, fun z => ?_, h5⟩
  · obtain ⟨b, t, e1, e2, e3⟩ := h3 z
    have hb : b < q := (cp_O_head e1).2.1
    refine ⟨b, t, e1, by rw [← h b (by omega)]; exact e2, fun e he h5 => ?_⟩
    rw [← hO e (by omega)]
    exact e3 e he (by rw [h e (by omega)]; exact h5)
  · obtain ⟨b, e1, e2⟩ := h4 z
    have hb : b < q := (cp_O_mem e1).2.1
    exact ⟨b, e1, by rw [← h b (by omega)]; exact e2⟩
theorem cp_len {K : Nat → Nat} {c : Nat} (W : cp_wf K c) : ∀ p, (cp_O K p).length ≤ 3 := by
  intro p
  induction p with
  | zero => exact Nat.zero_le _
  | succ p ih =>
    by_cases h46 : K p = 4 ∨ K p = 6
    · have hp : p < c := by
        by_cases hp : p < c
        · exact hp
        · have := W.2.1 p (by omega)
          omega
      have := (W.2.2 p hp).2.1 h46
      rw [cp_O_in h46, List.length_cons]
      omega
    · by_cases h8 : K p = 8
      · rw [cp_O_end h8, List.length_tail]
        omega
      · rw [cp_O_st (by omega) (by omega) h8]
        exact ih
theorem cp_lenE {K : Nat → Nat} {c : Nat} (W : cp_wf K c) : ∀ i, cp_O K (c + i) = (cp_O K c).drop i := by
  intro i
  induction i with
  | zero => rfl
  | succ i ih =>
    show cp_O K (c + i + 1) = _
    rw [cp_O_end (W.2.1 _ (by omega)), ih, List.tail_drop]
theorem cp_lenM {K : Nat → Nat} {c p : Nat} (W : cp_wf K c) (hp : c ≤ p) : (cp_O K p).length = cp_M K c - p := by
  obtain ⟨i, rfl⟩ : ∃ i, p = c + i := ⟨p - c, by omega⟩
  rw [cp_lenE W, List.length_drop]
  unfold cp_M
  omega
theorem cp_M_le {K : Nat → Nat} {c : Nat} (W : cp_wf K c) : c ≤ cp_M K c ∧ cp_M K c ≤ 27 := by
  have h1 := cp_len W c
  have h2 := W.1
  unfold cp_M
  omega
theorem cp_OM {K : Nat → Nat} {c : Nat} (W : cp_wf K c) : cp_O K (cp_M K c) = [] := by
  apply List.length_eq_zero_iff.mp
  rw [cp_lenM W (cp_M_le W).1]
  omega
theorem cp_okM {K : Nat → Nat} {c q : Nat} (W : cp_wf K c) (hq : q < cp_M K c) : cp_ok K q := by
  by_cases h : q < c
  · exact W.2.2 q h
  · have h8 := W.2.1 q (by omega)
    refine ⟨by omega, fun z => by omega, fun z => by omega, fun z => by omega, fun _ z => ?_⟩
    have := cp_lenM W (p := q) (by omega)
    rw [z] at this
    simp only [List.length_nil] at this
    omega
/-- every block ends -/
theorem cp_end_ex {K : Nat → Nat} {M b : Nat} (hM : cp_O K M = []) (hk : K b = 4 ∨ K b = 6) (hb : b < M) :
    ∃ e, b < e ∧ e < M ∧ K e = 8 ∧ cp_O K e = b :: cp_O K b ∧ ∀ k, b < k → k ≤ e → (b :: cp_O K b) <:+ cp_O K k := by
  have aux : ∀ d k, k + d = M → b < k → (∀ j, b < j → j ≤ k → (b :: cp_O K b) <:+ cp_O K j) →
      ∃ e, b < e ∧ e < M ∧ K e = 8 ∧ cp_O K e = b :: cp_O K b ∧ ∀ k, b < k → k ≤ e → (b :: cp_O K b) <:+ cp_O K k := by
    intro d
    induction d with
    | zero =>
      intro k hk hbk hs
      have h := hs k hbk (Nat.le_refl _)
      have : k = M := by omega
      rw [this, hM, List.suffix_nil] at h
      exact absurd h (List.cons_ne_nil _ _)
    | succ d ih =>
      intro k hkd hbk hs
      have h := hs k hbk (Nat.le_refl _)
      by_cases hE : K k = 8 ∧ cp_O K k = b :: cp_O K b
      · exact ⟨k, hbk, by omega, hE.1, hE.2, hs⟩
      · refine ih (k + 1) (by omega) (by omega) fun j hj1 hj2 => ?_
        by_cases hj : j ≤ k
        · exact hs j hj1 hj
        · have : j = k + 1 := by omega
          subst this
          by_cases h46 : K k = 4 ∨ K k = 6
          · rw [cp_O_in h46]
            exact h.trans (List.suffix_cons _ _)
          · by_cases h8 : K k = 8
            · rw [cp_O_end h8]
              have hne : ¬ cp_O K k = b :: cp_O K b := fun z => hE ⟨h8, z⟩
              revert h hne
              cases cp_O K k with
              | nil => intro h _; rw [List.suffix_nil] at h; exact absurd h (List.cons_ne_nil _ _)
              | cons x t =>
                intro h hne
                rw [List.suffix_cons_iff] at h
                cases h with
                | inl h => exact absurd h.symm hne
                | inr h => exact h
            · rw [cp_O_st (by omega) (by omega) h8]
              exact h
  refine aux (M - (b + 1)) (b + 1) (by omega) (by omega) fun j hj1 hj2 => ?_
  have : j = b + 1 := by omega
  subst this
  rw [cp_O_in hk]
  exact List.suffix_rfl
/-- the tables: where a block ends (E), its ELSE or 0 (F), the block of an ELSE, a BREAK, an END (B) -/
def cp_T (K : Nat → Nat) (M : Nat) (E F B : Nat → Nat) : Prop :=
  (∀ b, b < M → (K b = 4 ∨ K b = 6) → b < E b ∧ E b < M ∧ K (E b) = 8 ∧ cp_O K (E b) = b :: cp_O K b ∧ ∀ k, b < k → k ≤ E b → (b :: cp_O K b) <:+ cp_O K k) ∧
  (∀ q, q < M → (K q = 5 ∨ K q = 8) → cp_O K q = B q :: cp_O K (B q)) ∧
  (∀ q, q < M → K q = 7 → ∃ s, cp_O K q = s ++ B q :: cp_O K (B q) ∧ K (B q) = 6 ∧ ∀ x, x ∈ s → K x ≠ 6) ∧
  (∀ b, b < M → K b = 4 → F b ≠ 0 → b < F b ∧ F b < M ∧ K (F b) = 5 ∧ cp_O K (F b) = b :: cp_O K b) ∧
  (∀ q, q < M → K q = 5 → F (B q) = q)
end
section
/-! the machine that both sides walk: place p, values s, random steps r, product g, ending e, rounds left L, visits z -/
abbrev cp_S : Type := Nat × Nat × Nat × Nat × Int32 × (Nat → Int32) × (Nat → Int32)
def cp_asg (v x s : Nat) : Nat := s / 4 ^ (v + 1) * 4 ^ (v + 1) + x * 4 ^ v + s % 4 ^ v
theorem cp_asg_lt : ∀ v, v < 3 → ∀ x, x < 4 → ∀ s, s < 64 → cp_asg v x s < 64 := by decide +kernel
def cp_ow (K N : Nat → Nat) (p o : Nat) : Nat := if K p = 2 then 4 else if o = 1 then N p else if o = 0 then 16 - N p else 0
def cp_step (K A N E F B : Nat → Nat) (V : Nat → Nat → Nat) (dg : Nat → Nat) (p s r g : Nat) (e : Int32) (L z : Nat → Int32) : cp_S :=
  if K p = 0 then (p + 1, cp_asg (A p) (V p s) s, r, g, e, L, upd z p (z p + 1))
  else if K p = 1 ∨ K p = 2 then
    (if r = 6 then (p + 1, s, r, g, -3, L, upd z p (z p + 1))
     else if cp_ow K N p (dg r) = 0 then (p + 1, s, r + 1, g, -4, L, upd z p (z p + 1))
     else (p + 1, cp_asg (A p) (dg r) s, r + 1, g * cp_ow K N p (dg r), e, L, upd z p (z p + 1)))
  else if K p = 3 then (p + 1, s, r, g, (if V p s = 0 then -2 else e), L, upd z p (z p + 1))
  else if K p = 4 then ((if V p s = 0 then (if F p = 0 then E p else F p) + 1 else p + 1), s, r, g, e, L, upd z p (z p + 1))
  else if K p = 6 then (p + 1, s, r, g, e, upd L p (nI (N p)), upd z p (z p + 1))
  else if K p = 5 ∨ K p = 7 then (E (B p) + 1, s, r, g, e, L, upd z p (z p + 1))
  else if K (B p) = 6 then ((if 0 < L (B p) - 1 then B p + 1 else p + 1), s, r, g, e, upd L (B p) (L (B p) - 1), upd z p (z p + 1))
  else (p + 1, s, r, g, e, L, upd z p (z p + 1))
def cp_mr (K A N E F B : Nat → Nat) (V : Nat → Nat → Nat) (M : Nat) (dg : Nat → Nat) : Nat → cp_S → cp_S
  | 0, q => q
  | n + 1, q => if q.1 < M ∧ q.2.2.2.2.1 = 1 then cp_mr K A N E F B V M dg n (cp_step K A N E F B V dg q.1 q.2.1 q.2.2.1 q.2.2.2.1 q.2.2.2.2.1 q.2.2.2.2.2.1 q.2.2.2.2.2.2) else q
section
variable {K A N E F B : Nat → Nat} {V : Nat → Nat → Nat} {M : Nat} {dg : Nat → Nat} {p s r g : Nat} {e : Int32} {L z : Nat → Int32}
theorem cp_s0 (h : K p = 0) : cp_step K A N E F B V dg p s r g e L z = (p + 1, cp_asg (A p) (V p s) s, r, g, e, L, upd z p (z p + 1)) := if_pos h
theorem cp_sR (h : K p = 1 ∨ K p = 2) : cp_step K A N E F B V dg p s r g e L z = (if r = 6 then (p + 1, s, r, g, -3, L, upd z p (z p + 1))
     else if cp_ow K N p (dg r) = 0 then (p + 1, s, r + 1, g, -4, L, upd z p (z p + 1))
     else (p + 1, cp_asg (A p) (dg r) s, r + 1, g * cp_ow K N p (dg r), e, L, upd z p (z p + 1))) := by
  unfold cp_step
  rw [if_neg (by omega), if_pos h]
theorem cp_s3 (h : K p = 3) : cp_step K A N E F B V dg p s r g e L z = (p + 1, s, r, g, (if V p s = 0 then -2 else e), L, upd z p (z p + 1)) := by
  unfold cp_step
  rw [if_neg (by omega), if_neg (by omega), if_pos h]
theorem cp_s4 (h : K p = 4) : cp_step K A N E F B V dg p s r g e L z = ((if V p s = 0 then (if F p = 0 then E p else F p) + 1 else p + 1), s, r, g, e, L, upd z p (z p + 1)) := by
  unfold cp_step
  rw [if_neg (by omega), if_neg (by omega), if_neg (by omega), if_pos h]
theorem cp_s6 (h : K p = 6) : cp_step K A N E F B V dg p s r g e L z = (p + 1, s, r, g, e, upd L p (nI (N p)), upd z p (z p + 1)) := by
  unfold cp_step
  rw [if_neg (by omega), if_neg (by omega), if_neg (by omega), if_neg (by omega), if_pos h]
theorem cp_s57 (h : K p = 5 ∨ K p = 7) : cp_step K A N E F B V dg p s r g e L z = (E (B p) + 1, s, r, g, e, L, upd z p (z p + 1)) := by
  unfold cp_step
  rw [if_neg (by omega), if_neg (by omega), if_neg (by omega), if_neg (by omega), if_neg (by omega), if_pos h]
theorem cp_s8l (h : K p = 8) (hb : K (B p) = 6) : cp_step K A N E F B V dg p s r g e L z = ((if 0 < L (B p) - 1 then B p + 1 else p + 1), s, r, g, e, upd L (B p) (L (B p) - 1), upd z p (z p + 1)) := by
  unfold cp_step
  rw [if_neg (by omega), if_neg (by omega), if_neg (by omega), if_neg (by omega), if_neg (by omega), if_neg (by omega), if_pos hb]
theorem cp_s8i (h : K p = 8) (hb : K (B p) ≠ 6) : cp_step K A N E F B V dg p s r g e L z = (p + 1, s, r, g, e, L, upd z p (z p + 1)) := by
  unfold cp_step
  rw [if_neg (by omega), if_neg (by omega), if_neg (by omega), if_neg (by omega), if_neg (by omega), if_neg (by omega), if_neg hb]
end
/-! time: a number that grows at every step -/
def cp_inn : Nat → Nat → Nat
  | 0, p => p
  | n + 1, p => 4 * p * 128 ^ (n + 1) + cp_inn n p
def cp_ot (f : Nat → Nat) : List Nat → Nat → Nat
  | [], _ => 0
  | b :: t, m => f b * 128 ^ m + cp_ot f t (m + 1)
def cp_sl (K : Nat → Nat) (x b : Nat) : Nat := 4 * b + (if K b = 6 then x / 3 ^ (cp_O K b).length % 3 else 0)
def cp_tm (K : Nat → Nat) (x p : Nat) : Nat := cp_inn (3 - (cp_O K p).length) p + cp_ot (cp_sl K x) (cp_O K p) (4 - (cp_O K p).length)
theorem cp_sl_le (K : Nat → Nat) (x b : Nat) : 4 * b ≤ cp_sl K x b ∧ cp_sl K x b ≤ 4 * b + 2 := by
  unfold cp_sl
  split
  · have := Nat.mod_lt (x / 3 ^ (cp_O K b).length) (show 0 < 3 by omega)
    omega
  · omega
theorem cp_inn_lt {p p' : Nat} (h : p < p') : ∀ n, cp_inn n p < cp_inn n p' := by
  intro n
  induction n with
  | zero => exact h
  | succ n ih =>
    have := Nat.mul_le_mul_right (128 ^ (n + 1)) (show 4 * p ≤ 4 * p' by omega)
    simp only [cp_inn]
    omega
theorem cp_inn_bd {p : Nat} (h : p ≤ 27) : ∀ n, cp_inn n p < 128 ^ (n + 1) := by
  intro n
  induction n with
  | zero => simp only [cp_inn]; omega
  | succ n ih =>
    have h1 := Nat.mul_le_mul_right (128 ^ (n + 1)) (show 4 * p ≤ 108 by omega)
    have h2 : 128 ^ (n + 1 + 1) = 128 ^ (n + 1) * 128 := Nat.pow_succ ..
    simp only [cp_inn]
    generalize 128 ^ (n + 1) = Q at *
    omega
theorem cp_ot_congr {f f' : Nat → Nat} : ∀ (l : List Nat) (m : Nat), (∀ b, b ∈ l → f b = f' b) → cp_ot f l m = cp_ot f' l m := by
  intro l
  induction l with
  | nil => intro _ _; rfl
  | cons b t ih =>
    intro m h
    simp only [cp_ot]
    rw [h b (List.mem_cons_self ..), ih (m + 1) fun y hy => h y (List.mem_cons_of_mem _ hy)]
theorem cp_ot_app (f : Nat → Nat) (b : Nat) (t : List Nat) : ∀ (l : List Nat) (m : Nat), cp_ot f (l ++ b :: t) m = cp_ot f l m + f b * 128 ^ (m + l.length) + cp_ot f t (m + l.length + 1) := by
  intro l
  induction l with
  | nil => intro m; simp only [List.nil_append, cp_ot, List.length_nil, Nat.add_zero, Nat.zero_add]
  | cons a l ih =>
    intro m
    simp only [List.cons_append, cp_ot, List.length_cons]
    rw [ih (m + 1), show m + 1 + l.length = m + (l.length + 1) from by omega]
    omega
theorem cp_ot_bd {f : Nat → Nat} : ∀ (l : List Nat) (m y : Nat), (∀ b, b ∈ l → f b < 128) → y < 128 ^ m → y + cp_ot f l m < 128 ^ (m + l.length) := by
  intro l
  induction l with
  | nil => intro m y _ h; exact h
  | cons a l ih =>
    intro m y hf h
    have h1 := Nat.mul_le_mul_right (128 ^ m) (show f a ≤ 127 by have := hf a (List.mem_cons_self ..); omega)
    have h2 : 128 ^ (m + 1) = 128 ^ m * 128 := Nat.pow_succ ..
    have h3 := ih (m + 1) (y + f a * 128 ^ m) (fun b hb => hf b (List.mem_cons_of_mem _ hb)) (by rw [h2]; generalize 128 ^ m = Q at *; omega)
    simp only [cp_ot, List.length_cons]
    rw [show m + (l.length + 1) = m + 1 + l.length from by omega]
    omega
theorem cp_tA {K : Nat → Nat} {x p p' : Nat} (hO : cp_O K p' = cp_O K p) (h : p < p') : cp_tm K x p < cp_tm K x p' := by
  unfold cp_tm
  rw [hO]
  have := cp_inn_lt h (3 - (cp_O K p).length)
  omega
theorem cp_tB {K : Nat → Nat} {x x' p p' : Nat} (hO : cp_O K p' = p :: cp_O K p) (hl : (cp_O K p).length < 3) (h : p < p')
    (hx : ∀ b, b ∈ cp_O K p → cp_sl K x b = cp_sl K x' b) : cp_tm K x p < cp_tm K x' p' := by
  unfold cp_tm
  rw [hO, List.length_cons, cp_ot_congr (cp_O K p) _ hx]
  obtain ⟨m, hm⟩ : ∃ m, 3 - (cp_O K p).length = m + 1 := ⟨2 - (cp_O K p).length, by omega⟩
  rw [hm, show 4 - (cp_O K p).length = m + 1 + 1 from by omega, show 3 - ((cp_O K p).length + 1) = m from by omega,
    show 4 - ((cp_O K p).length + 1) = m + 1 from by omega]
  simp only [cp_inn, cp_ot]
  have h1 := cp_inn_lt h m
  have h2 := Nat.mul_le_mul_right (128 ^ (m + 1)) (cp_sl_le K x' p).1
  omega
theorem cp_tC {K : Nat → Nat} {x p p' b : Nat} {l t : List Nat} (hO : cp_O K p = l ++ b :: t) (hO' : cp_O K p' = t) (hl : (cp_O K p).length ≤ 3) (hp : p ≤ 27) (h : b < p') : cp_tm K x p < cp_tm K x p' := by
  have hlen : (cp_O K p).length = l.length + (t.length + 1) := by rw [hO, List.length_append, List.length_cons]
  obtain ⟨m, hm⟩ : ∃ m, 3 - t.length = m + 1 := ⟨2 - t.length, by omega⟩
  have hsl : ∀ a, a ∈ l → cp_sl K x a < 128 := fun a ha => by
    have h1 : a ∈ cp_O K p := by rw [hO]; exact List.mem_append_left _ ha
    have h2 := (cp_O_mem h1).2.1
    have h3 := (cp_sl_le K x a).2
    omega
  have hb := cp_ot_bd l (4 - (cp_O K p).length) (cp_inn (3 - (cp_O K p).length) p) hsl (by
    have := cp_inn_bd hp (3 - (cp_O K p).length)
    rw [show 4 - (cp_O K p).length = 3 - (cp_O K p).length + 1 from by omega]
    exact this)
  have e1 : 4 - (cp_O K p).length + l.length = m + 1 := by omega
  have e2 : cp_tm K x p = cp_inn (3 - (cp_O K p).length) p + cp_ot (cp_sl K x) l (4 - (cp_O K p).length) + cp_sl K x b * 128 ^ (m + 1) + cp_ot (cp_sl K x) t (m + 1 + 1) := by
    unfold cp_tm
    have := cp_ot_app (cp_sl K x) b t l (4 - (cp_O K p).length)
    rw [e1, ← hO] at this
    omega
  have e3 : cp_tm K x p' = 4 * p' * 128 ^ (m + 1) + cp_inn m p' + cp_ot (cp_sl K x) t (m + 1 + 1) := by
    unfold cp_tm
    rw [hO', hm, show 4 - t.length = m + 1 + 1 from by omega]
    simp only [cp_inn]
  rw [e1] at hb
  have h4 := Nat.mul_le_mul_right (128 ^ (m + 1)) (show cp_sl K x b + 1 ≤ 4 * p' by have := (cp_sl_le K x b).2; omega)
  rw [Nat.add_mul, Nat.one_mul] at h4
  omega
theorem cp_tD {K : Nat → Nat} {x x' p p' b : Nat} {t : List Nat} (hO : cp_O K p = b :: t) (hO' : cp_O K p' = b :: t) (hl : (cp_O K p).length ≤ 3) (hp : p ≤ 27)
    (hb : cp_sl K x b < cp_sl K x' b) (hx : ∀ a, a ∈ t → cp_sl K x a = cp_sl K x' a) : cp_tm K x p < cp_tm K x' p' := by
  have hi := cp_inn_bd hp (3 - (b :: t).length)
  have hlen : (b :: t).length ≤ 3 := by rw [← hO]; exact hl
  unfold cp_tm
  rw [hO, hO']
  simp only [cp_ot]
  rw [cp_ot_congr t _ hx]
  rw [show 4 - (b :: t).length = 3 - (b :: t).length + 1 from by omega]
  have h4 := Nat.mul_le_mul_right (128 ^ (3 - (b :: t).length + 1)) (show cp_sl K x b + 1 ≤ cp_sl K x' b from hb)
  rw [Nat.add_mul, Nat.one_mul] at h4
  omega
def cp_ct (f : Nat → Nat) (T : Nat) : Nat → Nat
  | 0 => 0
  | n + 1 => cp_ct f T n + (if T < f n then 1 else 0)
theorem cp_ct_le {f : Nat → Nat} {T T' : Nat} (h : T ≤ T') : ∀ n, cp_ct f T' n ≤ cp_ct f T n := by
  intro n
  induction n with
  | zero => exact Nat.le_refl _
  | succ n ih =>
    simp only [cp_ct]
    split <;> split <;> omega
theorem cp_ct_lt {f : Nat → Nat} {T T' i : Nat} (h : T < T') (hi : T' = f i) : ∀ n, i < n → cp_ct f T' n < cp_ct f T n := by
  intro n
  induction n with
  | zero => intro h; omega
  | succ n ih =>
    intro hn
    simp only [cp_ct]
    by_cases e : i = n
    · subst e
      have := cp_ct_le (f := f) (Nat.le_of_lt h) i
      rw [if_neg (by omega), if_pos (by omega)]
      omega
    · have := ih (by omega)
      split <;> split <;> omega
theorem cp_ct_bd (f : Nat → Nat) (T : Nat) : ∀ n, cp_ct f T n ≤ n := by
  intro n
  induction n with
  | zero => exact Nat.le_refl _
  | succ n ih =>
    simp only [cp_ct]
    split <;> omega
/-- how many steps may follow -/
def cp_mu (K : Nat → Nat) (x p : Nat) : Nat := cp_ct (fun i => cp_tm K (i % 27) (i / 27)) (cp_tm K x p) 756
theorem cp_mu_lt {K : Nat → Nat} {x p x' p' : Nat} (hx : x' < 27) (hp : p' ≤ 27) (h : cp_tm K x p < cp_tm K x' p') : cp_mu K x' p' < cp_mu K x p := by
  unfold cp_mu
  refine cp_ct_lt (i := 27 * p' + x') h ?_ 756 (by omega)
  show _ = cp_tm K ((27 * p' + x') % 27) ((27 * p' + x') / 27)
  rw [show (27 * p' + x') % 27 = x' from by omega, show (27 * p' + x') / 27 = p' from by omega]
theorem cp_mu_bd (K : Nat → Nat) (x p : Nat) : cp_mu K x p ≤ 756 := cp_ct_bd _ _ _
theorem cp_dig : ∀ x, x < 27 → ∀ d, d < 3 → ∀ v, v < 3 → ∃ x', x' < 27 ∧ x' / 3 ^ d % 3 = v ∧ ∀ j, j < 3 → j ≠ d → x' / 3 ^ j % 3 = x / 3 ^ j % 3 := by
  have h1 : ∀ x, x < 27 → ∀ d, d < 3 → ∀ v, v < 3 → (x - x / 3 ^ d % 3 * 3 ^ d + v * 3 ^ d < 27 ∧ (x - x / 3 ^ d % 3 * 3 ^ d + v * 3 ^ d) / 3 ^ d % 3 = v) := by decide +kernel
  have h2 : ∀ x, x < 27 → ∀ d, d < 3 → ∀ v, v < 3 → ∀ j, j < 3 → (j = d ∨ (x - x / 3 ^ d % 3 * 3 ^ d + v * 3 ^ d) / 3 ^ j % 3 = x / 3 ^ j % 3) := by decide +kernel
  exact fun x hx d hd v hv => ⟨_, (h1 x hx d hd v hv).1, (h1 x hx d hd v hv).2, fun j hj hn => (h2 x hx d hd v hv j hj).resolve_left hn⟩
end
section
/-! a step keeps the machine's facts, and time grows -/
def cp_dat (K A N : Nat → Nat) (V : Nat → Nat → Nat) : Prop := ∀ q, ((K q = 0 ∨ K q = 1 ∨ K q = 2) → A q < 3) ∧ (K q = 1 → N q ≤ 16) ∧ (K q = 6 → 1 ≤ N q ∧ N q ≤ 3) ∧ ((K q = 0 ∨ K q = 3 ∨ K q = 4) → ∀ s, s < 64 → V q s < 4)
def cp_I (K : Nat → Nat) (M x p s r g : Nat) (L : Nat → Int32) : Prop := p ≤ M ∧ s < 64 ∧ r ≤ 6 ∧ g ≤ 16 ^ r ∧ x < 27 ∧ ∀ b, b ∈ cp_O K p → K b = 6 → L b = nI (3 - x / 3 ^ (cp_O K b).length % 3)
def cp_G (K A N E F B : Nat → Nat) (V : Nat → Nat → Nat) (M c : Nat) : Prop := cp_wf K c ∧ M = cp_M K c ∧ cp_T K M E F B ∧ cp_dat K A N V
section
variable {K A N E F B : Nat → Nat} {V : Nat → Nat → Nat} {M c : Nat} {dg : Nat → Nat} {x p p' s r g s' r' g' b : Nat} {e : Int32} {L L' z : Nat → Int32} {l t : List Nat}
theorem cp_ow_le (D : cp_dat K A N V) (h : K p = 1 ∨ K p = 2) (o : Nat) : cp_ow K N p o ≤ 16 := by
  have := (D p).2.1
  unfold cp_ow
  split
  · omega
  · split
    · omega
    · split <;> omega
theorem cp_ow_sum (D : cp_dat K A N V) (h : K p = 1 ∨ K p = 2) : cp_ow K N p 0 + cp_ow K N p 1 + cp_ow K N p 2 + cp_ow K N p 3 ≤ 16 := by
  have := (D p).2.1
  unfold cp_ow
  by_cases h2 : K p = 2
  · simp only [h2, if_true]; omega
  · simp only [h2, if_false]
    simp
    omega
theorem cp_dep (hb : b ∈ cp_O K p) : (cp_O K b).length < (cp_O K p).length := by
  have := (cp_O_mem hb).1.length_le
  rw [List.length_cons] at this
  omega
theorem cp_keep (I : cp_I K M x p s r g L) (hO : cp_O K p' = cp_O K p) (h : p < p') (hp : p' ≤ M) (hs : s' < 64) (hr : r' ≤ 6) (hg : g' ≤ 16 ^ r') :
    ∃ x', cp_I K M x' p' s' r' g' L ∧ cp_tm K x p < cp_tm K x' p' := by
  obtain ⟨i1, i2, i3, i4, i5, i6⟩ := I
  exact ⟨x, ⟨hp, hs, hr, hg, i5, by rw [hO]; exact i6⟩, cp_tA hO h⟩
theorem cp_leave (I : cp_I K M x p s r g L) (hM : M ≤ 27) (hl : (cp_O K p).length ≤ 3) (hO : cp_O K p = l ++ b :: t) (hO' : cp_O K p' = t) (h : b < p') (hp : p' ≤ M)
    (hL : ∀ a, a ∈ t → L' a = L a) : ∃ x', cp_I K M x' p' s r g L' ∧ cp_tm K x p < cp_tm K x' p' := by
  obtain ⟨i1, i2, i3, i4, i5, i6⟩ := I
  refine ⟨x, ⟨hp, i2, i3, i4, i5, fun a ha h6 => ?_⟩, cp_tC hO hO' hl (by omega) h⟩
  rw [hO'] at ha
  rw [hL a ha]
  exact i6 a (by rw [hO]; exact List.mem_append_right _ (List.mem_cons_of_mem _ ha)) h6
theorem cp_pushI (I : cp_I K M x p s r g L) (hl : (cp_O K p).length < 3) (hk : K p = 4) (hO : cp_O K p' = p :: cp_O K p) (h : p < p') (hp : p' ≤ M) :
    ∃ x', cp_I K M x' p' s r g L ∧ cp_tm K x p < cp_tm K x' p' := by
  obtain ⟨i1, i2, i3, i4, i5, i6⟩ := I
  refine ⟨x, ⟨hp, i2, i3, i4, i5, fun a ha h6 => ?_⟩, cp_tB hO hl h fun _ _ => rfl⟩
  rw [hO] at ha
  cases List.mem_cons.mp ha with
  | inl ha => subst ha; omega
  | inr ha => exact i6 a ha h6
theorem cp_sl_dig {x' : Nat} (h : x' / 3 ^ (cp_O K b).length % 3 = x / 3 ^ (cp_O K b).length % 3) : cp_sl K x b = cp_sl K x' b := by
  unfold cp_sl
  rw [h]
theorem cp_adv (G : cp_G K A N E F B V M c) (hd : ∀ j, dg j < 4) (I : cp_I K M x p s r g L) (hp : p < M) :
    ∃ x', cp_I K M x' (cp_step K A N E F B V dg p s r g e L z).1 (cp_step K A N E F B V dg p s r g e L z).2.1 (cp_step K A N E F B V dg p s r g e L z).2.2.1 (cp_step K A N E F B V dg p s r g e L z).2.2.2.1 (cp_step K A N E F B V dg p s r g e L z).2.2.2.2.2.1 ∧
      cp_tm K x p < cp_tm K x' (cp_step K A N E F B V dg p s r g e L z).1 := by
  obtain ⟨W, rfl, ⟨T1, T2, T3, T4, T5⟩, D⟩ := G
  have hM := (cp_M_le W).2
  have hlen := cp_len W
  obtain ⟨k8, kin, k5, k7, kE⟩ := cp_okM W hp
  have I' := I
  obtain ⟨i1, i2, i3, i4, i5, i6⟩ := I'
  have hE : ∀ q, q < cp_M K c → (K q = 4 ∨ K q = 6) → cp_O K (E q + 1) = cp_O K q ∧ q < E q + 1 ∧ E q + 1 ≤ cp_M K c := fun q hq hk => by
    obtain ⟨a1, a2, a3, a4, _⟩ := T1 q hq hk
    refine ⟨?_, by omega, by omega⟩
    rw [cp_O_end a3, a4, List.tail_cons]
  by_cases h0 : K p = 0
  · rw [cp_s0 h0]
    dsimp only
    exact cp_keep I (cp_O_st (by omega) (by omega) (by omega)) (by omega) (by omega) (cp_asg_lt _ ((D p).1 (by omega)) _ ((D p).2.2.2 (by omega) s i2) _ i2) i3 i4
  by_cases hR : K p = 1 ∨ K p = 2
  · rw [cp_sR hR]
    have hO : cp_O K (p + 1) = cp_O K p := cp_O_st (by omega) (by omega) (by omega)
    by_cases h6 : r = 6
    · rw [if_pos h6]
      dsimp only
      exact cp_keep I hO (by omega) (by omega) i2 i3 i4
    · rw [if_neg h6]
      have hg : g * cp_ow K N p (dg r) ≤ 16 ^ (r + 1) := by
        rw [Nat.pow_succ]
        exact Nat.mul_le_mul i4 (cp_ow_le D hR _)
      by_cases hw : cp_ow K N p (dg r) = 0
      · rw [if_pos hw]
        dsimp only
        refine cp_keep I hO (by omega) (by omega) i2 (by omega) (Nat.le_trans i4 (Nat.pow_le_pow_right (by omega) (by omega)))
      · rw [if_neg hw]
        dsimp only
        exact cp_keep I hO (by omega) (by omega) (cp_asg_lt _ ((D p).1 (by omega)) _ (hd r) _ i2) (by omega) hg
  by_cases h3 : K p = 3
  · rw [cp_s3 h3]
    dsimp only
    exact cp_keep I (cp_O_st (by omega) (by omega) (by omega)) (by omega) (by omega) i2 i3 i4
  by_cases h4 : K p = 4
  · rw [cp_s4 h4]
    have hl := kin (Or.inl h4)
    by_cases hV : V p s = 0
    · rw [if_pos hV]
      dsimp only
      by_cases hF : F p = 0
      · rw [if_pos hF]
        obtain ⟨a1, a2, a3⟩ := hE p hp (Or.inl h4)
        exact cp_keep I a1 a2 a3 i2 i3 i4
      · rw [if_neg hF]
        obtain ⟨a1, a2, a3, a4⟩ := T4 p hp h4 hF
        exact cp_pushI I hl h4 (by rw [cp_O_st (by omega) (by omega) (by omega), a4]) (by omega) (by omega)
    · rw [if_neg hV]
      dsimp only
      exact cp_pushI I hl h4 (cp_O_in (Or.inl h4)) (by omega) (by omega)
  by_cases h6 : K p = 6
  · rw [cp_s6 h6]
    dsimp only
    have hl := kin (Or.inr h6)
    obtain ⟨n1, n2⟩ := (D p).2.2.1 h6
    obtain ⟨x', y1, y2, y3⟩ := cp_dig x i5 _ hl (3 - N p) (by omega)
    have hO : cp_O K (p + 1) = p :: cp_O K p := cp_O_in (Or.inr h6)
    have hy : ∀ a, a ∈ cp_O K p → x' / 3 ^ (cp_O K a).length % 3 = x / 3 ^ (cp_O K a).length % 3 := fun a ha => by
      have := cp_dep ha
      exact y3 _ (by omega) (by omega)
    refine ⟨x', ⟨by show p + 1 ≤ _; omega, i2, i3, i4, y1, fun a ha ha6 => ?_⟩, cp_tB hO hl (by omega) fun a ha => cp_sl_dig (hy a ha)⟩
    show upd L p (nI (N p)) a = _
    have ha : a ∈ cp_O K (p + 1) := ha
    rw [hO] at ha
    cases List.mem_cons.mp ha with
    | inl ha =>
      subst ha
      rw [pk_us, y2]
      exact congrArg nI (by omega)
    | inr ha =>
      have := (cp_O_mem ha).2.1
      rw [pk_un (by omega), hy a ha]
      exact i6 a ha ha6
  by_cases h57 : K p = 5 ∨ K p = 7
  · rw [cp_s57 h57]
    dsimp only
    have hs : ∃ l, cp_O K p = l ++ B p :: cp_O K (B p) := by
      cases h57 with
      | inl h5 => exact ⟨[], T2 p hp (Or.inl h5)⟩
      | inr h7 =>
        obtain ⟨l, hl, _⟩ := T3 p hp h7
        exact ⟨l, hl⟩
    obtain ⟨l, hl⟩ := hs
    obtain ⟨_, hb, hk⟩ := cp_O_mem (show B p ∈ cp_O K p by rw [hl]; exact List.mem_append_right _ (List.mem_cons_self ..))
    obtain ⟨a1, a2, a3⟩ := hE (B p) (by omega) hk
    exact cp_leave I hM (hlen p) hl a1 a2 a3 fun _ _ => rfl
  have h8 : K p = 8 := by omega
  have hO := T2 p hp (Or.inr h8)
  obtain ⟨_, hb, hk⟩ := cp_O_head hO
  have hO' : cp_O K (p + 1) = cp_O K (B p) := by rw [cp_O_end h8, hO, List.tail_cons]
  by_cases hb6 : K (B p) = 6
  · rw [cp_s8l h8 hb6]
    have hL : L (B p) = nI (3 - x / 3 ^ (cp_O K (B p)).length % 3) := i6 (B p) (by rw [hO]; exact List.mem_cons_self ..) hb6
    have hx3 := Nat.mod_lt (x / 3 ^ (cp_O K (B p)).length) (show 0 < 3 by omega)
    have hL' : L (B p) - 1 = nI (2 - x / 3 ^ (cp_O K (B p)).length % 3) := by
      rw [hL, show 3 - x / 3 ^ (cp_O K (B p)).length % 3 = 2 - x / 3 ^ (cp_O K (B p)).length % 3 + 1 from by omega, nI_pred]
    by_cases hpos : 0 < L (B p) - 1
    · rw [if_pos hpos]
      dsimp only
      have hpos' : 0 < 2 - x / 3 ^ (cp_O K (B p)).length % 3 := by
        rw [hL', ← nI_0, nI_ltI (by omega) (by omega)] at hpos
        exact hpos
      have hdl : (cp_O K (B p)).length < 3 := by
        have := hlen p
        rw [hO, List.length_cons] at this
        omega
      obtain ⟨x', y1, y2, y3⟩ := cp_dig x i5 _ hdl (x / 3 ^ (cp_O K (B p)).length % 3 + 1) (by omega)
      have hy : ∀ a, a ∈ cp_O K (B p) → x' / 3 ^ (cp_O K a).length % 3 = x / 3 ^ (cp_O K a).length % 3 := fun a ha => by
        have := cp_dep ha
        exact y3 _ (by omega) (by omega)
      have hO2 : cp_O K (B p + 1) = B p :: cp_O K (B p) := cp_O_in hk
      refine ⟨x', ⟨by show B p + 1 ≤ _; omega, i2, i3, i4, y1, fun a ha ha6 => ?_⟩, cp_tD hO hO2 (hlen p) (by omega) ?_ fun a ha => cp_sl_dig (hy a ha)⟩
      · show upd L (B p) (L (B p) - 1) a = _
        have ha : a ∈ cp_O K (B p + 1) := ha
        rw [hO2] at ha
        cases List.mem_cons.mp ha with
        | inl ha =>
          rw [ha, pk_us, y2, hL']
          exact congrArg nI (by omega)
        | inr ha =>
          have := (cp_O_mem ha).2.1
          rw [pk_un (by omega), hy a ha]
          exact i6 a (by rw [hO]; exact List.mem_cons_of_mem _ ha) ha6
      · unfold cp_sl
        rw [if_pos hb6, if_pos hb6, y2]
        omega
    · rw [if_neg hpos]
      dsimp only
      refine cp_leave (l := []) I hM (hlen p) hO hO' (by omega) (by omega) fun a ha => ?_
      have := (cp_O_mem ha).2.1
      exact pk_un (by omega)
  · rw [cp_s8i h8 hb6]
    dsimp only
    exact cp_leave (l := []) I hM (hlen p) hO hO' (by omega) (by omega) fun _ _ => rfl
/-! the digits that a step looks at -/
theorem cp_step_dg {dg' : Nat → Nat} (h : (K p = 1 ∨ K p = 2) → r ≠ 6 → dg r = dg' r) : cp_step K A N E F B V dg' p s r g e L z = cp_step K A N E F B V dg p s r g e L z := by
  by_cases hR : K p = 1 ∨ K p = 2
  · rw [cp_sR hR, cp_sR hR]
    by_cases h6 : r = 6
    · rw [if_pos h6, if_pos h6]
    · rw [h hR h6]
  · unfold cp_step
    simp only [hR, if_false]
theorem cp_step_det (h : ¬ ((K p = 1 ∨ K p = 2) ∧ r ≠ 6)) : (cp_step K A N E F B V dg p s r g e L z).2.2.1 = r ∧ (cp_step K A N E F B V dg p s r g e L z).2.2.2.1 = g := by
  by_cases hR : K p = 1 ∨ K p = 2
  · have h6 : r = 6 := by
      by_cases h6 : r = 6
      · exact h6
      · exact absurd ⟨hR, h6⟩ h
    rw [cp_sR hR, if_pos h6]
    exact ⟨rfl, rfl⟩
  · unfold cp_step
    simp only [hR, if_false]
    repeat' split
    all_goals exact ⟨rfl, rfl⟩
theorem cp_step_rr (hR : K p = 1 ∨ K p = 2) (h6 : r ≠ 6) : (cp_step K A N E F B V dg p s r g e L z).2.2.1 = r + 1 := by
  rw [cp_sR hR, if_neg h6]
  split <;> rfl
theorem cp_step_r : r ≤ (cp_step K A N E F B V dg p s r g e L z).2.2.1 := by
  by_cases h : (K p = 1 ∨ K p = 2) ∧ r ≠ 6
  · rw [cp_step_rr h.1 h.2]; omega
  · rw [(cp_step_det h).1]; exact Nat.le_refl _
end
end
section
/-! rows of outcomes: what a row's run looks at, and that all weights come to no more than 16 to the sixth -/
def cp_sm (f : Nat → Nat) : Nat → Nat
  | 0 => 0
  | n + 1 => cp_sm f n + f n
theorem cp_sm_add (f : Nat → Nat) (a : Nat) : ∀ b, cp_sm f (a + b) = cp_sm f a + cp_sm (fun i => f (a + i)) b := by
  intro b
  induction b with
  | zero => rfl
  | succ b ih =>
    show cp_sm f (a + b) + f (a + b) = _
    rw [ih]
    simp only [cp_sm]
    omega
theorem cp_sm_congr {f f' : Nat → Nat} : ∀ n, (∀ i, i < n → f i = f' i) → cp_sm f n = cp_sm f' n := by
  intro n
  induction n with
  | zero => intro _; rfl
  | succ n ih =>
    intro h
    simp only [cp_sm]
    rw [ih fun i hi => h i (by omega), h n (by omega)]
theorem cp_sm_0 : ∀ n, cp_sm (fun _ => 0) n = 0 := by
  intro n
  induction n with
  | zero => rfl
  | succ n ih => simp only [cp_sm, ih]
theorem cp_sm_4 (f : Nat → Nat) (b : Nat) : cp_sm f (4 * b) = cp_sm (fun i => f (0 * b + i)) b + cp_sm (fun i => f (1 * b + i)) b + cp_sm (fun i => f (2 * b + i)) b + cp_sm (fun i => f (3 * b + i)) b := by
  rw [show 4 * b = 3 * b + b from by omega, cp_sm_add, show 3 * b = 2 * b + b from by omega, cp_sm_add, show 2 * b = 1 * b + b from by omega, cp_sm_add]
  simp only [Nat.one_mul, Nat.zero_mul, Nat.zero_add]
def cp_rd (row j : Nat) : Nat := row / 4 ^ (5 - j) % 4
theorem cp_rd_lt (row j : Nat) : cp_rd row j < 4 := Nat.mod_lt _ (by omega)
def cp_wt (q : cp_S) (row : Nat) : Nat := if q.2.2.2.2.1 = 1 ∧ row % 4 ^ (6 - q.2.2.1) = 0 then 16 ^ (6 - q.2.2.1) * q.2.2.2.1 else 0
theorem cp_p4 (n : Nat) : 0 < 4 ^ n := Nat.pow_pos (by omega)
theorem cp_one {P : Prop} [Decidable P] (k B W : Nat) : ∀ n, n ≤ B → cp_sm (fun i => if P ∧ (k * B + i) % B = 0 then W else 0) n ≤ W := by
  intro n
  have h : n ≤ B → cp_sm (fun i => if P ∧ (k * B + i) % B = 0 then W else 0) n ≤ if n = 0 then 0 else W := by
    induction n with
    | zero => intro _; exact Nat.le_refl _
    | succ n ih =>
      intro hn
      have h1 := ih (by omega)
      have h2 : (k * B + n) % B = n := by
        rw [Nat.add_comm, Nat.mul_comm, Nat.add_mul_mod_self_left, Nat.mod_eq_of_lt (by omega)]
      simp only [cp_sm]
      rw [h2, if_neg (show ¬ n + 1 = 0 by omega)]
      by_cases h0 : n = 0
      · rw [if_pos h0] at h1
        have : (if P ∧ n = 0 then W else 0) ≤ W := by split <;> omega
        omega
      · rw [if_neg h0] at h1
        rw [if_neg (fun z => h0 z.2)]
        omega
  intro hn
  have h1 := h hn
  have : (if n = 0 then 0 else W) ≤ W := by split <;> omega
  omega
section
variable {K A N E F B : Nat → Nat} {V : Nat → Nat → Nat} {M c : Nat}
theorem cp_mr_stop {dg : Nat → Nat} {q : cp_S} (h : ¬ (q.1 < M ∧ q.2.2.2.2.1 = 1)) : ∀ n, cp_mr K A N E F B V M dg n q = q := by
  intro n
  cases n with
  | zero => rfl
  | succ n => rw [cp_mr, if_neg h]
theorem cp_mr_go {dg : Nat → Nat} {q : cp_S} (h : q.1 < M ∧ q.2.2.2.2.1 = 1) (n : Nat) : cp_mr K A N E F B V M dg (n + 1) q = cp_mr K A N E F B V M dg n (cp_step K A N E F B V dg q.1 q.2.1 q.2.2.1 q.2.2.2.1 q.2.2.2.2.1 q.2.2.2.2.2.1 q.2.2.2.2.2.2) := by
  rw [cp_mr, if_pos h]
theorem cp_mr_r (dg : Nat → Nat) : ∀ n (q : cp_S), q.2.2.1 ≤ (cp_mr K A N E F B V M dg n q).2.2.1 := by
  intro n
  induction n with
  | zero => intro q; exact Nat.le_refl _
  | succ n ih =>
    intro q
    by_cases h : q.1 < M ∧ q.2.2.2.2.1 = 1
    · rw [cp_mr_go h]
      exact Nat.le_trans cp_step_r (ih _)
    · rw [cp_mr_stop h]
      exact Nat.le_refl _
theorem cp_pre {dg dg' : Nat → Nat} : ∀ n (q : cp_S), (∀ j, q.2.2.1 ≤ j → j < (cp_mr K A N E F B V M dg n q).2.2.1 → dg j = dg' j) → cp_mr K A N E F B V M dg' n q = cp_mr K A N E F B V M dg n q := by
  intro n
  induction n with
  | zero => intro q _; rfl
  | succ n ih =>
    intro q hq
    by_cases h : q.1 < M ∧ q.2.2.2.2.1 = 1
    · rw [cp_mr_go h] at hq ⊢
      rw [cp_mr_go h]
      have hs : cp_step K A N E F B V dg' q.1 q.2.1 q.2.2.1 q.2.2.2.1 q.2.2.2.2.1 q.2.2.2.2.2.1 q.2.2.2.2.2.2 = cp_step K A N E F B V dg q.1 q.2.1 q.2.2.1 q.2.2.2.1 q.2.2.2.2.1 q.2.2.2.2.2.1 q.2.2.2.2.2.2 := by
        refine cp_step_dg fun hR h6 => hq _ (Nat.le_refl _) ?_
        have h1 := cp_mr_r (K := K) (A := A) (N := N) (E := E) (F := F) (B := B) (V := V) (M := M) dg n (cp_step K A N E F B V dg q.1 q.2.1 q.2.2.1 q.2.2.2.1 q.2.2.2.2.1 q.2.2.2.2.2.1 q.2.2.2.2.2.2)
        rw [cp_step_rr hR h6] at h1
        omega
      rw [hs]
      refine ih _ fun j hj1 hj2 => hq j (Nat.le_trans cp_step_r hj1) hj2
    · rw [cp_mr_stop h, cp_mr_stop h]
theorem cp_kraft (D : cp_dat K A N V) : ∀ n (q : cp_S) k, q.2.2.1 ≤ 6 →
    cp_sm (fun i => cp_wt (cp_mr K A N E F B V M (cp_rd (k * 4 ^ (6 - q.2.2.1) + i)) n q) (k * 4 ^ (6 - q.2.2.1) + i)) (4 ^ (6 - q.2.2.1)) ≤ 16 ^ (6 - q.2.2.1) * q.2.2.2.1 := by
  have stop : ∀ (q : cp_S) k, cp_sm (fun i => cp_wt q (k * 4 ^ (6 - q.2.2.1) + i)) (4 ^ (6 - q.2.2.1)) ≤ 16 ^ (6 - q.2.2.1) * q.2.2.2.1 := fun q k => by
    unfold cp_wt
    exact cp_one k (4 ^ (6 - q.2.2.1)) _ _ (Nat.le_refl _)
  intro n
  induction n with
  | zero => intro q k _; exact stop q k
  | succ n ih =>
    intro q k hr
    by_cases h : q.1 < M ∧ q.2.2.2.2.1 = 1
    · obtain ⟨p, s, r, g, e, L, z⟩ := q
      dsimp only at h hr ⊢
      by_cases hR : (K p = 1 ∨ K p = 2) ∧ r ≠ 6
      · obtain ⟨m, hm⟩ : ∃ m, 6 - r = m + 1 := ⟨5 - r, by omega⟩
        have h5 : 5 - r = m := by omega
        have h5' : 6 - (r + 1) = m := by omega
        have part : ∀ o, o < 4 → cp_sm (fun i => cp_wt (cp_mr K A N E F B V M (cp_rd (k * 4 ^ (m + 1) + (o * 4 ^ m + i))) (n + 1) (p, s, r, g, e, L, z)) (k * 4 ^ (m + 1) + (o * 4 ^ m + i))) (4 ^ m) ≤ 16 ^ m * (g * cp_ow K N p o) := by
          intro o ho
          have hrow : ∀ i, k * 4 ^ (m + 1) + (o * 4 ^ m + i) = (4 * k + o) * 4 ^ m + i := fun i => by
            rw [Nat.pow_succ, Nat.add_mul, Nat.mul_comm 4 k, Nat.mul_assoc, Nat.mul_comm (4 ^ m) 4]
            omega
          have hdig : ∀ i, i < 4 ^ m → cp_rd ((4 * k + o) * 4 ^ m + i) r = o := fun i hi => by
            unfold cp_rd
            rw [h5, Nat.add_comm, Nat.mul_comm, Nat.add_mul_div_left _ _ (cp_p4 m), Nat.div_eq_of_lt hi]
            omega
          have hstep : ∀ i, i < 4 ^ m → cp_mr K A N E F B V M (cp_rd (k * 4 ^ (m + 1) + (o * 4 ^ m + i))) (n + 1) (p, s, r, g, e, L, z) = cp_mr K A N E F B V M (cp_rd ((4 * k + o) * 4 ^ m + i)) n (cp_step K A N E F B V (fun _ => o) p s r g e L z) := fun i hi => by
            rw [hrow i, cp_mr_go h]
            exact congrArg _ (cp_step_dg fun _ _ => (hdig i hi).symm)
          rw [cp_sm_congr (4 ^ m) (f' := fun i => cp_wt (cp_mr K A N E F B V M (cp_rd ((4 * k + o) * 4 ^ m + i)) n (cp_step K A N E F B V (fun _ => o) p s r g e L z)) ((4 * k + o) * 4 ^ m + i)) fun i hi => by
            rw [hstep i hi, hrow i]]
          rw [cp_sR hR.1, if_neg hR.2]
          by_cases hw : cp_ow K N p o = 0
          · rw [if_pos hw]
            rw [cp_sm_congr (4 ^ m) (f' := fun _ => 0) fun i _ => by
              rw [cp_mr_stop (fun z => absurd z.2 (show ¬ (-4 : Int32) = 1 by decide))]
              unfold cp_wt
              rw [if_neg (fun z => absurd z.1 (show ¬ (-4 : Int32) = 1 by decide))]]
            rw [cp_sm_0]
            exact Nat.zero_le _
          · rw [if_neg hw]
            have := ih (p + 1, cp_asg (A p) o s, r + 1, g * cp_ow K N p o, e, L, upd z p (z p + 1)) (4 * k + o) (by show r + 1 ≤ 6; omega)
            dsimp only at this
            rw [h5'] at this
            exact this
        rw [hm, show 4 ^ (m + 1) = 4 * 4 ^ m from by rw [Nat.pow_succ, Nat.mul_comm], cp_sm_4]
        have e4 : 4 * 4 ^ m = 4 ^ (m + 1) := by rw [Nat.pow_succ, Nat.mul_comm]
        rw [e4]
        have p0 := part 0 (by omega)
        have p1 := part 1 (by omega)
        have p2 := part 2 (by omega)
        have p3 := part 3 (by omega)
        have hsum := cp_ow_sum D hR.1
        have hb : 16 ^ m * (g * cp_ow K N p 0) + 16 ^ m * (g * cp_ow K N p 1) + 16 ^ m * (g * cp_ow K N p 2) + 16 ^ m * (g * cp_ow K N p 3) ≤ 16 ^ (m + 1) * g := by
          rw [← Nat.mul_add, ← Nat.mul_add, ← Nat.mul_add, ← Nat.mul_add, ← Nat.mul_add, ← Nat.mul_add, Nat.pow_succ, Nat.mul_assoc, Nat.mul_comm 16 g]
          exact Nat.mul_le_mul_left _ (Nat.mul_le_mul_left _ hsum)
        omega
      · have hdet := cp_step_det (K := K) (A := A) (N := N) (E := E) (F := F) (B := B) (V := V) (dg := fun _ => 0) (s := s) (g := g) (e := e) (L := L) (z := z) hR
        rw [cp_sm_congr (4 ^ (6 - r)) (f' := fun i => cp_wt (cp_mr K A N E F B V M (cp_rd (k * 4 ^ (6 - r) + i)) n (cp_step K A N E F B V (fun _ => 0) p s r g e L z)) (k * 4 ^ (6 - r) + i)) fun i _ => by
          rw [cp_mr_go h]
          exact congrArg (fun y => cp_wt (cp_mr K A N E F B V M (cp_rd (k * 4 ^ (6 - r) + i)) n y) (k * 4 ^ (6 - r) + i)) (cp_step_dg fun a b => absurd ⟨a, b⟩ hR)]
        have := ih (cp_step K A N E F B V (fun _ => 0) p s r g e L z) k (by rw [hdet.1]; exact hr)
        rw [hdet.1, hdet.2] at this
        exact this
    · have := stop q k
      rw [cp_sm_congr (4 ^ (6 - q.2.2.1)) (f' := fun i => cp_wt q (k * 4 ^ (6 - q.2.2.1) + i)) fun i _ => by
        rw [cp_mr_stop h]]
      exact this
end
/-! the tally over the rows -/
def cp_i0 : cp_S := (0, 0, 0, 1, 1, fun _ => 0, fun _ => 0)
def cp_fin (K A N E F B : Nat → Nat) (V : Nat → Nat → Nat) (M row : Nat) : cp_S := cp_mr K A N E F B V M (cp_rd row) 1000 cp_i0
abbrev cp_cnt (q : cp_S) (row : Nat) : Prop := q.2.2.2.2.1 = 1 ∧ row % 4 ^ (6 - q.2.2.1) = 0
def cp_Sm (R : Nat → cp_S) : Nat → Nat → Nat
  | 0, _ => 0
  | n + 1, s => cp_Sm R n s + (if (R n).2.1 = s then cp_wt (R n) n else 0)
def cp_Vm (R : Nat → cp_S) : Nat → Nat → Int64
  | 0, _ => 0
  | n + 1, i => if cp_cnt (R n) n then cp_Vm R n i + (nI (cp_wt (R n) n)).toInt64 * ((R n).2.2.2.2.2.2 i).toInt64 else cp_Vm R n i
def cp_Bm (R : Nat → cp_S) : Nat → Nat × Nat × Nat
  | 0 => (0, 0, 0)
  | n + 1 => if (cp_Bm R n).1 < cp_wt (R n) n then (cp_wt (R n) n, n, (R n).2.2.1) else cp_Bm R n
theorem cp_wt_cnt {q : cp_S} {row : Nat} (h : cp_cnt q row) : cp_wt q row = 16 ^ (6 - q.2.2.1) * q.2.2.2.1 := if_pos h
theorem cp_wt_not {q : cp_S} {row : Nat} (h : ¬ cp_cnt q row) : cp_wt q row = 0 := if_neg h
theorem cp_Vm_cnt {R : Nat → cp_S} {n i : Nat} (h : cp_cnt (R n) n) : cp_Vm R (n + 1) i = cp_Vm R n i + (nI (cp_wt (R n) n)).toInt64 * ((R n).2.2.2.2.2.2 i).toInt64 := by
  rw [cp_Vm, if_pos h]
theorem cp_Vm_not {R : Nat → cp_S} {n i : Nat} (h : ¬ cp_cnt (R n) n) : cp_Vm R (n + 1) i = cp_Vm R n i := by
  rw [cp_Vm, if_neg h]
theorem cp_Sm_not {R : Nat → cp_S} {n : Nat} (h : ¬ cp_cnt (R n) n) (s : Nat) : cp_Sm R (n + 1) s = cp_Sm R n s := by
  rw [cp_Sm, cp_wt_not h]
  split <;> rfl
theorem cp_Bm_not {R : Nat → cp_S} {n : Nat} (h : ¬ cp_cnt (R n) n) : cp_Bm R (n + 1) = cp_Bm R n := by
  rw [cp_Bm, cp_wt_not h, if_neg (by omega)]
theorem cp_skip {R : Nat → cp_S} {c : Nat} : ∀ d, (∀ a, c ≤ a → a < c + d → ¬ cp_cnt (R a) a) → cp_Sm R (c + d) = cp_Sm R c ∧ cp_Vm R (c + d) = cp_Vm R c ∧ cp_Bm R (c + d) = cp_Bm R c := by
  intro d
  induction d with
  | zero => intro _; exact ⟨rfl, rfl, rfl⟩
  | succ d ih =>
    intro h
    obtain ⟨h1, h2, h3⟩ := ih fun a ha hb => h a ha (by omega)
    have hn := h (c + d) (by omega) (by omega)
    refine ⟨funext fun s => ?_, funext fun s => ?_, ?_⟩
    · show cp_Sm R (c + d + 1) s = _
      rw [cp_Sm_not hn, h1]
    · show cp_Vm R (c + d + 1) s = _
      rw [cp_Vm_not hn, h2]
    · show cp_Bm R (c + d + 1) = _
      rw [cp_Bm_not hn, h3]
/-- the sum over all states of what they got is the sum of the weights -/
theorem cp_sm_ite (y w : Nat) : ∀ n, cp_sm (fun s => if y = s then w else 0) n = if y < n then w else 0 := by
  intro n
  induction n with
  | zero => rfl
  | succ n ih =>
    simp only [cp_sm]
    rw [ih]
    by_cases h : y < n
    · rw [if_pos h, if_neg (by omega), if_pos (by omega), Nat.add_zero]
    · rw [if_neg h]
      by_cases h2 : y = n
      · rw [if_pos h2, if_pos (by omega)]; omega
      · rw [if_neg h2, if_neg (by omega)]
theorem cp_sm_plus (f f' : Nat → Nat) : ∀ n, cp_sm (fun i => f i + f' i) n = cp_sm f n + cp_sm f' n := by
  intro n
  induction n with
  | zero => rfl
  | succ n ih =>
    simp only [cp_sm]
    rw [ih]
    omega
theorem cp_Sm_tot {R : Nat → cp_S} : ∀ n, cp_sm (cp_Sm R n) 64 ≤ cp_sm (fun a => cp_wt (R a) a) n := by
  intro n
  induction n with
  | zero => exact Nat.le_of_eq (cp_sm_0 64)
  | succ n ih =>
    have : cp_Sm R (n + 1) = fun s => cp_Sm R n s + (fun s => if (R n).2.1 = s then cp_wt (R n) n else 0) s := rfl
    rw [this, cp_sm_plus, cp_sm_ite]
    show _ ≤ cp_sm (fun a => cp_wt (R a) a) n + cp_wt (R n) n
    split <;> omega
theorem cp_sm_mono (f : Nat → Nat) : ∀ d n, cp_sm f n ≤ cp_sm f (n + d) := by
  intro d
  induction d with
  | zero => intro n; exact Nat.le_refl _
  | succ d ih =>
    intro n
    have := ih n
    show _ ≤ cp_sm f (n + d) + f (n + d)
    omega
theorem cp_sm_ge (f : Nat → Nat) {i n : Nat} (h : i < n) : f i ≤ cp_sm f n := by
  obtain ⟨d, rfl⟩ : ∃ d, n = i + 1 + d := ⟨n - (i + 1), by omega⟩
  have := cp_sm_mono f d (i + 1)
  have h2 : cp_sm f (i + 1) = cp_sm f i + f i := rfl
  omega
section
variable {K A N E F B : Nat → Nat} {V : Nat → Nat → Nat} {M c : Nat}
/-- in all no more than 16 to the sixth -/
theorem cp_all (D : cp_dat K A N V) {n : Nat} (hn : n ≤ 4096) : cp_sm (cp_Sm (cp_fin K A N E F B V M) n) 64 ≤ 16777216 := by
  refine Nat.le_trans (cp_Sm_tot n) ?_
  obtain ⟨d, hd⟩ : ∃ d, 4096 = n + d := ⟨4096 - n, by omega⟩
  refine Nat.le_trans (cp_sm_mono _ d n) ?_
  rw [← hd]
  have h := cp_kraft (E := E) (F := F) (B := B) (M := M) D 1000 cp_i0 0 (Nat.zero_le _)
  have e : (fun i => cp_wt (cp_mr K A N E F B V M (cp_rd (0 * 4 ^ (6 - cp_i0.2.2.1) + i)) 1000 cp_i0) (0 * 4 ^ (6 - cp_i0.2.2.1) + i)) = fun a => cp_wt (cp_fin K A N E F B V M a) a := by
    funext i
    rw [Nat.zero_mul, Nat.zero_add]
    rfl
  rw [e] at h
  exact h
theorem cp_same {a b : Nat} (h : a / 4 ^ (6 - (cp_fin K A N E F B V M a).2.2.1) = b / 4 ^ (6 - (cp_fin K A N E F B V M a).2.2.1)) (hr : (cp_fin K A N E F B V M a).2.2.1 ≤ 6) : cp_fin K A N E F B V M b = cp_fin K A N E F B V M a := by
  unfold cp_fin at *
  refine cp_pre 1000 cp_i0 fun j _ hj => ?_
  generalize (cp_mr K A N E F B V M (cp_rd a) 1000 cp_i0).2.2.1 = r at *
  have e : 4 ^ (5 - j) = 4 ^ (6 - r) * 4 ^ (r - 1 - j) := by
    rw [← Nat.pow_add]
    exact congrArg _ (by omega)
  unfold cp_rd
  rw [e, ← Nat.div_div_eq_div_mul, ← Nat.div_div_eq_div_mul, h]
/-- the head of a block of rows: all rows before it lie in blocks before it -/
def cp_hd (R : Nat → cp_S) (c : Nat) : Prop := ∀ a, a < c → (a / 4 ^ (6 - (R a).2.2.1) + 1) * 4 ^ (6 - (R a).2.2.1) ≤ c
theorem cp_hd_next {a : Nat} (hr : ∀ a, (cp_fin K A N E F B V M a).2.2.1 ≤ 6) (H : cp_hd (cp_fin K A N E F B V M) a) :
    a % 4 ^ (6 - (cp_fin K A N E F B V M a).2.2.1) = 0 ∧ cp_hd (cp_fin K A N E F B V M) (a + 4 ^ (6 - (cp_fin K A N E F B V M a).2.2.1)) ∧
    ∀ b, a + 1 ≤ b → b < a + 4 ^ (6 - (cp_fin K A N E F B V M a).2.2.1) → ¬ cp_cnt (cp_fin K A N E F B V M b) b := by
  have hB := cp_p4 (6 - (cp_fin K A N E F B V M a).2.2.1)
  have hS : ∀ b, a / 4 ^ (6 - (cp_fin K A N E F B V M a).2.2.1) = b / 4 ^ (6 - (cp_fin K A N E F B V M a).2.2.1) → cp_fin K A N E F B V M b = cp_fin K A N E F B V M a := fun b h => cp_same h (hr a)
  generalize hr' : cp_fin K A N E F B V M a = q at *
  generalize hQ : 4 ^ (6 - q.2.2.1) = Q at *
  have h0 : a % Q = 0 := by
    by_cases h0 : a % Q = 0
    · exact h0
    · have hdm := Nat.div_add_mod a Q
      have h1 : a / Q * Q < a := by rw [Nat.mul_comm]; omega
      have h2 : a / Q * Q / Q = a / Q := Nat.mul_div_cancel _ hB
      have h3 := H (a / Q * Q) h1
      rw [hS (a / Q * Q) h2.symm, hQ, h2, Nat.add_mul, Nat.one_mul, Nat.mul_comm] at h3
      have := Nat.mod_lt a hB
      omega
  have hdm := Nat.div_add_mod a Q
  have hin : ∀ b, a ≤ b → b < a + Q → b / Q = a / Q := fun b h1 h2 => by
    obtain ⟨d, rfl⟩ : ∃ d, b = a + d := ⟨b - a, by omega⟩
    rw [show a + d = d + Q * (a / Q) from by omega, Nat.add_mul_div_left _ _ hB, Nat.div_eq_of_lt (by omega), Nat.zero_add]
  refine ⟨h0, fun b hb => ?_, fun b h1 h2 => ?_⟩
  · by_cases h : b < a
    · exact Nat.le_trans (H b h) (by omega)
    · rw [hS b (hin b (by omega) hb).symm, hQ, hin b (by omega) hb, Nat.add_mul, Nat.one_mul, Nat.mul_comm]
      omega
  · intro z
    have h3 := z.2
    rw [hS b (hin b (by omega) h2).symm, hQ] at h3
    have h4 := hin b (by omega) h2
    have h5 := Nat.div_add_mod b Q
    rw [h4] at h5
    omega
end
/-! a run comes to its end -/
def cp_ev (e : Int32) : Prop := e = 1 ∨ e = -2 ∨ e = -3 ∨ e = -4
section
variable {K A N E F B : Nat → Nat} {V : Nat → Nat → Nat} {M c : Nat} {dg : Nat → Nat}
theorem cp_step_e {p s r g : Nat} {e : Int32} {L z : Nat → Int32} (h : cp_ev e) : cp_ev (cp_step K A N E F B V dg p s r g e L z).2.2.2.2.1 := by
  unfold cp_step
  repeat' split
  all_goals first | exact h | exact Or.inr (Or.inl rfl) | exact Or.inr (Or.inr (Or.inl rfl)) | exact Or.inr (Or.inr (Or.inr rfl))
theorem cp_runI (G : cp_G K A N E F B V M c) (hd : ∀ j, dg j < 4) : ∀ n x (q : cp_S), cp_I K M x q.1 q.2.1 q.2.2.1 q.2.2.2.1 q.2.2.2.2.2.1 → cp_ev q.2.2.2.2.1 → cp_mu K x q.1 ≤ n →
    (∃ x', cp_I K M x' (cp_mr K A N E F B V M dg n q).1 (cp_mr K A N E F B V M dg n q).2.1 (cp_mr K A N E F B V M dg n q).2.2.1 (cp_mr K A N E F B V M dg n q).2.2.2.1 (cp_mr K A N E F B V M dg n q).2.2.2.2.2.1) ∧
    cp_ev (cp_mr K A N E F B V M dg n q).2.2.2.2.1 ∧ ¬ ((cp_mr K A N E F B V M dg n q).1 < M ∧ (cp_mr K A N E F B V M dg n q).2.2.2.2.1 = 1) := by
  have hM : M ≤ 27 := by rw [G.2.1]; exact (cp_M_le G.1).2
  intro n
  induction n with
  | zero =>
    intro x q I he hmu
    refine ⟨⟨x, I⟩, he, fun h => ?_⟩
    obtain ⟨x', I', ht⟩ := cp_adv (e := q.2.2.2.2.1) (z := q.2.2.2.2.2.2) G hd I h.1
    have := cp_mu_lt I'.2.2.2.2.1 (by have := I'.1; omega) ht
    omega
  | succ n ih =>
    intro x q I he hmu
    by_cases h : q.1 < M ∧ q.2.2.2.2.1 = 1
    · rw [cp_mr_go h]
      obtain ⟨x', I', ht⟩ := cp_adv (e := q.2.2.2.2.1) (z := q.2.2.2.2.2.2) G hd I h.1
      have := cp_mu_lt I'.2.2.2.2.1 (by have := I'.1; omega) ht
      exact ih x' _ I' (cp_step_e he) (by omega)
    · rw [cp_mr_stop h]
      exact ⟨⟨x, I⟩, he, h⟩
theorem cp_I0 (G : cp_G K A N E F B V M c) (L : Nat → Int32) : cp_I K M 0 0 0 0 1 L :=
  ⟨Nat.zero_le _, by omega, by omega, by omega, by omega, fun b hb => absurd hb (by rw [cp_O]; exact List.not_mem_nil)⟩
theorem cp_finI (G : cp_G K A N E F B V M c) (row : Nat) :
    (cp_fin K A N E F B V M row).1 ≤ M ∧ (cp_fin K A N E F B V M row).2.1 < 64 ∧ (cp_fin K A N E F B V M row).2.2.1 ≤ 6 ∧ (cp_fin K A N E F B V M row).2.2.2.1 ≤ 16 ^ (cp_fin K A N E F B V M row).2.2.1 ∧
    cp_ev (cp_fin K A N E F B V M row).2.2.2.2.1 ∧ ¬ ((cp_fin K A N E F B V M row).1 < M ∧ (cp_fin K A N E F B V M row).2.2.2.2.1 = 1) := by
  obtain ⟨⟨x, I⟩, he, hs⟩ := cp_runI G (cp_rd_lt row) 1000 0 cp_i0 (cp_I0 G _) (Or.inl rfl) (Nat.le_trans (cp_mu_bd _ _ _) (by omega))
  exact ⟨I.1, I.2.1, I.2.2.1, I.2.2.2.1, he, hs⟩
theorem cp_wt_le {q : cp_S} (hr : q.2.2.1 ≤ 6) (hg : q.2.2.2.1 ≤ 16 ^ q.2.2.1) : 16 ^ (6 - q.2.2.1) * q.2.2.2.1 ≤ 16777216 := by
  refine Nat.le_trans (Nat.mul_le_mul_left _ hg) ?_
  rw [← Nat.pow_add, show 6 - q.2.2.1 + q.2.2.1 = 6 from by omega]
  omega
end
end
section
/-! what the link arrays hold once the first n statements are read -/
def cp_LK (K : Nat → Nat) (n : Nat) (bO eO fO : Nat → Int32) : Prop :=
  (∀ q, q < n → K q = 8 → ∀ b t, cp_O K q = b :: t → bO q = nI b ∧ fO b = nI q) ∧
  (∀ q, q < n → K q = 5 → ∀ b t, cp_O K q = b :: t → bO q = nI b ∧ eO b = nI q) ∧
  (∀ b, b < n → (K b = 4 ∨ K b = 6) → eO b = -1 ∨ ∃ q, b < q ∧ q < n ∧ K q = 5 ∧ cp_O K q = b :: cp_O K b ∧ eO b = nI q) ∧
  (∀ q, q < n → K q = 7 → ∃ l b, bO q = nI b ∧ cp_O K q = l ++ b :: cp_O K b ∧ K b = 6 ∧ ∀ x, x ∈ l → K x ≠ 6)
section
variable {K : Nat → Nat} {n b : Nat} {t l : List Nat} {bO eO fO : Nat → Int32}
theorem lk_0 : cp_LK K 0 bO eO fO := ⟨fun q h => absurd h (by omega), fun q h => absurd h (by omega), fun q h => absurd h (by omega), fun q h => absurd h (by omega)⟩
theorem lk_st (h : K n ≤ 3) (H : cp_LK K n bO eO fO) : cp_LK K (n + 1) bO eO fO := by
  obtain ⟨h1, h2, h3, h4⟩ := H
  refine ⟨fun q hq hk => ?_, fun q hq hk => ?_, fun q hq hk => ?_, fun q hq hk => ?_⟩
  · exact h1 q (by have : q ≠ n := (fun z => by subst z; omega); omega) hk
  · exact h2 q (by have : q ≠ n := (fun z => by subst z; omega); omega) hk
  · cases h3 q (by have : q ≠ n := (fun z => by subst z; omega); omega) hk with
    | inl h => exact Or.inl h
    | inr h =>
      obtain ⟨y, a1, a2, a3⟩ := h
      exact Or.inr ⟨y, a1, by omega, a3⟩
  · exact h4 q (by have : q ≠ n := (fun z => by subst z; omega); omega) hk
theorem lk_in (h : K n = 4 ∨ K n = 6) (H : cp_LK K n bO eO fO) : cp_LK K (n + 1) bO (upd eO n (-1)) fO := by
  obtain ⟨h1, h2, h3, h4⟩ := H
  refine ⟨fun q hq hk => ?_, fun q hq hk b t ho => ?_, fun q hq hk => ?_, fun q hq hk => ?_⟩
  · exact h1 q (by have : q ≠ n := (fun z => by subst z; omega); omega) hk
  · have hqn : q < n := by have : q ≠ n := (fun z => by subst z; omega); omega
    obtain ⟨a1, a2⟩ := h2 q hqn hk b t ho
    have := (cp_O_head ho).2.1
    exact ⟨a1, by rw [pk_un (by omega)]; exact a2⟩
  · by_cases hqn : q = n
    · subst hqn
      exact Or.inl pk_us
    · rw [pk_un hqn]
      cases h3 q (by omega) hk with
      | inl h => exact Or.inl h
      | inr h =>
        obtain ⟨y, a1, a2, a3⟩ := h
        exact Or.inr ⟨y, a1, by omega, a3⟩
  · exact h4 q (by have : q ≠ n := (fun z => by subst z; omega); omega) hk
theorem lk_else (h : K n = 5) (ho : cp_O K n = b :: t) (hu : ∀ e, e < n → K e = 5 → cp_O K e ≠ cp_O K n) (H : cp_LK K n bO eO fO) : cp_LK K (n + 1) (upd bO n (nI b)) (upd eO b (nI n)) fO := by
  obtain ⟨h1, h2, h3, h4⟩ := H
  obtain ⟨ht, hb, hkb⟩ := cp_O_head ho
  refine ⟨fun q hq hk b' t' ho' => ?_, fun q hq hk b' t' ho' => ?_, fun q hq hk => ?_, fun q hq hk => ?_⟩
  · have hqn : q ≠ n := (fun z => by subst z; omega)
    rw [pk_un hqn]
    exact h1 q (by omega) hk b' t' ho'
  · by_cases hqn : q = n
    · subst hqn
      rw [ho] at ho'
      obtain ⟨rfl, rfl⟩ := List.cons.inj ho'
      exact ⟨pk_us, pk_us⟩
    · rw [pk_un hqn]
      obtain ⟨a1, a2⟩ := h2 q (by omega) hk b' t' ho'
      refine ⟨a1, ?_⟩
      by_cases hbb : b' = b
      · subst hbb
        exact absurd (by rw [ho, ho', ht, (cp_O_head ho').1]) (hu q (by omega) hk)
      · rw [pk_un hbb]
        exact a2
  · by_cases hqb : q = b
    · subst hqb
      exact Or.inr ⟨n, hb, by omega, h, by rw [ho, ht], pk_us⟩
    · rw [pk_un hqb]
      have hqn : q ≠ n := (fun z => by subst z; omega)
      cases h3 q (by omega) hk with
      | inl h => exact Or.inl h
      | inr h =>
        obtain ⟨y, a1, a2, a3⟩ := h
        exact Or.inr ⟨y, a1, by omega, a3⟩
  · have hqn : q ≠ n := (fun z => by subst z; omega)
    rw [pk_un hqn]
    exact h4 q (by omega) hk
theorem lk_brk (h : K n = 7) (ho : cp_O K n = l ++ b :: cp_O K b) (h6 : K b = 6) (hl : ∀ x, x ∈ l → K x ≠ 6) (H : cp_LK K n bO eO fO) : cp_LK K (n + 1) (upd bO n (nI b)) eO fO := by
  obtain ⟨h1, h2, h3, h4⟩ := H
  refine ⟨fun q hq hk b' t' ho' => ?_, fun q hq hk b' t' ho' => ?_, fun q hq hk => ?_, fun q hq hk => ?_⟩
  · have hqn : q ≠ n := (fun z => by subst z; omega)
    rw [pk_un hqn]
    exact h1 q (by omega) hk b' t' ho'
  · have hqn : q ≠ n := (fun z => by subst z; omega)
    rw [pk_un hqn]
    exact h2 q (by omega) hk b' t' ho'
  · have hqn : q ≠ n := (fun z => by subst z; omega)
    cases h3 q (by omega) hk with
    | inl h => exact Or.inl h
    | inr h =>
      obtain ⟨y, a1, a2, a3⟩ := h
      exact Or.inr ⟨y, a1, by omega, a3⟩
  · by_cases hqn : q = n
    · subst hqn
      exact ⟨l, b, pk_us, ho, h6, hl⟩
    · rw [pk_un hqn]
      exact h4 q (by omega) hk
theorem lk_end (h : K n = 8) (ho : cp_O K n = b :: t) (H : cp_LK K n bO eO fO) : cp_LK K (n + 1) (upd bO n (nI b)) eO (upd fO b (nI n)) := by
  obtain ⟨h1, h2, h3, h4⟩ := H
  refine ⟨fun q hq hk b' t' ho' => ?_, fun q hq hk b' t' ho' => ?_, fun q hq hk => ?_, fun q hq hk => ?_⟩
  · by_cases hqn : q = n
    · subst hqn
      rw [ho] at ho'
      obtain ⟨rfl, rfl⟩ := List.cons.inj ho'
      exact ⟨pk_us, pk_us⟩
    · obtain ⟨a1, a2⟩ := h1 q (by omega) hk b' t' ho'
      have hbb : b' ≠ b := fun z => by
        subst z
        exact cp_gone hk ho' (show q < n by omega) (by rw [ho]; exact List.mem_cons_self ..)
      rw [pk_un hqn, pk_un hbb]
      exact ⟨a1, a2⟩
  · have hqn : q ≠ n := (fun z => by subst z; omega)
    rw [pk_un hqn]
    exact h2 q (by omega) hk b' t' ho'
  · have hqn : q ≠ n := (fun z => by subst z; omega)
    cases h3 q (by omega) hk with
    | inl h => exact Or.inl h
    | inr h =>
      obtain ⟨y, a1, a2, a3⟩ := h
      exact Or.inr ⟨y, a1, by omega, a3⟩
  · have hqn : q ≠ n := (fun z => by subst z; omega)
    rw [pk_un hqn]
    exact h4 q (by omega) hk
/-- the arrays are the tables -/
def cp_X (K : Nat → Nat) (M : Nat) (E F B : Nat → Nat) (bO eO fO : Nat → Int32) : Prop :=
  (∀ b, b < M → (K b = 4 ∨ K b = 6) → fO b = nI (E b)) ∧
  (∀ b, b < M → (K b = 4 ∨ K b = 6) → (F b = 0 ∧ eO b = -1) ∨ (F b ≠ 0 ∧ eO b = nI (F b))) ∧
  (∀ q, q < M → (K q = 5 ∨ K q = 7 ∨ K q = 8) → bO q = nI (B q) ∧ B q < M)
theorem cp_m1_ne {j : Nat} (h : j < 2 ^ 31) : nI j ≠ -1 := fun z => by
  have := congrArg Int32.toInt z
  rw [nI_toInt h, show (-1 : Int32).toInt = -1 from by decide] at this
  omega
theorem lk_T {c : Nat} (W : cp_wf K c) (H : cp_LK K (cp_M K c) bO eO fO) : ∃ E F B, cp_T K (cp_M K c) E F B ∧ cp_X K (cp_M K c) E F B bO eO fO := by
  obtain ⟨h1, h2, h3, h4⟩ := H
  have hM := (cp_M_le W).2
  have hc : ∀ j : Nat, j < cp_M K c → (nI j).toNatClampNeg = j := fun j hj => nI_clamp (by omega)
  have hE : ∀ b, b < cp_M K c → (K b = 4 ∨ K b = 6) → ∃ e, (fO b).toNatClampNeg = e ∧ fO b = nI e ∧ b < e ∧ e < cp_M K c ∧ K e = 8 ∧ cp_O K e = b :: cp_O K b ∧ ∀ k, b < k → k ≤ e → (b :: cp_O K b) <:+ cp_O K k := fun b hb hk => by
    obtain ⟨e, a1, a2, a3, a4, a5⟩ := cp_end_ex (cp_OM W) hk hb
    have hf := (h1 e a2 a3 b _ a4).2
    exact ⟨e, by rw [hf, hc e a2], hf, a1, a2, a3, a4, a5⟩
  have hB : ∀ q, q < cp_M K c → (K q = 5 ∨ K q = 8) → ∃ b, cp_O K q = b :: cp_O K b ∧ bO q = nI b ∧ b < q := fun q hq hk => by
    have ok := cp_okM W hq
    have hne : cp_O K q ≠ [] := by
      cases hk with
      | inl h5 =>
        obtain ⟨b, t, e, _⟩ := ok.2.2.1 h5
        rw [e]
        exact List.cons_ne_nil _ _
      | inr h8 => exact ok.2.2.2.2 h8
    obtain ⟨b, t, ho⟩ := List.exists_cons_of_ne_nil hne
    have hh := cp_O_head ho
    refine ⟨b, by rw [ho, hh.1], ?_, hh.2.1⟩
    cases hk with
    | inl h5 => exact (h2 q hq h5 b t ho).1
    | inr h8 => exact (h1 q hq h8 b t ho).1
  refine ⟨fun b => (fO b).toNatClampNeg, fun b => if eO b = -1 then 0 else (eO b).toNatClampNeg, fun q => (bO q).toNatClampNeg, ⟨?_, ?_, ?_, ?_, ?_⟩, ?_, ?_, ?_⟩
  · intro b hb hk
    obtain ⟨e, a1, _, a3⟩ := hE b hb hk
    dsimp only
    rw [a1]
    exact a3
  · intro q hq hk
    obtain ⟨b, a1, a2, a3⟩ := hB q hq hk
    dsimp only
    rw [a2, hc b (by omega)]
    exact a1
  · intro q hq hk
    obtain ⟨l, b, a1, a2, a3, a4⟩ := h4 q hq hk
    have hb := (cp_O_mem (show b ∈ cp_O K q by rw [a2]; exact List.mem_append_right _ (List.mem_cons_self ..))).2.1
    dsimp only
    rw [a1, hc b (by omega)]
    exact ⟨l, a2, a3, a4⟩
  · intro b hb hk hF
    dsimp only at hF ⊢
    cases h3 b hb (Or.inl hk) with
    | inl h => exact absurd (if_pos h) hF
    | inr h =>
      obtain ⟨q, a1, a2, a3, a4, a5⟩ := h
      rw [a5, if_neg (cp_m1_ne (by omega)), hc q a2]
      exact ⟨a1, a2, a3, a4⟩
  · intro q hq hk
    obtain ⟨b, a1, a2, a3⟩ := hB q hq (Or.inl hk)
    dsimp only
    rw [a2, hc b (by omega), (h2 q hq hk b _ a1).2, if_neg (cp_m1_ne (by omega)), hc q hq]
  · intro b hb hk
    obtain ⟨e, a1, a2, _⟩ := hE b hb hk
    dsimp only
    rw [a1]
    exact a2
  · intro b hb hk
    dsimp only
    cases h3 b hb hk with
    | inl h => exact Or.inl ⟨if_pos h, h⟩
    | inr h =>
      obtain ⟨q, a1, a2, a3, a4, a5⟩ := h
      rw [a5, if_neg (cp_m1_ne (by omega)), hc q a2]
      exact Or.inr ⟨by omega, rfl⟩
  · intro q hq hk
    dsimp only
    by_cases h7 : K q = 7
    · obtain ⟨l, b, a1, a2, a3, a4⟩ := h4 q hq h7
      have hb := (cp_O_mem (show b ∈ cp_O K q by rw [a2]; exact List.mem_append_right _ (List.mem_cons_self ..))).2.1
      rw [a1, hc b (by omega)]
      exact ⟨rfl, by omega⟩
    · obtain ⟨b, a1, a2, a3⟩ := hB q hq (by omega)
      rw [a2, hc b (by omega)]
      exact ⟨rfl, by omega⟩
end
/-! a list held in an array, its head highest -/
def cp_hl (a : Nat → Int32) : List Nat → Prop
  | [] => True
  | b :: t => a t.length = nI b ∧ cp_hl a t
theorem hl_upd {a : Nat → Int32} {k : Nat} {x : Int32} : ∀ {t : List Nat}, cp_hl a t → t.length ≤ k → cp_hl (upd a k x) t := by
  intro t
  induction t with
  | nil => intro _ _; trivial
  | cons b t ih =>
    intro h hk
    rw [List.length_cons] at hk
    exact ⟨by rw [pk_un (by omega)]; exact h.1, ih h.2 (by omega)⟩
theorem hl_push {a : Nat → Int32} {t : List Nat} {b : Nat} (h : cp_hl a t) : cp_hl (upd a t.length (nI b)) (b :: t) := ⟨pk_us, hl_upd h (Nat.le_refl _)⟩
theorem hl_app {a : Nat → Int32} {t : List Nat} : ∀ {l : List Nat}, cp_hl a (l ++ t) → cp_hl a t := by
  intro l
  induction l with
  | nil => intro h; exact h
  | cons b l ih => intro h; exact ih h.2
/-- the innermost LOOP, or -1 -/
def cp_il (K : Nat → Nat) : List Nat → Int32
  | [] => -1
  | b :: t => if K b = 6 then nI b else cp_il K t
theorem il_some {K : Nat → Nat} : ∀ {l : List Nat}, (∃ b, b ∈ l ∧ K b = 6) → ∃ l1 b t, l = l1 ++ b :: t ∧ K b = 6 ∧ (∀ x, x ∈ l1 → K x ≠ 6) ∧ cp_il K l = nI b := by
  intro l
  induction l with
  | nil => intro ⟨b, hb, _⟩; exact absurd hb List.not_mem_nil
  | cons a l ih =>
    intro ⟨b, hb, h6⟩
    by_cases ha : K a = 6
    · exact ⟨[], a, l, rfl, ha, fun x hx => absurd hx List.not_mem_nil, if_pos ha⟩
    · cases List.mem_cons.mp hb with
      | inl e => subst e; exact absurd h6 ha
      | inr e =>
        obtain ⟨l1, b', t, e1, e2, e3, e4⟩ := ih ⟨b, e, h6⟩
        refine ⟨a :: l1, b', t, by rw [e1]; rfl, e2, fun x hx => ?_, ?_⟩
        · cases List.mem_cons.mp hx with
          | inl e => subst e; exact ha
          | inr e => exact e3 x e
        · rw [cp_il, if_neg ha]
          exact e4
theorem il_none {K : Nat → Nat} : ∀ {l : List Nat}, (¬ ∃ b, b ∈ l ∧ K b = 6) → cp_il K l = -1 := by
  intro l
  induction l with
  | nil => intro _; rfl
  | cons a l ih =>
    intro h
    rw [cp_il, if_neg fun z => h ⟨a, List.mem_cons_self .., z⟩]
    exact ih fun ⟨b, hb, h6⟩ => h ⟨b, List.mem_cons_of_mem _ hb, h6⟩
/-! has the block an ELSE among the first n statements? -/
def cp_he (K : Nat → Nat) (n b : Nat) : Prop := ∃ q, q < n ∧ K q = 5 ∧ cp_O K q = b :: cp_O K b
theorem he_st {K : Nat → Nat} {n b : Nat} (h : K n ≠ 5 ∨ cp_O K n ≠ b :: cp_O K b) : cp_he K (n + 1) b ↔ cp_he K n b := by
  constructor
  · intro ⟨q, h1, h2, h3⟩
    refine ⟨q, ?_, h2, h3⟩
    by_cases hq : q = n
    · subst hq
      cases h with
      | inl h => exact absurd h2 h
      | inr h => exact absurd h3 h
    · omega
  · intro ⟨q, h1, h2⟩
    exact ⟨q, by omega, h2⟩
/-- how the reference marks the blocks that have begun: 1 an IF, 2 an IF with ELSE, 3 a LOOP -/
def cp_oo (K : Nat → Nat) (n : Nat) (a : Nat → Int32) : List Nat → Prop
  | [] => True
  | b :: t => ((K b = 6 ∧ a t.length = 3) ∨ (K b = 4 ∧ cp_he K n b ∧ a t.length = 2) ∨ (K b = 4 ∧ ¬ cp_he K n b ∧ a t.length = 1)) ∧ cp_oo K n a t
theorem oo_upd {K : Nat → Nat} {n n' k : Nat} {a : Nat → Int32} {x : Int32} : ∀ {t : List Nat}, (∀ b, b ∈ t → (cp_he K n' b ↔ cp_he K n b)) → cp_oo K n a t → t.length ≤ k → cp_oo K n' (upd a k x) t := by
  intro t
  induction t with
  | nil => intro _ _ _; trivial
  | cons b t ih =>
    intro he h hk
    rw [List.length_cons] at hk
    refine ⟨?_, ih (fun y hy => he y (List.mem_cons_of_mem _ hy)) h.2 (by omega)⟩
    rw [pk_un (by omega), he b (List.mem_cons_self ..)]
    exact h.1
theorem oo_st {K : Nat → Nat} {n n' : Nat} {a : Nat → Int32} : ∀ {t : List Nat}, (∀ b, b ∈ t → (cp_he K n' b ↔ cp_he K n b)) → cp_oo K n a t → cp_oo K n' a t := by
  intro t
  induction t with
  | nil => intro _ _; trivial
  | cons b t ih =>
    intro he h
    refine ⟨?_, ih (fun y hy => he y (List.mem_cons_of_mem _ hy)) h.2⟩
    rw [he b (List.mem_cons_self ..)]
    exact h.1
end
section
/-! where the reference's search ends -/
def cp_tg (K : Nat → Nat) (S : List Nat) (oe : Prop) (k e : Nat) : Prop :=
  k ≤ e ∧ (K e = 8 ∨ (oe ∧ K e = 5)) ∧ cp_O K e = S ∧ (∀ j, k ≤ j → j ≤ e → S <:+ cp_O K j) ∧ ∀ j, k ≤ j → j < e → ¬ (cp_O K j = S ∧ (K j = 8 ∨ (oe ∧ K j = 5)))
section
variable {K E F B : Nat → Nat} {M b k : Nat}
theorem tg_end (T : cp_T K M E F B) (hb : b < M) (hk : K b = 4 ∨ K b = 6) (h1 : b < k) (h2 : k ≤ E b) : cp_tg K (b :: cp_O K b) False k (E b) := by
  obtain ⟨a1, a2, a3, a4, a5⟩ := T.1 b hb hk
  refine ⟨h2, Or.inl a3, a4, fun j hj1 hj2 => a5 j (by omega) hj2, fun j hj1 hj2 z => ?_⟩
  have h8 : K j = 8 := by
    cases z.2 with
    | inl h => exact h
    | inr h => exact h.1.elim
  exact cp_gone h8 z.1 hj2 (by rw [a4]; exact List.mem_cons_self ..)
theorem tg_else0 (T : cp_T K M E F B) (hb : b < M) (hk : K b = 4) (hF : F b = 0) : cp_tg K (b :: cp_O K b) True (b + 1) (E b) := by
  obtain ⟨a1, a2, a3, a4, a5⟩ := T.1 b hb (Or.inl hk)
  refine ⟨a1, Or.inl a3, a4, fun j hj1 hj2 => a5 j (by omega) hj2, fun j hj1 hj2 z => ?_⟩
  cases z.2 with
  | inl h8 => exact cp_gone h8 z.1 hj2 (by rw [a4]; exact List.mem_cons_self ..)
  | inr h =>
    have h5 := T.2.1 j (by omega) (Or.inl h.2)
    rw [z.1] at h5
    have e := (List.cons.inj h5).1
    have h6 := T.2.2.2.2 j (by omega) h.2
    rw [← e, hF] at h6
    omega
theorem tg_else1 (T : cp_T K M E F B) (hb : b < M) (hk : K b = 4) (hF : F b ≠ 0) : cp_tg K (b :: cp_O K b) True (b + 1) (F b) := by
  obtain ⟨a1, a2, a3, a4, a5⟩ := T.1 b hb (Or.inl hk)
  obtain ⟨f1, f2, f3, f4⟩ := T.2.2.2.1 b hb hk hF
  have hFE : F b ≤ E b := by
    by_cases h : F b ≤ E b
    · exact h
    · exact absurd (by rw [f4]; exact List.mem_cons_self ..) (cp_gone a3 a4 (show E b < F b by omega))
  refine ⟨f1, Or.inr ⟨trivial, f3⟩, f4, fun j hj1 hj2 => a5 j (by omega) (by omega), fun j hj1 hj2 z => ?_⟩
  cases z.2 with
  | inl h8 => exact cp_gone h8 z.1 hj2 (by rw [f4]; exact List.mem_cons_self ..)
  | inr h =>
    have h5 := T.2.1 j (by omega) (Or.inl h.2)
    rw [z.1] at h5
    have e := (List.cons.inj h5).1
    have h6 := T.2.2.2.2 j (by omega) h.2
    rw [← e] at h6
    omega
end
/-! Euclid's rounds -/
theorem cp_half {l m k : Nat} (hm : 0 < m) (hml : m ≤ l) (h : l < 2 ^ (k + 1)) : l % m < 2 ^ k := by
  have h1 := Nat.mod_lt l hm
  have h2 := Nat.div_add_mod l m
  have h3 : 1 ≤ l / m := (Nat.le_div_iff_mul_le hm).mpr (by omega)
  have h4 := Nat.mul_le_mul_left m h3
  have h5 : 2 ^ (k + 1) = 2 * 2 ^ k := by rw [Nat.pow_succ, Nat.mul_comm]
  generalize m * (l / m) = y at *
  omega
end
section
/-! expressions as tables -/
def cp_4 (f : Nat → Int32) : Prop := ∀ j, ∃ v, v < 4 ∧ f j = nI v
def cp_cv (kind a s x y : Nat) : Nat :=
  if kind = 0 then a else if kind = 1 then s / 4 ^ a % 4 else if kind = 2 then (x + y) % 4 else if kind = 3 then (x + 4 - y) % 4
  else if kind = 4 then x * y % 4 else if kind = 5 then (if x = y then 1 else 0) else if kind = 6 then (if x < y then 1 else 0)
  else if kind = 7 then (if x = 0 then 1 else 0) else if kind = 8 then (if x ≠ 0 ∧ y ≠ 0 then 1 else 0) else (if x ≠ 0 then x else y)
theorem cv_lt {kind a s x y : Nat} (h : kind = 0 → a < 4) (hx : x < 4) (hy : y < 4) : cp_cv kind a s x y < 4 := by
  unfold cp_cv
  repeat' split
  all_goals first | omega | exact Nat.mod_lt _ (by omega) | exact h ‹_›
def cp_fl (kind a cell : Nat) (f : Nat → Int32) : Nat → (Nat → Int32)
  | 0 => f
  | s + 1 => upd (cp_fl kind a cell f s) (cell + s) (nI (cp_cv kind a s (f (cell + s)).toNatClampNeg (f (cell + 64 + s)).toNatClampNeg))
theorem fl_ge {kind a cell : Nat} {f : Nat → Int32} : ∀ s j, cell + s ≤ j → cp_fl kind a cell f s j = f j := by
  intro s
  induction s with
  | zero => intro j _; rfl
  | succ s ih =>
    intro j hj
    rw [cp_fl, pk_un (by omega)]
    exact ih j (by omega)
theorem cp_cl4 {v : Nat} (h : v < 4) : (nI v).toNatClampNeg = v := nI_clamp (by omega)
theorem fl_4 {kind a cell : Nat} {f : Nat → Int32} (h : kind = 0 → a < 4) (hf : cp_4 f) : ∀ s, cp_4 (cp_fl kind a cell f s) := by
  intro s
  induction s with
  | zero => exact hf
  | succ s ih =>
    intro j
    rw [cp_fl]
    by_cases e : j = cell + s
    · subst e
      obtain ⟨x, hx, ex⟩ := hf (cell + s)
      obtain ⟨y, hy, ey⟩ := hf (cell + 64 + s)
      rw [pk_us, ex, ey, cp_cl4 hx, cp_cl4 hy]
      exact ⟨_, cv_lt h hx hy, rfl⟩
    · rw [pk_un e]
      exact ih j
/-! a stretch that is copied -/
def cp_cpy (g : Nat → Int32) (to : Nat) (f : Nat → Int32) : Nat → (Nat → Int32)
  | 0 => g
  | s + 1 => upd (cp_cpy g to f s) (to + s) (f s)
theorem cpy_in {g f : Nat → Int32} {to : Nat} : ∀ s j, j < s → cp_cpy g to f s (to + j) = f j := by
  intro s
  induction s with
  | zero => intro j h; omega
  | succ s ih =>
    intro j h
    rw [cp_cpy]
    by_cases e : j = s
    · subst e; exact pk_us
    · rw [pk_un (by omega)]
      exact ih j (by omega)
theorem cpy_out {g f : Nat → Int32} {to : Nat} : ∀ s j, (j < to ∨ to + s ≤ j) → cp_cpy g to f s j = g j := by
  intro s
  induction s with
  | zero => intro j _; rfl
  | succ s ih =>
    intro j h
    rw [cp_cpy, pk_un (by omega)]
    exact ih j (by omega)
/-! sums -/
def cp_si (f : Nat → Int32) : Nat → Int32
  | 0 => 0
  | n + 1 => cp_si f n + f n
theorem si_congr {f f' : Nat → Int32} : ∀ n, (∀ i, i < n → f i = f' i) → cp_si f n = cp_si f' n := by
  intro n
  induction n with
  | zero => intro _; rfl
  | succ n ih =>
    intro h
    rw [cp_si, cp_si, ih fun i hi => h i (by omega), h n (by omega)]
theorem si_nI (g : Nat → Nat) : ∀ n, cp_si (fun s => nI (g s)) n = nI (cp_sm g n) := by
  intro n
  induction n with
  | zero => rfl
  | succ n ih => rw [cp_si, ih, nI_add, cp_sm]
def cp_kw (v k w l : Nat) (sw : Nat → Int32) (n : Nat) : Int32 := cp_si (fun s => if s / 4 ^ v % 4 = k ∧ s / 4 ^ w % 4 = l then sw s else 0) n
theorem kw_s (v k w l : Nat) (sw : Nat → Int32) (n : Nat) : cp_kw v k w l sw (n + 1) = cp_kw v k w l sw n + (if n / 4 ^ v % 4 = k ∧ n / 4 ^ w % 4 = l then sw n else 0) := rfl
theorem kw_nat {v k w l : Nat} {sw : Nat → Int32} {g : Nat → Nat} (h : ∀ s, s < 64 → sw s = nI (g s)) : cp_kw v k w l sw 64 = nI (cp_sm (fun s => if s / 4 ^ v % 4 = k ∧ s / 4 ^ w % 4 = l then g s else 0) 64) := by
  rw [← si_nI]
  refine si_congr 64 fun s hs => ?_
  rw [h s hs]
  split <;> rfl
theorem sm_le {f f' : Nat → Nat} (h : ∀ i, f i ≤ f' i) : ∀ n, cp_sm f n ≤ cp_sm f' n := by
  intro n
  induction n with
  | zero => exact Nat.le_refl _
  | succ n ih =>
    rw [cp_sm, cp_sm]
    have := h n
    omega
theorem kw_exp (v : Nat) (sw : Nat → Int32) : ∀ n, cp_si (fun s => sw s * nI (s / 4 ^ v % 4)) n = 0 * cp_kw v 0 v 0 sw n + 1 * cp_kw v 1 v 1 sw n + 2 * cp_kw v 2 v 2 sw n + 3 * cp_kw v 3 v 3 sw n := by
  intro n
  induction n with
  | zero => rfl
  | succ n ih =>
    rw [cp_si, ih, kw_s, kw_s, kw_s, kw_s]
    have h4 := Nat.mod_lt (n / 4 ^ v) (show 0 < 4 by omega)
    generalize n / 4 ^ v % 4 = d at *
    have hd : d = 0 ∨ d = 1 ∨ d = 2 ∨ d = 3 := by omega
    rcases hd with rfl | rfl | rfl | rfl
    · simp only [nI_0]
      simp
    · rw [show nI 1 = (1 : Int32) from rfl]
      simp
      grind
    · rw [show nI 2 = (2 : Int32) from rfl]
      simp
      grind
    · rw [show nI 3 = (3 : Int32) from rfl]
      simp
      grind
end
section
/-! how the two sides stand to the machine -/
def cp_ll (K : Nat → Nat) (L lf : Nat → Int32) : List Nat → Prop
  | [] => True
  | b :: t => (K b = 6 → lf t.length = L b) ∧ cp_ll K L lf t
theorem ll_upd {K : Nat → Nat} {L lf : Nat → Int32} {k : Nat} {x : Int32} : ∀ {t : List Nat}, cp_ll K L lf t → t.length ≤ k → cp_ll K L (upd lf k x) t := by
  intro t
  induction t with
  | nil => intro _ _; trivial
  | cons b t ih =>
    intro h hk
    rw [List.length_cons] at hk
    exact ⟨by rw [pk_un (by omega)]; exact h.1, ih h.2 (by omega)⟩
theorem ll_L {K : Nat → Nat} {L L' lf : Nat → Int32} : ∀ {t : List Nat}, (∀ a, a ∈ t → L' a = L a) → cp_ll K L lf t → cp_ll K L' lf t := by
  intro t
  induction t with
  | nil => intro _ _; trivial
  | cons b t ih =>
    intro hL h
    exact ⟨by rw [hL b (List.mem_cons_self ..)]; exact h.1, ih (fun a ha => hL a (List.mem_cons_of_mem _ ha)) h.2⟩
theorem ll_app {K : Nat → Nat} {L lf : Nat → Int32} {t : List Nat} : ∀ {l : List Nat}, cp_ll K L lf (l ++ t) → cp_ll K L lf t := by
  intro l
  induction l with
  | nil => intro h; exact h
  | cons b l ih => intro h; exact ih h.2
def cp_RY (K : Nat → Nat) (c p s r g : Nat) (e : Int32) (L z : Nat → Int32) (pl dp : Int32) (bg lf : Nat → Int32) (st sp pr en : Int32) (mt : Nat → Int32) : Prop :=
  pl = nI (if p < c then p else c) ∧ dp = nI (cp_O K p).length ∧ cp_hl bg (cp_O K p) ∧ cp_ll K L lf (cp_O K p) ∧ st = nI s ∧ (e = 1 → sp = nI r ∧ pr = nI g) ∧ en = e ∧ ∀ j, j < c → K j ≠ 8 → mt j = z j
def cp_RX (K : Nat → Nat) (p s r g : Nat) (e : Int32) (L z : Nat → Int32) (pl st sp rw en : Int32) (rl rv : Nat → Int32) : Prop :=
  pl = nI p ∧ st = nI s ∧ sp = nI r ∧ (e = 1 → rw = nI (16 ^ (6 - r) * g)) ∧ en = e ∧ (∀ b, b ∈ cp_O K p → K b = 6 → rl b = L b) ∧ ∀ j, j < 27 → rv j = z j
theorem cp_n2 : ¬ (-2 : Int32) = 1 := by decide
theorem cp_n3 : ¬ (-3 : Int32) = 1 := by decide
theorem cp_n4 : ¬ (-4 : Int32) = 1 := by decide
end
section
/-! the component links its blocks -/
section
variable {xexpressionCount xstatementCount xopenCount xclosedLength xplace xstate xrandomSteps xrunWeight xending xbestWeight xbestCode xbestSteps : Int32} {xstackValues xkinds xvariables xnumbers xprogramValues xopen xblockOf xelseOf xendOf xroundsLeft xrunVisits xstateWeights : Nat → Int32} {xvisitSums : Nat → Int64}
theorem xl_end {post : SX → Prop} {q b : Nat} (hq : q < 27) (hb : b < 27) (h : post (xexpressionCount, xstatementCount, xopenCount, xclosedLength, xplace, xstate, xrandomSteps, xrunWeight, xending, xbestWeight, xbestCode, xbestSteps, xstackValues, xkinds, xvariables, xnumbers, xprogramValues, xopen, upd xblockOf q (nI b), xelseOf, upd xendOf b (nI q), xroundsLeft, xrunVisits, xstateWeights, xvisitSums)) : wpX_linkEnd post (xexpressionCount, xstatementCount, xopenCount, xclosedLength, xplace, xstate, xrandomSteps, xrunWeight, xending, xbestWeight, xbestCode, xbestSteps, xstackValues, xkinds, xvariables, xnumbers, xprogramValues, xopen, xblockOf, xelseOf, xendOf, xroundsLeft, xrunVisits, xstateWeights, xvisitSums) (nI q) (nI b) := by
  unfold wpX_linkEnd
  exact ⟨vp_in_nI hq (by omega), nm_r (by rw [nI_clamp (by omega)]) ⟨vp_in_nI hb (by omega), nm_r (by rw [nI_clamp (by omega)]) h⟩⟩
theorem xl_ilL {post : Int32 → Prop} {K : Nat → Nat} : ∀ (l : List Nat) (n : Nat), cp_hl xopen l → l.length ≤ 3 → (∀ b, b ∈ l → b < 27 ∧ xkinds b = nI (K b) ∧ K b < 9) → post (cp_il K l) → l.length < n → wX_innermostLoop_7 post xexpressionCount xstatementCount xopenCount xclosedLength xplace xstate xrandomSteps xrunWeight xending xbestWeight xbestCode xbestSteps xstackValues xkinds xvariables xnumbers xprogramValues xopen xblockOf xelseOf xendOf xroundsLeft xrunVisits xstateWeights xvisitSums n (nI l.length - 1) := by
  intro l
  induction l with
  | nil =>
    intro n _ _ _ hp hn
    obtain ⟨m, rfl⟩ : ∃ m, n = m + 1 := ⟨n - 1, by simp only [List.length_nil] at hn; omega⟩
    exact br_t (by decide) hp
  | cons b t ih =>
    intro n hh hl hk hp hn
    simp only [List.length_cons] at hn hl ⊢
    obtain ⟨m, rfl⟩ : ∃ m, n = m + 1 := ⟨n - 1, by omega⟩
    obtain ⟨hb, hkb, hk9⟩ := hk b (List.mem_cons_self ..)
    have hc : (nI t.length).toNatClampNeg = t.length := nI_clamp (by omega)
    have hcb : (nI b).toNatClampNeg = b := nI_clamp (by omega)
    rw [nI_pred, wX_innermostLoop_7]
    simp only [hc, hh.1, hcb, hkb]
    refine br_f (nI_pos (by omega)) ⟨vp_in_nI (by omega) (by omega), vp_in_nI hb (by omega), pk_eq (K b) 6 (fun e => ?_) (fun e => ?_)⟩
    · rw [cp_il, if_pos e] at hp
      exact ⟨vp_in_nI (by omega) (by omega), hp⟩
    · rw [cp_il, if_neg e] at hp
      refine nm_r (e' := nI t.length - 1) (Int32.sub_eq_add_neg ..).symm ?_
      exact ih m hh.2 (by omega) (fun a ha => hk a (List.mem_cons_of_mem _ ha)) hp (by omega)
theorem xl_il {post : Int32 → Prop} {K : Nat → Nat} {l : List Nat} (hh : cp_hl xopen l) (hl : l.length ≤ 3) (hk : ∀ b, b ∈ l → b < 27 ∧ xkinds b = nI (K b) ∧ K b < 9) (hp : post (cp_il K l)) : wpX_innermostLoop post (xexpressionCount, xstatementCount, nI l.length, xclosedLength, xplace, xstate, xrandomSteps, xrunWeight, xending, xbestWeight, xbestCode, xbestSteps, xstackValues, xkinds, xvariables, xnumbers, xprogramValues, xopen, xblockOf, xelseOf, xendOf, xroundsLeft, xrunVisits, xstateWeights, xvisitSums) := by
  unfold wpX_innermostLoop
  exact nm_e ⟨4, xl_ilL (xopenCount := nI l.length) l 4 hh hl hk hp (by omega)⟩
theorem xl_stmt {post : SX → Prop} {K : Nat → Nat} {c q : Nat} (W : cp_wf K c) (hq : q < c) (hk : ∀ j, j < c → xkinds j = nI (K j)) (hh : cp_hl xopen (cp_O K q)) (HL : cp_LK K q xblockOf xelseOf xendOf)
    (H : ∀ o' b' e' f' : Nat → Int32, cp_LK K (q + 1) b' e' f' → cp_hl o' (cp_O K (q + 1)) → post (xexpressionCount, xstatementCount, nI (cp_O K (q + 1)).length, xclosedLength, xplace, xstate, xrandomSteps, xrunWeight, xending, xbestWeight, xbestCode, xbestSteps, xstackValues, xkinds, xvariables, xnumbers, xprogramValues, o', b', e', f', xroundsLeft, xrunVisits, xstateWeights, xvisitSums)) :
    wpX_linkStatement post (xexpressionCount, xstatementCount, nI (cp_O K q).length, xclosedLength, xplace, xstate, xrandomSteps, xrunWeight, xending, xbestWeight, xbestCode, xbestSteps, xstackValues, xkinds, xvariables, xnumbers, xprogramValues, xopen, xblockOf, xelseOf, xendOf, xroundsLeft, xrunVisits, xstateWeights, xvisitSums) (nI q) := by
  have hc24 := W.1
  have hlen := cp_len W q
  obtain ⟨k8, kin, k5, k7, kE⟩ := W.2.2 q hq
  have hcq : (nI q).toNatClampNeg = q := nI_clamp (by omega)
  have hmem : ∀ b, b ∈ cp_O K q → b < 27 ∧ xkinds b = nI (K b) ∧ K b < 9 := fun b hb => by
    have h1 := (cp_O_mem hb).2.1
    have h2 := (W.2.2 b (by omega)).1
    exact ⟨by omega, hk b (by omega), by omega⟩
  have hin : (K q = 4 ∨ K q = 6) → wX_linkStatement_40 post (nI q) xexpressionCount xstatementCount (nI (cp_O K q).length) xclosedLength xplace xstate xrandomSteps xrunWeight xending xbestWeight xbestCode xbestSteps xstackValues xkinds xvariables xnumbers xprogramValues xopen xblockOf xelseOf xendOf xroundsLeft xrunVisits xstateWeights xvisitSums := fun h46 => by
    have hl3 := kin h46
    have e := cp_O_in h46
    have hcl : (nI (cp_O K q).length).toNatClampNeg = (cp_O K q).length := nI_clamp (by omega)
    have h1 := H (upd xopen (cp_O K q).length (nI q)) xblockOf (upd xelseOf q (-1)) xendOf (lk_in h46 HL) (by rw [e]; exact hl_push hh)
    rw [e, List.length_cons] at h1
    unfold wX_linkStatement_40
    exact ⟨vp_in_nI (by omega) (by omega), nm_r (by rw [hcq]) ⟨vp_in_nI (by omega) (by omega), nm_r (by rw [hcl]) (nm_r (nI_1 _) h1)⟩⟩
  unfold wpX_linkStatement
  refine ⟨vp_in_nI (by omega) (by omega), nm_r (show xkinds (nI q).toNatClampNeg = nI (K q) by rw [hcq]; exact hk q hq) ?_⟩
  refine pk_lt (K q) 4 (fun h4 => ?_) (fun h4 => pk_lt 8 (K q) (fun h8 => by omega) (fun _ => pk_eq (K q) 4 (fun e4 => hin (Or.inl e4)) (fun n4 => pk_eq (K q) 5 (fun e5 => ?_) (fun n5 => pk_eq (K q) 6 (fun e6 => hin (Or.inr e6)) (fun n6 => pk_eq (K q) 7 (fun e7 => ?_) (fun n7 => pk_eq (K q) 8 (fun e8 => ?_) (fun _ => trivial)))))))
  · have e := cp_O_st (K := K) (p := q) (by omega) (by omega) (by omega)
    have h1 := H xopen xblockOf xelseOf xendOf (lk_st (by omega) HL) (by rw [e]; exact hh)
    rw [e] at h1
    exact h1
  · obtain ⟨b, t, ho, hb4, hu⟩ := k5 e5
    have hb := (cp_O_head ho).2.1
    have e := cp_O_st (K := K) (p := q) (by omega) (by omega) (by omega)
    have h1 := H xopen (upd xblockOf q (nI b)) (upd xelseOf b (nI q)) xendOf (lk_else e5 ho hu HL) (by rw [e]; exact hh)
    rw [e] at h1
    have hl1 : nI (cp_O K q).length - 1 = nI t.length := by rw [ho, List.length_cons, nI_pred]
    have hlt : t.length < 3 := by rw [ho, List.length_cons] at hlen; omega
    have hct : (nI t.length).toNatClampNeg = t.length := nI_clamp (by omega)
    have hop : xopen t.length = nI b := by rw [ho] at hh; exact hh.1
    have hcb : (nI b).toNatClampNeg = b := nI_clamp (by omega)
    rw [hl1]
    refine ⟨vp_in_nI hlt (by omega), vp_in_nI (by omega) (by omega), nm_r (e' := upd xblockOf q (nI b)) (by rw [hcq, hct, hop]) ⟨vp_in_nI (by omega) (by omega), ?_⟩⟩
    rw [hcq, pk_us, hcb]
    exact ⟨vp_in_nI (by omega) (by omega), nm_e h1⟩
  · obtain ⟨l1, b, t, e1, e2, e3, e4⟩ := il_some (k7 e7)
    have hbm : b ∈ cp_O K q := by rw [e1]; exact List.mem_append_right _ (List.mem_cons_self ..)
    have ht : t = cp_O K b := (cp_chain K q b t ⟨l1, e1.symm⟩).1
    have e := cp_O_st (K := K) (p := q) (by omega) (by omega) (by omega)
    have h1 := H xopen (upd xblockOf q (nI b)) xelseOf xendOf (lk_brk e7 (by rw [e1, ht]) e2 e3 HL) (by rw [e]; exact hh)
    rw [e] at h1
    refine xl_il (K := K) hh hlen hmem ?_
    rw [e4]
    exact ⟨vp_in_nI (by omega) (by omega), nm_r (by rw [hcq]) h1⟩
  · obtain ⟨b, t, ho⟩ := List.exists_cons_of_ne_nil (kE e8)
    have hb := (cp_O_head ho).2.1
    have e : cp_O K (q + 1) = t := by rw [cp_O_end e8, ho, List.tail_cons]
    have h1 := H xopen (upd xblockOf q (nI b)) xelseOf (upd xendOf b (nI q)) (lk_end e8 ho HL) (by rw [e]; rw [ho] at hh; exact hh.2)
    rw [e] at h1
    have hl1 : nI (cp_O K q).length - 1 = nI t.length := by rw [ho, List.length_cons, nI_pred]
    have hlt : t.length < 3 := by rw [ho, List.length_cons] at hlen; omega
    have hct : (nI t.length).toNatClampNeg = t.length := nI_clamp (by omega)
    have hop : xopen t.length = nI b := by rw [ho] at hh; exact hh.1
    refine nm_r hl1 ⟨vp_in_nI hlt (by omega), ?_⟩
    rw [hct, hop]
    exact xl_end (by omega) (by omega) h1
end
section
variable {xexpressionCount xstatementCount xopenCount xclosedLength xplace xstate xrandomSteps xrunWeight xending xbestWeight xbestCode xbestSteps : Int32} {xstackValues xkinds xvariables xnumbers xprogramValues xopen xblockOf xelseOf xendOf xroundsLeft xrunVisits xstateWeights : Nat → Int32} {xvisitSums : Nat → Int64}
theorem xl_41 {post : SX → Prop} {K : Nat → Nat} {c : Nat} (W : cp_wf K c) : ∀ (d p n : Nat) (kk bb ff : Nat → Int32), p + d = cp_M K c → c ≤ p → d < n → cp_hl xopen (cp_O K p) → (∀ j, j < p → kk j = nI (K j)) → cp_LK K p bb xelseOf ff →
    (∀ k' b' f' : Nat → Int32, (∀ j, j < cp_M K c → k' j = nI (K j)) → cp_LK K (cp_M K c) b' xelseOf f' → post (xexpressionCount, xstatementCount, xopenCount, nI (cp_M K c), xplace, xstate, xrandomSteps, xrunWeight, xending, xbestWeight, xbestCode, xbestSteps, xstackValues, k', xvariables, xnumbers, xprogramValues, xopen, b', xelseOf, f', xroundsLeft, xrunVisits, xstateWeights, xvisitSums)) →
    wX_linkBlocks_41 post n (nI (cp_O K p).length - 1) xexpressionCount xstatementCount xopenCount (nI p) xplace xstate xrandomSteps xrunWeight xending xbestWeight xbestCode xbestSteps xstackValues kk xvariables xnumbers xprogramValues xopen bb xelseOf ff xroundsLeft xrunVisits xstateWeights xvisitSums := by
  have hM := cp_M_le W
  intro d
  induction d with
  | zero =>
    intro p n kk bb ff hp hc hn hh hk HL H
    obtain ⟨m, rfl⟩ : ∃ m, n = m + 1 := ⟨n - 1, by omega⟩
    have e : p = cp_M K c := by omega
    subst e
    rw [cp_OM W, wX_linkBlocks_41]
    exact br_t (by decide) (H kk bb ff hk HL)
  | succ d ih =>
    intro p n kk bb ff hp hc hn hh hk HL H
    obtain ⟨m, rfl⟩ : ∃ m, n = m + 1 := ⟨n - 1, by omega⟩
    have h8 := W.2.1 p hc
    obtain ⟨b, t, ho⟩ := List.exists_cons_of_ne_nil ((cp_okM W (show p < cp_M K c by omega)).2.2.2.2 h8)
    have hb := (cp_O_head ho).2.1
    have hlen := cp_len W p
    have e : cp_O K (p + 1) = t := by rw [cp_O_end h8, ho, List.tail_cons]
    rw [ho] at hh hlen
    rw [List.length_cons] at hlen
    have hct : (nI t.length).toNatClampNeg = t.length := nI_clamp (by omega)
    have hcp : (nI p).toNatClampNeg = p := nI_clamp (by omega)
    have h2 := ih (p + 1) m (upd kk p 8) (upd bb p (nI b)) (upd ff b (nI p)) (by omega) (by omega) (by omega) (by rw [e]; exact hh.2) (fun j hj => by
      by_cases hjp : j = p
      · subst hjp; rw [pk_us, h8]; rfl
      · rw [pk_un hjp]; exact hk j (by omega)) (lk_end h8 ho HL) H
    rw [e] at h2
    rw [ho, List.length_cons, nI_pred, wX_linkBlocks_41]
    refine br_f (nI_pos (by omega)) ⟨vp_in_nI (by omega) (by omega), nm_r (e' := upd kk p 8) (by rw [hcp]) ⟨vp_in_nI (by omega) (by omega), ?_⟩⟩
    rw [hct, hh.1]
    exact xl_end (by omega) (by omega) (nm_r (nI_1 p) (nm_r (e' := nI t.length - 1) (Int32.sub_eq_add_neg ..).symm h2))
theorem xl_7 {post : SX → Prop} {K : Nat → Nat} {c : Nat} (W : cp_wf K c) (hk : ∀ j, j < c → xkinds j = nI (K j))
    (H : ∀ o' k' b' e' f' : Nat → Int32, cp_hl o' (cp_O K c) → (∀ j, j < cp_M K c → k' j = nI (K j)) → cp_LK K (cp_M K c) b' e' f' → post (xexpressionCount, nI c, nI (cp_O K c).length, nI (cp_M K c), xplace, xstate, xrandomSteps, xrunWeight, xending, xbestWeight, xbestCode, xbestSteps, xstackValues, k', xvariables, xnumbers, xprogramValues, o', b', e', f', xroundsLeft, xrunVisits, xstateWeights, xvisitSums)) :
    ∀ (d q n : Nat) (oo bb ee ff : Nat → Int32), q + d = c → d < n → cp_hl oo (cp_O K q) → cp_LK K q bb ee ff →
    wX_linkBlocks_7 post n (nI q) xexpressionCount (nI c) (nI (cp_O K q).length) xclosedLength xplace xstate xrandomSteps xrunWeight xending xbestWeight xbestCode xbestSteps xstackValues xkinds xvariables xnumbers xprogramValues oo bb ee ff xroundsLeft xrunVisits xstateWeights xvisitSums := by
  have hc24 := W.1
  intro d
  induction d with
  | zero =>
    intro q n oo bb ee ff hq hn hh HL
    obtain ⟨m, rfl⟩ : ∃ m, n = m + 1 := ⟨n - 1, by omega⟩
    have e : q = c := by omega
    subst e
    rw [wX_linkBlocks_7]
    exact br_t (nI_le (by omega) (by omega)) (nm_e ⟨_, xl_41 W (cp_M K q - q) q (cp_M K q - q + 1) xkinds bb ff (by have := cp_M_le W; omega) (Nat.le_refl _) (by omega) hh hk HL fun k' b' f' h1 h2 => H oo k' b' ee f' hh h1 h2⟩)
  | succ d ih =>
    intro q n oo bb ee ff hq hn hh HL
    obtain ⟨m, rfl⟩ : ∃ m, n = m + 1 := ⟨n - 1, by omega⟩
    rw [wX_linkBlocks_7]
    refine br_f (nI_ge (by omega) (by omega)) ?_
    refine xl_stmt W (show q < c by omega) hk hh HL fun o' b' e' f' h1 h2 => ?_
    exact nm_r (nI_1 q) (ih (q + 1) m o' b' e' f' (by omega) (by omega) h2 h1)
theorem xl_all {post : SX → Prop} {K : Nat → Nat} {c : Nat} (W : cp_wf K c) (hk : ∀ j, j < c → xkinds j = nI (K j))
    (H : ∀ o' k' b' e' f' : Nat → Int32, cp_hl o' (cp_O K c) → (∀ j, j < cp_M K c → k' j = nI (K j)) → cp_LK K (cp_M K c) b' e' f' → post (xexpressionCount, nI c, nI (cp_O K c).length, nI (cp_M K c), xplace, xstate, xrandomSteps, xrunWeight, xending, xbestWeight, xbestCode, xbestSteps, xstackValues, k', xvariables, xnumbers, xprogramValues, o', b', e', f', xroundsLeft, xrunVisits, xstateWeights, xvisitSums)) :
    wpX_linkBlocks post (xexpressionCount, nI c, xopenCount, xclosedLength, xplace, xstate, xrandomSteps, xrunWeight, xending, xbestWeight, xbestCode, xbestSteps, xstackValues, xkinds, xvariables, xnumbers, xprogramValues, xopen, xblockOf, xelseOf, xendOf, xroundsLeft, xrunVisits, xstateWeights, xvisitSums) := by
  unfold wpX_linkBlocks
  exact ⟨c + 1, xl_7 W hk H c 0 (c + 1) xopen xblockOf xelseOf xendOf (by omega) (by omega) trivial lk_0⟩
end
end
section
/-! the component carries a run out -/
theorem cp_asgI : ∀ v, v < 3 → ∀ x, x < 4 → ∀ s, s < 64 → (nI s &&& (((3 : Int32) <<< ((2 * nI v) &&& 31)) ^^^ (-1))) ||| (nI x <<< ((2 * nI v) &&& 31)) = nI (cp_asg v x s) := by decide +kernel
theorem cp_ixX (p s : Nat) : nI p * 64 + nI s = nI (64 * p + s) := by
  show nI p * nI 64 + nI s = _
  rw [pk_mul, nI_add, Nat.mul_comm]
theorem cp_ixY (p s : Nat) : 64 * nI p + nI s = nI (64 * p + s) := by
  show nI 64 * nI p + nI s = _
  rw [pk_mul, nI_add]
theorem cp_rdI {row j : Nat} (hr : row < 4096) (hj : j < 6) : ((nI row >>> ((2 * (5 - nI j)) &&& 31)) &&& 3) = nI (cp_rd row j) := by
  have hj' : j = 0 ∨ j = 1 ∨ j = 2 ∨ j = 3 ∨ j = 4 ∨ j = 5 := by omega
  have hd : ∀ k, row / 2 ^ k < 2 ^ 32 := fun k => by
    have := Nat.div_le_self row (2 ^ k)
    omega
  rcases hj' with rfl | rfl | rfl | rfl | rfl | rfl
  · rw [pk_shrN (by omega) _ 10 (by decide), pk_andN (hd _) 2 (by decide)]; rfl
  · rw [pk_shrN (by omega) _ 8 (by decide), pk_andN (hd _) 2 (by decide)]; rfl
  · rw [pk_shrN (by omega) _ 6 (by decide), pk_andN (hd _) 2 (by decide)]; rfl
  · rw [pk_shrN (by omega) _ 4 (by decide), pk_andN (hd _) 2 (by decide)]; rfl
  · rw [pk_shrN (by omega) _ 2 (by decide), pk_andN (hd _) 2 (by decide)]; rfl
  · rw [pk_shrN (by omega) _ 0 (by decide), pk_andN (hd _) 2 (by decide)]; rfl
theorem cp_rv {a z : Nat → Int32} {n p : Nat} (h : ∀ j, j < n → a j = z j) (hp : p < n) : ∀ j, j < n → upd a p (a p + 1) j = upd z p (z p + 1) j := fun j hj => by
  by_cases e : j = p
  · subst e; rw [pk_us, pk_us, h j hj]
  · rw [pk_un e, pk_un e, h j hj]
section
variable {xexpressionCount xstatementCount xopenCount xclosedLength xplace xstate xrandomSteps xrunWeight xending xbestWeight xbestCode xbestSteps : Int32} {xstackValues xkinds xvariables xnumbers xprogramValues xopen xblockOf xelseOf xendOf xroundsLeft xrunVisits xstateWeights : Nat → Int32} {xvisitSums : Nat → Int64}
theorem xr_startL {post : SX → Prop} (H : ∀ rv : Nat → Int32, (∀ j, j < 27 → rv j = 0) → post (xexpressionCount, xstatementCount, xopenCount, xclosedLength, 0, 0, 0, 16777216, 1, xbestWeight, xbestCode, xbestSteps, xstackValues, xkinds, xvariables, xnumbers, xprogramValues, xopen, xblockOf, xelseOf, xendOf, xroundsLeft, rv, xstateWeights, xvisitSums)) :
    ∀ (d i n : Nat) (rv : Nat → Int32), i + d = 27 → d < n → (∀ j, j < i → rv j = 0) → wX_startRun_2 post xexpressionCount xstatementCount xopenCount xclosedLength xplace xstate xrandomSteps xrunWeight xending xbestWeight xbestCode xbestSteps n (nI i) xstackValues xkinds xvariables xnumbers xprogramValues xopen xblockOf xelseOf xendOf xroundsLeft rv xstateWeights xvisitSums := by
  intro d
  induction d with
  | zero =>
    intro i n rv hi hn h
    obtain ⟨m, rfl⟩ : ∃ m, n = m + 1 := ⟨n - 1, by omega⟩
    have e : i = 27 := by omega
    subst e
    rw [wX_startRun_2]
    exact br_t (by decide) (H rv h)
  | succ d ih =>
    intro i n rv hi hn h
    obtain ⟨m, rfl⟩ : ∃ m, n = m + 1 := ⟨n - 1, by omega⟩
    rw [wX_startRun_2]
    refine br_f (nI_ge (b := 27) (by omega) (by decide)) ⟨vp_in_nI (by omega) (by omega), nm_r (e' := upd rv i 0) (by rw [nI_clamp (by omega)]) (nm_r (nI_1 i) ?_)⟩
    refine ih (i + 1) m (upd rv i 0) (by omega) (by omega) fun j hj => ?_
    by_cases e : j = i
    · subst e; exact pk_us
    · rw [pk_un e]; exact h j (by omega)
theorem xr_start {post : SX → Prop} (H : ∀ rv : Nat → Int32, (∀ j, j < 27 → rv j = 0) → post (xexpressionCount, xstatementCount, xopenCount, xclosedLength, 0, 0, 0, 16777216, 1, xbestWeight, xbestCode, xbestSteps, xstackValues, xkinds, xvariables, xnumbers, xprogramValues, xopen, xblockOf, xelseOf, xendOf, xroundsLeft, rv, xstateWeights, xvisitSums)) : wpX_startRun post (xexpressionCount, xstatementCount, xopenCount, xclosedLength, xplace, xstate, xrandomSteps, xrunWeight, xending, xbestWeight, xbestCode, xbestSteps, xstackValues, xkinds, xvariables, xnumbers, xprogramValues, xopen, xblockOf, xelseOf, xendOf, xroundsLeft, xrunVisits, xstateWeights, xvisitSums) := by
  unfold wpX_startRun
  exact ⟨28, xr_startL H 27 0 28 xrunVisits (by omega) (by omega) fun j hj => absurd hj (by omega)⟩
theorem xr_asg {post : SX → Prop} {v x s : Nat} {a b : Int32} (ha : a = nI v) (hb : b = nI x) (hs : xstate = nI s) (hv : v < 3) (hx : x < 4) (hs4 : s < 64) (h : post (xexpressionCount, xstatementCount, xopenCount, xclosedLength, xplace, nI (cp_asg v x s), xrandomSteps, xrunWeight, xending, xbestWeight, xbestCode, xbestSteps, xstackValues, xkinds, xvariables, xnumbers, xprogramValues, xopen, xblockOf, xelseOf, xendOf, xroundsLeft, xrunVisits, xstateWeights, xvisitSums)) : wpX_assign post (xexpressionCount, xstatementCount, xopenCount, xclosedLength, xplace, xstate, xrandomSteps, xrunWeight, xending, xbestWeight, xbestCode, xbestSteps, xstackValues, xkinds, xvariables, xnumbers, xprogramValues, xopen, xblockOf, xelseOf, xendOf, xroundsLeft, xrunVisits, xstateWeights, xvisitSums) a b := by
  subst ha hb hs
  unfold wpX_assign
  exact nm_r (cp_asgI v hv x hx s hs4) h
theorem xr_ow {post : Int32 → Prop} {K N : Nat → Nat} {p o : Nat} (hp : p < 27) (hk : xkinds p = nI (K p)) (hK : K p = 1 ∨ K p = 2) (hn : K p = 1 → xnumbers p = nI (N p) ∧ N p ≤ 16) (ho : o < 4) (h : post (nI (cp_ow K N p o))) : wpX_outcomeWeightAt post (xexpressionCount, xstatementCount, xopenCount, xclosedLength, xplace, xstate, xrandomSteps, xrunWeight, xending, xbestWeight, xbestCode, xbestSteps, xstackValues, xkinds, xvariables, xnumbers, xprogramValues, xopen, xblockOf, xelseOf, xendOf, xroundsLeft, xrunVisits, xstateWeights, xvisitSums) (nI p) (nI o) := by
  have hcp : (nI p).toNatClampNeg = p := nI_clamp (by omega)
  unfold wpX_outcomeWeightAt
  refine ⟨vp_in_nI hp (by omega), ?_⟩
  rw [hcp, hk]
  refine pk_eq (K p) 2 (fun e => ?_) (fun e => pk_le o 1 (fun h1 => pk_eq o 1 (fun e1 => ?_) (fun e1 => ?_)) (fun h1 => ?_))
  · rw [cp_ow, if_pos e] at h
    exact h
  · rw [cp_ow, if_neg e, if_pos e1] at h
    exact ⟨vp_in_nI hp (by omega), by rw [(hn (by omega)).1]; exact h⟩
  · have e0 : o = 0 := by omega
    obtain ⟨h2, h3⟩ := hn (by omega)
    rw [cp_ow, if_neg e, if_neg e1, if_pos e0] at h
    refine ⟨vp_in_nI hp (by omega), ?_⟩
    rw [h2]
    show post (nI 16 - nI (N p))
    rw [pk_sub h3]
    exact h
  · rw [cp_ow, if_neg e, if_neg (by omega), if_neg (by omega)] at h
    exact h
theorem cp_rw {r g w : Nat} (hr : r < 6) (hg : g ≤ 16 ^ r) (hw : w ≤ 16) : nI (16 ^ (6 - r) * g) / 16 * nI w = nI (16 ^ (6 - (r + 1)) * (g * w)) := by
  have e : 16 ^ (6 - r) * g = 16 * (16 ^ (6 - (r + 1)) * g) := by
    rw [show 6 - r = 6 - (r + 1) + 1 from by omega, Nat.pow_succ, Nat.mul_comm _ 16, Nat.mul_assoc]
  have hb : 16 ^ (6 - r) * g ≤ 16 ^ 6 := by
    refine Nat.le_trans (Nat.mul_le_mul_left _ hg) ?_
    rw [← Nat.pow_add, show 6 - r + r = 6 from by omega]
    exact Nat.le_refl _
  show nI (16 ^ (6 - r) * g) / nI 16 * nI w = _
  rw [pk_div (by omega) (by omega) (by omega), pk_mul, e, Nat.mul_div_cancel_left _ (by omega), Nat.mul_assoc]
theorem xr_endB {post : SX → Prop} {K : Nat → Nat} {b : Nat} {a : Int32} (ha : a = nI b) (hb : b < 27) (hk : xkinds b = nI (K b)) (hK : K b < 9)
    (h6 : K b = 6 → post (xexpressionCount, xstatementCount, xopenCount, xclosedLength, (if 0 < xroundsLeft b - 1 then nI (b + 1) else xplace), xstate, xrandomSteps, xrunWeight, xending, xbestWeight, xbestCode, xbestSteps, xstackValues, xkinds, xvariables, xnumbers, xprogramValues, xopen, xblockOf, xelseOf, xendOf, upd xroundsLeft b (xroundsLeft b - 1), xrunVisits, xstateWeights, xvisitSums)) (hn : K b ≠ 6 → post (xexpressionCount, xstatementCount, xopenCount, xclosedLength, xplace, xstate, xrandomSteps, xrunWeight, xending, xbestWeight, xbestCode, xbestSteps, xstackValues, xkinds, xvariables, xnumbers, xprogramValues, xopen, xblockOf, xelseOf, xendOf, xroundsLeft, xrunVisits, xstateWeights, xvisitSums)) : wpX_endBlock post (xexpressionCount, xstatementCount, xopenCount, xclosedLength, xplace, xstate, xrandomSteps, xrunWeight, xending, xbestWeight, xbestCode, xbestSteps, xstackValues, xkinds, xvariables, xnumbers, xprogramValues, xopen, xblockOf, xelseOf, xendOf, xroundsLeft, xrunVisits, xstateWeights, xvisitSums) a := by
  subst ha
  have hcb : (nI b).toNatClampNeg = b := nI_clamp (by omega)
  unfold wpX_endBlock
  refine ⟨vp_in_nI hb (by omega), ?_⟩
  rw [hcb, hk]
  refine pk_eq (K b) 6 (fun e => ?_) hn
  have h := h6 e
  refine ⟨vp_in_nI hb (by omega), vp_in_nI hb (by omega), nm_e ⟨vp_in_nI hb (by omega), ?_⟩⟩
  rw [pk_us]
  by_cases h0 : 0 < xroundsLeft b - 1
  · rw [if_pos h0] at h
    exact br_f (Int32.not_le.mpr h0) (nm_r (nI_1 b) h)
  · rw [if_neg h0] at h
    exact br_t (Int32.not_lt.mp h0) h
theorem xr_rand {post : SX → Prop} {K A N : Nat → Nat} {V : Nat → Nat → Nat} {p s r g row : Nat} (D : cp_dat K A N V) (hp : p < 27) (hr6 : r ≤ 6) (hg : g ≤ 16 ^ r) (hs : s < 64) (hrow : row < 4096) (hk : xkinds p = nI (K p)) (hK : K p = 1 ∨ K p = 2)
    (hv : xvariables p = nI (A p)) (hn : K p = 1 → xnumbers p = nI (N p)) (es : xstate = nI s) (er : xrandomSteps = nI r) (ew : xrunWeight = nI (16 ^ (6 - r) * g))
    (h3 : r = 6 → post (xexpressionCount, xstatementCount, xopenCount, xclosedLength, xplace, xstate, xrandomSteps, xrunWeight, -3, xbestWeight, xbestCode, xbestSteps, xstackValues, xkinds, xvariables, xnumbers, xprogramValues, xopen, xblockOf, xelseOf, xendOf, xroundsLeft, xrunVisits, xstateWeights, xvisitSums)) (h4 : r ≠ 6 → cp_ow K N p (cp_rd row r) = 0 → post (xexpressionCount, xstatementCount, xopenCount, xclosedLength, xplace, xstate, nI (r + 1), xrunWeight, -4, xbestWeight, xbestCode, xbestSteps, xstackValues, xkinds, xvariables, xnumbers, xprogramValues, xopen, xblockOf, xelseOf, xendOf, xroundsLeft, xrunVisits, xstateWeights, xvisitSums))
    (h5 : r ≠ 6 → cp_ow K N p (cp_rd row r) ≠ 0 → post (xexpressionCount, xstatementCount, xopenCount, xclosedLength, xplace, nI (cp_asg (A p) (cp_rd row r) s), nI (r + 1), nI (16 ^ (6 - (r + 1)) * (g * cp_ow K N p (cp_rd row r))), xending, xbestWeight, xbestCode, xbestSteps, xstackValues, xkinds, xvariables, xnumbers, xprogramValues, xopen, xblockOf, xelseOf, xendOf, xroundsLeft, xrunVisits, xstateWeights, xvisitSums)) :
    wpX_takeRandomStep post (xexpressionCount, xstatementCount, xopenCount, xclosedLength, xplace, xstate, xrandomSteps, xrunWeight, xending, xbestWeight, xbestCode, xbestSteps, xstackValues, xkinds, xvariables, xnumbers, xprogramValues, xopen, xblockOf, xelseOf, xendOf, xroundsLeft, xrunVisits, xstateWeights, xvisitSums) (nI p) (nI row) := by
  subst es er ew
  have hcp : (nI p).toNatClampNeg = p := nI_clamp (by omega)
  have hd := cp_rd_lt row r
  unfold wpX_takeRandomStep
  refine pk_lt r 6 (fun h => ?_) (fun h => h3 (by omega))
  unfold wpX_outcomeIn
  rw [cp_rdI hrow h]
  refine xr_ow (K := K) (N := N) hp hk hK (fun e => ⟨hn e, (D p).2.1 e⟩) hd (nm_r (nI_1 r) ?_)
  have hw := cp_ow_le D hK (cp_rd row r)
  refine pk_eq (cp_ow K N p (cp_rd row r)) 0 (fun e => h4 (by omega) e) (fun e => ⟨by decide, nm_r (cp_rw h hg hw) ⟨vp_in_nI hp (by omega), ?_⟩⟩)
  exact xr_asg (by rw [hcp]; exact hv) rfl rfl ((D p).1 (by omega)) hd hs (h5 (by omega) e)
end
end
section
/-! one step of the component is one step of the machine -/
section
variable {xexpressionCount xstatementCount xopenCount xclosedLength xplace xstate xrandomSteps xrunWeight xending xbestWeight xbestCode xbestSteps : Int32} {xstackValues xkinds xvariables xnumbers xprogramValues xopen xblockOf xelseOf xendOf xroundsLeft xrunVisits xstateWeights : Nat → Int32} {xvisitSums : Nat → Int64} {K A N E F B : Nat → Nat} {V : Nat → Nat → Nat} {M c : Nat}
def cp_XA (K A N : Nat → Nat) (V : Nat → Nat → Nat) (M c : Nat) (xk xv xn xp : Nat → Int32) : Prop :=
  (∀ j, j < M → xk j = nI (K j)) ∧ (∀ j, j < c → K j ≤ 2 → xv j = nI (A j)) ∧ (∀ j, j < c → (K j = 1 ∨ K j = 6) → xn j = nI (N j)) ∧
  (∀ j, j < c → (K j = 0 ∨ K j = 3 ∨ K j = 4) → ∀ s, s < 64 → xp (64 * j + s) = nI (V j s))
theorem xs_step {post : SX → Prop} {row t f x p s r g : Nat} {L z : Nat → Int32} (G : cp_G K A N E F B V M c) (HX : cp_X K M E F B xblockOf xelseOf xendOf) (HA : cp_XA K A N V M c xkinds xvariables xnumbers xprogramValues)
    (hrow : row < 4096) (ht : t < 100000) (I : cp_I K M x p s r g L) (hp : p < M) (R : cp_RX K p s r g 1 L z xplace xstate xrandomSteps xrunWeight xending xroundsLeft xrunVisits)
    (H : ∀ (pl st sp rw en : Int32) (rl rv : Nat → Int32), cp_RX K (cp_step K A N E F B V (cp_rd row) p s r g 1 L z).1 (cp_step K A N E F B V (cp_rd row) p s r g 1 L z).2.1 (cp_step K A N E F B V (cp_rd row) p s r g 1 L z).2.2.1 (cp_step K A N E F B V (cp_rd row) p s r g 1 L z).2.2.2.1 (cp_step K A N E F B V (cp_rd row) p s r g 1 L z).2.2.2.2.1 (cp_step K A N E F B V (cp_rd row) p s r g 1 L z).2.2.2.2.2.1 (cp_step K A N E F B V (cp_rd row) p s r g 1 L z).2.2.2.2.2.2 pl st sp rw en rl rv →
      wX_carryOut_6 post (nI row) f (nI (t + 1)) xexpressionCount xstatementCount xopenCount (nI M) pl st sp rw en xbestWeight xbestCode xbestSteps xstackValues xkinds xvariables xnumbers xprogramValues xopen xblockOf xelseOf xendOf rl rv xstateWeights xvisitSums) :
    wX_carryOut_6 post (nI row) (f + 1) (nI t) xexpressionCount xstatementCount xopenCount (nI M) xplace xstate xrandomSteps xrunWeight xending xbestWeight xbestCode xbestSteps xstackValues xkinds xvariables xnumbers xprogramValues xopen xblockOf xelseOf xendOf xroundsLeft xrunVisits xstateWeights xvisitSums := by
  obtain ⟨W, rfl, T, D⟩ := G
  have hM := (cp_M_le W).2
  obtain ⟨k8, kin, k5, k7, kE⟩ := cp_okM W hp
  have hpc : K p ≠ 8 → p < c := fun h => by
    by_cases hc : p < c
    · exact hc
    · exact absurd (W.2.1 p (by omega)) h
  obtain ⟨i1, i2, i3, i4, i5, i6⟩ := I
  obtain ⟨rfl, rfl, rfl, rw1, rfl, rl1, rv1⟩ := R
  have rw2 := rw1 rfl
  obtain ⟨ak, av, an, ap⟩ := HA
  have hcp : (nI p).toNatClampNeg = p := nI_clamp (by omega)
  have rv2 := cp_rv rv1 (show p < 27 by omega)
  have hix : ∀ h : p < c, (nI p * 64 + nI s).toNatClampNeg = 64 * p + s := fun h => by
    rw [cp_ixX, nI_clamp (by have := W.1; omega)]
  have hvi : ∀ h : p < c, vp_in (nI p * 64 + nI s) 1536 := fun h => by
    rw [cp_ixX]
    exact vp_in_nI (by have := W.1; omega) (by omega)
  have vpp : vp_in (nI p) 27 := vp_in_nI (by omega) (by omega)
  have hOst : K p ≠ 4 → K p ≠ 6 → K p ≠ 8 → cp_O K (p + 1) = cp_O K p := fun a b d => cp_O_st a b d
  rw [wX_carryOut_6]
  refine br_f (nI_ge (b := 100000) ht (by decide)) (br_f (nI_ge hp (by omega)) (br_t rfl (nm_r (nI_1 p) ⟨vpp, vpp, nm_r (e' := upd xrunVisits p (xrunVisits p + 1)) (by rw [hcp]) ⟨vpp, nm_r (show xkinds (nI p).toNatClampNeg = nI (K p) by rw [hcp]; exact ak p hp) ?_⟩⟩)))
  refine pk_lt (K p) 0 (fun h => by omega) (fun _ => pk_lt 7 (K p) (fun h7 => ?_) (fun h7 => pk_eq (K p) 0 (fun e0 => ?_) (fun n0 => pk_eq (K p) 1 (fun e1 => ?_) (fun n1 => pk_eq (K p) 2 (fun e2 => ?_) (fun n2 => pk_eq (K p) 3 (fun e3 => ?_) (fun n3 => pk_eq (K p) 4 (fun e4 => ?_) (fun n4 => pk_eq (K p) 5 (fun e5 => ?_) (fun n5 => pk_eq (K p) 6 (fun e6 => ?_) (fun n6 => pk_eq (K p) 7 (fun e7 => ?_) (fun _ => trivial))))))))))
  · have e8 : K p = 8 := by omega
    obtain ⟨hB, hBM⟩ := HX.2.2 p hp (Or.inr (Or.inr e8))
    have hO := T.2.1 p hp (Or.inr e8)
    have hO' : cp_O K (p + 1) = cp_O K (B p) := by rw [cp_O_end e8, hO, List.tail_cons]
    have hk := (cp_O_head hO).2.2
    refine ⟨vpp, xr_endB (K := K) (by rw [hcp]; exact hB) (by omega) (ak _ hBM) (by omega) (fun b6 => nm_r (nI_1 t) (H _ _ _ _ _ _ _ ?_)) (fun b6 => nm_r (nI_1 t) (H _ _ _ _ _ _ _ ?_))⟩
    · rw [cp_s8l e8 b6]
      have hrl : xroundsLeft (B p) = L (B p) := rl1 _ (by rw [hO]; exact List.mem_cons_self ..) b6
      have hmem : ∀ a, a ∈ cp_O K (B p) → K a = 6 → upd xroundsLeft (B p) (xroundsLeft (B p) - 1) a = upd L (B p) (L (B p) - 1) a := fun a ha h6 => by
        have := (cp_O_mem ha).2.1
        rw [pk_un (by omega), pk_un (by omega)]
        exact rl1 a (by rw [hO]; exact List.mem_cons_of_mem _ ha) h6
      refine ⟨?_, rfl, rfl, rw1, rfl, fun a ha h6 => ?_, rv2⟩
      · dsimp only
        rw [hrl]
        split <;> rfl
      · dsimp only at ha ⊢
        by_cases h0 : 0 < L (B p) - 1
        · rw [if_pos h0, cp_O_in hk] at ha
          cases List.mem_cons.mp ha with
          | inl e => rw [e, pk_us, pk_us, hrl]
          | inr e => exact hmem a e h6
        · rw [if_neg h0, hO'] at ha
          exact hmem a ha h6
    · rw [cp_s8i e8 b6]
      refine ⟨rfl, rfl, rfl, rw1, rfl, fun a ha h6 => ?_, rv2⟩
      have ha : a ∈ cp_O K (p + 1) := ha
      rw [hO'] at ha
      exact rl1 a (by rw [hO]; exact List.mem_cons_of_mem _ ha) h6
  · have hc := hpc (by omega)
    refine ⟨vpp, hvi hc, xr_asg (v := A p) (x := V p s) (s := s) (by rw [hcp]; exact av p hc (by omega)) (by rw [hix hc]; exact ap p hc (by omega) s i2) rfl ((D p).1 (by omega)) ((D p).2.2.2 (by omega) s i2) i2 (nm_r (nI_1 t) (H _ _ _ _ _ _ _ ?_))⟩
    rw [cp_s0 e0]
    exact ⟨rfl, rfl, rfl, rw1, rfl, by show ∀ b, b ∈ cp_O K (p + 1) → _; rw [hOst (by omega) (by omega) (by omega)]; exact rl1, rv2⟩
  iterate 2
    · have hc := hpc (by omega)
      have hR : K p = 1 ∨ K p = 2 := by omega
      unfold wX_carryOut_131
      refine xr_rand (K := K) (A := A) (N := N) (V := V) (s := s) (r := r) (g := g) D (by omega) i3 i4 i2 hrow (ak p hp) hR (av p hc (by omega)) (fun e => an p hc (Or.inl e)) rfl rfl rw2 (fun h6 => nm_r (nI_1 t) (H _ _ _ _ _ _ _ ?_)) (fun h6 hw => nm_r (nI_1 t) (H _ _ _ _ _ _ _ ?_)) (fun h6 hw => nm_r (nI_1 t) (H _ _ _ _ _ _ _ ?_))
      · rw [cp_sR hR, if_pos h6]
        exact ⟨rfl, rfl, rfl, fun z => absurd z cp_n3, rfl, by show ∀ b, b ∈ cp_O K (p + 1) → _; rw [hOst (by omega) (by omega) (by omega)]; exact rl1, rv2⟩
      · rw [cp_sR hR, if_neg h6, if_pos hw]
        exact ⟨rfl, rfl, rfl, fun z => absurd z cp_n4, rfl, by show ∀ b, b ∈ cp_O K (p + 1) → _; rw [hOst (by omega) (by omega) (by omega)]; exact rl1, rv2⟩
      · rw [cp_sR hR, if_neg h6, if_neg hw]
        exact ⟨rfl, rfl, rfl, fun _ => rfl, rfl, by show ∀ b, b ∈ cp_O K (p + 1) → _; rw [hOst (by omega) (by omega) (by omega)]; exact rl1, rv2⟩
  · have hc := hpc (by omega)
    have hV : xprogramValues (nI p * 64 + nI s).toNatClampNeg = nI (V p s) := by rw [hix hc]; exact ap p hc (by omega) s i2
    have hV4 := (D p).2.2.2 (by omega) s i2
    have hrl : ∀ b, b ∈ cp_O K (p + 1) → K b = 6 → xroundsLeft b = L b := by rw [hOst (by omega) (by omega) (by omega)]; exact rl1
    refine ⟨hvi hc, ?_⟩
    rw [hV]
    refine pk_eq (V p s) 0 (fun e => nm_r (nI_1 t) (H _ _ _ _ _ _ _ ?_)) (fun e => nm_r (nI_1 t) (H _ _ _ _ _ _ _ ?_))
    · rw [cp_s3 e3, if_pos e]
      exact ⟨rfl, rfl, rfl, fun z => absurd z cp_n2, rfl, hrl, rv2⟩
    · rw [cp_s3 e3, if_neg e]
      exact ⟨rfl, rfl, rfl, rw1, rfl, hrl, rv2⟩
  · have hc := hpc (by omega)
    have hV : xprogramValues (nI p * 64 + nI s).toNatClampNeg = nI (V p s) := by rw [hix hc]; exact ap p hc (by omega) s i2
    have hV4 := (D p).2.2.2 (by omega) s i2
    have hEp := HX.1 p hp (Or.inl e4)
    obtain ⟨t1, t2, t3, t4, _⟩ := T.1 p hp (Or.inl e4)
    have hpush : ∀ b, b ∈ p :: cp_O K p → K b = 6 → xroundsLeft b = L b := fun b hb h6 => by
      cases List.mem_cons.mp hb with
      | inl e => rw [e] at h6; omega
      | inr e => exact rl1 b e h6
    refine ⟨hvi hc, ?_⟩
    rw [hV]
    refine pk_eq (V p s) 0 (fun e => ⟨vpp, ?_⟩) (fun e => nm_r (nI_1 t) (H _ _ _ _ _ _ _ ?_))
    · rw [hcp]
      cases HX.2.1 p hp (Or.inl e4) with
      | inl h =>
        refine br_t h.2 ⟨vpp, nm_r (e' := nI (E p + 1)) (by rw [hEp, nI_1]) (nm_r (nI_1 t) (H _ _ _ _ _ _ _ ?_))⟩
        rw [cp_s4 e4, if_pos e, if_pos h.1]
        refine ⟨rfl, rfl, rfl, rw1, rfl, ?_, rv2⟩
        show ∀ b, b ∈ cp_O K (E p + 1) → _
        rw [cp_O_end t3, t4]
        exact rl1
      | inr h =>
        obtain ⟨f1, f2, f3, f4⟩ := T.2.2.2.1 p hp e4 h.1
        refine br_f (by rw [h.2]; exact cp_m1_ne (by omega)) ⟨vpp, nm_r (e' := nI (F p + 1)) (by rw [h.2, nI_1]) (nm_r (nI_1 t) (H _ _ _ _ _ _ _ ?_))⟩
        rw [cp_s4 e4, if_pos e, if_neg h.1]
        refine ⟨rfl, rfl, rfl, rw1, rfl, ?_, rv2⟩
        show ∀ b, b ∈ cp_O K (F p + 1) → _
        rw [cp_O_st (by omega) (by omega) (by omega), f4]
        exact hpush
    · rw [cp_s4 e4, if_neg e]
      refine ⟨rfl, rfl, rfl, rw1, rfl, ?_, rv2⟩
      show ∀ b, b ∈ cp_O K (p + 1) → _
      rw [cp_O_in (Or.inl e4)]
      exact hpush
  · obtain ⟨hB, hBM⟩ := HX.2.2 p hp (Or.inl e5)
    have hO := T.2.1 p hp (Or.inl e5)
    obtain ⟨_, hb, hk⟩ := cp_O_head hO
    obtain ⟨t1, t2, t3, t4, _⟩ := T.1 (B p) hBM hk
    have hcb : (nI (B p)).toNatClampNeg = B p := nI_clamp (by omega)
    unfold wX_carryOut_232
    rw [hcp, hB, hcb, HX.1 (B p) hBM hk]
    refine ⟨vpp, vp_in_nI (by omega) (by omega), nm_r (nI_1 _) (nm_r (nI_1 t) (H _ _ _ _ _ _ _ ?_))⟩
    rw [cp_s57 (Or.inl e5)]
    refine ⟨rfl, rfl, rfl, rw1, rfl, ?_, rv2⟩
    show ∀ b, b ∈ cp_O K (E (B p) + 1) → _
    rw [cp_O_end t3, t4]
    intro a ha
    exact rl1 a (by rw [hO]; exact List.mem_cons_of_mem _ ha)
  · have hc := hpc (by omega)
    refine ⟨vpp, vpp, nm_r (e' := upd xroundsLeft p (nI (N p))) (by rw [hcp, an p hc (Or.inr e6)]) (nm_r (nI_1 t) (H _ _ _ _ _ _ _ ?_))⟩
    rw [cp_s6 e6]
    refine ⟨rfl, rfl, rfl, rw1, rfl, ?_, rv2⟩
    show ∀ b, b ∈ cp_O K (p + 1) → K b = 6 → upd xroundsLeft p (nI (N p)) b = upd L p (nI (N p)) b
    rw [cp_O_in (Or.inr e6)]
    intro a ha h6
    cases List.mem_cons.mp ha with
    | inl e => rw [e, pk_us, pk_us]
    | inr e =>
      have := (cp_O_mem e).2.1
      rw [pk_un (by omega), pk_un (by omega)]
      exact rl1 a e h6
  · obtain ⟨hB, hBM⟩ := HX.2.2 p hp (Or.inr (Or.inl e7))
    obtain ⟨l, hO, hk6, _⟩ := T.2.2.1 p hp e7
    obtain ⟨t1, t2, t3, t4, _⟩ := T.1 (B p) hBM (Or.inr hk6)
    have hcb : (nI (B p)).toNatClampNeg = B p := nI_clamp (by omega)
    unfold wX_carryOut_232
    rw [hcp, hB, hcb, HX.1 (B p) hBM (Or.inr hk6)]
    refine ⟨vpp, vp_in_nI (by omega) (by omega), nm_r (nI_1 _) (nm_r (nI_1 t) (H _ _ _ _ _ _ _ ?_))⟩
    rw [cp_s57 (Or.inr e7)]
    refine ⟨rfl, rfl, rfl, rw1, rfl, ?_, rv2⟩
    show ∀ b, b ∈ cp_O K (E (B p) + 1) → _
    rw [cp_O_end t3, t4]
    intro a ha
    exact rl1 a (by rw [hO]; exact List.mem_append_right _ (List.mem_cons_of_mem _ ha))
end
end
section
/-! the component: a run to its end, and the tally -/
theorem tl_sw {R : Nat → cp_S} {sw : Nat → Int32} {a : Nat} (h : ∀ s, s < 64 → sw s = nI (cp_Sm R a s)) (hs : (R a).2.1 < 64) : ∀ s, s < 64 → upd sw (R a).2.1 (sw (R a).2.1 + nI (cp_wt (R a) a)) s = nI (cp_Sm R (a + 1) s) := fun s h64 => by
  by_cases e : s = (R a).2.1
  · rw [e, pk_us, h _ hs, nI_add, cp_Sm, if_pos rfl]
  · rw [pk_un e, h s h64, cp_Sm, if_neg (fun z => e z.symm), Nat.add_zero]
theorem tl_B {R : Nat → cp_S} (h : ∀ a, cp_wt (R a) a ≤ 16777216) : ∀ n, (cp_Bm R n).1 ≤ 16777216 := by
  intro n
  induction n with
  | zero => exact Nat.zero_le _
  | succ n ih =>
    rw [cp_Bm]
    split
    · exact h n
    · exact ih
theorem tl_B4 {R : Nat → cp_S} (h : ∀ a, (R a).2.2.1 ≤ 6) : ∀ n, n ≤ 4096 → (cp_Bm R n).2.1 < 4096 ∧ (cp_Bm R n).2.2 ≤ 6 := by
  intro n
  induction n with
  | zero => intro _; exact ⟨by show 0 < 4096; omega, Nat.zero_le _⟩
  | succ n ih =>
    intro hn
    rw [cp_Bm]
    split
    · exact ⟨by show n < 4096; omega, h n⟩
    · exact ih (by omega)
theorem tl_wt (q : cp_S) (row : Nat) (hr : q.2.2.1 ≤ 6) (hg : q.2.2.2.1 ≤ 16 ^ q.2.2.1) : cp_wt q row ≤ 16777216 := by
  unfold cp_wt
  split
  · exact cp_wt_le hr hg
  · omega
theorem cp_sh6 : ∀ r, r ≤ 6 → ((1 : Int32) <<< ((2 * (6 - nI r)) &&& 31)) = nI (4 ^ (6 - r)) := by
  have h : ∀ r, r < 7 → ((1 : Int32) <<< ((2 * (6 - nI r)) &&& 31)) = nI (4 ^ (6 - r)) := by decide +kernel
  exact fun r hr => h r (by omega)
section
variable {xexpressionCount xstatementCount xopenCount xclosedLength xplace xstate xrandomSteps xrunWeight xending xbestWeight xbestCode xbestSteps : Int32} {xstackValues xkinds xvariables xnumbers xprogramValues xopen xblockOf xelseOf xendOf xroundsLeft xrunVisits xstateWeights : Nat → Int32} {xvisitSums : Nat → Int64} {K A N E F B : Nat → Nat} {V : Nat → Nat → Nat} {M c : Nat}
theorem xs_268 {post : SX → Prop} {e : Int32} (h : post (xexpressionCount, xstatementCount, xopenCount, xclosedLength, xplace, xstate, xrandomSteps, xrunWeight, (if e = 1 then 0 else e), xbestWeight, xbestCode, xbestSteps, xstackValues, xkinds, xvariables, xnumbers, xprogramValues, xopen, xblockOf, xelseOf, xendOf, xroundsLeft, xrunVisits, xstateWeights, xvisitSums)) : wX_carryOut_268 post xexpressionCount xstatementCount xopenCount xclosedLength xplace xstate xrandomSteps xrunWeight e xbestWeight xbestCode xbestSteps xstackValues xkinds xvariables xnumbers xprogramValues xopen xblockOf xelseOf xendOf xroundsLeft xrunVisits xstateWeights xvisitSums := by
  unfold wX_carryOut_268
  by_cases he : e = 1
  · rw [if_pos he] at h
    exact br_t he h
  · rw [if_neg he] at h
    exact br_f he h
theorem xs_loop {post : SX → Prop} {row : Nat} (G : cp_G K A N E F B V M c) (HX : cp_X K M E F B xblockOf xelseOf xendOf) (HA : cp_XA K A N V M c xkinds xvariables xnumbers xprogramValues) (hrow : row < 4096) :
    ∀ (n t f x p s r g : Nat) (e : Int32) (L z : Nat → Int32) (pl st sp rw en : Int32) (rl rv : Nat → Int32), cp_I K M x p s r g L → cp_mu K x p ≤ n → t + n < 100000 → n < f → cp_RX K p s r g e L z pl st sp rw en rl rv →
    (∀ (pl' rw' : Int32) (rl' rv' : Nat → Int32), ((cp_mr K A N E F B V M (cp_rd row) n (p, s, r, g, e, L, z)).2.2.2.2.1 = 1 → rw' = nI (16 ^ (6 - (cp_mr K A N E F B V M (cp_rd row) n (p, s, r, g, e, L, z)).2.2.1) * (cp_mr K A N E F B V M (cp_rd row) n (p, s, r, g, e, L, z)).2.2.2.1)) →
      (∀ j, j < 27 → rv' j = (cp_mr K A N E F B V M (cp_rd row) n (p, s, r, g, e, L, z)).2.2.2.2.2.2 j) →
      post (xexpressionCount, xstatementCount, xopenCount, nI M, pl', nI (cp_mr K A N E F B V M (cp_rd row) n (p, s, r, g, e, L, z)).2.1, nI (cp_mr K A N E F B V M (cp_rd row) n (p, s, r, g, e, L, z)).2.2.1, rw', (if (cp_mr K A N E F B V M (cp_rd row) n (p, s, r, g, e, L, z)).2.2.2.2.1 = 1 then 0 else (cp_mr K A N E F B V M (cp_rd row) n (p, s, r, g, e, L, z)).2.2.2.2.1), xbestWeight, xbestCode, xbestSteps, xstackValues, xkinds, xvariables, xnumbers, xprogramValues, xopen, xblockOf, xelseOf, xendOf, rl', rv', xstateWeights, xvisitSums)) →
    wX_carryOut_6 post (nI row) f (nI t) xexpressionCount xstatementCount xopenCount (nI M) pl st sp rw en xbestWeight xbestCode xbestSteps xstackValues xkinds xvariables xnumbers xprogramValues xopen xblockOf xelseOf xendOf rl rv xstateWeights xvisitSums := by
  have hM : M ≤ 27 := by rw [G.2.1]; exact (cp_M_le G.1).2
  intro n
  induction n with
  | zero =>
    intro t f x p s r g e L z pl st sp rw en rl rv I hmu ht hf R H
    obtain ⟨m, rfl⟩ : ∃ m, f = m + 1 := ⟨f - 1, by omega⟩
    have hs : ¬ (p < M ∧ e = 1) := fun h => by
      obtain ⟨x', I', htm⟩ := cp_adv (e := e) (z := z) G (cp_rd_lt row) I h.1
      have := cp_mu_lt I'.2.2.2.2.1 (by have := I'.1; omega) htm
      omega
    obtain ⟨rfl, rfl, rfl, rw1, rfl, rl1, rv1⟩ := R
    have h1 := xs_268 (H (nI p) rw rl rv rw1 rv1)
    rw [wX_carryOut_6]
    refine br_f (nI_ge (b := 100000) (by omega) (by decide)) ?_
    by_cases hp : p < M
    · exact br_f (nI_ge hp (by omega)) (br_f (fun z => hs ⟨hp, z⟩) h1)
    · exact br_t (nI_le (by omega) (by have := I.1; omega)) h1
  | succ n ih =>
    intro t f x p s r g e L z pl st sp rw en rl rv I hmu ht hf R H
    obtain ⟨m, rfl⟩ : ∃ m, f = m + 1 := ⟨f - 1, by omega⟩
    by_cases hs : p < M ∧ e = 1
    · obtain ⟨hp, rfl⟩ := hs
      obtain ⟨x', I', htm⟩ := cp_adv (e := 1) (z := z) G (cp_rd_lt row) I hp
      have hmu' := cp_mu_lt I'.2.2.2.2.1 (by have := I'.1; omega) htm
      rw [cp_mr_go (q := (p, s, r, g, 1, L, z)) ⟨hp, rfl⟩] at H
      refine xs_step G HX HA hrow (by omega) I hp R fun pl' st' sp' rw' en' rl' rv' R' => ?_
      exact ih (t + 1) m x' _ _ _ _ _ _ _ pl' st' sp' rw' en' rl' rv' I' (by omega) (by omega) (by omega) R' H
    · rw [cp_mr_stop hs] at H
      obtain ⟨rfl, rfl, rfl, rw1, rfl, rl1, rv1⟩ := R
      have h1 := xs_268 (H (nI p) rw rl rv rw1 rv1)
      rw [wX_carryOut_6]
      refine br_f (nI_ge (b := 100000) (by omega) (by decide)) ?_
      by_cases hp : p < M
      · exact br_f (nI_ge hp (by omega)) (br_f (fun z => hs ⟨hp, z⟩) h1)
      · exact br_t (nI_le (by omega) (by have := I.1; omega)) h1
theorem xs_run {post : SX → Prop} {row : Nat} (G : cp_G K A N E F B V M c) (HX : cp_X K M E F B xblockOf xelseOf xendOf) (HA : cp_XA K A N V M c xkinds xvariables xnumbers xprogramValues) (hrow : row < 4096)
    (H : ∀ (pl' rw' : Int32) (rl' rv' : Nat → Int32), ((cp_fin K A N E F B V M row).2.2.2.2.1 = 1 → rw' = nI (16 ^ (6 - (cp_fin K A N E F B V M row).2.2.1) * (cp_fin K A N E F B V M row).2.2.2.1)) →
      (∀ j, j < 27 → rv' j = (cp_fin K A N E F B V M row).2.2.2.2.2.2 j) →
      post (xexpressionCount, xstatementCount, xopenCount, nI M, pl', nI (cp_fin K A N E F B V M row).2.1, nI (cp_fin K A N E F B V M row).2.2.1, rw', (if (cp_fin K A N E F B V M row).2.2.2.2.1 = 1 then 0 else (cp_fin K A N E F B V M row).2.2.2.2.1), xbestWeight, xbestCode, xbestSteps, xstackValues, xkinds, xvariables, xnumbers, xprogramValues, xopen, xblockOf, xelseOf, xendOf, rl', rv', xstateWeights, xvisitSums)) :
    wpX_carryOut post (xexpressionCount, xstatementCount, xopenCount, nI M, xplace, xstate, xrandomSteps, xrunWeight, xending, xbestWeight, xbestCode, xbestSteps, xstackValues, xkinds, xvariables, xnumbers, xprogramValues, xopen, xblockOf, xelseOf, xendOf, xroundsLeft, xrunVisits, xstateWeights, xvisitSums) (nI row) := by
  unfold wpX_carryOut
  refine xr_start fun rv hrv => ?_
  exact ⟨1001, xs_loop G HX HA hrow 1000 0 1001 0 0 0 0 1 1 (fun _ => 0) (fun _ => 0) _ _ _ _ _ _ _ (cp_I0 G _) (Nat.le_trans (cp_mu_bd _ _ _) (by omega)) (by omega) (by omega) ⟨rfl, rfl, rfl, fun _ => rfl, rfl, fun b hb => absurd hb (by rw [cp_O]; exact List.not_mem_nil), hrv⟩ H⟩
theorem xt_keptL {post : SX → Prop} {x1 : Int32} (hc : c ≤ 24) (vs0 : Nat → Int64)
    (H1 : xrunWeight ≤ xbestWeight → ∀ vs : Nat → Int64, (∀ j, j < c → vs j = vs0 j + xrunWeight.toInt64 * (xrunVisits j).toInt64) → post (xexpressionCount, nI c, xopenCount, xclosedLength, xplace, xstate, xrandomSteps, xrunWeight, xending, xbestWeight, xbestCode, xbestSteps, xstackValues, xkinds, xvariables, xnumbers, xprogramValues, xopen, xblockOf, xelseOf, xendOf, xroundsLeft, xrunVisits, xstateWeights, vs))
    (H2 : ¬ xrunWeight ≤ xbestWeight → ∀ vs : Nat → Int64, (∀ j, j < c → vs j = vs0 j + xrunWeight.toInt64 * (xrunVisits j).toInt64) → post (xexpressionCount, nI c, xopenCount, xclosedLength, xplace, xstate, xrandomSteps, xrunWeight, xending, xrunWeight, x1, xrandomSteps, xstackValues, xkinds, xvariables, xnumbers, xprogramValues, xopen, xblockOf, xelseOf, xendOf, xroundsLeft, xrunVisits, xstateWeights, vs)) :
    ∀ (d i n : Nat) (vs : Nat → Int64), i + d = c → d < n → (∀ j, j < i → vs j = vs0 j + xrunWeight.toInt64 * (xrunVisits j).toInt64) → (∀ j, i ≤ j → vs j = vs0 j) →
    wX_tallyKeptRun_18 post x1 xexpressionCount (nI c) xopenCount xclosedLength xplace xstate xrandomSteps xrunWeight xending xbestWeight xbestCode xbestSteps n (nI i) xstackValues xkinds xvariables xnumbers xprogramValues xopen xblockOf xelseOf xendOf xroundsLeft xrunVisits xstateWeights vs := by
  intro d
  induction d with
  | zero =>
    intro i n vs hi hn h1 h2
    obtain ⟨m, rfl⟩ : ∃ m, n = m + 1 := ⟨n - 1, by omega⟩
    have e : i = c := by omega
    subst e
    rw [wX_tallyKeptRun_18]
    exact br_t (nI_le (by omega) (by omega)) (br_c (fun h => H1 h vs h1) (fun h => H2 h vs h1))
  | succ d ih =>
    intro i n vs hi hn h1 h2
    obtain ⟨m, rfl⟩ : ∃ m, n = m + 1 := ⟨n - 1, by omega⟩
    have hci : (nI i).toNatClampNeg = i := nI_clamp (by omega)
    have vpi : vp_in (nI i) 27 := vp_in_nI (by omega) (by omega)
    rw [wX_tallyKeptRun_18]
    refine br_f (nI_ge (by omega) (by omega)) ⟨vpi, vpi, vpi, nm_r (e' := vp_updL vs i (vs i + xrunWeight.toInt64 * (xrunVisits i).toInt64)) (by rw [hci]) (nm_r (nI_1 i) ?_)⟩
    refine ih (i + 1) m _ (by omega) (by omega) (fun j hj => ?_) (fun j hj => ?_)
    · by_cases e : j = i
      · subst e
        rw [pk_uLs, h2 j (Nat.le_refl _)]
      · rw [pk_uLn e]
        exact h1 j (by omega)
    · rw [pk_uLn (by omega)]
      exact h2 j (by omega)
theorem xt_kept {post : SX → Prop} {x1 : Int32} {s : Nat} (hc : c ≤ 24) (hs : s < 64) (es : xstate = nI s)
    (H1 : xrunWeight ≤ xbestWeight → ∀ vs : Nat → Int64, (∀ j, j < c → vs j = xvisitSums j + xrunWeight.toInt64 * (xrunVisits j).toInt64) → post (xexpressionCount, nI c, xopenCount, xclosedLength, xplace, xstate, xrandomSteps, xrunWeight, xending, xbestWeight, xbestCode, xbestSteps, xstackValues, xkinds, xvariables, xnumbers, xprogramValues, xopen, xblockOf, xelseOf, xendOf, xroundsLeft, xrunVisits, upd xstateWeights s (xstateWeights s + xrunWeight), vs))
    (H2 : ¬ xrunWeight ≤ xbestWeight → ∀ vs : Nat → Int64, (∀ j, j < c → vs j = xvisitSums j + xrunWeight.toInt64 * (xrunVisits j).toInt64) → post (xexpressionCount, nI c, xopenCount, xclosedLength, xplace, xstate, xrandomSteps, xrunWeight, xending, xrunWeight, x1, xrandomSteps, xstackValues, xkinds, xvariables, xnumbers, xprogramValues, xopen, xblockOf, xelseOf, xendOf, xroundsLeft, xrunVisits, upd xstateWeights s (xstateWeights s + xrunWeight), vs)) :
    wpX_tallyKeptRun post (xexpressionCount, nI c, xopenCount, xclosedLength, xplace, xstate, xrandomSteps, xrunWeight, xending, xbestWeight, xbestCode, xbestSteps, xstackValues, xkinds, xvariables, xnumbers, xprogramValues, xopen, xblockOf, xelseOf, xendOf, xroundsLeft, xrunVisits, xstateWeights, xvisitSums) x1 := by
  unfold wpX_tallyKeptRun
  have vps : vp_in xstate 64 := by rw [es]; exact vp_in_nI hs (by omega)
  refine ⟨vps, vps, nm_r (e' := upd xstateWeights s (xstateWeights s + xrunWeight)) (by rw [es, nI_clamp (by omega)]) ⟨c + 1, ?_⟩⟩
  exact xt_keptL (xstateWeights := upd xstateWeights s (xstateWeights s + xrunWeight)) hc xvisitSums H1 H2 c 0 (c + 1) xvisitSums (by omega) (by omega) (fun j hj => absurd hj (by omega)) (fun _ _ => rfl)
end
end
section
/-! the component: all runs -/
section
variable {xexpressionCount xstatementCount xopenCount xclosedLength xplace xstate xrandomSteps xrunWeight xending xbestWeight xbestCode xbestSteps : Int32} {xstackValues xkinds xvariables xnumbers xprogramValues xopen xblockOf xelseOf xendOf xroundsLeft xrunVisits xstateWeights : Nat → Int32} {xvisitSums : Nat → Int64} {K A N E F B : Nat → Nat} {V : Nat → Nat → Nat} {M c : Nat}
theorem xt_st23 {post : SX → Prop} (H : ∀ vs : Nat → Int64, (∀ j, j < 27 → vs j = 0) → post (xexpressionCount, xstatementCount, xopenCount, xclosedLength, xplace, xstate, xrandomSteps, xrunWeight, xending, 0, 0, 0, xstackValues, xkinds, xvariables, xnumbers, xprogramValues, xopen, xblockOf, xelseOf, xendOf, xroundsLeft, xrunVisits, xstateWeights, vs)) :
    ∀ (d i n : Nat) (vs : Nat → Int64), i + d = 27 → d < n → (∀ j, j < i → vs j = 0) → wX_startTally_23 post xexpressionCount xstatementCount xopenCount xclosedLength xplace xstate xrandomSteps xrunWeight xending xbestWeight xbestCode xbestSteps n (nI i) xstackValues xkinds xvariables xnumbers xprogramValues xopen xblockOf xelseOf xendOf xroundsLeft xrunVisits xstateWeights vs := by
  intro d
  induction d with
  | zero =>
    intro i n vs hi hn h
    obtain ⟨m, rfl⟩ : ∃ m, n = m + 1 := ⟨n - 1, by omega⟩
    have e : i = 27 := by omega
    subst e
    rw [wX_startTally_23]
    exact br_t (by decide) (H vs h)
  | succ d ih =>
    intro i n vs hi hn h
    obtain ⟨m, rfl⟩ : ∃ m, n = m + 1 := ⟨n - 1, by omega⟩
    rw [wX_startTally_23]
    refine br_f (nI_ge (b := 27) (by omega) (by decide)) ⟨vp_in_nI (by omega) (by omega), nm_r (e' := vp_updL vs i 0) (by rw [nI_clamp (by omega)]) (nm_r (nI_1 i) ?_)⟩
    refine ih (i + 1) m _ (by omega) (by omega) fun j hj => ?_
    by_cases e : j = i
    · subst e; exact pk_uLs
    · rw [pk_uLn e]; exact h j (by omega)
theorem xt_st2 {post : SX → Prop} (H : ∀ (sw : Nat → Int32) (vs : Nat → Int64), (∀ s, s < 64 → sw s = 0) → (∀ j, j < 27 → vs j = 0) → post (xexpressionCount, xstatementCount, xopenCount, xclosedLength, xplace, xstate, xrandomSteps, xrunWeight, xending, 0, 0, 0, xstackValues, xkinds, xvariables, xnumbers, xprogramValues, xopen, xblockOf, xelseOf, xendOf, xroundsLeft, xrunVisits, sw, vs)) :
    ∀ (d i n : Nat) (sw : Nat → Int32), i + d = 64 → d < n → (∀ j, j < i → sw j = 0) → wX_startTally_2 post xexpressionCount xstatementCount xopenCount xclosedLength xplace xstate xrandomSteps xrunWeight xending xbestWeight xbestCode xbestSteps n (nI i) xstackValues xkinds xvariables xnumbers xprogramValues xopen xblockOf xelseOf xendOf xroundsLeft xrunVisits sw xvisitSums := by
  intro d
  induction d with
  | zero =>
    intro i n sw hi hn h
    obtain ⟨m, rfl⟩ : ∃ m, n = m + 1 := ⟨n - 1, by omega⟩
    have e : i = 64 := by omega
    subst e
    rw [wX_startTally_2]
    exact br_t (by decide) ⟨28, xt_st23 (xstateWeights := sw) (fun vs hv => H sw vs h hv) 27 0 28 xvisitSums (by omega) (by omega) fun j hj => absurd hj (by omega)⟩
  | succ d ih =>
    intro i n sw hi hn h
    obtain ⟨m, rfl⟩ : ∃ m, n = m + 1 := ⟨n - 1, by omega⟩
    rw [wX_startTally_2]
    refine br_f (nI_ge (b := 64) (by omega) (by decide)) ⟨vp_in_nI (by omega) (by omega), nm_r (e' := upd sw i 0) (by rw [nI_clamp (by omega)]) (nm_r (nI_1 i) ?_)⟩
    refine ih (i + 1) m _ (by omega) (by omega) fun j hj => ?_
    by_cases e : j = i
    · subst e; exact pk_us
    · rw [pk_un e]; exact h j (by omega)
theorem xt_start {post : SX → Prop} (H : ∀ (sw : Nat → Int32) (vs : Nat → Int64), (∀ s, s < 64 → sw s = 0) → (∀ j, j < 27 → vs j = 0) → post (xexpressionCount, xstatementCount, xopenCount, xclosedLength, xplace, xstate, xrandomSteps, xrunWeight, xending, 0, 0, 0, xstackValues, xkinds, xvariables, xnumbers, xprogramValues, xopen, xblockOf, xelseOf, xendOf, xroundsLeft, xrunVisits, sw, vs)) : wpX_startTally post (xexpressionCount, xstatementCount, xopenCount, xclosedLength, xplace, xstate, xrandomSteps, xrunWeight, xending, xbestWeight, xbestCode, xbestSteps, xstackValues, xkinds, xvariables, xnumbers, xprogramValues, xopen, xblockOf, xelseOf, xendOf, xroundsLeft, xrunVisits, xstateWeights, xvisitSums) := by
  unfold wpX_startTally
  exact ⟨65, xt_st2 H 64 0 65 xstateWeights (by omega) (by omega) fun j hj => absurd hj (by omega)⟩
/-- what the tally shows -/
def cp_TL (R : Nat → cp_S) (K : Nat → Nat) (c n : Nat) (sw : Nat → Int32) (vs : Nat → Int64) : Prop :=
  (∀ s, s < 64 → sw s = nI (cp_Sm R n s)) ∧ ∀ j, j < c → K j ≠ 8 → vs j = cp_Vm R n j
theorem xt_loop {post : SX → Prop} (G : cp_G K A N E F B V M c) (HX : cp_X K M E F B xblockOf xelseOf xendOf) (HA : cp_XA K A N V M c xkinds xvariables xnumbers xprogramValues)
    (H : ∀ (pl st sp rw en : Int32) (rl rv sw : Nat → Int32) (vs : Nat → Int64), cp_TL (cp_fin K A N E F B V M) K c 4096 sw vs →
      post (xexpressionCount, nI c, xopenCount, nI M, pl, st, sp, rw, en, nI (cp_Bm (cp_fin K A N E F B V M) 4096).1, nI (cp_Bm (cp_fin K A N E F B V M) 4096).2.1, nI (cp_Bm (cp_fin K A N E F B V M) 4096).2.2, xstackValues, xkinds, xvariables, xnumbers, xprogramValues, xopen, xblockOf, xelseOf, xendOf, rl, rv, sw, vs)) :
    ∀ (d a u f : Nat) (pl st sp rw en : Int32) (rl rv sw : Nat → Int32) (vs : Nat → Int64), 4096 ≤ a + d → a ≤ 4096 → u ≤ a → d < f → cp_hd (cp_fin K A N E F B V M) a → cp_TL (cp_fin K A N E F B V M) K c a sw vs →
    wX_tallyRuns_8 post f (nI a) (nI u) xexpressionCount (nI c) xopenCount (nI M) pl st sp rw en (nI (cp_Bm (cp_fin K A N E F B V M) a).1) (nI (cp_Bm (cp_fin K A N E F B V M) a).2.1) (nI (cp_Bm (cp_fin K A N E F B V M) a).2.2) xstackValues xkinds xvariables xnumbers xprogramValues xopen xblockOf xelseOf xendOf rl rv sw vs := by
  have hc := G.1.1
  have hfin := cp_finI G
  intro d
  induction d with
  | zero =>
    intro a u f pl st sp rw en rl rv sw vs hd ha hu hf _ HT
    obtain ⟨m, rfl⟩ : ∃ m, f = m + 1 := ⟨f - 1, by omega⟩
    have e : a = 4096 := by omega
    subst e
    have h1 := H pl st sp rw en rl rv sw vs HT
    rw [wX_tallyRuns_8]
    exact br_c (fun _ => h1) (fun _ => br_t (by decide) h1)
  | succ d ih =>
    intro a u f pl st sp rw en rl rv sw vs hd ha hu hf hh HT
    obtain ⟨m, rfl⟩ : ∃ m, f = m + 1 := ⟨f - 1, by omega⟩
    by_cases e : a = 4096
    · subst e
      have h1 := H pl st sp rw en rl rv sw vs HT
      rw [wX_tallyRuns_8]
      exact br_c (fun _ => h1) (fun _ => br_t (by decide) h1)
    · obtain ⟨n1, n2, n3⟩ := cp_hd_next (fun a => (hfin a).2.2.1) hh
      have hF := hfin a
      have hR : ∀ b, (cp_fin K A N E F B V M b).2.2.1 ≤ 6 := fun b => (hfin b).2.2.1
      generalize hfd : cp_fin K A N E F B V M = R at *
      obtain ⟨_, f2, f3, f4, f5, _⟩ := hF
      have hB := cp_p4 (6 - (R a).2.2.1)
      have hle : a + 4 ^ (6 - (R a).2.2.1) ≤ 4096 := by
        have h6 : 4 ^ (6 - (R a).2.2.1) * 4 ^ (R a).2.2.1 = 4096 := by
          rw [← Nat.pow_add, show 6 - (R a).2.2.1 + (R a).2.2.1 = 6 from by omega]
        have h7 := Nat.div_add_mod a (4 ^ (6 - (R a).2.2.1))
        rw [n1] at h7
        generalize 4 ^ (6 - (R a).2.2.1) = Q at *
        generalize 4 ^ (R a).2.2.1 = P at *
        generalize a / Q = y at *
        have h8 : y < P := by
          by_cases h9 : y < P
          · exact h9
          · have := Nat.mul_le_mul_left Q (show P ≤ y by omega)
            omega
        have := Nat.mul_le_mul_left Q (show y + 1 ≤ P by omega)
        rw [Nat.mul_add, Nat.mul_one] at this
        omega
      obtain ⟨k1, k2, k3⟩ := cp_skip (R := R) (c := a + 1) (4 ^ (6 - (R a).2.2.1) - 1) (fun b h1 h2 => n3 b h1 (by omega))
      rw [show a + 1 + (4 ^ (6 - (R a).2.2.1) - 1) = a + 4 ^ (6 - (R a).2.2.1) from by omega] at k1 k2 k3
      have go : ∀ (pl st rw en bw bc bs : Int32) (rl rv sw : Nat → Int32) (vs : Nat → Int64), cp_TL R K c (a + 1) sw vs → bw = nI (cp_Bm R (a + 1)).1 → bc = nI (cp_Bm R (a + 1)).2.1 → bs = nI (cp_Bm R (a + 1)).2.2 →
          wX_tallyRuns_39 post (wX_tallyRuns_8 post m) (nI a) (nI u) xexpressionCount (nI c) xopenCount (nI M) pl st (nI (R a).2.2.1) rw en bw bc bs xstackValues xkinds xvariables xnumbers xprogramValues xopen xblockOf xelseOf xendOf rl rv sw vs := by
        intro pl st rw en bw bc bs rl rv sw vs HT' e1 e2 e3
        subst e1 e2 e3
        unfold wX_tallyRuns_39
        refine nm_r (e' := nI (a + 4 ^ (6 - (R a).2.2.1))) (by rw [cp_sh6 _ f3, nI_add]) (nm_r (nI_1 u) ?_)
        have h1 := ih (a + 4 ^ (6 - (R a).2.2.1)) (u + 1) m pl st (nI (R a).2.2.1) rw en rl rv sw vs (by omega) hle (by omega) (by omega) n2 ⟨by rw [k1]; exact HT'.1, by rw [k2]; exact HT'.2⟩
        rw [k3] at h1
        exact h1
      rw [wX_tallyRuns_8]
      refine br_f (nI_ge (b := 4096) (by omega) (by decide)) (br_f (nI_ge (b := 4096) (by omega) (by decide)) ?_)
      refine xs_run G HX HA (show a < 4096 by omega) fun pl' rw' rl' rv' hrw hrv => ?_
      rw [hfd] at hrw hrv ⊢
      by_cases he : (R a).2.2.2.2.1 = 1
      · have hcnt : cp_cnt (R a) a := ⟨he, n1⟩
        have hw := cp_wt_cnt hcnt
        have hw2 := hrw he
        rw [← hw] at hw2
        subst hw2
        have hwle : cp_wt (R a) a ≤ 16777216 := tl_wt _ _ f3 f4
        have hble := tl_B (R := R) (fun b => tl_wt _ _ (hR b) (by have := (hfin b).2.2.2.1; exact this)) a
        have hTL : ∀ vs' : Nat → Int64, (∀ j, j < c → vs' j = vs j + (nI (cp_wt (R a) a)).toInt64 * (rv' j).toInt64) → cp_TL R K c (a + 1) (upd sw (R a).2.1 (sw (R a).2.1 + nI (cp_wt (R a) a))) vs' := fun vs' hvs =>
          ⟨tl_sw HT.1 f2, fun j hj hk => by rw [hvs j hj, HT.2 j hj hk, cp_Vm_cnt hcnt, hrv j (by omega)]⟩
        rw [if_pos he]
        refine br_t rfl (xt_kept (s := (R a).2.1) hc f2 rfl (fun hb vs' hvs => ?_) (fun hb vs' hvs => ?_))
        · rw [nI_leI (by omega) (by omega)] at hb
          have e1 : cp_Bm R (a + 1) = cp_Bm R a := by rw [cp_Bm, if_neg (by omega)]
          exact go _ _ _ _ _ _ _ _ _ _ _ (hTL vs' hvs) (by rw [e1]) (by rw [e1]) (by rw [e1])
        · rw [nI_leI (by omega) (by omega)] at hb
          have e1 : cp_Bm R (a + 1) = (cp_wt (R a) a, a, (R a).2.2.1) := by rw [cp_Bm, if_pos (by omega)]
          exact go _ _ _ _ _ _ _ _ _ _ _ (hTL vs' hvs) (by rw [e1]) (by rw [e1]) (by rw [e1])
      · rw [if_neg he]
        have hne : ¬ (R a).2.2.2.2.1 = 0 := by
          rcases f5 with h | h | h | h
          · exact absurd h he
          · rw [h]; decide
          · rw [h]; decide
          · rw [h]; decide
        have hcnt : ¬ cp_cnt (R a) a := fun z => he z.1
        refine br_f hne (go _ _ _ _ _ _ _ _ _ _ _ ⟨fun s hs => by rw [cp_Sm_not hcnt]; exact HT.1 s hs, fun j hj hk => by rw [cp_Vm_not hcnt]; exact HT.2 j hj hk⟩ (by rw [cp_Bm_not hcnt]) (by rw [cp_Bm_not hcnt]) (by rw [cp_Bm_not hcnt]))
theorem xt_all {post : SX → Prop} (G : cp_G K A N E F B V M c) (HX : cp_X K M E F B xblockOf xelseOf xendOf) (HA : cp_XA K A N V M c xkinds xvariables xnumbers xprogramValues)
    (H : ∀ (pl st sp rw en : Int32) (rl rv sw : Nat → Int32) (vs : Nat → Int64), cp_TL (cp_fin K A N E F B V M) K c 4096 sw vs →
      post (xexpressionCount, nI c, xopenCount, nI M, pl, st, sp, rw, en, nI (cp_Bm (cp_fin K A N E F B V M) 4096).1, nI (cp_Bm (cp_fin K A N E F B V M) 4096).2.1, nI (cp_Bm (cp_fin K A N E F B V M) 4096).2.2, xstackValues, xkinds, xvariables, xnumbers, xprogramValues, xopen, xblockOf, xelseOf, xendOf, rl, rv, sw, vs)) :
    wpX_tallyRuns post (xexpressionCount, nI c, xopenCount, nI M, xplace, xstate, xrandomSteps, xrunWeight, xending, xbestWeight, xbestCode, xbestSteps, xstackValues, xkinds, xvariables, xnumbers, xprogramValues, xopen, xblockOf, xelseOf, xendOf, xroundsLeft, xrunVisits, xstateWeights, xvisitSums) := by
  have hc := G.1.1
  unfold wpX_tallyRuns
  refine xt_start fun sw vs h1 h2 => ?_
  exact ⟨4097, xt_loop G HX HA H 4096 0 0 4097 _ _ _ _ _ _ _ sw vs (by omega) (by omega) (by omega) (by omega) (fun a ha => absurd ha (by omega)) ⟨h1, fun j hj _ => h2 j (by omega)⟩⟩
end
end
section
/-! the reference: search, blocks, outcomes -/
section
variable {yheight ycount yopen yat ydepth ystate ysteps yproduct yend ymost ymostRow ymostSteps : Int32} {ystack ykinds yvariables ynumbers yvalues yopened ybegins yleft youtcomes ymet ysums : Nat → Int32} {yvisited : Nat → Int64} {K : Nat → Nat} {c : Nat}
theorem yf_80 {post : Int32 → Prop} {J : Int32 → Int32 → Prop} {x2 : Int32} {k m m' : Nat} (hk24 : k < 24) (hk : ykinds k = nI (K k)) (hK : K k ≤ 8) (h8 : K k = 8 → m = m' + 1) (hn : K k ≠ 8 → m = m') (H : J (nI m') (nI (k + 1))) :
    wY_find_80 post J x2 (nI k) (nI m) yheight ycount yopen yat ydepth ystate ysteps yproduct yend ymost ymostRow ymostSteps ystack ykinds yvariables ynumbers yvalues yopened ybegins yleft youtcomes ymet ysums yvisited := by
  unfold wY_find_80
  refine ⟨vp_in_nI hk24 (by omega), ?_⟩
  rw [nI_clamp (by omega), hk]
  refine pk_eq (K k) 8 (fun e => ?_) (fun e => ?_)
  · rw [h8 e]
    exact nm_r (nI_pred m') (nm_r (nI_1 k) H)
  · rw [hn e]
    exact nm_r (nI_1 k) H
theorem yf_50 {post : Int32 → Prop} {J : Int32 → Int32 → Prop} {x2 : Int32} {k m m' : Nat} (hk24 : k < 24) (hk : ykinds k = nI (K k)) (hK : K k ≤ 8) (hin : (K k = 4 ∨ K k = 6) → m' = m + 1) (h8 : K k = 8 → m = m' + 1) (hn : ¬ (K k = 4 ∨ K k = 6) → K k ≠ 8 → m = m') (H : J (nI m') (nI (k + 1))) :
    wY_find_50 post J x2 (nI m) (nI k) yheight ycount yopen yat ydepth ystate ysteps yproduct yend ymost ymostRow ymostSteps ystack ykinds yvariables ynumbers yvalues yopened ybegins yleft youtcomes ymet ysums yvisited := by
  have hck : (nI k).toNatClampNeg = k := nI_clamp (by omega)
  have h73 : (K k = 4 ∨ K k = 6) → wY_find_73 post J x2 (nI m) (nI k) yheight ycount yopen yat ydepth ystate ysteps yproduct yend ymost ymostRow ymostSteps ystack ykinds yvariables ynumbers yvalues yopened ybegins yleft youtcomes ymet ysums yvisited := fun h => by
    unfold wY_find_73
    rw [nI_1]
    exact yf_80 hk24 hk hK (fun e => by omega) (fun _ => (hin h).symm) H
  unfold wY_find_50
  refine ⟨vp_in_nI hk24 (by omega), ?_⟩
  rw [hck, hk]
  refine pk_eq (K k) 4 (fun e => h73 (Or.inl e)) (fun e4 => ⟨vp_in_nI hk24 (by omega), pk_eq (K k) 6 (fun e => h73 (Or.inr e)) (fun e6 => ?_)⟩)
  exact yf_80 hk24 hk hK h8 (hn (by omega)) H
theorem yf_loop {post : Int32 → Prop} {x2 : Int32} {e : Nat} {S : List Nat} {oe : Prop} (hoe : oe ↔ ¬ x2 = 0) (hc : c ≤ 24) (hk : ∀ j, j < c → ykinds j = nI (K j)) (hK : ∀ j, j < c → K j ≤ 8) (hlen : ∀ p, (cp_O K p).length ≤ 3) (he : e < 2 ^ 31)
    (H : post (nI (if e < c then e else c))) : ∀ (d k n : Nat), k + d = e → d < n → cp_tg K S oe k e → wY_find_7 post x2 yheight (nI c) yopen yat ydepth ystate ysteps yproduct yend ymost ymostRow ymostSteps ystack ykinds yvariables ynumbers yvalues yopened ybegins yleft youtcomes ymet ysums yvisited n (nI ((cp_O K k).length - S.length)) (nI k) := by
  intro d
  induction d with
  | zero =>
    intro k n hkd hn tg
    obtain ⟨m, rfl⟩ : ∃ m, n = m + 1 := ⟨n - 1, by omega⟩
    have e1 : k = e := by omega
    subst e1
    obtain ⟨_, t2, t3, t4, t5⟩ := tg
    rw [t3, Nat.sub_self, wY_find_7]
    by_cases hkc : k < c
    · rw [if_pos hkc] at H
      have hck : (nI k).toNatClampNeg = k := nI_clamp (by omega)
      refine br_f (nI_ge hkc (by omega)) (br_t rfl ⟨vp_in_nI (by omega) (by omega), ?_⟩)
      rw [hck, hk k hkc]
      have hK8 := hK k hkc
      refine pk_eq (K k) 8 (fun _ => H) (fun n8 => ?_)
      cases t2 with
      | inl h => exact absurd h n8
      | inr h =>
        refine br_f (hoe.mp h.1) ⟨vp_in_nI (by omega) (by omega), br_t (by rw [h.2]; rfl) H⟩
    · rw [if_neg hkc] at H
      exact br_t (nI_le (by omega) he) H
  | succ d ih =>
    intro k n hkd hn tg
    obtain ⟨m, rfl⟩ : ∃ m, n = m + 1 := ⟨n - 1, by omega⟩
    have htg := tg
    obtain ⟨t1, t2, t3, t4, t5⟩ := tg
    rw [wY_find_7]
    by_cases hkc : k < c
    · have hck : (nI k).toNatClampNeg = k := nI_clamp (by omega)
      have hK8 := hK k hkc
      have hl3 := hlen k
      have hsf := t4 k (Nat.le_refl _) (by omega)
      have hsl := hsf.length_le
      have hsf' := (t4 (k + 1) (by omega) (by omega)).length_le
      have hns := t5 k (Nat.le_refl _) (by omega)
      have h50 : (cp_O K k = S → K k ≠ 8) → wY_find_50 post (wY_find_7 post x2 yheight (nI c) yopen yat ydepth ystate ysteps yproduct yend ymost ymostRow ymostSteps ystack ykinds yvariables ynumbers yvalues yopened ybegins yleft youtcomes ymet ysums yvisited m) x2 (nI ((cp_O K k).length - S.length)) (nI k) yheight (nI c) yopen yat ydepth ystate ysteps yproduct yend ymost ymostRow ymostSteps ystack ykinds yvariables ynumbers yvalues yopened ybegins yleft youtcomes ymet ysums yvisited := fun hn8 => by
        refine yf_50 (m' := (cp_O K (k + 1)).length - S.length) (by omega) (hk k hkc) hK8 (fun h => ?_) (fun h => ?_) (fun h h8 => ?_) (ih (k + 1) m (by omega) (by omega) ⟨by omega, t2, t3, fun j h1 h2 => t4 j (by omega) h2, fun j h1 h2 => t5 j (by omega) h2⟩)
        · rw [cp_O_in h, List.length_cons]; omega
        · have hne : (cp_O K k).length ≠ S.length := fun z => hn8 (hsf.eq_of_length z.symm).symm h
          rw [cp_O_end h, List.length_tail]
          omega
        · rw [cp_O_st (by omega) (by omega) h8]
      refine br_f (nI_ge hkc (by omega)) (pk_eq ((cp_O K k).length - S.length) 0 (fun h0 => ⟨vp_in_nI (by omega) (by omega), ?_⟩) (fun h0 => h50 fun z => absurd (by rw [z]; omega) h0))
      have hOS : cp_O K k = S := (hsf.eq_of_length (by omega)).symm
      have n8 : K k ≠ 8 := fun z => hns ⟨hOS, Or.inl z⟩
      rw [hck, hk k hkc]
      refine pk_eq (K k) 8 (fun z => absurd z n8) (fun _ => br_c (fun _ => h50 fun _ => n8) (fun hx => ⟨vp_in_nI (by omega) (by omega), ?_⟩))
      exact pk_eq (K k) 5 (fun z => absurd ⟨hOS, Or.inr ⟨hoe.mpr hx, z⟩⟩ hns) (fun _ => h50 fun _ => n8)
    · rw [if_neg (by omega)] at H
      exact br_t (nI_le (by omega) (by omega)) H
theorem yf_find {post : Int32 → Prop} {x2 a : Int32} {i e : Nat} {S : List Nat} {oe : Prop} (ha : a = nI i) (hoe : oe ↔ ¬ x2 = 0) (hc : c ≤ 24) (hk : ∀ j, j < c → ykinds j = nI (K j)) (hK : ∀ j, j < c → K j ≤ 8) (hlen : ∀ p, (cp_O K p).length ≤ 3) (he : e < 2 ^ 31)
    (tg : cp_tg K S oe (i + 1) e) (hO : cp_O K (i + 1) = S) (H : post (nI (if e < c then e else c))) : wpY_find post (yheight, nI c, yopen, yat, ydepth, ystate, ysteps, yproduct, yend, ymost, ymostRow, ymostSteps, ystack, ykinds, yvariables, ynumbers, yvalues, yopened, ybegins, yleft, youtcomes, ymet, ysums, yvisited) a x2 := by
  subst ha
  unfold wpY_find
  have h1 := tg.1
  have h2 : wY_find_7 post x2 yheight (nI c) yopen yat ydepth ystate ysteps yproduct yend ymost ymostRow ymostSteps ystack ykinds yvariables ynumbers yvalues yopened ybegins yleft youtcomes ymet ysums yvisited (e - (i + 1) + 1) (nI ((cp_O K (i + 1)).length - S.length)) (nI (i + 1)) := yf_loop (post := post) hoe hc hk hK hlen he H (e - (i + 1)) (i + 1) (e - (i + 1) + 1) (by omega) (by omega) tg
  rw [hO, Nat.sub_self] at h2
  exact nm_r (nI_1 i) ⟨_, h2⟩
theorem yg_beh {post : SY → Prop} {a : Int32} {e : Nat} (ha : a = nI (if e < c then e else c)) (hc : c ≤ 24) (h : post (yheight, nI c, yopen, nI (if e + 1 < c then e + 1 else c), ydepth, ystate, ysteps, yproduct, yend, ymost, ymostRow, ymostSteps, ystack, ykinds, yvariables, ynumbers, yvalues, yopened, ybegins, yleft, youtcomes, ymet, ysums, yvisited)) : wpY_goBehind post (yheight, nI c, yopen, yat, ydepth, ystate, ysteps, yproduct, yend, ymost, ymostRow, ymostSteps, ystack, ykinds, yvariables, ynumbers, yvalues, yopened, ybegins, yleft, youtcomes, ymet, ysums, yvisited) a := by
  subst ha
  unfold wpY_goBehind
  by_cases hec : e < c
  · rw [if_pos hec]
    have e1 : (if e + 1 < c then e + 1 else c) = e + 1 := by split <;> omega
    rw [e1] at h
    exact br_f (nI_ge hec (by omega)) (nm_r (nI_1 e) h)
  · rw [if_neg hec]
    rw [if_neg (show ¬ e + 1 < c by omega)] at h
    exact br_t (nI_le (Nat.le_refl _) (by omega)) h
theorem ye_in {post : SY → Prop} {a b : Int32} {d : Nat} (hd : ydepth = nI d) (h4 : d < 4) (h : post (yheight, ycount, yopen, yat, nI (d + 1), ystate, ysteps, yproduct, yend, ymost, ymostRow, ymostSteps, ystack, ykinds, yvariables, ynumbers, yvalues, yopened, upd ybegins d a, upd yleft d b, youtcomes, ymet, ysums, yvisited)) : wpY_enter post (yheight, ycount, yopen, yat, ydepth, ystate, ysteps, yproduct, yend, ymost, ymostRow, ymostSteps, ystack, ykinds, yvariables, ynumbers, yvalues, yopened, ybegins, yleft, youtcomes, ymet, ysums, yvisited) a b := by
  subst hd
  have hcd : (nI d).toNatClampNeg = d := nI_clamp (by omega)
  unfold wpY_enter
  exact ⟨vp_in_nI h4 (by omega), nm_r (by rw [hcd]) ⟨vp_in_nI h4 (by omega), nm_r (by rw [hcd]) (nm_r (nI_1 d) h)⟩⟩
theorem yb_end {post : SY → Prop} {b d : Nat} (hd : ydepth = nI (d + 1)) (h3 : d < 3) (hh : ybegins d = nI b) (hb : b < 24) (hk : ykinds b = nI (K b)) (hK : K b < 9)
    (h6 : K b = 6 → (yleft d ≤ 1 → post (yheight, ycount, yopen, yat, nI d, ystate, ysteps, yproduct, yend, ymost, ymostRow, ymostSteps, ystack, ykinds, yvariables, ynumbers, yvalues, yopened, ybegins, yleft, youtcomes, ymet, ysums, yvisited)) ∧ (¬ yleft d ≤ 1 → post (yheight, ycount, yopen, nI (b + 1), nI (d + 1), ystate, ysteps, yproduct, yend, ymost, ymostRow, ymostSteps, ystack, ykinds, yvariables, ynumbers, yvalues, yopened, ybegins, upd yleft d (yleft d - 1), youtcomes, ymet, ysums, yvisited))) (hn : K b ≠ 6 → post (yheight, ycount, yopen, yat, nI d, ystate, ysteps, yproduct, yend, ymost, ymostRow, ymostSteps, ystack, ykinds, yvariables, ynumbers, yvalues, yopened, ybegins, yleft, youtcomes, ymet, ysums, yvisited)) : wpY_endBlock post (yheight, ycount, yopen, yat, ydepth, ystate, ysteps, yproduct, yend, ymost, ymostRow, ymostSteps, ystack, ykinds, yvariables, ynumbers, yvalues, yopened, ybegins, yleft, youtcomes, ymet, ysums, yvisited) := by
  subst hd
  have hcd : (nI d).toNatClampNeg = d := nI_clamp (by omega)
  have hcb : (nI b).toNatClampNeg = b := nI_clamp (by omega)
  have vpd : vp_in (nI d) 4 := vp_in_nI (by omega) (by omega)
  unfold wpY_endBlock
  refine nm_r (nI_pred d) ⟨vpd, ?_⟩
  rw [hcd, hh, hcb, hk]
  refine ⟨vp_in_nI hb (by omega), pk_eq (K b) 6 (fun e => ⟨vpd, ?_⟩) hn⟩
  obtain ⟨ha, hz⟩ := h6 e
  exact ⟨ha, fun h => ⟨vpd, vpd, nm_e ⟨vpd, nm_r (nI_1 b) (nm_r (nI_1 d) (hz h))⟩⟩⟩
theorem yk_loop {post : SY → Prop} {b : Nat} {t : List Nat} (hb : K b = 6) (hl3 : t.length < 3) (H : wY_breakOff_51 post yheight ycount yopen yat (nI t.length) ystate ysteps yproduct yend ymost ymostRow ymostSteps ystack ykinds yvariables ynumbers yvalues yopened ybegins yleft youtcomes ymet ysums yvisited) :
    ∀ (l : List Nat) (n : Nat), cp_hl ybegins (l ++ b :: t) → (∀ x, x ∈ l → K x ≠ 6) → (∀ x, x ∈ l ++ b :: t → x < 24 ∧ ykinds x = nI (K x) ∧ K x < 9) → (l ++ b :: t).length ≤ 3 → l.length + 1 < n → wY_breakOff_2 post yheight ycount yopen yat ystate ysteps yproduct yend ymost ymostRow ymostSteps ystack ykinds yvariables ynumbers yvalues yopened ybegins yleft youtcomes ymet ysums yvisited n 1 (nI (l ++ b :: t).length) := by
  have hstop : ∀ n, wY_breakOff_2 post yheight ycount yopen yat ystate ysteps yproduct yend ymost ymostRow ymostSteps ystack ykinds yvariables ynumbers yvalues yopened ybegins yleft youtcomes ymet ysums yvisited (n + 1) 0 (nI t.length) := fun n => by
    rw [wY_breakOff_2]
    exact br_c (fun _ => H) (fun _ => br_t rfl H)
  intro l
  induction l with
  | nil =>
    intro n hh _ hk hl hn
    obtain ⟨m, rfl⟩ : ∃ m, n = m + 1 + 1 := ⟨n - 2, by simp only [List.length_nil] at hn; omega⟩
    obtain ⟨k1, k2, k3⟩ := hk b (List.mem_cons_self ..)
    have hct : (nI t.length).toNatClampNeg = t.length := nI_clamp (by omega)
    have hcb : (nI b).toNatClampNeg = b := nI_clamp (by omega)
    have hh1 : ybegins t.length = nI b := hh.1
    rw [List.nil_append, List.length_cons, wY_breakOff_2]
    refine br_f (nI_nle (by omega) (by omega)) (br_f (by decide) (nm_r (nI_pred _) ⟨vp_in_nI (by omega) (by omega), ?_⟩))
    rw [hct, hh1, hcb, k2]
    exact ⟨vp_in_nI k1 (by omega), br_t (by rw [hb]; rfl) (hstop m)⟩
  | cons a l ih =>
    intro n hh hx hk hl hn
    simp only [List.length_cons] at hn
    obtain ⟨m, rfl⟩ : ∃ m, n = m + 1 := ⟨n - 1, by omega⟩
    obtain ⟨k1, k2, k3⟩ := hk a (List.mem_cons_self ..)
    have hh1 : ybegins (l ++ b :: t).length = nI a := hh.1
    have hl' : (l ++ b :: t).length < 3 := by
      rw [List.cons_append, List.length_cons] at hl
      omega
    have hct : (nI (l ++ b :: t).length).toNatClampNeg = (l ++ b :: t).length := nI_clamp (by omega)
    have hcb : (nI a).toNatClampNeg = a := nI_clamp (by omega)
    rw [List.cons_append, List.length_cons, wY_breakOff_2]
    refine br_f (nI_nle (by omega) (by omega)) (br_f (by decide) (nm_r (nI_pred _) ⟨vp_in_nI (by omega) (by omega), ?_⟩))
    rw [hct, hh1, hcb, k2]
    refine ⟨vp_in_nI k1 (by omega), pk_eq (K a) 6 (fun z => absurd z (hx a (List.mem_cons_self ..))) (fun _ => ?_)⟩
    exact ih m hh.2 (fun x h => hx x (List.mem_cons_of_mem _ h)) (fun x h => hk x (List.mem_cons_of_mem _ h)) (by omega) (by omega)
theorem yv_give {post : SY → Prop} {v x s : Nat} {a b : Int32} (ha : a = nI v) (hb : b = nI x) (hs : ystate = nI s) (hv : v < 3) (hx : x < 4) (hs4 : s < 64) (h : post (yheight, ycount, yopen, yat, ydepth, nI (cp_asg v x s), ysteps, yproduct, yend, ymost, ymostRow, ymostSteps, ystack, ykinds, yvariables, ynumbers, yvalues, yopened, ybegins, yleft, youtcomes, ymet, ysums, yvisited)) : wpY_give post (yheight, ycount, yopen, yat, ydepth, ystate, ysteps, yproduct, yend, ymost, ymostRow, ymostSteps, ystack, ykinds, yvariables, ynumbers, yvalues, yopened, ybegins, yleft, youtcomes, ymet, ysums, yvisited) a b := by
  subst ha hb hs
  unfold wpY_give
  exact nm_r (cp_asgI v hv x hx s hs4) h
theorem yr_70 {post : SY → Prop} {p o w r g s v : Nat} (hp : p < 24) (ho : o < 4) (hw : w ≤ 16) (hv : yvariables p = nI v) (hv3 : v < 3) (hs : s < 64) (es : ystate = nI s) (er : ysteps = nI r) (eg : yproduct = nI g)
    (h4 : w = 0 → post (yheight, ycount, yopen, yat, ydepth, ystate, ysteps, yproduct, -4, ymost, ymostRow, ymostSteps, ystack, ykinds, yvariables, ynumbers, yvalues, yopened, ybegins, yleft, youtcomes, ymet, ysums, yvisited)) (h5 : w ≠ 0 → post (yheight, ycount, yopen, yat, ydepth, nI (cp_asg v o s), nI (r + 1), nI (g * w), yend, ymost, ymostRow, ymostSteps, ystack, ykinds, yvariables, ynumbers, yvalues, yopened, ybegins, yleft, youtcomes, ymet, ysums, yvisited)) : wY_random_70 post (nI p) (nI o) (nI w) yheight ycount yopen yat ydepth ystate ysteps yproduct yend ymost ymostRow ymostSteps ystack ykinds yvariables ynumbers yvalues yopened ybegins yleft youtcomes ymet ysums yvisited := by
  subst es er eg
  unfold wY_random_70
  refine pk_eq w 0 h4 (fun e => nm_r (nI_1 r) (nm_r (pk_mul g w) ⟨vp_in_nI hp (by omega), ?_⟩))
  exact yv_give (by rw [nI_clamp (by omega)]; exact hv) rfl rfl hv3 ho hs (h5 e)
theorem yr_rand {post : SY → Prop} {A N : Nat → Nat} {V : Nat → Nat → Nat} {p s r g o : Nat} (D : cp_dat K A N V) (hp : p < 24) (hr6 : r ≤ 6) (hs : s < 64) (ho : r < 6 → youtcomes r = nI o) (ho4 : o < 4) (hk : ykinds p = nI (K p)) (hK : K p = 1 ∨ K p = 2)
    (hv : yvariables p = nI (A p)) (hn : K p = 1 → ynumbers p = nI (N p)) (es : ystate = nI s) (er : ysteps = nI r) (eg : yproduct = nI g)
    (h3 : r = 6 → post (yheight, ycount, yopen, yat, ydepth, ystate, ysteps, yproduct, -3, ymost, ymostRow, ymostSteps, ystack, ykinds, yvariables, ynumbers, yvalues, yopened, ybegins, yleft, youtcomes, ymet, ysums, yvisited)) (h4 : r ≠ 6 → cp_ow K N p o = 0 → post (yheight, ycount, yopen, yat, ydepth, ystate, ysteps, yproduct, -4, ymost, ymostRow, ymostSteps, ystack, ykinds, yvariables, ynumbers, yvalues, yopened, ybegins, yleft, youtcomes, ymet, ysums, yvisited))
    (h5 : r ≠ 6 → cp_ow K N p o ≠ 0 → post (yheight, ycount, yopen, yat, ydepth, nI (cp_asg (A p) o s), nI (r + 1), nI (g * cp_ow K N p o), yend, ymost, ymostRow, ymostSteps, ystack, ykinds, yvariables, ynumbers, yvalues, yopened, ybegins, yleft, youtcomes, ymet, ysums, yvisited)) : wpY_random post (yheight, ycount, yopen, yat, ydepth, ystate, ysteps, yproduct, yend, ymost, ymostRow, ymostSteps, ystack, ykinds, yvariables, ynumbers, yvalues, yopened, ybegins, yleft, youtcomes, ymet, ysums, yvisited) (nI p) := by
  have er' := er
  subst er'
  have hcp : (nI p).toNatClampNeg = p := nI_clamp (by omega)
  have hw := cp_ow_le D hK o
  have vpp : vp_in (nI p) 24 := vp_in_nI hp (by omega)
  unfold wpY_random
  refine pk_eq r 6 h3 (fun h6 => ⟨vp_in_nI (by omega) (by omega), nm_r (show youtcomes (nI r).toNatClampNeg = nI o by rw [nI_clamp (by omega)]; exact ho (by omega)) ⟨vpp, ?_⟩⟩)
  have h70 : wY_random_70 post (nI p) (nI o) (nI (cp_ow K N p o)) yheight ycount yopen yat ydepth ystate (nI r) yproduct yend ymost ymostRow ymostSteps ystack ykinds yvariables ynumbers yvalues yopened ybegins yleft youtcomes ymet ysums yvisited := yr_70 hp ho4 hw hv ((D p).1 (by omega)) hs es rfl eg (h4 h6) (h5 h6)
  rw [hcp, hk]
  refine pk_eq (K p) 1 (fun e1 => ?_) (fun e1 => ?_)
  · have hN := (D p).2.1 e1
    rw [hn e1]
    refine pk_eq o 1 (fun o1 => ⟨vpp, ?_⟩) (fun o1 => pk_eq o 0 (fun o0 => ⟨vpp, ?_⟩) (fun o0 => ?_))
    · unfold wY_random_69
      rw [cp_ow, if_neg (by omega), if_pos o1] at h70
      exact h70
    · unfold wY_random_69
      rw [cp_ow, if_neg (by omega), if_neg o1, if_pos o0] at h70
      show wY_random_70 post (nI p) (nI o) (nI 16 - nI (N p)) yheight ycount yopen yat ydepth ystate (nI r) yproduct yend ymost ymostRow ymostSteps ystack ykinds yvariables ynumbers yvalues yopened ybegins yleft youtcomes ymet ysums yvisited
      rw [pk_sub hN]
      exact h70
    · unfold wY_random_69
      rw [cp_ow, if_neg (by omega), if_neg o1, if_neg o0] at h70
      exact h70
  · rw [cp_ow, if_pos (by omega)] at h70
    exact h70
end
end
section
/-! the reference: one step -/
theorem cp_le1 : ∀ x, x < 3 → (nI (3 - x) ≤ 1 ↔ ¬ 0 < nI (3 - x) - 1) := by decide +kernel
section
variable {yheight ycount yopen yat ydepth ystate ysteps yproduct yend ymost ymostRow ymostSteps : Int32} {ystack ykinds yvariables ynumbers yvalues yopened ybegins yleft youtcomes ymet ysums : Nat → Int32} {yvisited : Nat → Int64} {K A N E F B : Nat → Nat} {V : Nat → Nat → Nat} {M c : Nat}
theorem ys_end {post : SY → Prop} {dg : Nat → Nat} {x p s r g : Nat} {L z : Nat → Int32} (G : cp_G K A N E F B V M c) (hk : ∀ j, j < c → ykinds j = nI (K j)) (I : cp_I K M x p s r g L) (hp : p < M) (h8 : K p = 8)
    (ha : yat = nI (if p + 1 < c then p + 1 else c)) (hd : ydepth = nI (cp_O K p).length) (hh : cp_hl ybegins (cp_O K p)) (hl : cp_ll K L yleft (cp_O K p)) (es : ystate = nI s) (esp : ysteps = nI r ∧ yproduct = nI g) (ee : yend = 1) (hm : ∀ j, j < c → K j ≠ 8 → ymet j = z j)
    (H : ∀ (pl dp : Int32) (lf : Nat → Int32), cp_RY K c (cp_step K A N E F B V dg p s r g 1 L z).1 (cp_step K A N E F B V dg p s r g 1 L z).2.1 (cp_step K A N E F B V dg p s r g 1 L z).2.2.1 (cp_step K A N E F B V dg p s r g 1 L z).2.2.2.1 (cp_step K A N E F B V dg p s r g 1 L z).2.2.2.2.1 (cp_step K A N E F B V dg p s r g 1 L z).2.2.2.2.2.1 (cp_step K A N E F B V dg p s r g 1 L z).2.2.2.2.2.2 pl dp ybegins lf ystate ysteps yproduct yend ymet → post (yheight, ycount, yopen, pl, dp, ystate, ysteps, yproduct, yend, ymost, ymostRow, ymostSteps, ystack, ykinds, yvariables, ynumbers, yvalues, yopened, ybegins, lf, youtcomes, ymet, ysums, yvisited)) :
    wpY_endBlock post (yheight, ycount, yopen, yat, ydepth, ystate, ysteps, yproduct, yend, ymost, ymostRow, ymostSteps, ystack, ykinds, yvariables, ynumbers, yvalues, yopened, ybegins, yleft, youtcomes, ymet, ysums, yvisited) := by
  obtain ⟨W, rfl, T, D⟩ := G
  have hc := W.1
  obtain ⟨i1, i2, i3, i4, i5, i6⟩ := I
  have hlen := cp_len W p
  have hO := T.2.1 p hp (Or.inr h8)
  obtain ⟨_, hb, hkb⟩ := cp_O_head hO
  have hO' : cp_O K (p + 1) = cp_O K (B p) := by rw [cp_O_end h8, hO, List.tail_cons]
  have hbc : B p < c := by
    by_cases h : B p < c
    · exact h
    · have := W.2.1 (B p) (by omega)
      omega
  have hm' : ∀ j, j < c → K j ≠ 8 → ymet j = upd z p (z p + 1) j := fun j hj h => by
    rw [pk_un (fun e => h (by rw [e]; exact h8))]
    exact hm j hj h
  rw [hO, List.length_cons] at hd hlen
  have hh0 := hh
  rw [hO] at hh0 hl
  refine yb_end (K := K) hd (by omega) hh0.1 (by omega) (hk _ hbc) (by omega) (fun b6 => ?_) (fun b6 => H _ _ _ ?_)
  · have hL : L (B p) = nI (3 - x / 3 ^ (cp_O K (B p)).length % 3) := i6 (B p) (by rw [hO]; exact List.mem_cons_self ..) b6
    have hx3 := Nat.mod_lt (x / 3 ^ (cp_O K (B p)).length) (show 0 < 3 by omega)
    have hlf := hl.1 b6
    have hiff : yleft (cp_O K (B p)).length ≤ 1 ↔ ¬ 0 < L (B p) - 1 := by
      rw [hlf, hL]
      exact cp_le1 _ hx3
    have hLt : ∀ a, a ∈ cp_O K (B p) → upd L (B p) (L (B p) - 1) a = L a := fun a ha => by
      have := (cp_O_mem ha).2.1
      exact pk_un (by omega)
    refine ⟨fun h => H _ _ _ ?_, fun h => H _ _ _ ?_⟩
    · rw [cp_s8l h8 b6, if_neg (hiff.mp h)]
      refine ⟨ha, ?_, ?_, ?_, es, fun _ => esp, ee, hm'⟩
      · show _ = nI (cp_O K (p + 1)).length
        rw [hO']
      · show cp_hl ybegins (cp_O K (p + 1))
        rw [hO']
        exact hh0.2
      · show cp_ll K _ yleft (cp_O K (p + 1))
        rw [hO']
        exact ll_L hLt hl.2
    · rw [cp_s8l h8 b6, if_pos (Classical.not_not.mp fun z => h (hiff.mpr z))]
      have hO2 : cp_O K (B p + 1) = B p :: cp_O K (B p) := cp_O_in hkb
      refine ⟨?_, ?_, ?_, ?_, es, fun _ => esp, ee, hm'⟩
      · show _ = nI (if B p + 1 < c then B p + 1 else c)
        split
        · rfl
        · exact congrArg nI (by omega)
      · show _ = nI (cp_O K (B p + 1)).length
        rw [hO2, List.length_cons]
      · show cp_hl ybegins (cp_O K (B p + 1))
        rw [hO2]
        exact hh0
      · show cp_ll K _ _ (cp_O K (B p + 1))
        rw [hO2]
        exact ⟨fun _ => by show upd yleft _ _ _ = upd L (B p) (L (B p) - 1) (B p); rw [pk_us, pk_us, hlf], ll_upd (ll_L hLt hl.2) (Nat.le_refl _)⟩
  · rw [cp_s8i h8 b6]
    refine ⟨ha, ?_, ?_, ?_, es, fun _ => esp, ee, hm'⟩
    · show _ = nI (cp_O K (p + 1)).length
      rw [hO']
    · show cp_hl ybegins (cp_O K (p + 1))
      rw [hO']
      exact hh0.2
    · show cp_ll K _ yleft (cp_O K (p + 1))
      rw [hO']
      exact hl.2
theorem ys_step {post : SY → Prop} {row x p s r g : Nat} {L z : Nat → Int32} (G : cp_G K A N E F B V M c) (HA : cp_XA K A N V c c ykinds yvariables ynumbers yvalues) (ho : ∀ j, j < 6 → youtcomes j = nI (cp_rd row j))
    (I : cp_I K M x p s r g L) (hp : p < c) (R : cp_RY K c p s r g 1 L z yat ydepth ybegins yleft ystate ysteps yproduct yend ymet)
    (H : K p ≠ 5 → ∀ (pl dp : Int32) (bg lf : Nat → Int32) (st sp pr en : Int32) (mt : Nat → Int32), cp_RY K c (cp_step K A N E F B V (cp_rd row) p s r g 1 L z).1 (cp_step K A N E F B V (cp_rd row) p s r g 1 L z).2.1 (cp_step K A N E F B V (cp_rd row) p s r g 1 L z).2.2.1 (cp_step K A N E F B V (cp_rd row) p s r g 1 L z).2.2.2.1 (cp_step K A N E F B V (cp_rd row) p s r g 1 L z).2.2.2.2.1 (cp_step K A N E F B V (cp_rd row) p s r g 1 L z).2.2.2.2.2.1 (cp_step K A N E F B V (cp_rd row) p s r g 1 L z).2.2.2.2.2.2 pl dp bg lf st sp pr en mt →
      post (yheight, nI c, yopen, pl, dp, st, sp, pr, en, ymost, ymostRow, ymostSteps, ystack, ykinds, yvariables, ynumbers, yvalues, yopened, bg, lf, youtcomes, mt, ysums, yvisited))
    (H5 : K p = 5 → ∀ (pl : Int32) (mt : Nat → Int32), cp_RY K c (E (B p)) s r g 1 L (upd z p (z p + 1)) pl ydepth ybegins yleft ystate ysteps yproduct yend mt →
      post (yheight, nI c, yopen, pl, ydepth, ystate, ysteps, yproduct, yend, ymost, ymostRow, ymostSteps, ystack, ykinds, yvariables, ynumbers, yvalues, yopened, ybegins, yleft, youtcomes, mt, ysums, yvisited)) :
    wpY_step post (yheight, nI c, yopen, yat, ydepth, ystate, ysteps, yproduct, yend, ymost, ymostRow, ymostSteps, ystack, ykinds, yvariables, ynumbers, yvalues, yopened, ybegins, yleft, youtcomes, ymet, ysums, yvisited) := by
  have G0 := G
  have I0 := I
  obtain ⟨W, rfl, T, D⟩ := G
  have hc := W.1
  have hMc := cp_M_le W
  have hpM : p < cp_M K c := by omega
  obtain ⟨k8, kin, k5, k7, kE⟩ := W.2.2 p hp
  obtain ⟨i1, i2, i3, i4, i5, i6⟩ := I
  have hlen := cp_len W
  have hK8 : ∀ j, j < c → K j ≤ 8 := fun j hj => (W.2.2 j hj).1
  obtain ⟨ra, rd, rh, rl, rs, rsp, re, rm⟩ := R
  rw [if_pos hp] at ra
  subst ra rs re
  obtain ⟨rsp1, rsp2⟩ := rsp rfl
  obtain ⟨ak, av, an, ap⟩ := HA
  have hcp : (nI p).toNatClampNeg = p := nI_clamp (by omega)
  have vpp : vp_in (nI p) 24 := vp_in_nI (by omega) (by omega)
  have hnx : (if p + 1 < c then p + 1 else c) = p + 1 := by split <;> omega
  have hm : ∀ j, j < c → K j ≠ 8 → upd ymet p (ymet p + 1) j = upd z p (z p + 1) j := fun j hj h => by
    by_cases e : j = p
    · subst e; rw [pk_us, pk_us, rm j hj h]
    · rw [pk_un e, pk_un e, rm j hj h]
  have hix : (64 * nI p + nI s).toNatClampNeg = 64 * p + s := by rw [cp_ixY, nI_clamp (by omega)]
  have hvi : vp_in (64 * nI p + nI s) 1536 := by rw [cp_ixY]; exact vp_in_nI (by omega) (by omega)
  have hst : K p ≠ 4 → K p ≠ 6 → K p ≠ 8 → (nI (p + 1) = nI (if p + 1 < c then p + 1 else c) ∧ ydepth = nI (cp_O K (p + 1)).length ∧ cp_hl ybegins (cp_O K (p + 1)) ∧ cp_ll K L yleft (cp_O K (p + 1))) := fun a b d => by
    rw [cp_O_st a b d, hnx]
    exact ⟨rfl, rd, rh, rl⟩
  have hpush : ∀ (v : Int32) (L' : Nat → Int32) (p' : Nat), cp_O K p' = p :: cp_O K p → (∀ a, a ∈ cp_O K p → L' a = L a) → (K p = 6 → v = L' p) → (nI ((cp_O K p).length + 1) = nI (cp_O K p').length ∧ cp_hl (upd ybegins (cp_O K p).length (nI p)) (cp_O K p') ∧ cp_ll K L' (upd yleft (cp_O K p).length v) (cp_O K p')) := fun v L' p' hO hL hv => by
    rw [hO, List.length_cons]
    exact ⟨rfl, hl_push rh, fun h6 => by rw [pk_us]; exact hv h6, ll_upd (ll_L hL rl) (Nat.le_refl _)⟩
  unfold wpY_step
  refine ⟨vpp, nm_r (show ykinds (nI p).toNatClampNeg = nI (K p) by rw [hcp]; exact ak p hp) ⟨hvi, nm_r (show yvalues (64 * nI p + nI s).toNatClampNeg = yvalues (64 * p + s) by rw [hix]) (nm_r (nI_1 p) ⟨vpp, vpp, nm_r (e' := upd ymet p (ymet p + 1)) (by rw [hcp]) ?_⟩)⟩⟩
  refine pk_eq (K p) 0 (fun e0 => ?_) (fun n0 => pk_eq (K p) 1 (fun e1 => ?_) (fun n1 => pk_eq (K p) 2 (fun e2 => ?_) (fun n2 => pk_eq (K p) 3 (fun e3 => ?_) (fun n3 => pk_eq (K p) 4 (fun e4 => ?_) (fun n4 => pk_eq (K p) 5 (fun e5 => ?_) (fun n5 => pk_eq (K p) 6 (fun e6 => ?_) (fun n6 => pk_eq (K p) 7 (fun e7 => ?_) (fun n7 => ?_))))))))
  · obtain ⟨b1, b2, b3, b4⟩ := hst (by omega) (by omega) (by omega)
    refine ⟨vpp, yv_give (v := A p) (x := V p s) (s := s) (by rw [hcp]; exact av p hp (by omega)) (ap p hp (by omega) s i2) rfl ((D p).1 (by omega)) ((D p).2.2.2 (by omega) s i2) i2 (H (by omega) _ _ _ _ _ _ _ _ _ ?_)⟩
    rw [cp_s0 e0]
    exact ⟨b1, b2, b3, b4, rfl, rsp, rfl, hm⟩
  iterate 2
    · obtain ⟨b1, b2, b3, b4⟩ := hst (by omega) (by omega) (by omega)
      have hR : K p = 1 ∨ K p = 2 := by omega
      unfold wY_step_72
      refine yr_rand (K := K) (A := A) (N := N) (V := V) (s := s) (r := r) (g := g) (o := cp_rd row r) D (by omega) i3 i2 (fun h => ho r h) (cp_rd_lt _ _) (ak p hp) hR (av p hp (by omega)) (fun e => an p hp (Or.inl e)) rfl rsp1 rsp2
        (fun h6 => H (by omega) _ _ _ _ _ _ _ _ _ ?_) (fun h6 hw => H (by omega) _ _ _ _ _ _ _ _ _ ?_) (fun h6 hw => H (by omega) _ _ _ _ _ _ _ _ _ ?_)
      · rw [cp_sR hR, if_pos h6]
        exact ⟨b1, b2, b3, b4, rfl, fun z => absurd z cp_n3, rfl, hm⟩
      · rw [cp_sR hR, if_neg h6, if_pos hw]
        exact ⟨b1, b2, b3, b4, rfl, fun z => absurd z cp_n4, rfl, hm⟩
      · rw [cp_sR hR, if_neg h6, if_neg hw]
        exact ⟨b1, b2, b3, b4, rfl, fun _ => ⟨rfl, rfl⟩, rfl, hm⟩
  · obtain ⟨b1, b2, b3, b4⟩ := hst (by omega) (by omega) (by omega)
    have hV4 := (D p).2.2.2 (by omega) s i2
    rw [ap p hp (by omega) s i2]
    refine pk_eq (V p s) 0 (fun e => H (by omega) _ _ _ _ _ _ _ _ _ ?_) (fun e => H (by omega) _ _ _ _ _ _ _ _ _ ?_)
    · rw [cp_s3 e3, if_pos e]
      exact ⟨b1, b2, b3, b4, rfl, fun z => absurd z cp_n2, rfl, hm⟩
    · rw [cp_s3 e3, if_neg e]
      exact ⟨b1, b2, b3, b4, rfl, rsp, rfl, hm⟩
  · have hV4 := (D p).2.2.2 (by omega) s i2
    have hl3 := kin (Or.inl e4)
    have hO1 := cp_O_in (K := K) (p := p) (Or.inl e4)
    obtain ⟨t1, t2, t3, t4, _⟩ := T.1 p hpM (Or.inl e4)
    rw [ap p hp (by omega) s i2]
    unfold wpY_choose
    refine pk_eq (V p s) 0 (fun e => ?_) (fun e => ?_)
    · by_cases hF : F p = 0
      · refine yf_find (K := K) (i := p) (e := E p) (oe := True) rfl (by decide) hc ak hK8 hlen (by omega) (tg_else0 T hpM e4 hF) hO1 ?_
        refine yg_beh (e := E p) rfl hc ?_
        have fin : cp_RY K c (cp_step K A N E F B V (cp_rd row) p s r g 1 L z).1 (cp_step K A N E F B V (cp_rd row) p s r g 1 L z).2.1 (cp_step K A N E F B V (cp_rd row) p s r g 1 L z).2.2.1 (cp_step K A N E F B V (cp_rd row) p s r g 1 L z).2.2.2.1 (cp_step K A N E F B V (cp_rd row) p s r g 1 L z).2.2.2.2.1 (cp_step K A N E F B V (cp_rd row) p s r g 1 L z).2.2.2.2.2.1 (cp_step K A N E F B V (cp_rd row) p s r g 1 L z).2.2.2.2.2.2 (nI (if E p + 1 < c then E p + 1 else c)) ydepth ybegins yleft (nI s) ysteps yproduct 1 (upd ymet p (ymet p + 1)) := by
          rw [cp_s4 e4, if_pos e, if_pos hF]
          have hO' : cp_O K (E p + 1) = cp_O K p := by rw [cp_O_end t3, t4, List.tail_cons]
          exact ⟨rfl, by show _ = nI (cp_O K (E p + 1)).length; rw [hO']; exact rd, by show cp_hl _ (cp_O K (E p + 1)); rw [hO']; exact rh, by show cp_ll _ _ _ (cp_O K (E p + 1)); rw [hO']; exact rl, rfl, rsp, rfl, hm⟩
        by_cases hEc : E p < c
        · rw [if_pos hEc]
          refine br_f (nI_ge hEc (by omega)) ⟨vp_in_nI (by omega) (by omega), ?_⟩
          rw [nI_clamp (by omega), ak _ hEc, t3]
          exact br_f (by decide) (H (by omega) _ _ _ _ _ _ _ _ _ fin)
        · rw [if_neg hEc]
          exact br_t (nI_le (Nat.le_refl _) (by omega)) (H (by omega) _ _ _ _ _ _ _ _ _ fin)
      · obtain ⟨f1, f2, f3, f4⟩ := T.2.2.2.1 p hpM e4 hF
        have hFc : F p < c := by
          by_cases h : F p < c
          · exact h
          · have := W.2.1 (F p) (by omega)
            omega
        refine yf_find (K := K) (i := p) (e := F p) (oe := True) rfl (by decide) hc ak hK8 hlen (by omega) (tg_else1 T hpM e4 hF) hO1 ?_
        refine yg_beh (e := F p) rfl hc ?_
        rw [if_pos hFc]
        refine br_f (nI_ge hFc (by omega)) ⟨vp_in_nI (by omega) (by omega), ?_⟩
        rw [nI_clamp (by omega), ak _ hFc, f3]
        refine br_t rfl (ye_in (d := (cp_O K p).length) rd (by omega) (H (by omega) _ _ _ _ _ _ _ _ _ ?_))
        rw [cp_s4 e4, if_pos e, if_neg hF]
        obtain ⟨b1, b2, b3⟩ := hpush 1 L (F p + 1) (by rw [cp_O_st (by omega) (by omega) (by omega), f4]) (fun _ _ => rfl) (fun h => by omega)
        exact ⟨rfl, b1, b2, b3, rfl, rsp, rfl, hm⟩
    · refine ye_in (d := (cp_O K p).length) rd (by omega) (H (by omega) _ _ _ _ _ _ _ _ _ ?_)
      rw [cp_s4 e4, if_neg e]
      obtain ⟨b1, b2, b3⟩ := hpush 1 L (p + 1) hO1 (fun _ _ => rfl) (fun h => by omega)
      exact ⟨by show _ = nI (if p + 1 < c then p + 1 else c); rw [hnx], b1, b2, b3, rfl, rsp, rfl, hm⟩
  · have hO := T.2.1 p hpM (Or.inl e5)
    obtain ⟨_, hb, hkb⟩ := cp_O_head hO
    obtain ⟨t1, t2, t3, t4, t5⟩ := T.1 (B p) (by omega) hkb
    have hpE : p < E (B p) := by
      by_cases h : p < E (B p)
      · exact h
      · by_cases h2 : p = E (B p)
        · rw [← h2] at t3; omega
        · exact absurd (by rw [hO]; exact List.mem_cons_self ..) (cp_gone t3 t4 (show E (B p) < p by omega))
    refine yf_find (K := K) (i := p) (e := E (B p)) (oe := False) rfl (by decide) hc ak hK8 hlen (by omega) (tg_end T (by omega) hkb (by omega) (by omega)) (by rw [cp_O_st (by omega) (by omega) (by omega), hO]) (H5 e5 _ _ ?_)
    exact ⟨rfl, by rw [t4, ← hO]; exact rd, by rw [t4, ← hO]; exact rh, by rw [t4, ← hO]; exact rl, rfl, rsp, rfl, hm⟩
  · have hl3 := kin (Or.inr e6)
    have hO1 := cp_O_in (K := K) (p := p) (Or.inr e6)
    refine ⟨vpp, ?_⟩
    rw [hcp, an p hp (Or.inr e6)]
    refine ye_in (d := (cp_O K p).length) rd (by omega) (H (by omega) _ _ _ _ _ _ _ _ _ ?_)
    rw [cp_s6 e6]
    obtain ⟨b1, b2, b3⟩ := hpush (nI (N p)) (upd L p (nI (N p))) (p + 1) hO1 (fun a ha => pk_un (by have := (cp_O_mem ha).2.1; omega)) (fun _ => by rw [pk_us])
    exact ⟨by show _ = nI (if p + 1 < c then p + 1 else c); rw [hnx], b1, b2, b3, rfl, rsp, rfl, hm⟩
  · obtain ⟨l, hO, hk6, hl6⟩ := T.2.2.1 p hpM e7
    have hmem : ∀ y, y ∈ cp_O K p → y < 24 ∧ ykinds y = nI (K y) ∧ K y < 9 := fun y hy => by
      have h1 := (cp_O_mem hy).2.1
      have h2 := hK8 y (by omega)
      exact ⟨by omega, ak y (by omega), by omega⟩
    have hbp : B p < p := (cp_O_mem (show B p ∈ cp_O K p by rw [hO]; exact List.mem_append_right _ (List.mem_cons_self ..))).2.1
    obtain ⟨t1, t2, t3, t4, t5⟩ := T.1 (B p) (by omega) (Or.inr hk6)
    have hlp := hlen p
    have hlb : (cp_O K (B p)).length < 3 := by rw [hO, List.length_append, List.length_cons] at hlp; omega
    have hh2 : cp_hl ybegins (B p :: cp_O K (B p)) := hl_app (l := l) (by rw [← hO]; exact rh)
    have hl2 : cp_ll K L yleft (B p :: cp_O K (B p)) := ll_app (l := l) (by rw [← hO]; exact rl)
    have hO' : cp_O K (E (B p) + 1) = cp_O K (B p) := by rw [cp_O_end t3, t4, List.tail_cons]
    unfold wpY_breakOff
    refine ⟨5, ?_⟩
    rw [rd, hO]
    refine yk_loop (K := K) hk6 hlb ?_ l 5 (by rw [← hO]; exact rh) hl6 (by rw [← hO]; exact hmem) (by rw [← hO]; exact hlp) (by rw [hO, List.length_append, List.length_cons] at hlp; omega)
    unfold wY_breakOff_51
    refine ⟨vp_in_nI (by omega) (by omega), ?_⟩
    rw [nI_clamp (by omega), hh2.1]
    refine yf_find (K := K) (i := B p) (e := E (B p)) (oe := False) rfl (by decide) hc ak hK8 hlen (by omega) (tg_end T (by omega) (Or.inr hk6) (by omega) (by omega)) (cp_O_in (Or.inr hk6)) ?_
    refine yg_beh (e := E (B p)) rfl hc (H (by omega) _ _ _ _ _ _ _ _ _ ?_)
    rw [cp_s57 (Or.inr e7)]
    exact ⟨rfl, by show _ = nI (cp_O K (E (B p) + 1)).length; rw [hO'], by show cp_hl _ (cp_O K (E (B p) + 1)); rw [hO']; exact hh2.2, by show cp_ll _ _ _ (cp_O K (E (B p) + 1)); rw [hO']; exact hl2.2, rfl, rsp, rfl, hm⟩
  · have h8 : K p = 8 := by omega
    refine ys_end (p := p) (z := z) (dg := cp_rd row) G0 ak I0 hpM h8 (by rw [hnx]) rd rh rl rfl ⟨rsp1, rsp2⟩ rfl (fun j hj h => ?_) fun pl dp lf hR => H (by omega) _ _ _ _ _ _ _ _ _ hR
    rw [pk_un (fun e => h (by rw [e]; exact h8))]
    exact rm j hj h
end
end
section
/-! the reference: a run to its end, and the tally -/
theorem cp_rdY {row j : Nat} (hr : row < 4096) (hj : j < 6) : ((nI row >>> ((10 - (2 * nI j)) &&& 31)) &&& 3) = nI (cp_rd row j) := by
  have hj' : j = 0 ∨ j = 1 ∨ j = 2 ∨ j = 3 ∨ j = 4 ∨ j = 5 := by omega
  have hd : ∀ k, row / 2 ^ k < 2 ^ 32 := fun k => by
    have := Nat.div_le_self row (2 ^ k)
    omega
  rcases hj' with rfl | rfl | rfl | rfl | rfl | rfl
  · rw [pk_shrN (by omega) _ 10 (by decide), pk_andN (hd _) 2 (by decide)]; rfl
  · rw [pk_shrN (by omega) _ 8 (by decide), pk_andN (hd _) 2 (by decide)]; rfl
  · rw [pk_shrN (by omega) _ 6 (by decide), pk_andN (hd _) 2 (by decide)]; rfl
  · rw [pk_shrN (by omega) _ 4 (by decide), pk_andN (hd _) 2 (by decide)]; rfl
  · rw [pk_shrN (by omega) _ 2 (by decide), pk_andN (hd _) 2 (by decide)]; rfl
  · rw [pk_shrN (by omega) _ 0 (by decide), pk_andN (hd _) 2 (by decide)]; rfl
theorem cp_mskY {row r : Nat} (hr : row < 4096) (h6 : r ≤ 6) : (nI row &&& (((1 : Int32) <<< ((12 - (2 * nI r)) &&& 31)) - 1)) = nI (row % 4 ^ (6 - r)) := by
  have hj' : r = 0 ∨ r = 1 ∨ r = 2 ∨ r = 3 ∨ r = 4 ∨ r = 5 ∨ r = 6 := by omega
  rcases hj' with rfl | rfl | rfl | rfl | rfl | rfl | rfl
  · rw [pk_andN (by omega) 12 (by decide)]
  · rw [pk_andN (by omega) 10 (by decide)]
  · rw [pk_andN (by omega) 8 (by decide)]
  · rw [pk_andN (by omega) 6 (by decide)]
  · rw [pk_andN (by omega) 4 (by decide)]
  · rw [pk_andN (by omega) 2 (by decide)]
  · rw [pk_andN (by omega) 0 (by decide)]
section
variable {yheight ycount yopen yat ydepth ystate ysteps yproduct yend ymost ymostRow ymostSteps : Int32} {ystack ykinds yvariables ynumbers yvalues yopened ybegins yleft youtcomes ymet ysums : Nat → Int32} {yvisited : Nat → Int64} {K A N E F B : Nat → Nat} {V : Nat → Nat → Nat} {M c : Nat}
theorem yx_one {post : SY → Prop} {row t f x p s r g : Nat} {L z : Nat → Int32} {pl dp st sp pr en : Int32} {bg lf mt : Nat → Int32} (G : cp_G K A N E F B V M c) (HA : cp_XA K A N V c c ykinds yvariables ynumbers yvalues) (ho : ∀ j, j < 6 → youtcomes j = nI (cp_rd row j))
    (I : cp_I K M x p s r g L) (hp : p < M) (h5 : K p ≠ 5) (ht : t < 4000) (R : cp_RY K c p s r g 1 L z pl dp bg lf st sp pr en mt)
    (H : ∀ (pl dp : Int32) (bg lf : Nat → Int32) (st sp pr en : Int32) (mt : Nat → Int32), cp_RY K c (cp_step K A N E F B V (cp_rd row) p s r g 1 L z).1 (cp_step K A N E F B V (cp_rd row) p s r g 1 L z).2.1 (cp_step K A N E F B V (cp_rd row) p s r g 1 L z).2.2.1 (cp_step K A N E F B V (cp_rd row) p s r g 1 L z).2.2.2.1 (cp_step K A N E F B V (cp_rd row) p s r g 1 L z).2.2.2.2.1 (cp_step K A N E F B V (cp_rd row) p s r g 1 L z).2.2.2.2.2.1 (cp_step K A N E F B V (cp_rd row) p s r g 1 L z).2.2.2.2.2.2 pl dp bg lf st sp pr en mt → wY_run_53 post f (nI (t + 1)) yheight (nI c) yopen pl dp st sp pr en ymost ymostRow ymostSteps ystack ykinds yvariables ynumbers yvalues yopened bg lf youtcomes mt ysums yvisited) :
    wY_run_53 post (f + 1) (nI t) yheight (nI c) yopen pl dp st sp pr en ymost ymostRow ymostSteps ystack ykinds yvariables ynumbers yvalues yopened bg lf youtcomes mt ysums yvisited := by
  have hc := G.1.1
  have hM := (cp_M_le G.1).2
  rw [wY_run_53]
  refine br_f (nI_ge (b := 4000) ht (by decide)) (br_t R.2.2.2.2.2.2.1 ?_)
  by_cases hpc : p < c
  · have ha : pl = nI p := by rw [R.1, if_pos hpc]
    refine br_f (by rw [ha]; exact nI_ge hpc (by omega)) ?_
    exact ys_step G HA ho I hpc R (fun _ pl dp bg lf st sp pr en mt R' => nm_r (nI_1 t) (H pl dp bg lf st sp pr en mt R')) (fun e => absurd e h5)
  · have ha : pl = nI c := by rw [R.1, if_neg hpc]
    have h8 := G.1.2.1 p (by omega)
    have hl : (cp_O K p).length = M - p := by rw [G.2.1]; exact cp_lenM G.1 (by omega)
    obtain ⟨r1, r2, r3, r4, r5, r6, r7, r8⟩ := R
    refine br_t (by rw [ha]; exact nI_le (Nat.le_refl _) (by omega)) (br_f (by rw [r2, hl]; exact nI_nle (by omega) (by rw [G.2.1]; omega)) ?_)
    exact ys_end (dg := cp_rd row) G HA.1 I hp h8 (by rw [ha, if_neg (by omega)]) r2 r3 r4 r5 (r6 rfl) r7 r8 fun pl dp lf R' => nm_r (nI_1 t) (H pl dp _ lf _ _ _ _ _ R')
theorem yx_else {post : SY → Prop} {row t f x p s r g : Nat} {L z : Nat → Int32} {pl dp st sp pr en : Int32} {bg lf mt : Nat → Int32} (G : cp_G K A N E F B V M c) (HA : cp_XA K A N V c c ykinds yvariables ynumbers yvalues) (ho : ∀ j, j < 6 → youtcomes j = nI (cp_rd row j))
    (I : cp_I K M x p s r g L) (hp : p < M) (h5 : K p = 5) (ht : t + 1 < 4000) (R : cp_RY K c p s r g 1 L z pl dp bg lf st sp pr en mt)
    (H : ∀ (pl dp : Int32) (bg lf : Nat → Int32) (st sp pr en : Int32) (mt : Nat → Int32), cp_RY K c (cp_step K A N E F B V (cp_rd row) p s r g 1 L z).1 (cp_step K A N E F B V (cp_rd row) p s r g 1 L z).2.1 (cp_step K A N E F B V (cp_rd row) p s r g 1 L z).2.2.1 (cp_step K A N E F B V (cp_rd row) p s r g 1 L z).2.2.2.1 (cp_step K A N E F B V (cp_rd row) p s r g 1 L z).2.2.2.2.1 (cp_step K A N E F B V (cp_rd row) p s r g 1 L z).2.2.2.2.2.1 (cp_step K A N E F B V (cp_rd row) p s r g 1 L z).2.2.2.2.2.2 pl dp bg lf st sp pr en mt → wY_run_53 post f (nI (t + 1 + 1)) yheight (nI c) yopen pl dp st sp pr en ymost ymostRow ymostSteps ystack ykinds yvariables ynumbers yvalues yopened bg lf youtcomes mt ysums yvisited) :
    wY_run_53 post (f + 1 + 1) (nI t) yheight (nI c) yopen pl dp st sp pr en ymost ymostRow ymostSteps ystack ykinds yvariables ynumbers yvalues yopened bg lf youtcomes mt ysums yvisited := by
  have hc := G.1.1
  have hM := (cp_M_le G.1).2
  have hMe := G.2.1
  have hpc : p < c := by
    by_cases h : p < c
    · exact h
    · have := G.1.2.1 p (by omega)
      omega
  have T := G.2.2.1
  have hO := T.2.1 p hp (Or.inl h5)
  obtain ⟨_, hb, hkb⟩ := cp_O_head hO
  obtain ⟨b', t', ho', hb4, _⟩ := (G.1.2.2 p hpc).2.2.1 h5
  rw [hO] at ho'
  have e1 := (List.cons.inj ho').1
  rw [← e1] at hb4
  obtain ⟨t1, t2, t3, t4, t5⟩ := T.1 (B p) (by omega) hkb
  have hBE : B (E (B p)) = B p := by
    have h := T.2.1 (E (B p)) t2 (Or.inr t3)
    rw [t4] at h
    exact (List.cons.inj h).1.symm
  obtain ⟨i1, i2, i3, i4, i5, i6⟩ := I
  have I2 : cp_I K M x (E (B p)) s r g L := ⟨by omega, i2, i3, i4, i5, by rw [t4, ← hO]; exact i6⟩
  rw [wY_run_53]
  have ha : pl = nI p := by rw [R.1, if_pos hpc]
  refine br_f (nI_ge (b := 4000) (by omega) (by decide)) (br_t R.2.2.2.2.2.2.1 (br_f (by rw [ha]; exact nI_ge hpc (by omega)) ?_))
  refine ys_step G HA ho ⟨i1, i2, i3, i4, i5, i6⟩ hpc R (fun n5 => absurd h5 n5) (fun _ pl mt R5 => nm_r (nI_1 t) ?_)
  refine yx_one G HA ho I2 t2 (by omega) ht R5 fun pl dp bg lf st sp pr en mt R' => H pl dp bg lf st sp pr en mt ?_
  rw [cp_s8i t3 (by rw [hBE]; omega)] at R'
  rw [cp_s57 (Or.inl h5)]
  obtain ⟨r1, r2, r3, r4, r5, r6, r7, r8⟩ := R'
  refine ⟨r1, r2, r3, r4, r5, r6, r7, fun j hj h8 => ?_⟩
  rw [r8 j hj h8]
  exact pk_un (fun e => h8 (by rw [e]; exact t3))
theorem yx_stop {post : SY → Prop} {t f p s r g : Nat} {e : Int32} {L z : Nat → Int32} {pl dp st sp pr en : Int32} {bg lf mt : Nat → Int32} (G : cp_G K A N E F B V M c) (hpM : p ≤ M) (hs : ¬ (p < M ∧ e = 1)) (ht : t + 1 < 4000) (hf : 1 < f) (R : cp_RY K c p s r g e L z pl dp bg lf st sp pr en mt)
    (H : ∀ (pl' dp' sp' pr' : Int32) (bg' lf' mt' : Nat → Int32), (e = 1 → sp' = nI r ∧ pr' = nI g) → (∀ j, j < c → K j ≠ 8 → mt' j = z j) → post (yheight, nI c, yopen, pl', dp', nI s, sp', pr', (if e = 1 then 0 else e), ymost, ymostRow, ymostSteps, ystack, ykinds, yvariables, ynumbers, yvalues, yopened, bg', lf', youtcomes, mt', ysums, yvisited)) :
    wY_run_53 post f (nI t) yheight (nI c) yopen pl dp st sp pr en ymost ymostRow ymostSteps ystack ykinds yvariables ynumbers yvalues yopened bg lf youtcomes mt ysums yvisited := by
  have hc := G.1.1
  have hMc := cp_M_le G.1
  obtain ⟨m, rfl⟩ : ∃ m, f = m + 1 + 1 := ⟨f - 2, by omega⟩
  obtain ⟨r1, r2, r3, r4, r5, r6, r7, r8⟩ := R
  have h1 := H pl dp sp pr bg lf mt r6 r8
  rw [← r5] at h1
  rw [wY_run_53]
  refine br_f (nI_ge (b := 4000) (by omega) (by decide)) ?_
  by_cases he : e = 1
  · have hp : p = M := by
      by_cases h : p < M
      · exact absurd ⟨h, he⟩ hs
      · omega
    rw [if_pos he] at h1
    have ha : pl = nI c := by rw [r1, if_neg (by rw [hp, G.2.1]; omega)]
    have hd : dp = nI 0 := by rw [r2, hp, G.2.1, cp_OM G.1]; rfl
    refine br_t (by rw [r7]; exact he) (br_t (by rw [ha]; exact nI_le (Nat.le_refl _) (by omega)) (br_t (by rw [hd]; decide) (nm_r (nI_1 t) ?_)))
    rw [wY_run_53]
    exact br_f (nI_ge (b := 4000) (by omega) (by decide)) (br_f (by decide) h1)
  · rw [if_neg he, ← r7] at h1
    exact br_f (by rw [r7]; exact he) h1
theorem yx_loop {post : SY → Prop} {row : Nat} (G : cp_G K A N E F B V M c) (HA : cp_XA K A N V c c ykinds yvariables ynumbers yvalues) (ho : ∀ j, j < 6 → youtcomes j = nI (cp_rd row j)) :
    ∀ (n t f x p s r g : Nat) (e : Int32) (L z : Nat → Int32) (pl dp st sp pr en : Int32) (bg lf mt : Nat → Int32), cp_I K M x p s r g L → cp_mu K x p ≤ n → t + 2 * n + 1 < 4000 → 2 * n + 1 < f → cp_RY K c p s r g e L z pl dp bg lf st sp pr en mt →
    (∀ (pl' dp' sp' pr' : Int32) (bg' lf' mt' : Nat → Int32), ((cp_mr K A N E F B V M (cp_rd row) n (p, s, r, g, e, L, z)).2.2.2.2.1 = 1 → sp' = nI (cp_mr K A N E F B V M (cp_rd row) n (p, s, r, g, e, L, z)).2.2.1 ∧ pr' = nI (cp_mr K A N E F B V M (cp_rd row) n (p, s, r, g, e, L, z)).2.2.2.1) → (∀ j, j < c → K j ≠ 8 → mt' j = (cp_mr K A N E F B V M (cp_rd row) n (p, s, r, g, e, L, z)).2.2.2.2.2.2 j) →
      post (yheight, nI c, yopen, pl', dp', nI (cp_mr K A N E F B V M (cp_rd row) n (p, s, r, g, e, L, z)).2.1, sp', pr', (if (cp_mr K A N E F B V M (cp_rd row) n (p, s, r, g, e, L, z)).2.2.2.2.1 = 1 then 0 else (cp_mr K A N E F B V M (cp_rd row) n (p, s, r, g, e, L, z)).2.2.2.2.1), ymost, ymostRow, ymostSteps, ystack, ykinds, yvariables, ynumbers, yvalues, yopened, bg', lf', youtcomes, mt', ysums, yvisited)) →
    wY_run_53 post f (nI t) yheight (nI c) yopen pl dp st sp pr en ymost ymostRow ymostSteps ystack ykinds yvariables ynumbers yvalues yopened bg lf youtcomes mt ysums yvisited := by
  have hM : M ≤ 27 := by rw [G.2.1]; exact (cp_M_le G.1).2
  intro n
  induction n with
  | zero =>
    intro t f x p s r g e L z pl dp st sp pr en bg lf mt I hmu ht hf R H
    have hs : ¬ (p < M ∧ e = 1) := fun h => by
      obtain ⟨x', I', htm⟩ := cp_adv (e := e) (z := z) G (cp_rd_lt row) I h.1
      have := cp_mu_lt I'.2.2.2.2.1 (by have := I'.1; omega) htm
      omega
    exact yx_stop G I.1 hs (by omega) (by omega) R H
  | succ n ih =>
    intro t f x p s r g e L z pl dp st sp pr en bg lf mt I hmu ht hf R H
    by_cases hs : p < M ∧ e = 1
    · obtain ⟨hp, rfl⟩ := hs
      obtain ⟨x', I', htm⟩ := cp_adv (e := 1) (z := z) G (cp_rd_lt row) I hp
      have hmu' := cp_mu_lt I'.2.2.2.2.1 (by have := I'.1; omega) htm
      rw [cp_mr_go (q := (p, s, r, g, 1, L, z)) ⟨hp, rfl⟩] at H
      obtain ⟨m, rfl⟩ : ∃ m, f = m + 1 + 1 := ⟨f - 2, by omega⟩
      by_cases h5 : K p = 5
      · exact yx_else G HA ho I hp h5 (by omega) R fun pl dp bg lf st sp pr en mt R' => ih (t + 1 + 1) m x' _ _ _ _ _ _ _ pl dp st sp pr en bg lf mt I' (by omega) (by omega) (by omega) R' H
      · exact yx_one G HA ho I hp h5 (by omega) R fun pl dp bg lf st sp pr en mt R' => ih (t + 1) (m + 1) x' _ _ _ _ _ _ _ pl dp st sp pr en bg lf mt I' (by omega) (by omega) (by omega) R' H
    · rw [cp_mr_stop hs] at H
      exact yx_stop G I.1 hs (by omega) (by omega) R H
theorem yx_32 {post : SY → Prop} (H : ∀ mt : Nat → Int32, (∀ j, j < 24 → mt j = 0) → ∃ n, wY_run_53 post n 0 yheight ycount yopen yat ydepth ystate ysteps yproduct yend ymost ymostRow ymostSteps ystack ykinds yvariables ynumbers yvalues yopened ybegins yleft youtcomes mt ysums yvisited) :
    ∀ (d i n : Nat) (mt : Nat → Int32), i + d = 24 → d < n → (∀ j, j < i → mt j = 0) → wY_run_32 post yheight ycount yopen yat ydepth ystate ysteps yproduct yend ymost ymostRow ymostSteps n (nI i) ystack ykinds yvariables ynumbers yvalues yopened ybegins yleft youtcomes mt ysums yvisited := by
  intro d
  induction d with
  | zero =>
    intro i n mt hi hn h
    obtain ⟨m, rfl⟩ : ∃ m, n = m + 1 := ⟨n - 1, by omega⟩
    have e : i = 24 := by omega
    subst e
    rw [wY_run_32]
    exact br_t (by decide) (H mt h)
  | succ d ih =>
    intro i n mt hi hn h
    obtain ⟨m, rfl⟩ : ∃ m, n = m + 1 := ⟨n - 1, by omega⟩
    rw [wY_run_32]
    refine br_f (nI_ge (b := 24) (by omega) (by decide)) ⟨vp_in_nI (by omega) (by omega), nm_r (e' := upd mt i 0) (by rw [nI_clamp (by omega)]) (nm_r (nI_1 i) ?_)⟩
    refine ih (i + 1) m (upd mt i 0) (by omega) (by omega) fun j hj => ?_
    by_cases e : j = i
    · subst e; exact pk_us
    · rw [pk_un e]; exact h j (by omega)
theorem yx_run {post : SY → Prop} {row : Nat} (G : cp_G K A N E F B V M c) (HA : cp_XA K A N V c c ykinds yvariables ynumbers yvalues) (ho : ∀ j, j < 6 → youtcomes j = nI (cp_rd row j))
    (H : ∀ (pl' dp' sp' pr' : Int32) (bg' lf' mt' : Nat → Int32), ((cp_fin K A N E F B V M row).2.2.2.2.1 = 1 → sp' = nI (cp_fin K A N E F B V M row).2.2.1 ∧ pr' = nI (cp_fin K A N E F B V M row).2.2.2.1) → (∀ j, j < c → K j ≠ 8 → mt' j = (cp_fin K A N E F B V M row).2.2.2.2.2.2 j) →
      post (yheight, nI c, yopen, pl', dp', nI (cp_fin K A N E F B V M row).2.1, sp', pr', (if (cp_fin K A N E F B V M row).2.2.2.2.1 = 1 then 0 else (cp_fin K A N E F B V M row).2.2.2.2.1), ymost, ymostRow, ymostSteps, ystack, ykinds, yvariables, ynumbers, yvalues, yopened, bg', lf', youtcomes, mt', ysums, yvisited)) :
    wpY_run post (yheight, nI c, yopen, yat, ydepth, ystate, ysteps, yproduct, yend, ymost, ymostRow, ymostSteps, ystack, ykinds, yvariables, ynumbers, yvalues, yopened, ybegins, yleft, youtcomes, ymet, ysums, yvisited) := by
  have hc := G.1.1
  unfold wpY_run
  refine ⟨25, yx_32 (fun mt hmt => ⟨2003, ?_⟩) 24 0 25 ymet (by omega) (by omega) fun j hj => absurd hj (by omega)⟩
  refine yx_loop G HA ho 1000 0 2003 0 0 0 0 1 1 (fun _ => 0) (fun _ => 0) _ _ _ _ _ _ _ _ _ (cp_I0 G _) (Nat.le_trans (cp_mu_bd _ _ _) (by omega)) (by omega) (by omega) ⟨?_, rfl, trivial, trivial, rfl, fun _ => ⟨rfl, rfl⟩, rfl, fun j hj _ => hmt j (by omega)⟩ H
  split
  · rfl
  · exact congrArg nI (show 0 = c by omega)
end
end
section
/-! the reference: all runs -/
section
variable {yheight ycount yopen yat ydepth ystate ysteps yproduct yend ymost ymostRow ymostSteps : Int32} {ystack ykinds yvariables ynumbers yvalues yopened ybegins yleft youtcomes ymet ysums : Nat → Int32} {yvisited : Nat → Int64} {K A N E F B : Nat → Nat} {V : Nat → Nat → Nat} {M c : Nat}
theorem yn_49 {post : SY → Prop} {x1 x2 : Int32} (vs0 : Nat → Int64)
    (H1 : x2 ≤ ymost → ∀ vs : Nat → Int64, (∀ j, j < 24 → vs j = vs0 j + x2.toInt64 * (ymet j).toInt64) → post (yheight, ycount, yopen, yat, ydepth, ystate, ysteps, yproduct, yend, ymost, ymostRow, ymostSteps, ystack, ykinds, yvariables, ynumbers, yvalues, yopened, ybegins, yleft, youtcomes, ymet, ysums, vs))
    (H2 : ¬ x2 ≤ ymost → ∀ vs : Nat → Int64, (∀ j, j < 24 → vs j = vs0 j + x2.toInt64 * (ymet j).toInt64) → post (yheight, ycount, yopen, yat, ydepth, ystate, ysteps, yproduct, yend, x2, x1, ysteps, ystack, ykinds, yvariables, ynumbers, yvalues, yopened, ybegins, yleft, youtcomes, ymet, ysums, vs)) :
    ∀ (d i n : Nat) (vs : Nat → Int64), i + d = 24 → d < n → (∀ j, j < i → vs j = vs0 j + x2.toInt64 * (ymet j).toInt64) → (∀ j, i ≤ j → vs j = vs0 j) →
    wY_note_49 post x1 x2 yheight ycount yopen yat ydepth ystate ysteps yproduct yend ymost ymostRow ymostSteps n (nI i) ystack ykinds yvariables ynumbers yvalues yopened ybegins yleft youtcomes ymet ysums vs := by
  intro d
  induction d with
  | zero =>
    intro i n vs hi hn h1 h2
    obtain ⟨m, rfl⟩ : ∃ m, n = m + 1 := ⟨n - 1, by omega⟩
    have e : i = 24 := by omega
    subst e
    rw [wY_note_49]
    exact br_t (by decide) (br_c (fun h => H1 h vs h1) (fun h => H2 h vs h1))
  | succ d ih =>
    intro i n vs hi hn h1 h2
    obtain ⟨m, rfl⟩ : ∃ m, n = m + 1 := ⟨n - 1, by omega⟩
    have hci : (nI i).toNatClampNeg = i := nI_clamp (by omega)
    have vpi : vp_in (nI i) 24 := vp_in_nI (by omega) (by omega)
    rw [wY_note_49]
    refine br_f (nI_ge (b := 24) (by omega) (by decide)) ⟨vpi, vpi, vpi, nm_r (e' := vp_updL vs i (vs i + x2.toInt64 * (ymet i).toInt64)) (by rw [hci]) (nm_r (nI_1 i) ?_)⟩
    refine ih (i + 1) m _ (by omega) (by omega) (fun j hj => ?_) (fun j hj => ?_)
    · by_cases e : j = i
      · subst e
        rw [pk_uLs, h2 j (Nat.le_refl _)]
      · rw [pk_uLn e]
        exact h1 j (by omega)
    · rw [pk_uLn (by omega)]
      exact h2 j (by omega)
theorem yn_10 {post : SY → Prop} {x1 : Int32} {s : Nat} (hs : s < 64) (es : ystate = nI s) {wt : Nat}
    (H1 : nI wt ≤ ymost → ∀ vs : Nat → Int64, (∀ j, j < 24 → vs j = yvisited j + (nI wt).toInt64 * (ymet j).toInt64) → post (yheight, ycount, yopen, yat, ydepth, ystate, ysteps, yproduct, yend, ymost, ymostRow, ymostSteps, ystack, ykinds, yvariables, ynumbers, yvalues, yopened, ybegins, yleft, youtcomes, ymet, upd ysums s (ysums s + nI wt), vs))
    (H2 : ¬ nI wt ≤ ymost → ∀ vs : Nat → Int64, (∀ j, j < 24 → vs j = yvisited j + (nI wt).toInt64 * (ymet j).toInt64) → post (yheight, ycount, yopen, yat, ydepth, ystate, ysteps, yproduct, yend, nI wt, x1, ysteps, ystack, ykinds, yvariables, ynumbers, yvalues, yopened, ybegins, yleft, youtcomes, ymet, upd ysums s (ysums s + nI wt), vs)) :
    ∀ (d j n w : Nat), j + d = 6 → d < n → 16 ^ d * w = wt → wY_note_10 post x1 yheight ycount yopen yat ydepth ystate ysteps yproduct yend ymost ymostRow ymostSteps ystack ykinds yvariables ynumbers yvalues yopened ybegins yleft youtcomes ymet ysums yvisited n (nI w) (nI j) := by
  intro d
  induction d with
  | zero =>
    intro j n w hj hn hw
    obtain ⟨m, rfl⟩ : ∃ m, n = m + 1 := ⟨n - 1, by omega⟩
    have e : j = 6 := by omega
    have e2 : w = wt := by omega
    subst e e2
    have vps : vp_in ystate 64 := by rw [es]; exact vp_in_nI hs (by omega)
    rw [wY_note_10]
    refine br_t (by decide) ⟨vps, vps, nm_r (e' := upd ysums s (ysums s + nI w)) (by rw [es, nI_clamp (by omega)]) ⟨25, ?_⟩⟩
    exact yn_49 (ysums := upd ysums s (ysums s + nI w)) yvisited H1 H2 24 0 25 yvisited (by omega) (by omega) (fun j hj => absurd hj (by omega)) (fun _ _ => rfl)
  | succ d ih =>
    intro j n w hj hn hw
    obtain ⟨m, rfl⟩ : ∃ m, n = m + 1 := ⟨n - 1, by omega⟩
    rw [wY_note_10]
    refine br_f (nI_ge (b := 6) (by omega) (by decide)) (nm_r (e' := nI (16 * w)) (pk_mul 16 w) (nm_r (nI_1 j) (ih (j + 1) m (16 * w) (by omega) (by omega) ?_)))
    rw [← hw, Nat.pow_succ, Nat.mul_assoc]
theorem yn_note {post : SY → Prop} {x1 : Int32} {s r g : Nat} (hs : s < 64) (hr : r ≤ 6) (es : ystate = nI s) (er : ysteps = nI r) (eg : yproduct = nI g)
    (H1 : nI (16 ^ (6 - r) * g) ≤ ymost → ∀ vs : Nat → Int64, (∀ j, j < 24 → vs j = yvisited j + (nI (16 ^ (6 - r) * g)).toInt64 * (ymet j).toInt64) → post (yheight, ycount, yopen, yat, ydepth, ystate, ysteps, yproduct, yend, ymost, ymostRow, ymostSteps, ystack, ykinds, yvariables, ynumbers, yvalues, yopened, ybegins, yleft, youtcomes, ymet, upd ysums s (ysums s + nI (16 ^ (6 - r) * g)), vs))
    (H2 : ¬ nI (16 ^ (6 - r) * g) ≤ ymost → ∀ vs : Nat → Int64, (∀ j, j < 24 → vs j = yvisited j + (nI (16 ^ (6 - r) * g)).toInt64 * (ymet j).toInt64) → post (yheight, ycount, yopen, yat, ydepth, ystate, ysteps, yproduct, yend, nI (16 ^ (6 - r) * g), x1, ysteps, ystack, ykinds, yvariables, ynumbers, yvalues, yopened, ybegins, yleft, youtcomes, ymet, upd ysums s (ysums s + nI (16 ^ (6 - r) * g)), vs)) :
    wpY_note post (yheight, ycount, yopen, yat, ydepth, ystate, ysteps, yproduct, yend, ymost, ymostRow, ymostSteps, ystack, ykinds, yvariables, ynumbers, yvalues, yopened, ybegins, yleft, youtcomes, ymet, ysums, yvisited) x1 := by
  unfold wpY_note
  have h := yn_10 hs es H1 H2 (6 - r) r 8 g (by omega) (by omega) rfl
  rw [← er, ← eg] at h
  exact ⟨8, h⟩
theorem yw_2 {post : SY → Prop} (H : ∀ (sw : Nat → Int32) (vs : Nat → Int64), (∀ s, s < 64 → sw s = 0) → (∀ j, j < 24 → vs j = 0) → ∃ n, wY_work_43 post n 0 yheight ycount yopen yat ydepth ystate ysteps yproduct yend 0 ymostRow 0 ystack ykinds yvariables ynumbers yvalues yopened ybegins yleft youtcomes ymet sw vs) :
    ∀ (d i n : Nat) (sw : Nat → Int32) (vs : Nat → Int64), i + d = 64 → d < n → (∀ j, j < i → sw j = 0) → (∀ j, j < i → j < 24 → vs j = 0) → wY_work_2 post yheight ycount yopen yat ydepth ystate ysteps yproduct yend ymost ymostRow ymostSteps n (nI i) ystack ykinds yvariables ynumbers yvalues yopened ybegins yleft youtcomes ymet sw vs := by
  intro d
  induction d with
  | zero =>
    intro i n sw vs hi hn h1 h2
    obtain ⟨m, rfl⟩ : ∃ m, n = m + 1 := ⟨n - 1, by omega⟩
    have e : i = 64 := by omega
    subst e
    rw [wY_work_2]
    exact br_t (by decide) (H sw vs h1 fun j hj => h2 j (by omega) hj)
  | succ d ih =>
    intro i n sw vs hi hn h1 h2
    obtain ⟨m, rfl⟩ : ∃ m, n = m + 1 := ⟨n - 1, by omega⟩
    have hrem : nI i - nI i / 24 * 24 = nI (i % 24) := pk_rem (d := 24) (by omega) (by omega) (by omega)
    have hlt := Nat.mod_lt i (show 0 < 24 by omega)
    rw [wY_work_2]
    refine br_f (nI_ge (b := 64) (by omega) (by decide)) ⟨vp_in_nI (by omega) (by omega), nm_r (e' := upd sw i 0) (by rw [nI_clamp (by omega)]) ⟨by decide, ?_⟩⟩
    rw [hrem, nI_clamp (by omega)]
    refine ⟨vp_in_nI hlt (by omega), nm_e (nm_r (nI_1 i) (ih (i + 1) m _ _ (by omega) (by omega) (fun j hj => ?_) (fun j hj hj24 => ?_)))⟩
    · by_cases e : j = i
      · subst e; exact pk_us
      · rw [pk_un e]; exact h1 j (by omega)
    · by_cases e : j = i % 24
      · rw [e]; exact pk_uLs
      · rw [pk_uLn e]
        refine h2 j ?_ hj24
        by_cases e2 : j = i
        · rw [e2, Nat.mod_eq_of_lt (by omega)] at e
          omega
        · omega
theorem yw_52 {post : SY → Prop} {J : Int32 → Int32 → Int32 → Int32 → Int32 → Int32 → Int32 → Int32 → Int32 → Int32 → Int32 → Int32 → Int32 → (Nat → Int32) → (Nat → Int32) → (Nat → Int32) → (Nat → Int32) → (Nat → Int32) → (Nat → Int32) → (Nat → Int32) → (Nat → Int32) → (Nat → Int32) → (Nat → Int32) → (Nat → Int32) → (Nat → Int64) → Prop} {a : Nat} (ha : a < 4096) (H : ∀ oc : Nat → Int32, (∀ j, j < 6 → oc j = nI (cp_rd a j)) →
      ∃ n, wY_work_52 post J (nI a) yheight ycount yopen yat ydepth ystate ysteps yproduct yend ymost ymostRow ymostSteps n (nI 6) ystack ykinds yvariables ynumbers yvalues yopened ybegins yleft oc ymet ysums yvisited) : ∀ (d i : Nat) (oc : Nat → Int32), i + d = 6 → (∀ j, j < i → oc j = nI (cp_rd a j)) →
    ∃ n, wY_work_52 post J (nI a) yheight ycount yopen yat ydepth ystate ysteps yproduct yend ymost ymostRow ymostSteps n (nI i) ystack ykinds yvariables ynumbers yvalues yopened ybegins yleft oc ymet ysums yvisited := by
  intro d
  induction d with
  | zero =>
    intro i oc hi h
    have e : i = 6 := by omega
    subst e
    exact H oc h
  | succ d ih =>
    intro i oc hi h
    obtain ⟨n, hn⟩ := ih (i + 1) (upd oc i (nI (cp_rd a i))) (by omega) (fun j hj => by
      by_cases e : j = i
      · subst e; exact pk_us
      · rw [pk_un e]; exact h j (by omega))
    refine ⟨n + 1, ?_⟩
    rw [wY_work_52]
    exact br_f (nI_ge (b := 6) (by omega) (by decide)) ⟨vp_in_nI (by omega) (by omega), nm_r (e' := upd oc i (nI (cp_rd a i))) (by rw [nI_clamp (by omega), cp_rdY ha (by omega)]) (nm_r (nI_1 i) hn)⟩
theorem yw_loop {post : SY → Prop} (G : cp_G K A N E F B V M c) (HA : cp_XA K A N V c c ykinds yvariables ynumbers yvalues)
    (H : ∀ (pl dp st sp pr en mw : Int32) (bg lf oc mt sw : Nat → Int32) (vs : Nat → Int64), cp_TL (cp_fin K A N E F B V M) K c 4096 sw vs → ((cp_Bm (cp_fin K A N E F B V M) 4096).1 ≠ 0 → mw = nI (cp_Bm (cp_fin K A N E F B V M) 4096).2.1) →
      post (yheight, nI c, yopen, pl, dp, st, sp, pr, en, nI (cp_Bm (cp_fin K A N E F B V M) 4096).1, mw, nI (cp_Bm (cp_fin K A N E F B V M) 4096).2.2, ystack, ykinds, yvariables, ynumbers, yvalues, yopened, bg, lf, oc, mt, sw, vs)) :
    ∀ (d a f : Nat) (pl dp st sp pr en bm mw bs : Int32) (bg lf oc mt sw : Nat → Int32) (vs : Nat → Int64), a + d = 4096 → d < f → cp_TL (cp_fin K A N E F B V M) K c a sw vs → bm = nI (cp_Bm (cp_fin K A N E F B V M) a).1 → ((cp_Bm (cp_fin K A N E F B V M) a).1 ≠ 0 → mw = nI (cp_Bm (cp_fin K A N E F B V M) a).2.1) → bs = nI (cp_Bm (cp_fin K A N E F B V M) a).2.2 →
    wY_work_43 post f (nI a) yheight (nI c) yopen pl dp st sp pr en bm mw bs ystack ykinds yvariables ynumbers yvalues yopened bg lf oc mt sw vs := by
  have hc := G.1.1
  have hfin := cp_finI G
  intro d
  induction d with
  | zero =>
    intro a f pl dp st sp pr en bm mw bs bg lf oc mt sw vs had hf HT hB1 hB hB2
    obtain ⟨m, rfl⟩ : ∃ m, f = m + 1 := ⟨f - 1, by omega⟩
    have e : a = 4096 := by omega
    subst e hB1 hB2
    rw [wY_work_43]
    exact br_t (by decide) (H pl dp st sp pr en mw bg lf oc mt sw vs HT hB)
  | succ d ih =>
    intro a f pl dp st sp pr en bm mw bs bg lf oc mt sw vs had hf HT hB1 hB hB2
    obtain ⟨m, rfl⟩ : ∃ m, f = m + 1 := ⟨f - 1, by omega⟩
    have ha : a < 4096 := by omega
    rw [wY_work_43]
    refine br_f (nI_ge (b := 4096) ha (by decide)) ?_
    refine yw_52 ha (fun oc' hoc => ⟨1, ?_⟩) 6 0 oc (by omega) (fun j hj => absurd hj (by omega))
    rw [wY_work_52]
    refine br_t (by decide) ?_
    refine yx_run (row := a) G HA hoc fun pl' dp' sp' pr' bg' lf' mt' hsp hmt => ?_
    obtain ⟨_, f2, f3, f4, f5, _⟩ := hfin a
    have hBle := tl_B (R := cp_fin K A N E F B V M) (fun b => tl_wt _ _ (hfin b).2.2.1 (hfin b).2.2.2.1) a
    have hwle : cp_wt (cp_fin K A N E F B V M a) a ≤ 16777216 := tl_wt _ _ f3 f4
    generalize hfd : cp_fin K A N E F B V M = R at *
    by_cases he : (R a).2.2.2.2.1 = 1
    · obtain ⟨rfl, rfl⟩ := hsp he
      rw [if_pos he]
      refine br_t rfl ?_
      rw [cp_mskY ha f3]
      have hml : a % 4 ^ (6 - (R a).2.2.1) ≤ a := Nat.mod_le _ _
      refine pk_eq (a % 4 ^ (6 - (R a).2.2.1)) 0 (fun h0 => ?_) (fun h0 => ?_)
      · have hcnt : cp_cnt (R a) a := ⟨he, h0⟩
        have hw := cp_wt_cnt hcnt
        have hTL : ∀ vs' : Nat → Int64, (∀ j, j < 24 → vs' j = vs j + (nI (16 ^ (6 - (R a).2.2.1) * (R a).2.2.2.1)).toInt64 * (mt' j).toInt64) → cp_TL R K c (a + 1) (upd sw (R a).2.1 (sw (R a).2.1 + nI (16 ^ (6 - (R a).2.2.1) * (R a).2.2.2.1))) vs' := fun vs' hvs => by
          rw [← hw] at hvs ⊢
          exact ⟨tl_sw HT.1 f2, fun j hj hk => by rw [hvs j (by omega), HT.2 j hj hk, cp_Vm_cnt hcnt, hmt j hj hk]⟩
        refine yn_note (s := (R a).2.1) (r := (R a).2.2.1) (g := (R a).2.2.2.1) f2 f3 rfl rfl rfl (fun hb vs' hvs => nm_r (nI_1 a) ?_) (fun hb vs' hvs => nm_r (nI_1 a) ?_)
        · have hT := hTL vs' hvs
          rw [← hw, hB1, nI_leI (by omega) (by omega)] at hb
          have e1 : cp_Bm R (a + 1) = cp_Bm R a := by rw [cp_Bm, if_neg (by omega)]
          exact ih (a + 1) m _ _ _ _ _ _ _ _ _ _ _ _ _ _ _ (by omega) (by omega) hT (by rw [e1]; exact hB1) (by rw [e1]; exact hB) (by rw [e1]; exact hB2)
        · have hT := hTL vs' hvs
          have hb2 := hb
          rw [← hw, hB1, nI_leI (by omega) (by omega)] at hb2
          have e1 : cp_Bm R (a + 1) = (cp_wt (R a) a, a, (R a).2.2.1) := by rw [cp_Bm, if_pos (by omega)]
          exact ih (a + 1) m _ _ _ _ _ _ _ _ _ _ _ _ _ _ _ (by omega) (by omega) hT (by rw [e1, hw]) (fun _ => by rw [e1]) (by rw [e1])
      · have hcnt : ¬ cp_cnt (R a) a := fun z => h0 z.2
        exact nm_r (nI_1 a) (ih (a + 1) m _ _ _ _ _ _ _ _ _ _ _ _ _ _ _ (by omega) (by omega) ⟨fun s hs => by rw [cp_Sm_not hcnt]; exact HT.1 s hs, fun j hj hk => by rw [cp_Vm_not hcnt]; exact HT.2 j hj hk⟩ (by rw [cp_Bm_not hcnt]; exact hB1) (by rw [cp_Bm_not hcnt]; exact hB) (by rw [cp_Bm_not hcnt]; exact hB2))
    · rw [if_neg he]
      have hne : ¬ (R a).2.2.2.2.1 = 0 := by
        rcases f5 with h | h | h | h
        · exact absurd h he
        · rw [h]; decide
        · rw [h]; decide
        · rw [h]; decide
      have hcnt : ¬ cp_cnt (R a) a := fun z => he z.1
      exact br_f hne (nm_r (nI_1 a) (ih (a + 1) m _ _ _ _ _ _ _ _ _ _ _ _ _ _ _ (by omega) (by omega) ⟨fun s hs => by rw [cp_Sm_not hcnt]; exact HT.1 s hs, fun j hj hk => by rw [cp_Vm_not hcnt]; exact HT.2 j hj hk⟩ (by rw [cp_Bm_not hcnt]; exact hB1) (by rw [cp_Bm_not hcnt]; exact hB) (by rw [cp_Bm_not hcnt]; exact hB2)))
theorem yw_all {post : SY → Prop} (G : cp_G K A N E F B V M c) (HA : cp_XA K A N V c c ykinds yvariables ynumbers yvalues)
    (H : ∀ (pl dp st sp pr en mw : Int32) (bg lf oc mt sw : Nat → Int32) (vs : Nat → Int64), cp_TL (cp_fin K A N E F B V M) K c 4096 sw vs → ((cp_Bm (cp_fin K A N E F B V M) 4096).1 ≠ 0 → mw = nI (cp_Bm (cp_fin K A N E F B V M) 4096).2.1) →
      post (yheight, nI c, yopen, pl, dp, st, sp, pr, en, nI (cp_Bm (cp_fin K A N E F B V M) 4096).1, mw, nI (cp_Bm (cp_fin K A N E F B V M) 4096).2.2, ystack, ykinds, yvariables, ynumbers, yvalues, yopened, bg, lf, oc, mt, sw, vs)) :
    wpY_work post (yheight, nI c, yopen, yat, ydepth, ystate, ysteps, yproduct, yend, ymost, ymostRow, ymostSteps, ystack, ykinds, yvariables, ynumbers, yvalues, yopened, ybegins, yleft, youtcomes, ymet, ysums, yvisited) := by
  have hc := G.1.1
  unfold wpY_work
  refine ⟨65, yw_2 (fun sw vs h1 h2 => ⟨4097, ?_⟩) 64 0 65 ysums yvisited (by omega) (by omega) (fun j hj => absurd hj (by omega)) (fun j hj => absurd hj (by omega))⟩
  exact yw_loop G HA H 4096 0 4097 _ _ _ _ _ _ _ _ _ _ _ _ _ _ _ (by omega) (by omega) ⟨h1, fun j hj _ => h2 j (by omega)⟩ rfl (fun z => absurd rfl z) rfl
end
end
section
/-! sums over the values at the end -/
theorem cp_vi : ∀ v, v < 3 → ∀ s, s < 64 → ((nI s >>> ((2 * nI v) &&& 31)) &&& 3) = nI (s / 4 ^ v % 4) := by decide +kernel
theorem kw_congr {v k w l : Nat} {sw sw' : Nat → Int32} (h : ∀ s, s < 64 → sw s = sw' s) : cp_kw v k w l sw 64 = cp_kw v k w l sw' 64 := by
  unfold cp_kw
  exact si_congr 64 fun s hs => by rw [h s hs]
theorem kw_in {v k w l : Nat} {sw : Nat → Int32} {n : Nat} (h1 : n / 4 ^ v % 4 = k) (h2 : n / 4 ^ w % 4 = l) : cp_kw v k w l sw n + sw n = cp_kw v k w l sw (n + 1) := by
  rw [kw_s, if_pos ⟨h1, h2⟩]
theorem kw_no {v k w l : Nat} {sw : Nat → Int32} {n : Nat} (h : ¬ (n / 4 ^ v % 4 = k ∧ n / 4 ^ w % 4 = l)) : cp_kw v k w l sw n = cp_kw v k w l sw (n + 1) := by
  rw [kw_s, if_neg h, Int32.add_zero]
theorem cp_gcd (g l : Nat) : Nat.gcd g l = Nat.gcd l (g % l) := by
  rw [Nat.gcd_comm g l, Nat.gcd_rec l g, Nat.gcd_comm]
theorem xg_loop {post : Int32 → Prop} : ∀ (k g l t n : Nat), l < 2 ^ k → g < 2 ^ 31 → l < 2 ^ 31 → t + 2 * k < 1000 → 2 * k < n → post (nI (Nat.gcd g l)) → wX_commonDivisor_7 post n (nI g) (nI l) (nI t) := by
  have h0 : ∀ g t n, t < 1000 → 0 < n → post (nI (Nat.gcd g 0)) → wX_commonDivisor_7 post n (nI g) (nI 0) (nI t) := fun g t n ht hn hp => by
    obtain ⟨m, rfl⟩ : ∃ m, n = m + 1 := ⟨n - 1, by omega⟩
    rw [Nat.gcd_zero_right] at hp
    rw [wX_commonDivisor_7]
    exact br_f (nI_ge (b := 1000) ht (by decide)) (br_t rfl hp)
  have h1 : ∀ g l t n, t < 1000 → 0 < l → g < 2 ^ 31 → l < 2 ^ 31 → wX_commonDivisor_7 post n (nI l) (nI (g % l)) (nI (t + 1)) → wX_commonDivisor_7 post (n + 1) (nI g) (nI l) (nI t) := fun g l t n ht hl hg hl2 hp => by
    rw [wX_commonDivisor_7]
    have hne : ¬ nI l = 0 := nI_ne0 hl hl2
    exact br_f (nI_ge (b := 1000) ht (by decide)) (br_f hne ⟨hne, nm_r (pk_rem hg hl hl2) (nm_r (nI_1 t) hp)⟩)
  intro k
  induction k with
  | zero =>
    intro g l t n hl hg hl2 ht hn hp
    have e : l = 0 := by omega
    subst e
    exact h0 g t n (by omega) (by omega) hp
  | succ k ih =>
    intro g l t n hl hg hl2 ht hn hp
    by_cases e : l = 0
    · subst e
      exact h0 g t n (by omega) (by omega) hp
    · have hm := Nat.mod_lt g (show 0 < l by omega)
      obtain ⟨m, rfl⟩ : ∃ m, n = m + 1 + 1 := ⟨n - 2, by omega⟩
      rw [cp_gcd] at hp
      refine h1 g l t (m + 1) (by omega) (by omega) hg hl2 ?_
      by_cases e2 : g % l = 0
      · rw [e2] at hp ⊢
        exact h0 l (t + 1) (m + 1) (by omega) (by omega) hp
      · rw [cp_gcd] at hp
        exact h1 l (g % l) (t + 1) m (by omega) (by omega) hl2 (by omega) (ih (g % l) (l % (g % l)) (t + 1 + 1) m (cp_half (by omega) (by omega) hl) (by omega) (Nat.lt_trans (Nat.mod_lt _ (by omega)) (by omega)) (by omega) (by omega) hp)
theorem xg_gcd {post : Int32 → Prop} {g l : Nat} (hg : g ≤ 16777216) (hl : l ≤ 16777216) (hp : post (nI (Nat.gcd g l))) : wpX_commonDivisor post (nI g) (nI l) := by
  unfold wpX_commonDivisor
  exact ⟨51, xg_loop 25 g l 0 51 (by omega) (by omega) (by omega) (by omega) (by omega) hp⟩
section
variable {xexpressionCount xstatementCount xopenCount xclosedLength xplace xstate xrandomSteps xrunWeight xending xbestWeight xbestCode xbestSteps : Int32} {xstackValues xkinds xvariables xnumbers xprogramValues xopen xblockOf xelseOf xendOf xroundsLeft xrunVisits xstateWeights : Nat → Int32} {xvisitSums : Nat → Int64}
theorem xq_vi {post : Int32 → Prop} {v s : Nat} (hv : v < 3) (hs : s < 64) (h : post (nI (s / 4 ^ v % 4))) : wpX_valueIn post (nI s) (nI v) := by
  unfold wpX_valueIn
  rw [cp_vi v hv s hs]
  exact h
theorem xq_kwL {post : Int32 → Prop} (H : post (cp_si xstateWeights 64)) : ∀ (d i n : Nat), i + d = 64 → d < n → wX_keptWeight_4 post xexpressionCount xstatementCount xopenCount xclosedLength xplace xstate xrandomSteps xrunWeight xending xbestWeight xbestCode xbestSteps xstackValues xkinds xvariables xnumbers xprogramValues xopen xblockOf xelseOf xendOf xroundsLeft xrunVisits xstateWeights xvisitSums n (cp_si xstateWeights i) (nI i) := by
  intro d
  induction d with
  | zero =>
    intro i n hi hn
    obtain ⟨m, rfl⟩ : ∃ m, n = m + 1 := ⟨n - 1, by omega⟩
    have e : i = 64 := by omega
    subst e
    rw [wX_keptWeight_4]
    exact br_t (by decide) H
  | succ d ih =>
    intro i n hi hn
    obtain ⟨m, rfl⟩ : ∃ m, n = m + 1 := ⟨n - 1, by omega⟩
    rw [wX_keptWeight_4]
    exact br_f (nI_ge (b := 64) (by omega) (by decide)) ⟨vp_in_nI (by omega) (by omega), nm_r (e' := cp_si xstateWeights (i + 1)) (by rw [nI_clamp (by omega), cp_si]) (nm_r (nI_1 i) (ih (i + 1) m (by omega) (by omega)))⟩
theorem xq_kw {post : Int32 → Prop} (H : post (cp_si xstateWeights 64)) : wpX_keptWeight post (xexpressionCount, xstatementCount, xopenCount, xclosedLength, xplace, xstate, xrandomSteps, xrunWeight, xending, xbestWeight, xbestCode, xbestSteps, xstackValues, xkinds, xvariables, xnumbers, xprogramValues, xopen, xblockOf, xelseOf, xendOf, xroundsLeft, xrunVisits, xstateWeights, xvisitSums) := by
  unfold wpX_keptWeight
  exact ⟨65, xq_kwL H 64 0 65 (by omega) (by omega)⟩
theorem xq_wwL {post : Int32 → Prop} {v k w l : Nat} (hv : v < 3) (hk : k < 4) (hw : w < 3) (hl : l < 4) (H : post (cp_kw v k w l xstateWeights 64)) : ∀ (d i n : Nat), i + d = 64 → d < n → wX_keptWeightWith_6 post (nI v) (nI k) (nI w) (nI l) xexpressionCount xstatementCount xopenCount xclosedLength xplace xstate xrandomSteps xrunWeight xending xbestWeight xbestCode xbestSteps xstackValues xkinds xvariables xnumbers xprogramValues xopen xblockOf xelseOf xendOf xroundsLeft xrunVisits xstateWeights xvisitSums n (cp_kw v k w l xstateWeights i) (nI i) := by
  intro d
  induction d with
  | zero =>
    intro i n hi hn
    obtain ⟨m, rfl⟩ : ∃ m, n = m + 1 := ⟨n - 1, by omega⟩
    have e : i = 64 := by omega
    subst e
    rw [wX_keptWeightWith_6]
    exact br_t (by decide) H
  | succ d ih =>
    intro i n hi hn
    obtain ⟨m, rfl⟩ : ∃ m, n = m + 1 := ⟨n - 1, by omega⟩
    have h1 := Nat.mod_lt (i / 4 ^ v) (show 0 < 4 by omega)
    have h2 := Nat.mod_lt (i / 4 ^ w) (show 0 < 4 by omega)
    have go := ih (i + 1) m (by omega) (by omega)
    rw [wX_keptWeightWith_6]
    refine br_f (nI_ge (b := 64) (by omega) (by decide)) (xq_vi hv (by omega) (xq_vi hw (by omega) (pk_eq (i / 4 ^ v % 4) k (fun e1 => pk_eq (i / 4 ^ w % 4) l (fun e2 => ?_) (fun e2 => ?_)) (fun e1 => ?_))))
    · exact ⟨vp_in_nI (by omega) (by omega), nm_r (e' := cp_kw v k w l xstateWeights (i + 1)) (by rw [nI_clamp (by omega), kw_in e1 e2]) (nm_r (nI_1 i) go)⟩
    · rw [kw_no (fun z => e2 z.2)]
      exact nm_r (nI_1 i) go
    · rw [kw_no (fun z => e1 z.1)]
      exact nm_r (nI_1 i) go
theorem xq_ww {post : Int32 → Prop} {v k w l : Nat} (hv : v < 3) (hk : k < 4) (hw : w < 3) (hl : l < 4) (H : post (cp_kw v k w l xstateWeights 64)) : wpX_keptWeightWith post (xexpressionCount, xstatementCount, xopenCount, xclosedLength, xplace, xstate, xrandomSteps, xrunWeight, xending, xbestWeight, xbestCode, xbestSteps, xstackValues, xkinds, xvariables, xnumbers, xprogramValues, xopen, xblockOf, xelseOf, xendOf, xroundsLeft, xrunVisits, xstateWeights, xvisitSums) (nI v) (nI k) (nI w) (nI l) := by
  unfold wpX_keptWeightWith
  exact ⟨65, xq_wwL hv hk hw hl H 64 0 65 (by omega) (by omega)⟩
theorem xq_exp {post : Int32 → SX → Prop} {v : Nat} (hv : v < 3) (H : post (cp_si (fun s => xstateWeights s * nI (s / 4 ^ v % 4)) 64) (xexpressionCount, xstatementCount, xopenCount, xclosedLength, xplace, xstate, xrandomSteps, xrunWeight, xending, xbestWeight, xbestCode, xbestSteps, xstackValues, xkinds, xvariables, xnumbers, xprogramValues, xopen, xblockOf, xelseOf, xendOf, xroundsLeft, xrunVisits, xstateWeights, xvisitSums)) : ∃ n, wX_expected_17 post (nI v) xexpressionCount xstatementCount xopenCount xclosedLength xplace xstate xrandomSteps xrunWeight xending xbestWeight xbestCode xbestSteps xstackValues xkinds xvariables xnumbers xprogramValues xopen xblockOf xelseOf xendOf xroundsLeft xrunVisits xstateWeights xvisitSums n 0 0 := by
  rw [kw_exp v xstateWeights 64] at H
  have step : ∀ (k n : Nat) (y : Int32), k < 4 → wX_expected_17 post (nI v) xexpressionCount xstatementCount xopenCount xclosedLength xplace xstate xrandomSteps xrunWeight xending xbestWeight xbestCode xbestSteps xstackValues xkinds xvariables xnumbers xprogramValues xopen xblockOf xelseOf xendOf xroundsLeft xrunVisits xstateWeights xvisitSums n (y + nI k * cp_kw v k v k xstateWeights 64) (nI (k + 1)) → wX_expected_17 post (nI v) xexpressionCount xstatementCount xopenCount xclosedLength xplace xstate xrandomSteps xrunWeight xending xbestWeight xbestCode xbestSteps xstackValues xkinds xvariables xnumbers xprogramValues xopen xblockOf xelseOf xendOf xroundsLeft xrunVisits xstateWeights xvisitSums (n + 1) y (nI k) := fun k n y hk h => by
    rw [wX_expected_17]
    exact br_f (nI_ge (b := 4) hk (by decide)) (xq_ww hv hk hv hk (nm_e (nm_r (nI_1 k) h)))
  refine ⟨5, step 0 4 0 (by omega) (step 1 3 _ (by omega) (step 2 2 _ (by omega) (step 3 1 _ (by omega) ?_)))⟩
  rw [wX_expected_17]
  refine br_t (by decide) ?_
  rw [Int32.zero_add]
  exact H
/-- as whole numbers -/
def cp_Q (v w : Nat) (sw : Nat → Int32) (x3 : Int64) (k l : Nat) : Prop := x3 * (cp_kw v k w l sw 64).toInt64 = (cp_kw v k v k sw 64).toInt64 * (cp_kw w l w l sw 64).toInt64
theorem xq_51 {post : Int32 → SX → Prop} {J : Int32 → Prop} {v w k : Nat} {x3 : Int64} (hv : v < 3) (hw : w < 3) (hk : k < 4) (HJ : (∀ l, l < 4 → cp_Q v w xstateWeights x3 k l) → J (nI (k + 1))) (H0 : (¬ ∀ k l, k < 4 → l < 4 → cp_Q v w xstateWeights x3 k l) → post 0 (xexpressionCount, xstatementCount, xopenCount, xclosedLength, xplace, xstate, xrandomSteps, xrunWeight, xending, xbestWeight, xbestCode, xbestSteps, xstackValues, xkinds, xvariables, xnumbers, xprogramValues, xopen, xblockOf, xelseOf, xendOf, xroundsLeft, xrunVisits, xstateWeights, xvisitSums)) :
    ∀ (d l n : Nat), l + d = 4 → d < n → (∀ l', l' < l → cp_Q v w xstateWeights x3 k l') → wX_independent_51 post J (nI v) (nI w) x3 (nI k) (cp_kw v k v k xstateWeights 64).toInt64 xexpressionCount xstatementCount xopenCount xclosedLength xplace xstate xrandomSteps xrunWeight xending xbestWeight xbestCode xbestSteps xstackValues xkinds xvariables xnumbers xprogramValues xopen xblockOf xelseOf xendOf xroundsLeft xrunVisits xstateWeights xvisitSums n (nI l) := by
  intro d
  induction d with
  | zero =>
    intro l n hl hn h
    obtain ⟨m, rfl⟩ : ∃ m, n = m + 1 := ⟨n - 1, by omega⟩
    have e : l = 4 := by omega
    subst e
    rw [wX_independent_51]
    exact br_t (by decide) (nm_r (nI_1 k) (HJ h))
  | succ d ih =>
    intro l n hl hn h
    obtain ⟨m, rfl⟩ : ∃ m, n = m + 1 := ⟨n - 1, by omega⟩
    rw [wX_independent_51]
    refine br_f (nI_ge (b := 4) (by omega) (by decide)) (xq_ww hw (by omega) hw (by omega) (xq_ww hv hk hw (by omega) (br_c (fun e => ?_) (fun e => ?_))))
    · refine nm_r (nI_1 l) (ih (l + 1) m (by omega) (by omega) fun l' hl' => ?_)
      by_cases e2 : l' = l
      · subst e2; exact e
      · exact h l' (by omega)
    · exact H0 fun z => e (z k l hk (by omega))
theorem xq_29 {post : Int32 → SX → Prop} {v w : Nat} {x3 : Int64} (hv : v < 3) (hw : w < 3) (H1 : (∀ k l, k < 4 → l < 4 → cp_Q v w xstateWeights x3 k l) → post 1 (xexpressionCount, xstatementCount, xopenCount, xclosedLength, xplace, xstate, xrandomSteps, xrunWeight, xending, xbestWeight, xbestCode, xbestSteps, xstackValues, xkinds, xvariables, xnumbers, xprogramValues, xopen, xblockOf, xelseOf, xendOf, xroundsLeft, xrunVisits, xstateWeights, xvisitSums)) (H0 : (¬ ∀ k l, k < 4 → l < 4 → cp_Q v w xstateWeights x3 k l) → post 0 (xexpressionCount, xstatementCount, xopenCount, xclosedLength, xplace, xstate, xrandomSteps, xrunWeight, xending, xbestWeight, xbestCode, xbestSteps, xstackValues, xkinds, xvariables, xnumbers, xprogramValues, xopen, xblockOf, xelseOf, xendOf, xroundsLeft, xrunVisits, xstateWeights, xvisitSums)) :
    ∀ (d k n : Nat), k + d = 4 → d < n → (∀ k' l, k' < k → l < 4 → cp_Q v w xstateWeights x3 k' l) → wX_independent_29 post (nI v) (nI w) x3 xexpressionCount xstatementCount xopenCount xclosedLength xplace xstate xrandomSteps xrunWeight xending xbestWeight xbestCode xbestSteps xstackValues xkinds xvariables xnumbers xprogramValues xopen xblockOf xelseOf xendOf xroundsLeft xrunVisits xstateWeights xvisitSums n (nI k) := by
  intro d
  induction d with
  | zero =>
    intro k n hk hn h
    obtain ⟨m, rfl⟩ : ∃ m, n = m + 1 := ⟨n - 1, by omega⟩
    have e : k = 4 := by omega
    subst e
    rw [wX_independent_29]
    exact br_t (by decide) (H1 h)
  | succ d ih =>
    intro k n hk hn h
    obtain ⟨m, rfl⟩ : ∃ m, n = m + 1 := ⟨n - 1, by omega⟩
    rw [wX_independent_29]
    refine br_f (nI_ge (b := 4) (by omega) (by decide)) (xq_ww hv (by omega) hv (by omega) ⟨5, ?_⟩)
    refine xq_51 hv hw (by omega) (fun hq => ih (k + 1) m (by omega) (by omega) fun k' l hk' hl => ?_) H0 4 0 5 (by omega) (by omega) (fun l' hl' => absurd hl' (by omega))
    by_cases e2 : k' = k
    · subst e2; exact hq l hl
    · exact h k' l (by omega) hl
end
section
variable {yheight ycount yopen yat ydepth ystate ysteps yproduct yend ymost ymostRow ymostSteps : Int32} {ystack ykinds yvariables ynumbers yvalues yopened ybegins yleft youtcomes ymet ysums : Nat → Int32} {yvisited : Nat → Int64}
theorem yq_vi {post : Int32 → Prop} {v s : Nat} (hv : v < 3) (hs : s < 64) (h : post (nI (s / 4 ^ v % 4))) : wpY_valueIn post (yheight, ycount, yopen, yat, ydepth, ystate, ysteps, yproduct, yend, ymost, ymostRow, ymostSteps, ystack, ykinds, yvariables, ynumbers, yvalues, yopened, ybegins, yleft, youtcomes, ymet, ysums, yvisited) (nI s) (nI v) := by
  unfold wpY_valueIn
  show post _
  rw [cp_vi v hv s hs]
  exact h
theorem yq_whL {post : Int32 → Prop} (H : post (cp_si ysums 64)) : ∀ (d i n : Nat), i + d = 64 → d < n → wY_whole_4 post yheight ycount yopen yat ydepth ystate ysteps yproduct yend ymost ymostRow ymostSteps ystack ykinds yvariables ynumbers yvalues yopened ybegins yleft youtcomes ymet ysums yvisited n (cp_si ysums i) (nI i) := by
  intro d
  induction d with
  | zero =>
    intro i n hi hn
    obtain ⟨m, rfl⟩ : ∃ m, n = m + 1 := ⟨n - 1, by omega⟩
    have e : i = 64 := by omega
    subst e
    rw [wY_whole_4]
    exact br_t (by decide) H
  | succ d ih =>
    intro i n hi hn
    obtain ⟨m, rfl⟩ : ∃ m, n = m + 1 := ⟨n - 1, by omega⟩
    rw [wY_whole_4]
    exact br_f (nI_ge (b := 64) (by omega) (by decide)) ⟨vp_in_nI (by omega) (by omega), nm_r (e' := cp_si ysums (i + 1)) (by rw [nI_clamp (by omega), cp_si]) (nm_r (nI_1 i) (ih (i + 1) m (by omega) (by omega)))⟩
theorem yq_wh {post : Int32 → Prop} (H : post (cp_si ysums 64)) : wpY_whole post (yheight, ycount, yopen, yat, ydepth, ystate, ysteps, yproduct, yend, ymost, ymostRow, ymostSteps, ystack, ykinds, yvariables, ynumbers, yvalues, yopened, ybegins, yleft, youtcomes, ymet, ysums, yvisited) := by
  unfold wpY_whole
  exact ⟨65, yq_whL H 64 0 65 (by omega) (by omega)⟩
theorem yq_toL {post : Int32 → Prop} {v k w l : Nat} (hv : v < 3) (hk : k < 4) (hw : w < 3) (hl : l < 4) (H : post (cp_kw v k w l ysums 64)) : ∀ (d i n : Nat), i + d = 64 → d < n → wY_total_6 post (nI v) (nI k) (nI w) (nI l) yheight ycount yopen yat ydepth ystate ysteps yproduct yend ymost ymostRow ymostSteps ystack ykinds yvariables ynumbers yvalues yopened ybegins yleft youtcomes ymet ysums yvisited n (cp_kw v k w l ysums i) (nI i) := by
  intro d
  induction d with
  | zero =>
    intro i n hi hn
    obtain ⟨m, rfl⟩ : ∃ m, n = m + 1 := ⟨n - 1, by omega⟩
    have e : i = 64 := by omega
    subst e
    rw [wY_total_6]
    exact br_t (by decide) H
  | succ d ih =>
    intro i n hi hn
    obtain ⟨m, rfl⟩ : ∃ m, n = m + 1 := ⟨n - 1, by omega⟩
    have h1 := Nat.mod_lt (i / 4 ^ v) (show 0 < 4 by omega)
    have h2 := Nat.mod_lt (i / 4 ^ w) (show 0 < 4 by omega)
    have go := ih (i + 1) m (by omega) (by omega)
    rw [wY_total_6]
    refine br_f (nI_ge (b := 64) (by omega) (by decide)) (yq_vi hv (by omega) (pk_eq (i / 4 ^ v % 4) k (fun e1 => yq_vi hw (by omega) (pk_eq (i / 4 ^ w % 4) l (fun e2 => ?_) (fun e2 => ?_))) (fun e1 => ?_)))
    · exact ⟨vp_in_nI (by omega) (by omega), nm_r (e' := cp_kw v k w l ysums (i + 1)) (by rw [nI_clamp (by omega), kw_in e1 e2]) (nm_r (nI_1 i) go)⟩
    · rw [kw_no (fun z => e2 z.2)]
      exact nm_r (nI_1 i) go
    · rw [kw_no (fun z => e1 z.1)]
      exact nm_r (nI_1 i) go
theorem yq_to {post : Int32 → Prop} {v k w l : Nat} (hv : v < 3) (hk : k < 4) (hw : w < 3) (hl : l < 4) (H : post (cp_kw v k w l ysums 64)) : wpY_total post (yheight, ycount, yopen, yat, ydepth, ystate, ysteps, yproduct, yend, ymost, ymostRow, ymostSteps, ystack, ykinds, yvariables, ynumbers, yvalues, yopened, ybegins, yleft, youtcomes, ymet, ysums, yvisited) (nI v) (nI k) (nI w) (nI l) := by
  unfold wpY_total
  exact ⟨65, yq_toL hv hk hw hl H 64 0 65 (by omega) (by omega)⟩
theorem yq_exp {post : Int32 → SY → Prop} {v : Nat} (hv : v < 3) (H : post (cp_si (fun s => ysums s * nI (s / 4 ^ v % 4)) 64) (yheight, ycount, yopen, yat, ydepth, ystate, ysteps, yproduct, yend, ymost, ymostRow, ymostSteps, ystack, ykinds, yvariables, ynumbers, yvalues, yopened, ybegins, yleft, youtcomes, ymet, ysums, yvisited)) : ∀ (d i n : Nat), i + d = 64 → d < n → wY_expected_18 post (nI v) yheight ycount yopen yat ydepth ystate ysteps yproduct yend ymost ymostRow ymostSteps ystack ykinds yvariables ynumbers yvalues yopened ybegins yleft youtcomes ymet ysums yvisited n (cp_si (fun s => ysums s * nI (s / 4 ^ v % 4)) i) (nI i) := by
  intro d
  induction d with
  | zero =>
    intro i n hi hn
    obtain ⟨m, rfl⟩ : ∃ m, n = m + 1 := ⟨n - 1, by omega⟩
    have e : i = 64 := by omega
    subst e
    rw [wY_expected_18]
    exact br_t (by decide) H
  | succ d ih =>
    intro i n hi hn
    obtain ⟨m, rfl⟩ : ∃ m, n = m + 1 := ⟨n - 1, by omega⟩
    rw [wY_expected_18]
    refine br_f (nI_ge (b := 64) (by omega) (by decide)) ⟨vp_in_nI (by omega) (by omega), yq_vi hv (by omega) ?_⟩
    exact nm_r (e' := cp_si (fun s => ysums s * nI (s / 4 ^ v % 4)) (i + 1)) (by rw [nI_clamp (by omega)]; rfl) (nm_r (nI_1 i) (ih (i + 1) m (by omega) (by omega)))
theorem yq_divL {post : Int32 → Prop} : ∀ (n g l : Nat), l < n → g < 2 ^ 31 → l < 2 ^ 31 → post (nI (Nat.gcd g l)) → wY_divisor_5 post yheight ycount yopen yat ydepth ystate ysteps yproduct yend ymost ymostRow ymostSteps ystack ykinds yvariables ynumbers yvalues yopened ybegins yleft youtcomes ymet ysums yvisited n (nI g) (nI l) := by
  intro n
  induction n with
  | zero => intro g l h; omega
  | succ n ih =>
    intro g l hl hg hl2 hp
    rw [wY_divisor_5]
    by_cases e : l = 0
    · subst e
      rw [Nat.gcd_zero_right] at hp
      exact br_t (by decide) hp
    · rw [cp_gcd] at hp
      have hm := Nat.mod_lt g (show 0 < l by omega)
      exact br_f (nI_nle (by omega) hl2) ⟨nI_ne0 (by omega) hl2, nm_r (pk_rem hg (by omega) hl2) (ih l (g % l) (by omega) hl2 (by omega) hp)⟩
theorem yq_div {post : Int32 → Prop} {g l : Nat} (hg : g < 2 ^ 31) (hl : l < 2 ^ 31) (hp : post (nI (Nat.gcd g l))) : wpY_divisor post (yheight, ycount, yopen, yat, ydepth, ystate, ysteps, yproduct, yend, ymost, ymostRow, ymostSteps, ystack, ykinds, yvariables, ynumbers, yvalues, yopened, ybegins, yleft, youtcomes, ymet, ysums, yvisited) (nI g) (nI l) := by
  unfold wpY_divisor
  exact ⟨l + 1, yq_divL (l + 1) g l (by omega) hg hl hp⟩
theorem yq_34 {post : Int32 → SY → Prop} {v w : Nat} {x3 : Int64} (hv : v < 3) (hw : w < 3) (H1 : (∀ k l, k < 4 → l < 4 → cp_Q v w ysums x3 k l) → post 1 (yheight, ycount, yopen, yat, ydepth, ystate, ysteps, yproduct, yend, ymost, ymostRow, ymostSteps, ystack, ykinds, yvariables, ynumbers, yvalues, yopened, ybegins, yleft, youtcomes, ymet, ysums, yvisited)) (H0 : (¬ ∀ k l, k < 4 → l < 4 → cp_Q v w ysums x3 k l) → post 0 (yheight, ycount, yopen, yat, ydepth, ystate, ysteps, yproduct, yend, ymost, ymostRow, ymostSteps, ystack, ykinds, yvariables, ynumbers, yvalues, yopened, ybegins, yleft, youtcomes, ymet, ysums, yvisited)) :
    ∀ (d c n : Nat) (x5 : Int32), c + d = 16 → d < n → ((x5 = 1 ∧ ∀ c', c' < c → cp_Q v w ysums x3 (c' / 4) (c' % 4)) ∨ (x5 = 0 ∧ ¬ ∀ k l, k < 4 → l < 4 → cp_Q v w ysums x3 k l)) → wY_independent_34 post (nI v) (nI w) x3 yheight ycount yopen yat ydepth ystate ysteps yproduct yend ymost ymostRow ymostSteps ystack ykinds yvariables ynumbers yvalues yopened ybegins yleft youtcomes ymet ysums yvisited n x5 (nI c) := by
  intro d
  induction d with
  | zero =>
    intro c n x5 hc hn h
    obtain ⟨m, rfl⟩ : ∃ m, n = m + 1 := ⟨n - 1, by omega⟩
    have e : c = 16 := by omega
    subst e
    rw [wY_independent_34]
    refine br_t (by decide) ?_
    rcases h with ⟨rfl, h⟩ | ⟨rfl, h⟩
    · refine H1 fun k l hk hl => ?_
      have := h (4 * k + l) (by omega)
      rw [show (4 * k + l) / 4 = k from by omega, show (4 * k + l) % 4 = l from by omega] at this
      exact this
    · exact H0 h
  | succ d ih =>
    intro c n x5 hc hn h
    obtain ⟨m, rfl⟩ : ∃ m, n = m + 1 := ⟨n - 1, by omega⟩
    have h4 := Nat.mod_lt c (show 0 < 4 by omega)
    rw [wY_independent_34]
    refine br_f (nI_ge (b := 16) (by omega) (by decide)) ⟨by decide, nm_r (pk_div (d := 4) (by omega) (by omega) (by omega)) ⟨by decide, nm_r (pk_rem (d := 4) (by omega) (by omega) (by omega)) ?_⟩⟩
    refine yq_to hv (by omega) hw h4 (yq_to hv (by omega) hv (by omega) (yq_to hw h4 hw h4 (br_c (fun e => ?_) (fun e => ?_))))
    · refine nm_r (nI_1 c) (ih (c + 1) m x5 (by omega) (by omega) ?_)
      rcases h with ⟨rfl, h⟩ | ⟨rfl, h⟩
      · refine Or.inl ⟨rfl, fun c' hc' => ?_⟩
        by_cases e2 : c' = c
        · subst e2; exact e
        · exact h c' (by omega)
      · exact Or.inr ⟨rfl, h⟩
    · exact nm_r (nI_1 c) (ih (c + 1) m 0 (by omega) (by omega) (Or.inr ⟨rfl, fun z => e (z (c / 4) (c % 4) (by omega) h4)⟩))
end
end
section
/-! expressions put together -/
theorem cp_mn : ∀ x, x < 4 → ∀ y, y < 4 → ((nI x - nI y) &&& 3) = nI ((x + 4 - y) % 4) := by decide +kernel
theorem cp_four : nI 4 = (4 : Int32) := rfl
def cp_tk (q : Nat) : Nat := if q < 2 then 0 else if q = 7 then 1 else 2
theorem xc_comb {post : Int32 → Prop} {q x y : Nat} (a s : Nat) (h2 : 2 ≤ q) (h9 : q ≤ 9) (hx : x < 4) (hy : y < 4) (h : post (nI (cp_cv q a s x y))) : wpX_combined post (nI q) (nI x) (nI y) := by
  have hq : q = 2 ∨ q = 3 ∨ q = 4 ∨ q = 5 ∨ q = 6 ∨ q = 7 ∨ q = 8 ∨ q = 9 := by omega
  unfold wpX_combined
  rcases hq with rfl | rfl | rfl | rfl | rfl | rfl | rfl | rfl
  · refine br_f (by decide) (br_f (by decide) (br_t rfl ?_))
    rw [nI_add, pk_andN (by omega) 2 (by decide)]
    exact h
  · refine br_f (by decide) (br_f (by decide) (br_f (by decide) (br_t rfl ?_)))
    rw [cp_mn x hx y hy]
    exact h
  · refine br_f (by decide) (br_f (by decide) (br_f (by decide) (br_f (by decide) (br_t rfl ?_))))
    have hxy := Nat.mul_le_mul (show x ≤ 3 by omega) (show y ≤ 3 by omega)
    rw [pk_mul, pk_andN (by omega) 2 (by decide)]
    exact h
  · refine br_f (by decide) (br_f (by decide) (br_f (by decide) (br_f (by decide) (br_f (by decide) (br_t rfl (pk_eq x y (fun e => ?_) (fun e => ?_)))))))
    · have h' : post (nI (if x = y then 1 else 0)) := h
      rw [if_pos e] at h'
      exact h'
    · have h' : post (nI (if x = y then 1 else 0)) := h
      rw [if_neg e] at h'
      exact h'
  · refine br_f (by decide) (br_f (by decide) (br_f (by decide) (br_f (by decide) (br_f (by decide) (br_f (by decide) (br_t rfl (pk_le y x (fun e => ?_) (fun e => ?_))))))))
    · have h' : post (nI (if x < y then 1 else 0)) := h
      rw [if_neg (by omega)] at h'
      exact h'
    · have h' : post (nI (if x < y then 1 else 0)) := h
      rw [if_pos e] at h'
      exact h'
  · refine br_f (by decide) (br_f (by decide) (br_f (by decide) (br_f (by decide) (br_f (by decide) (br_f (by decide) (br_f (by decide) (br_t rfl (pk_eq x 0 (fun e => ?_) (fun e => ?_)))))))))
    · have h' : post (nI (if x = 0 then 1 else 0)) := h
      rw [if_pos e] at h'
      exact h'
    · have h' : post (nI (if x = 0 then 1 else 0)) := h
      rw [if_neg e] at h'
      exact h'
  · have h' : post (nI (if x ≠ 0 ∧ y ≠ 0 then 1 else 0)) := h
    refine br_f (by decide) (br_f (by decide) (br_f (by decide) (br_f (by decide) (br_f (by decide) (br_f (by decide) (br_f (by decide) (br_f (by decide) (br_t rfl (pk_eq x 0 (fun e => ?_) (fun e => pk_eq y 0 (fun e2 => ?_) (fun e2 => ?_)))))))))))
    · rw [if_neg (fun z => z.1 e)] at h'
      exact h'
    · rw [if_neg (fun z => z.2 e2)] at h'
      exact h'
    · rw [if_pos ⟨e, e2⟩] at h'
      exact h'
  · have h' : post (nI (if x ≠ 0 then x else y)) := h
    refine br_f (by decide) (br_t (by decide) (pk_eq x 0 (fun e => ?_) (fun e => ?_)))
    · rw [if_neg (fun z => z e)] at h'
      exact h'
    · rw [if_pos e] at h'
      exact h'
section
variable {xexpressionCount xstatementCount xopenCount xclosedLength xplace xstate xrandomSteps xrunWeight xending xbestWeight xbestCode xbestSteps : Int32} {xstackValues xkinds xvariables xnumbers xprogramValues xopen xblockOf xelseOf xendOf xroundsLeft xrunVisits xstateWeights : Nat → Int32} {xvisitSums : Nat → Int64}
theorem xc_90 {post : SX → Prop} {J : Int32 → (Nat → Int32) → (Nat → Int32) → (Nat → Int32) → (Nat → Int32) → (Nat → Int32) → (Nat → Int32) → (Nat → Int32) → (Nat → Int32) → (Nat → Int32) → (Nat → Int32) → (Nat → Int32) → (Nat → Int32) → (Nat → Int64) → Prop} {x2 x3 x4 x7 : Int32} {cell s : Nat} (hc : cell + s < 384) (H : J (nI (s + 1)) (upd xstackValues (cell + s) x7) xkinds xvariables xnumbers xprogramValues xopen xblockOf xelseOf xendOf xroundsLeft xrunVisits xstateWeights xvisitSums) : wX_fillSlot_90 post J x2 x3 x4 (nI cell) (nI s) x7 xexpressionCount xstatementCount xopenCount xclosedLength xplace xstate xrandomSteps xrunWeight xending xbestWeight xbestCode xbestSteps xstackValues xkinds xvariables xnumbers xprogramValues xopen xblockOf xelseOf xendOf xroundsLeft xrunVisits xstateWeights xvisitSums := by
  unfold wX_fillSlot_90
  rw [nI_add]
  exact ⟨vp_in_nI hc (by omega), nm_r (by rw [nI_clamp (by omega)]) (nm_r (nI_1 s) H)⟩
theorem xc_loop {post : SX → Prop} {q a slot : Nat} {x3 : Int32} {f : Nat → Int32} (h9 : q ≤ 9) (hs6 : slot < 6) (hs2 : cp_tk q = 2 → slot < 5) (hf : cp_4 f) (ha : q < 2 → x3 = nI a) (ha1 : q = 1 → a < 3) (H : post (xexpressionCount, xstatementCount, xopenCount, xclosedLength, xplace, xstate, xrandomSteps, xrunWeight, xending, xbestWeight, xbestCode, xbestSteps, cp_fl q a (64 * slot) f 64, xkinds, xvariables, xnumbers, xprogramValues, xopen, xblockOf, xelseOf, xendOf, xroundsLeft, xrunVisits, xstateWeights, xvisitSums)) :
    ∀ (d s n : Nat), s + d = 64 → d < n → wX_fillSlot_15 post (nI q) x3 (nI (cp_tk q)) (nI (64 * slot)) xexpressionCount xstatementCount xopenCount xclosedLength xplace xstate xrandomSteps xrunWeight xending xbestWeight xbestCode xbestSteps n (nI s) (cp_fl q a (64 * slot) f s) xkinds xvariables xnumbers xprogramValues xopen xblockOf xelseOf xendOf xroundsLeft xrunVisits xstateWeights xvisitSums := by
  intro d
  induction d with
  | zero =>
    intro s n hs hn
    obtain ⟨m, rfl⟩ : ∃ m, n = m + 1 := ⟨n - 1, by omega⟩
    have e : s = 64 := by omega
    subst e
    rw [wX_fillSlot_15]
    exact br_t (by decide) H
  | succ d ih =>
    intro s n hs hn
    obtain ⟨m, rfl⟩ : ∃ m, n = m + 1 := ⟨n - 1, by omega⟩
    have go := ih (s + 1) m (by omega) (by omega)
    obtain ⟨x, hx, ex⟩ := hf (64 * slot + s)
    obtain ⟨y, hy, ey⟩ := hf (64 * slot + 64 + s)
    rw [cp_fl, ex, ey, cp_cl4 hx, cp_cl4 hy] at go
    have gx : cp_fl q a (64 * slot) f s (64 * slot + s) = nI x := by rw [fl_ge s _ (by omega), ex]
    have gy : cp_fl q a (64 * slot) f s (64 * slot + 64 + s) = nI y := by rw [fl_ge s _ (by omega), ey]
    rw [wX_fillSlot_15]
    refine br_f (nI_ge (b := 64) (by omega) (by decide)) ?_
    have h38 : ∀ x7 : Int32, (q < 2 → x7 = nI (cp_cv q a s x y)) → wX_fillSlot_38 post (wX_fillSlot_15 post (nI q) x3 (nI (cp_tk q)) (nI (64 * slot)) xexpressionCount xstatementCount xopenCount xclosedLength xplace xstate xrandomSteps xrunWeight xending xbestWeight xbestCode xbestSteps m) (nI q) x3 (nI (cp_tk q)) (nI (64 * slot)) (nI s) x7 xexpressionCount xstatementCount xopenCount xclosedLength xplace xstate xrandomSteps xrunWeight xending xbestWeight xbestCode xbestSteps (cp_fl q a (64 * slot) f s) xkinds xvariables xnumbers xprogramValues xopen xblockOf xelseOf xendOf xroundsLeft xrunVisits xstateWeights xvisitSums := by
      intro x7 h7
      unfold wX_fillSlot_38
      by_cases hq2 : q < 2
      · have e0 : cp_tk q = 0 := if_pos hq2
        rw [e0] at go ⊢
        refine br_t (by decide) (xc_90 (by omega) ?_)
        rw [h7 hq2]
        exact go
      · have et : cp_tk q = if q = 7 then 1 else 2 := if_neg hq2
        have hcell : nI (64 * slot) + 64 + nI s = nI (64 * slot + 64 + s) := by
          show nI (64 * slot) + nI 64 + nI s = _
          rw [nI_add, nI_add]
        rw [nI_add, nI_clamp (by omega), gx, hcell]
        by_cases h7 : q = 7
        · rw [if_pos h7] at et
          rw [et] at go ⊢
          refine br_f (by decide) ⟨vp_in_nI (by omega) (by omega), nm_e (br_f (by decide) ?_)⟩
          unfold wX_fillSlot_78
          refine xc_comb (y := 0) a s (by omega) h9 hx (by omega) (xc_90 (by omega) ?_)
          subst h7
          exact go
        · rw [if_neg h7] at et
          have h5 := hs2 et
          rw [et] at go ⊢
          rw [nI_clamp (by omega), gy]
          refine br_f (by decide) ⟨vp_in_nI (by omega) (by omega), nm_e (br_t rfl ⟨vp_in_nI (by omega) (by omega), ?_⟩)⟩
          unfold wX_fillSlot_78
          exact xc_comb a s (by omega) h9 hx hy (xc_90 (by omega) go)
    refine pk_eq q 1 (fun e1 => ?_) (fun e1 => ?_)
    · rw [ha (by omega)]
      rw [ha (by omega)] at h38
      refine xq_vi (ha1 e1) (by omega) (h38 _ fun _ => ?_)
      subst e1
      rfl
    · refine h38 _ fun h2 => ?_
      have e0 : q = 0 := by omega
      subst e0
      exact ha (by omega)
theorem xc_taken {post : Int32 → Prop} {q : Nat} (h9 : q ≤ 9) (h : post (nI (cp_tk q))) : wpX_takenBy post (nI q) := by
  unfold wpX_takenBy
  refine pk_eq q 0 (fun e => ?_) (fun e0 => pk_eq q 1 (fun e => ?_) (fun e1 => pk_eq q 7 (fun e => ?_) (fun e7 => ?_)))
  · rw [cp_tk, if_pos (by omega)] at h
    exact h
  · rw [cp_tk, if_pos (by omega)] at h
    exact h
  · rw [cp_tk, if_neg (by omega), if_pos e] at h
    exact h
  · rw [cp_tk, if_neg (by omega), if_neg e7] at h
    exact h
theorem xc_push {post : Int32 → SX → Prop} {q a h : Nat} {x3 : Int32} (h9 : q ≤ 9) (hh : h ≤ 6) (ht : cp_tk q ≤ h) (h6 : cp_tk q = 0 → h < 6) (hf : cp_4 xstackValues) (ha : q < 2 → x3 = nI a) (ha1 : q = 1 → a < 3)
    (H : post (nI (h - cp_tk q + 1)) (nI (h - cp_tk q + 1), xstatementCount, xopenCount, xclosedLength, xplace, xstate, xrandomSteps, xrunWeight, xending, xbestWeight, xbestCode, xbestSteps, cp_fl q a (64 * (h - cp_tk q)) xstackValues 64, xkinds, xvariables, xnumbers, xprogramValues, xopen, xblockOf, xelseOf, xendOf, xroundsLeft, xrunVisits, xstateWeights, xvisitSums)) : wX_push_42 post (nI q) x3 (nI (cp_tk q)) (nI h) xstatementCount xopenCount xclosedLength xplace xstate xrandomSteps xrunWeight xending xbestWeight xbestCode xbestSteps xstackValues xkinds xvariables xnumbers xprogramValues xopen xblockOf xelseOf xendOf xroundsLeft xrunVisits xstateWeights xvisitSums := by
  unfold wX_push_42
  refine nm_r (pk_sub ht) ?_
  unfold wpX_fillSlot
  refine xc_taken h9 (nm_r (e' := nI (64 * (h - cp_tk q))) (by show _ * nI 64 = _; rw [pk_mul, Nat.mul_comm]) ⟨65, ?_⟩)
  exact xc_loop h9 (by omega) (by omega) hf ha ha1 (nm_r (nI_1 _) H) 64 0 65 (by omega) (by omega)
end
section
variable {yheight ycount yopen yat ydepth ystate ysteps yproduct yend ymost ymostRow ymostSteps : Int32} {ystack ykinds yvariables ynumbers yvalues yopened ybegins yleft youtcomes ymet ysums : Nat → Int32} {yvisited : Nat → Int64}
theorem yc_comb {post : Int32 → Prop} {q x y : Nat} (a s : Nat) (h2 : 2 ≤ q) (h9 : q ≤ 9) (h7 : q ≠ 7) (hx : x < 4) (hy : y < 4) (h : post (nI (cp_cv q a s x y))) : wpY_combine post (yheight, ycount, yopen, yat, ydepth, ystate, ysteps, yproduct, yend, ymost, ymostRow, ymostSteps, ystack, ykinds, yvariables, ynumbers, yvalues, yopened, ybegins, yleft, youtcomes, ymet, ysums, yvisited) (nI q) (nI x) (nI y) := by
  have hq : q = 2 ∨ q = 3 ∨ q = 4 ∨ q = 5 ∨ q = 6 ∨ q = 8 ∨ q = 9 := by omega
  unfold wpY_combine
  rcases hq with rfl | rfl | rfl | rfl | rfl | rfl | rfl
  · refine br_t rfl ⟨by decide, ?_⟩
    rw [nI_add]
    have e : nI (x + y) - nI (x + y) / 4 * 4 = nI ((x + y) % 4) := pk_rem (d := 4) (by omega) (by omega) (by omega)
    rw [e]
    exact h
  · refine br_f (by decide) (br_t rfl ⟨by decide, ?_⟩)
    have e0 : nI x + 4 - nI y = nI (x + 4 - y) := by
      show nI x + nI 4 - nI y = _
      rw [nI_add, pk_sub (by omega)]
    have e : nI (x + 4 - y) - nI (x + 4 - y) / 4 * 4 = nI ((x + 4 - y) % 4) := pk_rem (d := 4) (by omega) (by omega) (by omega)
    rw [e0, e]
    exact h
  · refine br_f (by decide) (br_f (by decide) (br_t rfl ⟨by decide, ?_⟩))
    have hxy := Nat.mul_le_mul (show x ≤ 3 by omega) (show y ≤ 3 by omega)
    have e : nI (x * y) - nI (x * y) / 4 * 4 = nI ((x * y) % 4) := pk_rem (d := 4) (by omega) (by omega) (by omega)
    rw [pk_mul, e]
    exact h
  · refine br_f (by decide) (br_f (by decide) (br_f (by decide) (br_t rfl (pk_eq x y (fun e => ?_) (fun e => ?_)))))
    · have h' : post (nI (if x = y then 1 else 0)) := h
      rw [if_pos e] at h'
      exact h'
    · have h' : post (nI (if x = y then 1 else 0)) := h
      rw [if_neg e] at h'
      exact h'
  · refine br_f (by decide) (br_f (by decide) (br_f (by decide) (br_f (by decide) (br_t rfl (pk_le y x (fun e => ?_) (fun e => ?_))))))
    · have h' : post (nI (if x < y then 1 else 0)) := h
      rw [if_neg (by omega)] at h'
      exact h'
    · have h' : post (nI (if x < y then 1 else 0)) := h
      rw [if_pos e] at h'
      exact h'
  · have h' : post (nI (if x ≠ 0 ∧ y ≠ 0 then 1 else 0)) := h
    refine br_f (by decide) (br_f (by decide) (br_f (by decide) (br_f (by decide) (br_f (by decide) (br_t rfl (pk_eq x 0 (fun e => ?_) (fun e => pk_eq y 0 (fun e2 => ?_) (fun e2 => ?_))))))))
    · rw [if_neg (fun z => z.1 e)] at h'
      exact h'
    · rw [if_neg (fun z => z.2 e2)] at h'
      exact h'
    · rw [if_pos ⟨e, e2⟩] at h'
      exact h'
  · have h' : post (nI (if x ≠ 0 then x else y)) := h
    refine br_f (by decide) (br_f (by decide) (br_f (by decide) (br_f (by decide) (br_f (by decide) (br_f (by decide) (pk_eq x 0 (fun e => ?_) (fun e => ?_)))))))
    · rw [if_neg (fun z => z e)] at h'
      exact h'
    · rw [if_pos e] at h'
      exact h'
theorem yc_loop {post : Int32 → SY → Prop} {q a slot : Nat} {x2 : Int32} {f : Nat → Int32} (h9 : q ≤ 9) (hs6 : slot < 6) (hs2 : cp_tk q = 2 → slot < 5) (hf : cp_4 f) (ha : q < 2 → x2 = nI a) (ha1 : q = 1 → a < 3) (H : post (nI (slot + 1)) (nI (slot + 1), ycount, yopen, yat, ydepth, ystate, ysteps, yproduct, yend, ymost, ymostRow, ymostSteps, cp_fl q a (64 * slot) f 64, ykinds, yvariables, ynumbers, yvalues, yopened, ybegins, yleft, youtcomes, ymet, ysums, yvisited)) :
    ∀ (d s n : Nat), s + d = 64 → d < n → wY_push_102 post (nI q) x2 (nI (cp_tk q)) (nI (slot + 1)) ycount yopen yat ydepth ystate ysteps yproduct yend ymost ymostRow ymostSteps n (nI s) (cp_fl q a (64 * slot) f s) ykinds yvariables ynumbers yvalues yopened ybegins yleft youtcomes ymet ysums yvisited := by
  intro d
  induction d with
  | zero =>
    intro s n hs hn
    obtain ⟨m, rfl⟩ : ∃ m, n = m + 1 := ⟨n - 1, by omega⟩
    have e : s = 64 := by omega
    subst e
    rw [wY_push_102]
    exact br_t (by decide) H
  | succ d ih =>
    intro s n hs hn
    obtain ⟨m, rfl⟩ : ∃ m, n = m + 1 := ⟨n - 1, by omega⟩
    have go := ih (s + 1) m (by omega) (by omega)
    obtain ⟨x, hx, ex⟩ := hf (64 * slot + s)
    obtain ⟨y, hy, ey⟩ := hf (64 * slot + 64 + s)
    rw [cp_fl, ex, ey, cp_cl4 hx, cp_cl4 hy] at go
    have gx : cp_fl q a (64 * slot) f s (64 * slot + s) = nI x := by rw [fl_ge s _ (by omega), ex]
    have gy : cp_fl q a (64 * slot) f s (64 * slot + s + 64) = nI y := by rw [fl_ge s _ (by omega), show 64 * slot + s + 64 = 64 * slot + 64 + s from by omega, ey]
    have hx5 : 64 * nI (slot + 1) - 64 + nI s = nI (64 * slot + s) := by
      show nI 64 * nI (slot + 1) - nI 64 + nI s = _
      rw [pk_mul, pk_sub (by omega), nI_add]
      exact congrArg nI (by omega)
    have h167 : ∀ x7 : Int32, (cp_tk q ≠ 2 → x7 = nI (cp_cv q a s x y)) → wY_push_167 post (wY_push_102 post (nI q) x2 (nI (cp_tk q)) (nI (slot + 1)) ycount yopen yat ydepth ystate ysteps yproduct yend ymost ymostRow ymostSteps m) (nI q) x2 (nI (cp_tk q)) (nI s) (nI (64 * slot + s)) (nI x) x7 (nI (slot + 1)) ycount yopen yat ydepth ystate ysteps yproduct yend ymost ymostRow ymostSteps (cp_fl q a (64 * slot) f s) ykinds yvariables ynumbers yvalues yopened ybegins yleft youtcomes ymet ysums yvisited := by
      intro x7 h7
      have hx64 : nI (64 * slot + s) + 64 = nI (64 * slot + s + 64) := nI_add _ 64
      unfold wY_push_167
      rw [hx64]
      by_cases h2 : cp_tk q = 2
      · have h5 := hs2 h2
        have hq : 2 ≤ q ∧ q ≠ 7 := by
          unfold cp_tk at h2
          by_cases a1 : q < 2
          · rw [if_pos a1] at h2; omega
          · rw [if_neg a1] at h2
            by_cases a2 : q = 7
            · rw [if_pos a2] at h2; omega
            · exact ⟨by omega, a2⟩
        rw [h2] at go ⊢
        rw [nI_clamp (n := 64 * slot + s + 64) (by omega), gy]
        refine br_t rfl ⟨vp_in_nI (by omega) (by omega), yc_comb a s hq.1 h9 hq.2 hx hy ⟨vp_in_nI (by omega) (by omega), nm_r (by rw [nI_clamp (by omega)]) (nm_r (nI_1 s) go)⟩⟩
      · have ht2 : cp_tk q < 3 := by unfold cp_tk; split <;> (try split) <;> omega
        refine br_f (fun z => h2 ((nI_eq (b := 2) (by omega) (by omega)).mp z)) ⟨vp_in_nI (by omega) (by omega), nm_r (by rw [nI_clamp (by omega), h7 h2]) (nm_r (nI_1 s) go)⟩
    have h151 : ∀ z0 : Int32, (q ≠ 1 → cp_tk q ≠ 2 → z0 = nI (cp_cv q a s x y)) → wY_push_151 post (wY_push_102 post (nI q) x2 (nI (cp_tk q)) (nI (slot + 1)) ycount yopen yat ydepth ystate ysteps yproduct yend ymost ymostRow ymostSteps m) (nI q) x2 (nI (cp_tk q)) (nI s) (nI (64 * slot + s)) (nI x) z0 (nI (slot + 1)) ycount yopen yat ydepth ystate ysteps yproduct yend ymost ymostRow ymostSteps (cp_fl q a (64 * slot) f s) ykinds yvariables ynumbers yvalues yopened ybegins yleft youtcomes ymet ysums yvisited := by
      intro z0 hz
      unfold wY_push_151
      refine pk_eq q 1 (fun e1 => ?_) (fun e1 => h167 z0 (hz e1))
      rw [ha (by omega)]
      rw [ha (by omega)] at h167
      refine yq_vi (ha1 e1) (by omega) (h167 _ fun _ => ?_)
      subst e1
      rfl
    rw [wY_push_102]
    refine br_f (nI_ge (b := 64) (by omega) (by decide)) (nm_r hx5 ⟨vp_in_nI (by omega) (by omega), nm_r (e' := nI x) (by rw [nI_clamp (by omega), gx]) (pk_eq q 0 (fun e0 => h151 _ fun _ _ => ?_) (fun e0 => pk_eq x 0 (fun ex0 => h151 _ fun n1 n2 => ?_) (fun ex0 => h151 _ fun n1 n2 => ?_)))⟩)
    · subst e0
      exact ha (by omega)
    · have h7 : q = 7 := by
        unfold cp_tk at n2
        by_cases a2 : q = 7
        · exact a2
        · rw [if_neg (by omega), if_neg a2] at n2
          exact absurd rfl n2
      subst h7
      show 1 = nI (if x = 0 then 1 else 0)
      rw [if_pos ex0]
      rfl
    · have h7 : q = 7 := by
        unfold cp_tk at n2
        by_cases a2 : q = 7
        · exact a2
        · rw [if_neg (by omega), if_neg a2] at n2
          exact absurd rfl n2
      subst h7
      show 0 = nI (if x = 0 then 1 else 0)
      rw [if_neg ex0]
      rfl
theorem yc_push {post : Int32 → SY → Prop} {q a h : Nat} {x2 : Int32} (h9 : q ≤ 9) (hh : h ≤ 6) (ht : cp_tk q ≤ h) (h6 : cp_tk q = 0 → h < 6) (hf : cp_4 ystack) (ha : q < 2 → x2 = nI a) (ha1 : q = 1 → a < 3)
    (H : post (nI (h - cp_tk q + 1)) (nI (h - cp_tk q + 1), ycount, yopen, yat, ydepth, ystate, ysteps, yproduct, yend, ymost, ymostRow, ymostSteps, cp_fl q a (64 * (h - cp_tk q)) ystack 64, ykinds, yvariables, ynumbers, yvalues, yopened, ybegins, yleft, youtcomes, ymet, ysums, yvisited)) : wY_push_87 post (nI q) x2 (nI (cp_tk q)) (nI h) ycount yopen yat ydepth ystate ysteps yproduct yend ymost ymostRow ymostSteps ystack ykinds yvariables ynumbers yvalues yopened ybegins yleft youtcomes ymet ysums yvisited := by
  unfold wY_push_87
  refine nm_r (e' := nI (h - cp_tk q + 1)) (by rw [pk_sub ht, nI_1]) ⟨65, ?_⟩
  exact yc_loop h9 (by omega) (by omega) hf ha ha1 H 64 0 65 (by omega) (by omega)
end
end
section
/-! may the statement stand there? -/
def cp_al (K : Nat → Nat) (c q : Nat) : Prop :=
  ((q = 4 ∨ q = 6) → (cp_O K c).length < 3) ∧ (q = 5 → ∃ b t, cp_O K c = b :: t ∧ K b = 4 ∧ ¬ cp_he K c b) ∧ (q = 7 → ∃ b, b ∈ cp_O K c ∧ K b = 6) ∧ (q = 8 → cp_O K c ≠ [])
def cp_pt (K : Nat → Nat) (c q : Nat) : Nat → Nat := fun j => if j = c then q else K j
theorem pt_c {K : Nat → Nat} {c q : Nat} : cp_pt K c q c = q := if_pos rfl
theorem pt_n {K : Nat → Nat} {c q j : Nat} (h : j ≠ c) : cp_pt K c q j = K j := if_neg h
theorem pt_O {K : Nat → Nat} {c q p : Nat} (h : p ≤ c) : cp_O (cp_pt K c q) p = cp_O K p := cp_O_congr (n := c) (fun j hj => pt_n (by omega)) p h
theorem wf_put {K : Nat → Nat} {c q : Nat} (W : cp_wf K c) (hc : c < 24) (hq : q < 9) (al : cp_al K c q) : cp_wf (cp_pt K c q) (c + 1) := by
  refine ⟨by omega, fun j hj => by rw [pt_n (by omega)]; exact W.2.1 j (by omega), fun j hj => ?_⟩
  by_cases e : j = c
  · subst e
    obtain ⟨a1, a2, a3, a4⟩ := al
    unfold cp_ok
    rw [pt_c, pt_O (Nat.le_refl _)]
    refine ⟨by omega, a1, fun h5 => ?_, fun h7 => ?_, a4⟩
    · obtain ⟨b, t, e1, e2, e3⟩ := a2 h5
      have hb := (cp_O_head e1).2.1
      refine ⟨b, t, e1, by rw [pt_n (by omega)]; exact e2, fun e he h5 z => e3 ⟨e, he, by rw [pt_n (by omega)] at h5; exact h5, ?_⟩⟩
      rw [pt_O (by omega), e1, (cp_O_head e1).1] at z
      exact z
    · obtain ⟨b, e1, e2⟩ := a3 h7
      have hb := (cp_O_mem e1).2.1
      exact ⟨b, e1, by rw [pt_n (by omega)]; exact e2⟩
  · exact cp_ok_congr (fun i hi => (pt_n (by omega)).symm) (W.2.2 j (by omega))
theorem wf_drop {K : Nat → Nat} {c : Nat} (W : cp_wf K (c + 1)) : cp_wf (cp_pt K c 8) c := by
  refine ⟨by have := W.1; omega, fun j hj => ?_, fun j hj => cp_ok_congr (fun i hi => (pt_n (by omega)).symm) (W.2.2 j (by omega))⟩
  by_cases e : j = c
  · rw [e, pt_c]
  · rw [pt_n e]
    exact W.2.1 j (by omega)
theorem wf_0 : cp_wf (fun _ => 8) 0 := ⟨by omega, fun _ _ => rfl, fun q hq => absurd hq (by omega)⟩
theorem lk_he {K : Nat → Nat} {c b : Nat} {bO eO fO : Nat → Int32} (W : cp_wf K c) (H : cp_LK K (cp_M K c) bO eO fO) (hb : b < c) (hk : K b = 4) : eO b = -1 ↔ ¬ cp_he K c b := by
  have hM := cp_M_le W
  constructor
  · intro e ⟨q, h1, h2, h3⟩
    have h4 := (H.2.1 q (by omega) h2 b _ h3).2
    rw [e] at h4
    exact cp_m1_ne (j := q) (by omega) h4.symm
  · intro h
    cases H.2.2.1 b (by omega) (Or.inl hk) with
    | inl e => exact e
    | inr e =>
      obtain ⟨q, q1, q2, q3, q4, _⟩ := e
      refine absurd ⟨q, ?_, q3, q4⟩ h
      by_cases hq : q < c
      · exact hq
      · have := W.2.1 q (by omega)
        omega
theorem oo_loop {K : Nat → Nat} {n : Nat} {a : Nat → Int32} : ∀ {l : List Nat}, cp_oo K n a l → ((∃ j, j < l.length ∧ a j = 3) ↔ ∃ b, b ∈ l ∧ K b = 6) := by
  intro l
  induction l with
  | nil => intro _; exact ⟨fun ⟨j, h, _⟩ => absurd h (Nat.not_lt_zero _), fun ⟨b, h, _⟩ => absurd h List.not_mem_nil⟩
  | cons b t ih =>
    intro h
    have h2 := ih h.2
    constructor
    · intro ⟨j, hj, h3⟩
      rw [List.length_cons] at hj
      by_cases e : j = t.length
      · subst e
        rcases h.1 with h1 | h1 | h1
        · exact ⟨b, List.mem_cons_self .., h1.1⟩
        · rw [h1.2.2] at h3; exact absurd h3 (by decide)
        · rw [h1.2.2] at h3; exact absurd h3 (by decide)
      · obtain ⟨b', hb', h6⟩ := h2.mp ⟨j, by omega, h3⟩
        exact ⟨b', List.mem_cons_of_mem _ hb', h6⟩
    · intro ⟨b', hb', h6⟩
      cases List.mem_cons.mp hb' with
      | inl e =>
        rcases h.1 with h1 | h1 | h1
        · exact ⟨t.length, by rw [List.length_cons]; omega, h1.2⟩
        · rw [e] at h6; omega
        · rw [e] at h6; omega
      | inr e =>
        obtain ⟨j, hj, h3⟩ := h2.mpr ⟨b', e, h6⟩
        exact ⟨j, by rw [List.length_cons]; omega, h3⟩
section
variable {xexpressionCount xstatementCount xopenCount xclosedLength xplace xstate xrandomSteps xrunWeight xending xbestWeight xbestCode xbestSteps : Int32} {xstackValues xkinds xvariables xnumbers xprogramValues xopen xblockOf xelseOf xendOf xroundsLeft xrunVisits xstateWeights : Nat → Int32} {xvisitSums : Nat → Int64} {K : Nat → Nat} {c : Nat}
theorem xb_allow {post : Int32 → Prop} {q : Nat} (W : cp_wf K c) (hq : q < 9) (hk : ∀ j, j < cp_M K c → xkinds j = nI (K j)) (hh : cp_hl xopen (cp_O K c)) (HL : cp_LK K (cp_M K c) xblockOf xelseOf xendOf)
    (h1 : cp_al K c q → post 1) (h0 : ¬ cp_al K c q → post 0) : wpX_blocksAllow post (xexpressionCount, xstatementCount, nI (cp_O K c).length, xclosedLength, xplace, xstate, xrandomSteps, xrunWeight, xending, xbestWeight, xbestCode, xbestSteps, xstackValues, xkinds, xvariables, xnumbers, xprogramValues, xopen, xblockOf, xelseOf, xendOf, xroundsLeft, xrunVisits, xstateWeights, xvisitSums) (nI q) := by
  have hM := cp_M_le W
  have hc24 := W.1
  have hlen := cp_len W c
  have hmem : ∀ b, b ∈ cp_O K c → b < 27 ∧ xkinds b = nI (K b) ∧ K b < 9 := fun b hb => by
    have h1 := (cp_O_mem hb).2.1
    have h2 := (W.2.2 b h1).1
    exact ⟨by omega, hk b (by omega), by omega⟩
  have h36 : (q = 4 ∨ q = 6) → wX_blocksAllow_36 post xexpressionCount xstatementCount (nI (cp_O K c).length) xclosedLength xplace xstate xrandomSteps xrunWeight xending xbestWeight xbestCode xbestSteps xstackValues xkinds xvariables xnumbers xprogramValues xopen xblockOf xelseOf xendOf xroundsLeft xrunVisits xstateWeights xvisitSums := fun hq46 => by
    unfold wX_blocksAllow_36
    refine pk_le 3 (cp_O K c).length (fun h => h0 fun z => ?_) (fun h => h1 ⟨fun _ => h, fun e => by omega, fun e => by omega, fun e => by omega⟩)
    have := z.1 hq46
    omega
  unfold wpX_blocksAllow
  refine pk_lt q 4 (fun h => h1 ⟨fun e => by omega, fun e => by omega, fun e => by omega, fun e => by omega⟩) (fun h4 => pk_lt 8 q (fun h => by omega) (fun _ => pk_eq q 4 (fun e => h36 (Or.inl e)) (fun n4 => pk_eq q 5 (fun e5 => ?_) (fun n5 => pk_eq q 6 (fun e => h36 (Or.inr e)) (fun n6 => pk_eq q 7 (fun e7 => ?_) (fun n7 => pk_eq q 8 (fun e8 => ?_) (fun _ => trivial)))))))
  · refine pk_le (cp_O K c).length 0 (fun h => h0 fun z => ?_) (fun h => ?_)
    · obtain ⟨b, t, e, _⟩ := z.2.1 e5
      rw [e, List.length_cons] at h
      omega
    · obtain ⟨b, t, ho⟩ := List.exists_cons_of_ne_nil (show cp_O K c ≠ [] from fun z => by rw [z] at h; exact absurd h (by decide))
      have hb := (cp_O_head ho).2.1
      obtain ⟨m1, m2, m3⟩ := hmem b (by rw [ho]; exact List.mem_cons_self ..)
      have hl1 : nI (cp_O K c).length - 1 = nI t.length := by rw [ho, List.length_cons, nI_pred]
      have hlt : t.length < 3 := by rw [ho, List.length_cons] at hlen; omega
      have hct : (nI t.length).toNatClampNeg = t.length := nI_clamp (by omega)
      have hop : xopen t.length = nI b := by rw [ho] at hh; exact hh.1
      have hcb : (nI b).toNatClampNeg = b := nI_clamp (by omega)
      have al : K b = 4 → ¬ cp_he K c b → cp_al K c q := fun a b' => ⟨fun e => by omega, fun _ => ⟨b, t, ho, a, b'⟩, fun e => by omega, fun e => by omega⟩
      have nal : ¬ (K b = 4 ∧ ¬ cp_he K c b) → ¬ cp_al K c q := fun h z => by
        obtain ⟨b', t', e1, e2, e3⟩ := z.2.1 e5
        rw [ho] at e1
        obtain ⟨rfl, rfl⟩ := List.cons.inj e1
        exact h ⟨e2, e3⟩
      rw [hl1]
      refine ⟨vp_in_nI hlt (by omega), ?_⟩
      rw [hct, hop]
      unfold wpX_awaitsElse
      refine ⟨vp_in_nI m1 (by omega), ?_⟩
      rw [hcb, m2]
      refine pk_eq (K b) 4 (fun k4 => ⟨vp_in_nI m1 (by omega), br_c (fun e => br_f (by decide) (h1 (al k4 ((lk_he W HL hb k4).mp e)))) (fun e => br_t rfl (h0 (nal fun z => e ((lk_he W HL hb k4).mpr z.2))))⟩) (fun k4 => br_t rfl (h0 (nal fun z => k4 z.1)))
  · refine xl_il (K := K) hh hlen hmem ?_
    by_cases hl : ∃ b, b ∈ cp_O K c ∧ K b = 6
    · obtain ⟨l1, b, t, e1, e2, e3, e4⟩ := il_some hl
      have hb := (cp_O_mem (show b ∈ cp_O K c by rw [e1]; exact List.mem_append_right _ (List.mem_cons_self ..))).2.1
      rw [e4]
      exact br_f (cp_m1_ne (by omega)) (h1 ⟨fun e => by omega, fun e => by omega, fun _ => hl, fun e => by omega⟩)
    · rw [il_none hl]
      exact br_t rfl (h0 fun z => hl (z.2.2.1 e7))
  · refine pk_le (cp_O K c).length 0 (fun h => h0 fun z => ?_) (fun h => h1 ⟨fun e => by omega, fun e => by omega, fun e => by omega, fun _ z => ?_⟩)
    · exact z.2.2.2 e8 (List.length_eq_zero_iff.mp (by omega))
    · rw [z] at h
      exact absurd h (by decide)
theorem xm_loop {post : SX → Prop} {h c : Nat} (hh : h < 6) (hc : c < 24) (H : post (xexpressionCount, xstatementCount, xopenCount, xclosedLength, xplace, xstate, xrandomSteps, xrunWeight, xending, xbestWeight, xbestCode, xbestSteps, xstackValues, xkinds, xvariables, xnumbers, cp_cpy xprogramValues (64 * c) (fun s => xstackValues (64 * h + s)) 64, xopen, xblockOf, xelseOf, xendOf, xroundsLeft, xrunVisits, xstateWeights, xvisitSums)) :
    ∀ (d s n : Nat), s + d = 64 → d < n → wX_moveTopTo_26 post (nI (64 * h)) (nI (64 * c)) xexpressionCount xstatementCount xopenCount xclosedLength xplace xstate xrandomSteps xrunWeight xending xbestWeight xbestCode xbestSteps n (nI s) xstackValues xkinds xvariables xnumbers (cp_cpy xprogramValues (64 * c) (fun s => xstackValues (64 * h + s)) s) xopen xblockOf xelseOf xendOf xroundsLeft xrunVisits xstateWeights xvisitSums := by
  intro d
  induction d with
  | zero =>
    intro s n hs hn
    obtain ⟨m, rfl⟩ : ∃ m, n = m + 1 := ⟨n - 1, by omega⟩
    have e : s = 64 := by omega
    subst e
    rw [wX_moveTopTo_26]
    exact br_t (by decide) H
  | succ d ih =>
    intro s n hs hn
    obtain ⟨m, rfl⟩ : ∃ m, n = m + 1 := ⟨n - 1, by omega⟩
    have go := ih (s + 1) m (by omega) (by omega)
    rw [wX_moveTopTo_26]
    dsimp only
    rw [nI_add, nI_add]
    exact br_f (nI_ge (b := 64) (by omega) (by decide)) ⟨vp_in_nI (by omega) (by omega), vp_in_nI (by omega) (by omega), nm_r (by rw [nI_clamp (by omega), nI_clamp (by omega)]; rfl) (nm_r (nI_1 s) go)⟩
theorem xm_move {post : SX → Prop} {h c : Nat} (hh : h < 6) (hc : c < 24) (H : post (nI h, xstatementCount, xopenCount, xclosedLength, xplace, xstate, xrandomSteps, xrunWeight, xending, xbestWeight, xbestCode, xbestSteps, xstackValues, xkinds, xvariables, xnumbers, cp_cpy xprogramValues (64 * c) (fun s => xstackValues (64 * h + s)) 64, xopen, xblockOf, xelseOf, xendOf, xroundsLeft, xrunVisits, xstateWeights, xvisitSums)) : wpX_moveTopTo post (nI (h + 1), xstatementCount, xopenCount, xclosedLength, xplace, xstate, xrandomSteps, xrunWeight, xending, xbestWeight, xbestCode, xbestSteps, xstackValues, xkinds, xvariables, xnumbers, xprogramValues, xopen, xblockOf, xelseOf, xendOf, xroundsLeft, xrunVisits, xstateWeights, xvisitSums) (nI c) := by
  unfold wpX_moveTopTo
  refine nm_r (nI_pred h) (nm_r (e' := nI (64 * h)) (by show _ * nI 64 = _; rw [pk_mul, Nat.mul_comm]) (nm_r (e' := nI (64 * c)) (by show _ * nI 64 = _; rw [pk_mul, Nat.mul_comm]) ⟨65, ?_⟩))
  exact xm_loop hh hc H 64 0 65 (by omega) (by omega)
end
section
variable {yheight ycount yopen yat ydepth ystate ysteps yproduct yend ymost ymostRow ymostSteps : Int32} {ystack ykinds yvariables ynumbers yvalues yopened ybegins yleft youtcomes ymet ysums : Nat → Int32} {yvisited : Nat → Int64} {K : Nat → Nat} {c : Nat}
theorem yo_99 {post : SY → Prop} {J : Int32 → Int32 → (Nat → Int32) → (Nat → Int32) → (Nat → Int32) → (Nat → Int32) → (Nat → Int32) → (Nat → Int32) → (Nat → Int32) → (Nat → Int32) → (Nat → Int32) → (Nat → Int32) → (Nat → Int32) → (Nat → Int64) → Prop} {i m m' : Nat} (hi : i < 24) (hk : ykinds i = nI (K i)) (hK : K i ≤ 8) (h8 : K i = 8 → m = m' + 1) (hn : K i ≠ 8 → m = m')
    (H : J (nI (i + 1)) (nI m') ystack ykinds yvariables ynumbers yvalues yopened ybegins yleft youtcomes ymet ysums yvisited) : wY_findOpen_99 post J (nI i) yheight ycount (nI m) yat ydepth ystate ysteps yproduct yend ymost ymostRow ymostSteps ystack ykinds yvariables ynumbers yvalues yopened ybegins yleft youtcomes ymet ysums yvisited := by
  unfold wY_findOpen_99
  refine ⟨vp_in_nI hi (by omega), ?_⟩
  rw [nI_clamp (by omega), hk]
  refine pk_eq (K i) 8 (fun e => ?_) (fun e => ?_)
  · rw [h8 e]
    exact nm_r (nI_pred m') (nm_r (nI_1 i) H)
  · rw [hn e]
    exact nm_r (nI_1 i) H
theorem yo_loop {post : SY → Prop} (W : cp_wf K c) (hk : ∀ j, j < c → ykinds j = nI (K j)) (H : ∀ op : Nat → Int32, cp_oo K c op (cp_O K c) → post (yheight, nI c, nI (cp_O K c).length, yat, ydepth, ystate, ysteps, yproduct, yend, ymost, ymostRow, ymostSteps, ystack, ykinds, yvariables, ynumbers, yvalues, op, ybegins, yleft, youtcomes, ymet, ysums, yvisited)) :
    ∀ (d i n : Nat) (op : Nat → Int32), i + d = c → d < n → cp_oo K i op (cp_O K i) → wY_findOpen_7 post yheight (nI c) yat ydepth ystate ysteps yproduct yend ymost ymostRow ymostSteps n (nI i) (nI (cp_O K i).length) ystack ykinds yvariables ynumbers yvalues op ybegins yleft youtcomes ymet ysums yvisited := by
  have hc24 := W.1
  intro d
  induction d with
  | zero =>
    intro i n op hi hn h
    obtain ⟨m, rfl⟩ : ∃ m, n = m + 1 := ⟨n - 1, by omega⟩
    have e : i = c := by omega
    subst e
    rw [wY_findOpen_7]
    exact br_t (nI_le (Nat.le_refl _) (by omega)) (H op h)
  | succ d ih =>
    intro i n op hi hn h
    obtain ⟨m, rfl⟩ : ∃ m, n = m + 1 := ⟨n - 1, by omega⟩
    have hic : i < c := by omega
    obtain ⟨k8, kin, k5, k7, kE⟩ := W.2.2 i hic
    have hlen := cp_len W i
    have hci : (nI i).toNatClampNeg = i := nI_clamp (by omega)
    have vpi : vp_in (nI i) 24 := vp_in_nI (by omega) (by omega)
    have hki := hk i hic
    have h70 : ∀ (mm : Nat) (op' : Nat → Int32), K i ≠ 5 → (K i = 8 → mm = (cp_O K (i + 1)).length + 1) → (K i ≠ 8 → mm = (cp_O K (i + 1)).length) → cp_oo K (i + 1) op' (cp_O K (i + 1)) →
        wY_findOpen_70 post (wY_findOpen_7 post yheight (nI c) yat ydepth ystate ysteps yproduct yend ymost ymostRow ymostSteps m) (nI i) yheight (nI c) (nI mm) yat ydepth ystate ysteps yproduct yend ymost ymostRow ymostSteps ystack ykinds yvariables ynumbers yvalues op' ybegins yleft youtcomes ymet ysums yvisited := by
      intro mm op' n5 e8 n8 hoo
      unfold wY_findOpen_70
      refine ⟨vpi, ?_⟩
      rw [hci, hki]
      exact pk_eq (K i) 5 (fun z => absurd z n5) (fun _ => yo_99 (K := K) (by omega) hki k8 e8 n8 (ih (i + 1) m op' (by omega) (by omega) hoo))
    have h36 : (K i = 4 ∨ K i = 6) → wY_findOpen_36 post (wY_findOpen_7 post yheight (nI c) yat ydepth ystate ysteps yproduct yend ymost ymostRow ymostSteps m) (nI i) yheight (nI c) (nI (cp_O K i).length) yat ydepth ystate ysteps yproduct yend ymost ymostRow ymostSteps ystack ykinds yvariables ynumbers yvalues op ybegins yleft youtcomes ymet ysums yvisited := by
      intro h46
      have hl3 := kin h46
      have hO := cp_O_in h46
      have hcl : (nI (cp_O K i).length).toNatClampNeg = (cp_O K i).length := nI_clamp (by omega)
      have hnhe : ¬ cp_he K (i + 1) i := fun ⟨q, q1, q2, q3⟩ => by
        have := (cp_O_head q3).2.1
        omega
      have hst : cp_oo K (i + 1) op (cp_O K i) := oo_st (fun b _ => he_st (Or.inl (by omega))) h
      have h59 : ∀ x : Int32, (K i = 6 ∧ x = 3 ∨ K i = 4 ∧ x = 1) → wY_findOpen_59 post (wY_findOpen_7 post yheight (nI c) yat ydepth ystate ysteps yproduct yend ymost ymostRow ymostSteps m) (nI i) x (nI (cp_O K i).length) yheight (nI c) (nI (cp_O K i).length) yat ydepth ystate ysteps yproduct yend ymost ymostRow ymostSteps ystack ykinds yvariables ynumbers yvalues op ybegins yleft youtcomes ymet ysums yvisited := by
        intro x hx
        unfold wY_findOpen_59
        refine ⟨vp_in_nI hl3 (by omega), nm_r (by rw [hcl]) (nm_r (nI_1 _) (h70 _ _ (by omega) (fun e => by omega) (fun _ => by rw [hO, List.length_cons]) ?_))⟩
        rw [hO]
        refine ⟨?_, oo_upd (fun b _ => Iff.rfl) hst (Nat.le_refl _)⟩
        rw [pk_us]
        rcases hx with hx | hx
        · exact Or.inl hx
        · exact Or.inr (Or.inr ⟨hx.1, hnhe, hx.2⟩)
      unfold wY_findOpen_36
      refine ⟨vpi, ?_⟩
      rw [hci, hki]
      exact pk_eq (K i) 4 (fun e => h59 1 (Or.inr ⟨e, rfl⟩)) (fun e => h59 3 (Or.inl ⟨by omega, rfl⟩))
    rw [wY_findOpen_7]
    refine br_f (nI_ge hic (by omega)) ⟨vpi, ?_⟩
    rw [hci, hki]
    refine pk_eq (K i) 4 (fun e => h36 (Or.inl e)) (fun n4 => ⟨vpi, pk_eq (K i) 6 (fun e => h36 (Or.inr e)) (fun n6 => ?_)⟩)
    by_cases e5 : K i = 5
    · obtain ⟨b, t, ho, hb4, hu⟩ := k5 e5
      have hO := cp_O_st (K := K) (p := i) (by omega) (by omega) (by omega)
      have hlt : t.length < 3 := by rw [ho, List.length_cons] at hlen; omega
      have hl1 : nI (cp_O K i).length - 1 = nI t.length := by rw [ho, List.length_cons, nI_pred]
      have hct : (nI t.length).toNatClampNeg = t.length := nI_clamp (by omega)
      have hoo : cp_oo K (i + 1) (upd op t.length 2) (cp_O K (i + 1)) := by
        have ht := (cp_O_head ho).1
        rw [hO, ho]
        rw [ho] at h
        refine ⟨Or.inr (Or.inl ⟨hb4, ⟨i, by omega, e5, by rw [ho, ht]⟩, pk_us⟩), oo_upd (fun b' hb' => he_st (Or.inr fun z => ?_)) h.2 (Nat.le_refl _)⟩
        rw [ho] at z
        have e1 := (List.cons.inj z).1
        rw [← e1, ht] at hb'
        exact cp_O_self K b hb'
      unfold wY_findOpen_70
      refine ⟨vpi, ?_⟩
      rw [hci, hki]
      refine pk_eq (K i) 5 (fun _ => br_f (by rw [ho, List.length_cons]; exact nI_nle (by omega) (by omega)) ?_) (fun z => absurd e5 z)
      rw [hl1]
      exact ⟨vp_in_nI hlt (by omega), nm_r (by rw [hct]) (yo_99 (K := K) (m' := (cp_O K (i + 1)).length) (by omega) hki k8 (fun e => by omega) (fun _ => by rw [hO]) (ih (i + 1) m _ (by omega) (by omega) hoo))⟩
    · by_cases e8 : K i = 8
      · obtain ⟨b, t, ho⟩ := List.exists_cons_of_ne_nil (kE e8)
        have hO : cp_O K (i + 1) = t := by rw [cp_O_end e8, ho, List.tail_cons]
        refine h70 _ _ e5 (fun _ => by rw [hO, ho, List.length_cons]) (fun z => absurd e8 z) ?_
        rw [hO]
        rw [ho] at h
        exact oo_st (fun b _ => he_st (Or.inl e5)) h.2
      · have hO := cp_O_st (K := K) (p := i) n4 n6 e8
        refine h70 _ _ e5 (fun z => absurd z e8) (fun _ => by rw [hO]) ?_
        rw [hO]
        exact oo_st (fun b _ => he_st (Or.inl e5)) h
theorem yo_in {post : Int32 → Prop} {len : Nat} (hl : len ≤ 3) (h1 : (∃ j, j < len ∧ yopened j = 3) → post 1) (h0 : (¬ ∃ j, j < len ∧ yopened j = 3) → post 0) :
    ∀ (d k n : Nat) (x1 : Int32), k + d = len → d < n → ((x1 = 1 ∧ ∃ j, j < k ∧ yopened j = 3) ∨ (x1 = 0 ∧ ¬ ∃ j, j < k ∧ yopened j = 3)) → wY_inLoop_4 post yheight ycount (nI len) yat ydepth ystate ysteps yproduct yend ymost ymostRow ymostSteps ystack ykinds yvariables ynumbers yvalues yopened ybegins yleft youtcomes ymet ysums yvisited n x1 (nI k) := by
  intro d
  induction d with
  | zero =>
    intro k n x1 hk hn h
    obtain ⟨m, rfl⟩ : ∃ m, n = m + 1 := ⟨n - 1, by omega⟩
    have e : k = len := by omega
    subst e
    rw [wY_inLoop_4]
    refine br_t (nI_le (Nat.le_refl _) (by omega)) ?_
    rcases h with ⟨rfl, h⟩ | ⟨rfl, h⟩
    · exact ⟨rfl, h1 h⟩
    · exact ⟨rfl, h0 h⟩
  | succ d ih =>
    intro k n x1 hk hn h
    obtain ⟨m, rfl⟩ : ∃ m, n = m + 1 := ⟨n - 1, by omega⟩
    have hck : (nI k).toNatClampNeg = k := nI_clamp (by omega)
    rw [wY_inLoop_4]
    refine br_f (nI_ge (by omega) (by omega)) ?_
    rcases h with ⟨rfl, j, hj, h3⟩ | ⟨rfl, h⟩
    · exact br_f (by decide) (nm_r (nI_1 k) (ih (k + 1) m 1 (by omega) (by omega) (Or.inl ⟨rfl, j, by omega, h3⟩)))
    · refine br_t rfl ⟨vp_in_nI (by omega) (by omega), ?_⟩
      rw [hck]
      refine br_c (fun e => nm_r (nI_1 k) (ih (k + 1) m 1 (by omega) (by omega) (Or.inl ⟨rfl, k, by omega, e⟩))) (fun e => nm_r (nI_1 k) (ih (k + 1) m 0 (by omega) (by omega) (Or.inr ⟨rfl, fun ⟨j, hj, h3⟩ => ?_⟩)))
      by_cases e2 : j = k
      · subst e2; exact e h3
      · exact h ⟨j, by omega, h3⟩
theorem yo_mis {post : Int32 → SY → Prop} {q : Nat} (W : cp_wf K c) (hq : q < 9) (hk : ∀ j, j < c → ykinds j = nI (K j))
    (h1 : ¬ cp_al K c q → ∀ op : Nat → Int32, post 1 (yheight, nI c, nI (cp_O K c).length, yat, ydepth, ystate, ysteps, yproduct, yend, ymost, ymostRow, ymostSteps, ystack, ykinds, yvariables, ynumbers, yvalues, op, ybegins, yleft, youtcomes, ymet, ysums, yvisited)) (h0 : cp_al K c q → ∀ op : Nat → Int32, post 0 (yheight, nI c, nI (cp_O K c).length, yat, ydepth, ystate, ysteps, yproduct, yend, ymost, ymostRow, ymostSteps, ystack, ykinds, yvariables, ynumbers, yvalues, op, ybegins, yleft, youtcomes, ymet, ysums, yvisited)) : wpY_isMisplaced post (yheight, nI c, yopen, yat, ydepth, ystate, ysteps, yproduct, yend, ymost, ymostRow, ymostSteps, ystack, ykinds, yvariables, ynumbers, yvalues, yopened, ybegins, yleft, youtcomes, ymet, ysums, yvisited) (nI q) := by
  have hlen := cp_len W c
  unfold wpY_isMisplaced wpY_findOpen
  refine ⟨c + 1, yo_loop W hk (fun op hoo => ?_) c 0 (c + 1) yopened (by omega) (by omega) trivial⟩
  have h15 : (q = 4 ∨ q = 6) → wY_isMisplaced_15 post yheight (nI c) (nI (cp_O K c).length) yat ydepth ystate ysteps yproduct yend ymost ymostRow ymostSteps ystack ykinds yvariables ynumbers yvalues op ybegins yleft youtcomes ymet ysums yvisited := fun hq46 => by
    unfold wY_isMisplaced_15
    refine pk_eq (cp_O K c).length 3 (fun h => h1 (fun z => ?_) op) (fun h => h0 ⟨fun _ => by omega, fun e => by omega, fun e => by omega, fun e => by omega⟩ op)
    have := z.1 hq46
    omega
  refine pk_eq q 4 (fun e => h15 (Or.inl e)) (fun n4 => pk_eq q 6 (fun e => h15 (Or.inr e)) (fun n6 => pk_eq q 5 (fun e5 => ?_) (fun n5 => pk_eq q 7 (fun e7 => ?_) (fun n7 => pk_eq q 8 (fun e8 => ?_) (fun n8 => h0 ⟨fun e => by omega, fun e => by omega, fun e => by omega, fun e => by omega⟩ op)))))
  · refine pk_eq (cp_O K c).length 0 (fun h => h1 (fun z => ?_) op) (fun h => ?_)
    · obtain ⟨b, t, e, _⟩ := z.2.1 e5
      rw [e, List.length_cons] at h
      omega
    · obtain ⟨b, t, ho⟩ := List.exists_cons_of_ne_nil (show cp_O K c ≠ [] from fun z => h (by rw [z]; rfl))
      have hl1 : nI (cp_O K c).length - 1 = nI t.length := by rw [ho, List.length_cons, nI_pred]
      have hlt : t.length < 3 := by rw [ho, List.length_cons] at hlen; omega
      have hct : (nI t.length).toNatClampNeg = t.length := nI_clamp (by omega)
      have nal : ¬ (K b = 4 ∧ ¬ cp_he K c b) → ¬ cp_al K c q := fun h z => by
        obtain ⟨b', t', e1, e2, e3⟩ := z.2.1 e5
        rw [ho] at e1
        obtain ⟨rfl, rfl⟩ := List.cons.inj e1
        exact h ⟨e2, e3⟩
      have hoo1 := hoo
      rw [ho] at hoo1
      rw [hl1]
      refine ⟨vp_in_nI hlt (by omega), ?_⟩
      rw [hct]
      rcases hoo1.1 with h2 | h2 | h2
      · rw [h2.2]
        exact br_f (by decide) (h1 (nal fun z => by have := z.1; omega) op)
      · rw [h2.2.2]
        exact br_f (by decide) (h1 (nal fun z => z.2 h2.2.1) op)
      · rw [h2.2.2]
        exact br_t rfl (h0 ⟨fun e => by omega, fun _ => ⟨b, t, ho, h2.1, h2.2.1⟩, fun e => by omega, fun e => by omega⟩ op)
  · unfold wpY_inLoop
    have hiff := oo_loop hoo
    exact ⟨5, yo_in (len := (cp_O K c).length) (yopened := op) hlen (fun h => br_f (by decide) (h0 ⟨fun e => by omega, fun e => by omega, fun _ => hiff.mp h, fun e => by omega⟩ op)) (fun h => br_t rfl (h1 (fun z => h (hiff.mpr (z.2.2.1 e7))) op)) (cp_O K c).length 0 5 0 (by omega) (by omega) (Or.inr ⟨rfl, fun ⟨j, hj, _⟩ => absurd hj (by omega)⟩)⟩
  · refine pk_eq (cp_O K c).length 0 (fun h => h1 (fun z => ?_) op) (fun h => h0 ⟨fun e => by omega, fun e => by omega, fun e => by omega, fun _ z => h (by rw [z]; rfl)⟩ op)
    exact z.2.2.2 e8 (List.length_eq_zero_iff.mp h)
end
end
section
/-! the relation -/
theorem cp_lt23 (a : Int32) : 2 < a ↔ 3 ≤ a := by
  rw [Int32.lt_iff_toInt_lt, Int32.le_iff_toInt_le, show (2 : Int32).toInt = 2 from by decide, show (3 : Int32).toInt = 3 from by decide]
  omega
theorem cp_lt34 (a : Int32) : 3 < a ↔ 4 ≤ a := by
  rw [Int32.lt_iff_toInt_lt, Int32.le_iff_toInt_le, show (3 : Int32).toInt = 3 from by decide, show (4 : Int32).toInt = 4 from by decide]
  omega
theorem cp_in {a : Int32} {n : Nat} (hn : n < 2 ^ 31) (h0 : ¬ a < 0) (h : ¬ nI n ≤ a) : ∃ j, j < n ∧ a = nI j := by
  rcases pk_ix a hn with h1 | h1 | h1
  · exact absurd h1 h0
  · exact absurd h1 h
  · exact h1
theorem cp_dat0 (A N : Nat → Nat) (V : Nat → Nat → Nat) : cp_dat (fun _ => 8) A N V := fun q => by
  dsimp only
  exact ⟨fun z => absurd z (by omega), fun z => absurd z (by omega), fun z => absurd z (by omega), fun z => absurd z (by omega)⟩
def cp_F (h c : Nat) (K A N : Nat → Nat) (V : Nat → Nat → Nat) (xst xk xv xn xp xop xb xel xen yk yv yn yvl : Nat → Int32) : Prop :=
  h ≤ 6 ∧ cp_4 xst ∧ cp_wf K c ∧ cp_dat K A N V ∧ cp_hl xop (cp_O K c) ∧ cp_LK K (cp_M K c) xb xel xen ∧ cp_XA K A N V (cp_M K c) c xk xv xn xp ∧ cp_XA K A N V c c yk yv yn yvl
/-- the two objects hold the same stack and the same program; the component's links are those of the program -/
def i_Rel (_ : Nat) (u : SX) (v : SY) : Prop :=
  ∃ (h c : Nat) (K A N : Nat → Nat) (V : Nat → Nat → Nat), ∃ (xplace xstate xrandomSteps xrunWeight xending xbestWeight xbestCode xbestSteps : Int32) (xstackValues xkinds xvariables xnumbers xprogramValues xopen xblockOf xelseOf xendOf xroundsLeft xrunVisits xstateWeights : Nat → Int32) (xvisitSums : Nat → Int64), ∃ (yopen yat ydepth ystate ysteps yproduct yend ymost ymostRow ymostSteps : Int32) (ykinds yvariables ynumbers yvalues yopened ybegins yleft youtcomes ymet ysums : Nat → Int32) (yvisited : Nat → Int64),
    u = (nI h, nI c, nI (cp_O K c).length, nI (cp_M K c), xplace, xstate, xrandomSteps, xrunWeight, xending, xbestWeight, xbestCode, xbestSteps, xstackValues, xkinds, xvariables, xnumbers, xprogramValues, xopen, xblockOf, xelseOf, xendOf, xroundsLeft, xrunVisits, xstateWeights, xvisitSums) ∧ v = (nI h, nI c, yopen, yat, ydepth, ystate, ysteps, yproduct, yend, ymost, ymostRow, ymostSteps, xstackValues, ykinds, yvariables, ynumbers, yvalues, yopened, ybegins, yleft, youtcomes, ymet, ysums, yvisited) ∧
    cp_F h c K A N V xstackValues xkinds xvariables xnumbers xprogramValues xopen xblockOf xelseOf xendOf ykinds yvariables ynumbers yvalues
theorem i_up {k : Nat} {u : SX} {v : SY} (h : i_Rel k u v) : i_Rel (k + 5) u v := h
section
variable {xexpressionCount xstatementCount xopenCount xclosedLength xplace xstate xrandomSteps xrunWeight xending xbestWeight xbestCode xbestSteps : Int32} {xstackValues xkinds xvariables xnumbers xprogramValues xopen xblockOf xelseOf xendOf xroundsLeft xrunVisits xstateWeights : Nat → Int32} {xvisitSums : Nat → Int64} {yheight ycount yopen yat ydepth ystate ysteps yproduct yend ymost ymostRow ymostSteps : Int32} {ykinds yvariables ynumbers yvalues yopened ybegins yleft youtcomes ymet ysums : Nat → Int32} {yvisited : Nat → Int64} {h c : Nat} {K A N : Nat → Nat} {V : Nat → Nat → Nat}
theorem re_mk (k : Nat) (Fh : cp_F h c K A N V xstackValues xkinds xvariables xnumbers xprogramValues xopen xblockOf xelseOf xendOf ykinds yvariables ynumbers yvalues) :
    i_Rel k (nI h, nI c, nI (cp_O K c).length, nI (cp_M K c), xplace, xstate, xrandomSteps, xrunWeight, xending, xbestWeight, xbestCode, xbestSteps, xstackValues, xkinds, xvariables, xnumbers, xprogramValues, xopen, xblockOf, xelseOf, xendOf, xroundsLeft, xrunVisits, xstateWeights, xvisitSums) (nI h, nI c, yopen, yat, ydepth, ystate, ysteps, yproduct, yend, ymost, ymostRow, ymostSteps, xstackValues, ykinds, yvariables, ynumbers, yvalues, yopened, ybegins, yleft, youtcomes, ymet, ysums, yvisited) :=
  ⟨h, c, K, A, N, V, xplace, xstate, xrandomSteps, xrunWeight, xending, xbestWeight, xbestCode, xbestSteps, xstackValues, xkinds, xvariables, xnumbers, xprogramValues, xopen, xblockOf, xelseOf, xendOf, xroundsLeft, xrunVisits, xstateWeights, xvisitSums, yopen, yat, ydepth, ystate, ysteps, yproduct, yend, ymost, ymostRow, ymostSteps, ykinds, yvariables, ynumbers, yvalues, yopened, ybegins, yleft, youtcomes, ymet, ysums, yvisited, rfl, rfl, Fh⟩
theorem re_G (Fh : cp_F h c K A N V xstackValues xkinds xvariables xnumbers xprogramValues xopen xblockOf xelseOf xendOf ykinds yvariables ynumbers yvalues) :
    ∃ E F B, cp_G K A N E F B V (cp_M K c) c ∧ cp_X K (cp_M K c) E F B xblockOf xelseOf xendOf := by
  obtain ⟨_, _, W, D, _, HL, _, _⟩ := Fh
  obtain ⟨E, F, B, T, HX⟩ := lk_T W HL
  exact ⟨E, F, B, ⟨W, rfl, T, D⟩, HX⟩
end
theorem i_vc0 : wpX_init (fun u => wpY_init (fun v => i_Rel 0 u v)) := by
  unfold wpX_init
  refine xl_all (c := 0) wf_0 (fun j hj => absurd hj (Nat.not_lt_zero j)) fun o' k' b' e' f' h1 h2 h3 => ?_
  exact re_mk (h := 0) (c := 0) (K := fun _ => 8) (A := fun _ => 0) (N := fun _ => 0) (V := fun _ _ => 0) 0 ⟨by omega, fun j => ⟨0, by omega, rfl⟩, wf_0, cp_dat0 _ _ _, h1, h3, ⟨h2, fun j hj => absurd hj (Nat.not_lt_zero j), fun j hj => absurd hj (Nat.not_lt_zero j), fun j hj => absurd hj (Nat.not_lt_zero j)⟩, ⟨fun j hj => absurd hj (Nat.not_lt_zero j), fun j hj => absurd hj (Nat.not_lt_zero j), fun j hj => absurd hj (Nat.not_lt_zero j), fun j hj => absurd hj (Nat.not_lt_zero j)⟩⟩
theorem i_vc_statements {k : Nat} {u : SX} {v : SY} (I : i_Rel k u v) (hk : k + 5 ≤ 2560) : wpX_statements (fun r => wpY_statements (fun r' => r' = r ∧ i_Rel (k + 5) u v) v) u := by
  have I' := I
  obtain ⟨h, c, K, A, N, V, xplace, xstate, xrandomSteps, xrunWeight, xending, xbestWeight, xbestCode, xbestSteps, xstackValues, xkinds, xvariables, xnumbers, xprogramValues, xopen, xblockOf, xelseOf, xendOf, xroundsLeft, xrunVisits, xstateWeights, xvisitSums, yopen, yat, ydepth, ystate, ysteps, yproduct, yend, ymost, ymostRow, ymostSteps, ykinds, yvariables, ynumbers, yvalues, yopened, ybegins, yleft, youtcomes, ymet, ysums, yvisited, rfl, rfl, Fh⟩ := I
  exact ⟨rfl, I'⟩
theorem i_vc_pop {k : Nat} {u : SX} {v : SY} (I : i_Rel k u v) (hk : k + 5 ≤ 2560) : wpX_pop (fun r u' => wpY_pop (fun r' v' => r' = r ∧ i_Rel (k + 5) u' v') v) u := by
  have I' := I
  obtain ⟨h, c, K, A, N, V, xplace, xstate, xrandomSteps, xrunWeight, xending, xbestWeight, xbestCode, xbestSteps, xstackValues, xkinds, xvariables, xnumbers, xprogramValues, xopen, xblockOf, xelseOf, xendOf, xroundsLeft, xrunVisits, xstateWeights, xvisitSums, yopen, yat, ydepth, ystate, ysteps, yproduct, yend, ymost, ymostRow, ymostSteps, ykinds, yvariables, ynumbers, yvalues, yopened, ybegins, yleft, youtcomes, ymet, ysums, yvisited, rfl, rfl, Fh⟩ := I
  have h6 := Fh.1
  unfold wpX_pop wpY_pop
  refine pk_eq h 0 (fun e => ?_) (fun e => ?_)
  · exact br_t (by rw [e]; rfl) ⟨rfl, I'⟩
  · obtain ⟨m, rfl⟩ : ∃ m, h = m + 1 := ⟨h - 1, by omega⟩
    refine nm_r (nI_pred m) (br_f (nI_ne0 (by omega) (by omega)) (nm_r (nI_pred m) ⟨rfl, re_mk (A := A) (N := N) (V := V) _ ?_⟩))
    exact ⟨by omega, Fh.2⟩
theorem i_vc_clear {k : Nat} {u : SX} {v : SY} (I : i_Rel k u v) (hk : k + 5 ≤ 2560) : wpX_clear (fun u' => wpY_clear (fun v' => i_Rel (k + 5) u' v') v) u := by
  obtain ⟨h, c, K, A, N, V, xplace, xstate, xrandomSteps, xrunWeight, xending, xbestWeight, xbestCode, xbestSteps, xstackValues, xkinds, xvariables, xnumbers, xprogramValues, xopen, xblockOf, xelseOf, xendOf, xroundsLeft, xrunVisits, xstateWeights, xvisitSums, yopen, yat, ydepth, ystate, ysteps, yproduct, yend, ymost, ymostRow, ymostSteps, ykinds, yvariables, ynumbers, yvalues, yopened, ybegins, yleft, youtcomes, ymet, ysums, yvisited, rfl, rfl, Fh⟩ := I
  unfold wpX_clear wpY_clear
  refine xl_all (c := 0) wf_0 (fun j hj => absurd hj (Nat.not_lt_zero j)) fun o' k' b' e' f' h1 h2 h3 => ?_
  exact re_mk (h := 0) (c := 0) (K := fun _ => 8) (A := fun _ => 0) (N := fun _ => 0) (V := fun _ _ => 0) _ ⟨by omega, Fh.2.1, wf_0, cp_dat0 _ _ _, h1, h3, ⟨h2, fun j hj => absurd hj (Nat.not_lt_zero j), fun j hj => absurd hj (Nat.not_lt_zero j), fun j hj => absurd hj (Nat.not_lt_zero j)⟩, ⟨fun j hj => absurd hj (Nat.not_lt_zero j), fun j hj => absurd hj (Nat.not_lt_zero j), fun j hj => absurd hj (Nat.not_lt_zero j), fun j hj => absurd hj (Nat.not_lt_zero j)⟩⟩
theorem i_vc_drop {k : Nat} {u : SX} {v : SY} (I : i_Rel k u v) (hk : k + 5 ≤ 2560) : wpX_drop (fun r u' => wpY_drop (fun r' v' => r' = r ∧ i_Rel (k + 5) u' v') v) u := by
  have I' := I
  obtain ⟨h, c, K, A, N, V, xplace, xstate, xrandomSteps, xrunWeight, xending, xbestWeight, xbestCode, xbestSteps, xstackValues, xkinds, xvariables, xnumbers, xprogramValues, xopen, xblockOf, xelseOf, xendOf, xroundsLeft, xrunVisits, xstateWeights, xvisitSums, yopen, yat, ydepth, ystate, ysteps, yproduct, yend, ymost, ymostRow, ymostSteps, ykinds, yvariables, ynumbers, yvalues, yopened, ybegins, yleft, youtcomes, ymet, ysums, yvisited, rfl, rfl, Fh⟩ := I
  have h24 := Fh.2.2.1.1
  unfold wpX_drop wpY_drop
  refine pk_eq c 0 (fun e => ?_) (fun e => ?_)
  · exact br_t (by rw [e]; rfl) ⟨rfl, I'⟩
  · obtain ⟨m, rfl⟩ : ∃ m, c = m + 1 := ⟨c - 1, by omega⟩
    obtain ⟨g1, g2, W, D, g5, g6, ⟨x1, x2, x3, x4⟩, ⟨y1, y2, y3, y4⟩⟩ := Fh
    have hM := cp_M_le W
    have W' := wf_drop W
    have hpn : ∀ j, j < m → cp_pt K m 8 j = K j := fun j hj => pt_n (by omega)
    refine nm_r (nI_pred m) (xl_all W' (fun j hj => by rw [hpn j hj]; exact x1 j (by omega)) fun o' k' b' e' f' h1 h2 h3 => br_f (nI_ne0 (by omega) (by omega)) (nm_r (nI_pred m) ⟨rfl, ?_⟩))
    refine re_mk (A := A) (N := N) (V := V) _ ⟨g1, g2, W', fun q => ?_, h1, h3, ⟨h2, fun j hj hk => ?_, fun j hj hk => ?_, fun j hj hk => ?_⟩, ⟨fun j hj => ?_, fun j hj hk => ?_, fun j hj hk => ?_, fun j hj hk => ?_⟩⟩
    · by_cases e2 : q = m
      · rw [e2, pt_c]
        exact ⟨fun z => absurd z (by decide), fun z => absurd z (by decide), fun z => absurd z (by decide), fun z => absurd z (by decide)⟩
      · rw [pt_n e2]
        exact D q
    · rw [hpn j hj] at hk; exact x2 j (by omega) hk
    · rw [hpn j hj] at hk; exact x3 j (by omega) hk
    · rw [hpn j hj] at hk; exact x4 j (by omega) hk
    · rw [hpn j hj]; exact y1 j (by omega)
    · rw [hpn j hj] at hk; exact y2 j (by omega) hk
    · rw [hpn j hj] at hk; exact y3 j (by omega) hk
    · rw [hpn j hj] at hk; exact y4 j (by omega) hk
theorem i_vc_tune {k : Nat} {u : SX} {v : SY} (I : i_Rel k u v) (hk : k + 5 ≤ 2560) (v1 : Int32) (v2 : Int32) : wpX_tune (fun r u' => wpY_tune (fun r' v' => r' = r ∧ i_Rel (k + 5) u' v') v v1 v2) u v1 v2 := by
  have I' := I
  obtain ⟨h, c, K, A, N, V, xplace, xstate, xrandomSteps, xrunWeight, xending, xbestWeight, xbestCode, xbestSteps, xstackValues, xkinds, xvariables, xnumbers, xprogramValues, xopen, xblockOf, xelseOf, xendOf, xroundsLeft, xrunVisits, xstateWeights, xvisitSums, yopen, yat, ydepth, ystate, ysteps, yproduct, yend, ymost, ymostRow, ymostSteps, ykinds, yvariables, ynumbers, yvalues, yopened, ybegins, yleft, youtcomes, ymet, ysums, yvisited, rfl, rfl, Fh⟩ := I
  obtain ⟨g1, g2, W, D, g5, g6, ⟨x1, x2, x3, x4⟩, ⟨y1, y2, y3, y4⟩⟩ := Fh
  have hM := cp_M_le W
  have h24 := W.1
  unfold wpX_tune wpX_isNumber wpY_tune
  rcases pk_ix v1 (show c < 2 ^ 31 by omega) with h1 | h1 | ⟨j, hj, rfl⟩
  · exact br_t h1 (br_t rfl (br_t h1 ⟨rfl, I'⟩))
  · by_cases h0 : v1 < 0
    · exact br_t h0 (br_t rfl (br_t h0 ⟨rfl, I'⟩))
    · exact br_f h0 (br_t h1 (br_t rfl (br_f h0 (br_t h1 ⟨rfl, I'⟩))))
  · have hcj : (nI j).toNatClampNeg = j := nI_clamp (by omega)
    have hK8 := (W.2.2 j hj).1
    have vpj : vp_in (nI j) 27 := vp_in_nI (by omega) (by omega)
    have vpj2 : vp_in (nI j) 24 := vp_in_nI (by omega) (by omega)
    refine br_f (nI_pos (by omega)) (br_f (nI_ge hj (by omega)) (br_f (by decide) ⟨vpj, ?_⟩))
    rw [hcj, x1 j (by omega)]
    have hY : ∀ P : Prop, P → P := fun _ p => p
    refine pk_eq (K j) 1 (fun e => br_c (fun hn => ?_) (fun hp => br_c (fun h16 => ⟨vpj, nm_r (x3 j hj (Or.inl e)) ⟨vpj, nm_e ?_⟩⟩) (fun h16 => ?_))) (fun e => ?_)
    · refine br_f (nI_pos (by omega)) (br_f (nI_ge hj (by omega)) ⟨vpj2, ?_⟩)
      rw [y1 j hj]
      exact pk_eq (K j) 1 (fun _ => br_t hn ⟨rfl, I'⟩) (fun z => absurd e z)
    · refine br_f (nI_pos (by omega)) (br_f (nI_ge hj (by omega)) ⟨vpj2, ?_⟩)
      rw [y1 j hj]
      refine pk_eq (K j) 1 (fun _ => br_f hp (br_t h16 ⟨vpj2, nm_r (y3 j hj (Or.inl e)) ⟨vpj2, nm_e ⟨rfl, ?_⟩⟩⟩)) (fun z => absurd e z)
      obtain ⟨w, hw, rfl⟩ := cp_in (n := 17) (by omega) hp (fun z => absurd (Int32.le_trans z h16) (by decide))
      refine re_mk (A := A) (N := cp_pt N j w) (V := V) _ ⟨g1, g2, W, fun q => ?_, g5, g6, ⟨x1, x2, fun i hi hk => ?_, x4⟩, ⟨y1, y2, fun i hi hk => ?_, y4⟩⟩
      · obtain ⟨d1, d2, d3, d4⟩ := D q
        by_cases e2 : q = j
        · subst e2
          rw [pt_c]
          exact ⟨d1, fun _ => by omega, fun z => by omega, d4⟩
        · rw [pt_n e2]
          exact ⟨d1, d2, d3, d4⟩
      · by_cases e2 : i = j
        · subst e2; rw [pk_us, pt_c]
        · rw [pk_un e2, pt_n e2]; exact x3 i hi hk
      · by_cases e2 : i = j
        · subst e2; rw [pk_us, pt_c]
        · rw [pk_un e2, pt_n e2]; exact y3 i hi hk
    · refine br_f (nI_pos (by omega)) (br_f (nI_ge hj (by omega)) ⟨vpj2, ?_⟩)
      rw [y1 j hj]
      exact pk_eq (K j) 1 (fun _ => br_f hp (br_f h16 ⟨rfl, I'⟩)) (fun z => absurd e z)
    · refine br_f (nI_pos (by omega)) (br_f (nI_ge hj (by omega)) ⟨vpj2, ?_⟩)
      rw [y1 j hj]
      exact pk_eq (K j) 1 (fun z => absurd z e) (fun _ => ⟨rfl, I'⟩)
end
section
/-! the questions -/
def cp_bv (x : Int32) : Prop := x < 0 ∨ 3 ≤ x
def cp_bk (x : Int32) : Prop := x < 0 ∨ 4 ≤ x
theorem bv_no {v : Nat} (h : v < 3) : ¬ cp_bv (nI v) := fun z => z.elim (nI_pos (by omega)) (nI_ge (b := 3) h (by decide))
theorem bk_no {v : Nat} (h : v < 4) : ¬ cp_bk (nI v) := fun z => z.elim (nI_pos (by omega)) (nI_ge (b := 4) h (by decide))
theorem xv_var {post : Int32 → Prop} {x : Int32} (h0 : cp_bv x → post 0) (h1 : ∀ v, v < 3 → x = nI v → post 1) : wpX_isVariable post x := by
  unfold wpX_isVariable
  refine br_c (fun h => h0 (Or.inl h)) (fun hn => br_c (fun h => h0 (Or.inr h)) (fun h => ?_))
  obtain ⟨v, hv, e⟩ := cp_in (n := 3) (by omega) hn h
  exact h1 v hv e
theorem xv_val {post : Int32 → Prop} {x : Int32} (h0 : cp_bk x → post 0) (h1 : ∀ v, v < 4 → x = nI v → post 1) : wpX_isValue post x := by
  unfold wpX_isValue
  refine br_c (fun h => h0 (Or.inl h)) (fun hn => br_c (fun h => h0 (Or.inr h)) (fun h => ?_))
  obtain ⟨v, hv, e⟩ := cp_in (n := 4) (by omega) hn h
  exact h1 v hv e
section
variable {yheight ycount yopen yat ydepth ystate ysteps yproduct yend ymost ymostRow ymostSteps : Int32} {ystack ykinds yvariables ynumbers yvalues yopened ybegins yleft youtcomes ymet ysums : Nat → Int32} {yvisited : Nat → Int64}
theorem yv_var {post : Int32 → Prop} {x : Int32} (h0 : cp_bv x → post 0) (h1 : ∀ v, v < 3 → x = nI v → post 1) : wpY_isVariable post (yheight, ycount, yopen, yat, ydepth, ystate, ysteps, yproduct, yend, ymost, ymostRow, ymostSteps, ystack, ykinds, yvariables, ynumbers, yvalues, yopened, ybegins, yleft, youtcomes, ymet, ysums, yvisited) x := by
  unfold wpY_isVariable
  refine br_c (fun h => h0 (Or.inl h)) (fun hn => br_c (fun h => h0 (Or.inr ((cp_lt23 x).mp h))) (fun h => ?_))
  obtain ⟨v, hv, e⟩ := cp_in (n := 3) (by omega) hn (fun z => h ((cp_lt23 x).mpr z))
  exact h1 v hv e
theorem yv_val {post : Int32 → Prop} {x : Int32} (h0 : cp_bk x → post 0) (h1 : ∀ v, v < 4 → x = nI v → post 1) : wpY_isValue post (yheight, ycount, yopen, yat, ydepth, ystate, ysteps, yproduct, yend, ymost, ymostRow, ymostSteps, ystack, ykinds, yvariables, ynumbers, yvalues, yopened, ybegins, yleft, youtcomes, ymet, ysums, yvisited) x := by
  unfold wpY_isValue
  refine br_c (fun h => h0 (Or.inl h)) (fun hn => br_c (fun h => h0 (Or.inr ((cp_lt34 x).mp h))) (fun h => ?_))
  obtain ⟨v, hv, e⟩ := cp_in (n := 4) (by omega) hn (fun z => h ((cp_lt34 x).mpr z))
  exact h1 v hv e
theorem yj_joint {post : Int32 → SY → Prop} {x1 x2 x3 x4 : Int32} (h0 : (cp_bv x1 ∨ cp_bk x2 ∨ cp_bv x3 ∨ cp_bk x4) → post (-1) (yheight, ycount, yopen, yat, ydepth, ystate, ysteps, yproduct, yend, ymost, ymostRow, ymostSteps, ystack, ykinds, yvariables, ynumbers, yvalues, yopened, ybegins, yleft, youtcomes, ymet, ysums, yvisited))
    (h1 : (¬ (cp_bv x1 ∨ cp_bk x2 ∨ cp_bv x3 ∨ cp_bk x4)) → wpY_work (fun u => wpY_total (fun r => post r u) u x1 x2 x3 x4) (yheight, ycount, yopen, yat, ydepth, ystate, ysteps, yproduct, yend, ymost, ymostRow, ymostSteps, ystack, ykinds, yvariables, ynumbers, yvalues, yopened, ybegins, yleft, youtcomes, ymet, ysums, yvisited)) : wpY_joint post (yheight, ycount, yopen, yat, ydepth, ystate, ysteps, yproduct, yend, ymost, ymostRow, ymostSteps, ystack, ykinds, yvariables, ynumbers, yvalues, yopened, ybegins, yleft, youtcomes, ymet, ysums, yvisited) x1 x2 x3 x4 := by
  unfold wpY_joint
  refine yv_var (fun b => br_t rfl (h0 (Or.inl b))) (fun a1 e1 f1 => br_f (by decide) (yv_val (fun b => br_t rfl (h0 (Or.inr (Or.inl b)))) (fun a2 e2 f2 => br_f (by decide) (yv_var (fun b => br_t rfl (h0 (Or.inr (Or.inr (Or.inl b))))) (fun a3 e3 f3 => br_f (by decide) (yv_val (fun b => br_t rfl (h0 (Or.inr (Or.inr (Or.inr b))))) (fun a4 e4 f4 => br_f (by decide) ?_)))))))
  subst f1 f2 f3 f4
  exact h1 (fun z => z.elim (bv_no e1) (fun z => z.elim (bk_no e2) (fun z => z.elim (bv_no e3) (bk_no e4))))
end
theorem si_Sm {R : Nat → cp_S} {K : Nat → Nat} {c n : Nat} {sw : Nat → Int32} {vs : Nat → Int64} (H : cp_TL R K c n sw vs) : cp_si sw 64 = nI (cp_sm (cp_Sm R n) 64) := by
  rw [← si_nI]
  exact si_congr 64 H.1
theorem kw_Sm {R : Nat → cp_S} {K : Nat → Nat} {c n v k w l : Nat} {sw : Nat → Int32} {vs : Nat → Int64} (H : cp_TL R K c n sw vs) : cp_kw v k w l sw 64 = nI (cp_sm (fun s => if s / 4 ^ v % 4 = k ∧ s / 4 ^ w % 4 = l then cp_Sm R n s else 0) 64) := kw_nat H.1
theorem kw_eq {R : Nat → cp_S} {K : Nat → Nat} {c n : Nat} {sw sw' : Nat → Int32} {vs vs' : Nat → Int64} (H : cp_TL R K c n sw vs) (H' : cp_TL R K c n sw' vs') (v k w l : Nat) : cp_kw v k w l sw' 64 = cp_kw v k w l sw 64 :=
  kw_congr fun s hs => by rw [H.1 s hs, H'.1 s hs]
theorem i_vc_weight {k : Nat} {u : SX} {v : SY} (I : i_Rel k u v) (hk : k + 5 ≤ 2560) : wpX_weight (fun r u' => wpY_weight (fun r' v' => r' = r ∧ i_Rel (k + 5) u' v') v) u := by
  obtain ⟨h, c, K, A, N, V, xplace, xstate, xrandomSteps, xrunWeight, xending, xbestWeight, xbestCode, xbestSteps, xstackValues, xkinds, xvariables, xnumbers, xprogramValues, xopen, xblockOf, xelseOf, xendOf, xroundsLeft, xrunVisits, xstateWeights, xvisitSums, yopen, yat, ydepth, ystate, ysteps, yproduct, yend, ymost, ymostRow, ymostSteps, ykinds, yvariables, ynumbers, yvalues, yopened, ybegins, yleft, youtcomes, ymet, ysums, yvisited, rfl, rfl, Fh⟩ := I
  obtain ⟨E, F, B, G, HX⟩ := re_G Fh
  unfold wpX_weight wpY_weight
  refine xt_all G HX Fh.2.2.2.2.2.2.1 fun pl st sp rw en rl rv sw vs HT => xq_kw ?_
  refine yw_all G Fh.2.2.2.2.2.2.2 fun pl' dp' st' sp' pr' en' mw' bg' lf' oc' mt' sw' vs' HT' _ => yq_wh ⟨?_, re_mk _ Fh⟩
  rw [si_Sm HT, si_Sm HT']
theorem i_vc_greatest {k : Nat} {u : SX} {v : SY} (I : i_Rel k u v) (hk : k + 5 ≤ 2560) : wpX_greatest (fun r u' => wpY_greatest (fun r' v' => r' = r ∧ i_Rel (k + 5) u' v') v) u := by
  obtain ⟨h, c, K, A, N, V, xplace, xstate, xrandomSteps, xrunWeight, xending, xbestWeight, xbestCode, xbestSteps, xstackValues, xkinds, xvariables, xnumbers, xprogramValues, xopen, xblockOf, xelseOf, xendOf, xroundsLeft, xrunVisits, xstateWeights, xvisitSums, yopen, yat, ydepth, ystate, ysteps, yproduct, yend, ymost, ymostRow, ymostSteps, ykinds, yvariables, ynumbers, yvalues, yopened, ybegins, yleft, youtcomes, ymet, ysums, yvisited, rfl, rfl, Fh⟩ := I
  obtain ⟨E, F, B, G, HX⟩ := re_G Fh
  unfold wpX_greatest wpY_greatest
  refine xt_all G HX Fh.2.2.2.2.2.2.1 fun pl st sp rw en rl rv sw vs HT => ?_
  exact yw_all G Fh.2.2.2.2.2.2.2 fun pl' dp' st' sp' pr' en' mw' bg' lf' oc' mt' sw' vs' HT' _ => ⟨rfl, re_mk _ Fh⟩
theorem i_vc_joint {k : Nat} {u : SX} {v : SY} (I : i_Rel k u v) (hk : k + 5 ≤ 2560) (v1 : Int32) (v2 : Int32) (v3 : Int32) (v4 : Int32) : wpX_joint (fun r u' => wpY_joint (fun r' v' => r' = r ∧ i_Rel (k + 5) u' v') v v1 v2 v3 v4) u v1 v2 v3 v4 := by
  have I' := I
  obtain ⟨h, c, K, A, N, V, xplace, xstate, xrandomSteps, xrunWeight, xending, xbestWeight, xbestCode, xbestSteps, xstackValues, xkinds, xvariables, xnumbers, xprogramValues, xopen, xblockOf, xelseOf, xendOf, xroundsLeft, xrunVisits, xstateWeights, xvisitSums, yopen, yat, ydepth, ystate, ysteps, yproduct, yend, ymost, ymostRow, ymostSteps, ykinds, yvariables, ynumbers, yvalues, yopened, ybegins, yleft, youtcomes, ymet, ysums, yvisited, rfl, rfl, Fh⟩ := I
  obtain ⟨E, F, B, G, HX⟩ := re_G Fh
  unfold wpX_joint
  refine xv_var (fun b => br_t rfl (yj_joint (fun _ => ⟨rfl, I'⟩) (fun z => absurd (Or.inl b) z))) (fun a1 e1 f1 => br_f (by decide) (xv_val (fun b => br_t rfl (yj_joint (fun _ => ⟨rfl, I'⟩) (fun z => absurd (Or.inr (Or.inl b)) z))) (fun a2 e2 f2 => br_f (by decide) (xv_var (fun b => br_t rfl (yj_joint (fun _ => ⟨rfl, I'⟩) (fun z => absurd (Or.inr (Or.inr (Or.inl b))) z))) (fun a3 e3 f3 => br_f (by decide) (xv_val (fun b => br_t rfl (yj_joint (fun _ => ⟨rfl, I'⟩) (fun z => absurd (Or.inr (Or.inr (Or.inr b))) z))) (fun a4 e4 f4 => br_f (by decide) ?_)))))))
  subst f1 f2 f3 f4
  refine xt_all G HX Fh.2.2.2.2.2.2.1 fun pl st sp rw en rl rv sw vs HT => xq_ww e1 e2 e3 e4 ?_
  refine yj_joint (fun z => absurd z (fun z => z.elim (bv_no e1) (fun z => z.elim (bk_no e2) (fun z => z.elim (bv_no e3) (bk_no e4))))) (fun _ => ?_)
  exact yw_all G Fh.2.2.2.2.2.2.2 fun pl' dp' st' sp' pr' en' mw' bg' lf' oc' mt' sw' vs' HT' _ => yq_to e1 e2 e3 e4 ⟨kw_eq HT HT' _ _ _ _, re_mk _ Fh⟩
theorem i_vc_weightOf {k : Nat} {u : SX} {v : SY} (I : i_Rel k u v) (hk : k + 5 ≤ 2560) (v1 : Int32) (v2 : Int32) : wpX_weightOf (fun r u' => wpY_weightOf (fun r' v' => r' = r ∧ i_Rel (k + 5) u' v') v v1 v2) u v1 v2 := by
  have I' := I
  obtain ⟨h, c, K, A, N, V, xplace, xstate, xrandomSteps, xrunWeight, xending, xbestWeight, xbestCode, xbestSteps, xstackValues, xkinds, xvariables, xnumbers, xprogramValues, xopen, xblockOf, xelseOf, xendOf, xroundsLeft, xrunVisits, xstateWeights, xvisitSums, yopen, yat, ydepth, ystate, ysteps, yproduct, yend, ymost, ymostRow, ymostSteps, ykinds, yvariables, ynumbers, yvalues, yopened, ybegins, yleft, youtcomes, ymet, ysums, yvisited, rfl, rfl, Fh⟩ := I
  obtain ⟨E, F, B, G, HX⟩ := re_G Fh
  unfold wpX_weightOf wpY_weightOf
  refine xv_var (fun b => br_t rfl (yj_joint (fun _ => ⟨rfl, I'⟩) (fun z => absurd (Or.inl b) z))) (fun a1 e1 f1 => br_f (by decide) (xv_val (fun b => br_t rfl (yj_joint (fun _ => ⟨rfl, I'⟩) (fun z => absurd (Or.inr (Or.inl b)) z))) (fun a2 e2 f2 => br_f (by decide) ?_)))
  subst f1 f2
  refine xt_all G HX Fh.2.2.2.2.2.2.1 fun pl st sp rw en rl rv sw vs HT => xq_ww e1 e2 e1 e2 ?_
  refine yj_joint (fun z => absurd z (fun z => z.elim (bv_no e1) (fun z => z.elim (bk_no e2) (fun z => z.elim (bv_no e1) (bk_no e2))))) (fun _ => ?_)
  exact yw_all G Fh.2.2.2.2.2.2.2 fun pl' dp' st' sp' pr' en' mw' bg' lf' oc' mt' sw' vs' HT' _ => yq_to e1 e2 e1 e2 ⟨kw_eq HT HT' _ _ _ _, re_mk _ Fh⟩
theorem i_vc_expected {k : Nat} {u : SX} {v : SY} (I : i_Rel k u v) (hk : k + 5 ≤ 2560) (v1 : Int32) : wpX_expected (fun r u' => wpY_expected (fun r' v' => r' = r ∧ i_Rel (k + 5) u' v') v v1) u v1 := by
  have I' := I
  obtain ⟨h, c, K, A, N, V, xplace, xstate, xrandomSteps, xrunWeight, xending, xbestWeight, xbestCode, xbestSteps, xstackValues, xkinds, xvariables, xnumbers, xprogramValues, xopen, xblockOf, xelseOf, xendOf, xroundsLeft, xrunVisits, xstateWeights, xvisitSums, yopen, yat, ydepth, ystate, ysteps, yproduct, yend, ymost, ymostRow, ymostSteps, ykinds, yvariables, ynumbers, yvalues, yopened, ybegins, yleft, youtcomes, ymet, ysums, yvisited, rfl, rfl, Fh⟩ := I
  obtain ⟨E, F, B, G, HX⟩ := re_G Fh
  unfold wpX_expected wpY_expected
  refine xv_var (fun b => br_t rfl (yv_var (fun _ => br_t rfl ⟨rfl, I'⟩) (fun a e f => absurd b (by rw [f]; exact bv_no e)))) (fun a1 e1 f1 => br_f (by decide) ?_)
  subst f1
  refine xt_all G HX Fh.2.2.2.2.2.2.1 fun pl st sp rw en rl rv sw vs HT => xq_exp e1 ?_
  refine yv_var (fun b => absurd b (bv_no e1)) (fun _ _ _ => br_f (by decide) ?_)
  refine yw_all G Fh.2.2.2.2.2.2.2 fun pl' dp' st' sp' pr' en' mw' bg' lf' oc' mt' sw' vs' HT' _ => ⟨65, yq_exp e1 ⟨?_, re_mk _ Fh⟩ 64 0 65 (by omega) (by omega)⟩
  exact si_congr 64 fun s hs => by rw [HT.1 s hs, HT'.1 s hs]
theorem i_vc_visits {k : Nat} {u : SX} {v : SY} (I : i_Rel k u v) (hk : k + 5 ≤ 2560) (v1 : Int32) : wpX_visits (fun r u' => wpY_visits (fun r' v' => r' = r ∧ i_Rel (k + 5) u' v') v v1) u v1 := by
  have I' := I
  obtain ⟨h, c, K, A, N, V, xplace, xstate, xrandomSteps, xrunWeight, xending, xbestWeight, xbestCode, xbestSteps, xstackValues, xkinds, xvariables, xnumbers, xprogramValues, xopen, xblockOf, xelseOf, xendOf, xroundsLeft, xrunVisits, xstateWeights, xvisitSums, yopen, yat, ydepth, ystate, ysteps, yproduct, yend, ymost, ymostRow, ymostSteps, ykinds, yvariables, ynumbers, yvalues, yopened, ybegins, yleft, youtcomes, ymet, ysums, yvisited, rfl, rfl, Fh⟩ := I
  obtain ⟨E, F, B, G, HX⟩ := re_G Fh
  obtain ⟨g1, g2, W, D, g5, g6, HA, HA'⟩ := id Fh
  have hM := cp_M_le W
  have h24 := W.1
  unfold wpX_visits wpX_isNumber wpY_visits
  by_cases h0 : v1 < 0
  · exact br_t h0 (br_t rfl (br_t h0 ⟨rfl, I'⟩))
  rcases pk_ix v1 (show c < 2 ^ 31 by omega) with h1 | h1 | ⟨j, hj, rfl⟩
  · exact absurd h1 h0
  · exact br_f h0 (br_t h1 (br_t rfl (br_f h0 (br_f (Int32.not_lt.mpr h1) ⟨rfl, I'⟩))))
  · have hcj : (nI j).toNatClampNeg = j := nI_clamp (by omega)
    have hK8 := (W.2.2 j hj).1
    have vpj : vp_in (nI j) 27 := vp_in_nI (by omega) (by omega)
    have vpj2 : vp_in (nI j) 24 := vp_in_nI (by omega) (by omega)
    refine br_f h0 (br_f (nI_ge hj (by omega)) (br_f (by decide) ⟨vpj, ?_⟩))
    rw [hcj, HA.1 j (by omega)]
    refine pk_eq (K j) 5 (fun e => br_f h0 (br_t (nI_lt hj (by omega)) ⟨vpj2, ?_⟩)) (fun n5 => ⟨vpj, pk_eq (K j) 8 (fun e => br_f h0 (br_t (nI_lt hj (by omega)) ⟨vpj2, ?_⟩)) (fun n8 => ?_)⟩)
    · rw [HA'.1 j hj]
      exact br_t (by rw [e]; rfl) ⟨rfl, I'⟩
    · rw [HA'.1 j hj]
      exact pk_eq (K j) 5 (fun z => absurd z n5) (fun _ => ⟨vpj2, br_t (by rw [e]; rfl) ⟨rfl, I'⟩⟩)
    · refine xt_all G HX HA fun pl st sp rw en rl rv sw vs HT => ⟨vpj, br_f h0 (br_t (nI_lt hj (by omega)) ⟨vpj2, ?_⟩)⟩
      rw [HA'.1 j hj]
      refine pk_eq (K j) 5 (fun z => absurd z n5) (fun _ => ⟨vpj2, pk_eq (K j) 8 (fun z => absurd z n8) (fun _ => ?_)⟩)
      exact yw_all G HA' fun pl' dp' st' sp' pr' en' mw' bg' lf' oc' mt' sw' vs' HT' _ => ⟨vpj2, by rw [HT.2 j hj n8, HT'.2 j hj n8], re_mk _ Fh⟩
end
section
/-! top, bottom, independent, follow, likely -/
section
variable {yheight ycount yopen yat ydepth ystate ysteps yproduct yend ymost ymostRow ymostSteps : Int32} {ystack ykinds yvariables ynumbers yvalues yopened ybegins yleft youtcomes ymet ysums : Nat → Int32} {yvisited : Nat → Int64}
theorem yj_red {post : Int32 → SY → Prop} {x1 x2 x3 : Int32} (h0 : (cp_bv x1 ∨ cp_bk x2) → post (-1) (yheight, ycount, yopen, yat, ydepth, ystate, ysteps, yproduct, yend, ymost, ymostRow, ymostSteps, ystack, ykinds, yvariables, ynumbers, yvalues, yopened, ybegins, yleft, youtcomes, ymet, ysums, yvisited))
    (h1 : (¬ (cp_bv x1 ∨ cp_bk x2)) → wpY_work (fun u => wpY_whole (fun r => (r = 0 → post (-2) u) ∧ (¬ r = 0 → wpY_total (fun t => wpY_divisor (fun d => (d = 0 → post (-2) u) ∧ (¬ d = 0 → (x3 = 0 → ¬ d = 0 ∧ post (r / d) u) ∧ (¬ x3 = 0 → ¬ d = 0 ∧ post (t / d) u))) u r t) u x1 x2 x1 x2)) u) (yheight, ycount, yopen, yat, ydepth, ystate, ysteps, yproduct, yend, ymost, ymostRow, ymostSteps, ystack, ykinds, yvariables, ynumbers, yvalues, yopened, ybegins, yleft, youtcomes, ymet, ysums, yvisited)) : wpY_reduced post (yheight, ycount, yopen, yat, ydepth, ystate, ysteps, yproduct, yend, ymost, ymostRow, ymostSteps, ystack, ykinds, yvariables, ynumbers, yvalues, yopened, ybegins, yleft, youtcomes, ymet, ysums, yvisited) x1 x2 x3 := by
  unfold wpY_reduced
  refine yv_var (fun b => br_t rfl (h0 (Or.inl b))) (fun a1 e1 f1 => br_f (by decide) (yv_val (fun b => br_t rfl (h0 (Or.inr b))) (fun a2 e2 f2 => br_f (by decide) ?_)))
  subst f1 f2
  exact h1 (fun z => z.elim (bv_no e1) (bk_no e2))
end
theorem cp_part {R : Nat → cp_S} {n v k : Nat} : cp_sm (fun s => if s / 4 ^ v % 4 = k ∧ s / 4 ^ v % 4 = k then cp_Sm R n s else 0) 64 ≤ cp_sm (cp_Sm R n) 64 :=
  sm_le (fun i => by split <;> omega) 64
theorem i_vc_top {k : Nat} {u : SX} {v : SY} (I : i_Rel k u v) (hk : k + 5 ≤ 2560) (v1 : Int32) (v2 : Int32) : wpX_top (fun r u' => wpY_top (fun r' v' => r' = r ∧ i_Rel (k + 5) u' v') v v1 v2) u v1 v2 := by
  have I' := I
  obtain ⟨h, c, K, A, N, V, xplace, xstate, xrandomSteps, xrunWeight, xending, xbestWeight, xbestCode, xbestSteps, xstackValues, xkinds, xvariables, xnumbers, xprogramValues, xopen, xblockOf, xelseOf, xendOf, xroundsLeft, xrunVisits, xstateWeights, xvisitSums, yopen, yat, ydepth, ystate, ysteps, yproduct, yend, ymost, ymostRow, ymostSteps, ykinds, yvariables, ynumbers, yvalues, yopened, ybegins, yleft, youtcomes, ymet, ysums, yvisited, rfl, rfl, Fh⟩ := I
  obtain ⟨E, F, B, G, HX⟩ := re_G Fh
  unfold wpX_top wpY_top
  refine xv_var (fun b => br_t rfl (yj_red (fun _ => ⟨rfl, I'⟩) (fun z => absurd (Or.inl b) z))) (fun a1 e1 f1 => br_f (by decide) (xv_val (fun b => br_t rfl (yj_red (fun _ => ⟨rfl, I'⟩) (fun z => absurd (Or.inr b) z))) (fun a2 e2 f2 => br_f (by decide) ?_)))
  subst f1 f2
  refine xt_all G HX Fh.2.2.2.2.2.2.1 fun pl st sp rw en rl rv sw vs HT => xq_ww e1 e2 e1 e2 (xq_kw ?_)
  have hall := cp_all (K := K) (A := A) (N := N) (E := E) (F := F) (B := B) (V := V) (M := cp_M K c) Fh.2.2.2.1 (Nat.le_refl 4096)
  have hpart := cp_part (R := cp_fin K A N E F B V (cp_M K c)) (n := 4096) (v := a1) (k := a2)
  have hY : ∀ (sw' : Nat → Int32) (vs' : Nat → Int64), cp_TL (cp_fin K A N E F B V (cp_M K c)) K c 4096 sw' vs' → cp_si sw' 64 = nI (cp_sm (cp_Sm (cp_fin K A N E F B V (cp_M K c)) 4096) 64) ∧ cp_kw a1 a2 a1 a2 sw' 64 = nI (cp_sm (fun s => if s / 4 ^ a1 % 4 = a2 ∧ s / 4 ^ a1 % 4 = a2 then cp_Sm (cp_fin K A N E F B V (cp_M K c)) 4096 s else 0) 64) := fun sw' vs' H => ⟨si_Sm H, kw_Sm H⟩
  rw [(hY sw vs HT).1, (hY sw vs HT).2]
  generalize cp_sm (cp_Sm (cp_fin K A N E F B V (cp_M K c)) 4096) 64 = T at hall hpart hY ⊢
  generalize cp_sm (fun s => if s / 4 ^ a1 % 4 = a2 ∧ s / 4 ^ a1 % 4 = a2 then cp_Sm (cp_fin K A N E F B V (cp_M K c)) 4096 s else 0) 64 = P at hpart hY ⊢
  have hg : Nat.gcd P T ≤ 16777216 := by
    by_cases hT : T = 0
    · have : P = 0 := by omega
      subst hT this
      exact Nat.le_trans (Nat.le_of_eq (Nat.gcd_zero_left 0)) (by omega)
    · exact Nat.le_trans (Nat.gcd_le_right P (by omega)) hall
  refine xg_gcd (by omega) hall (pk_eq (Nat.gcd P T) 0 (fun e => ?_) (fun e => ⟨nI_ne0 (by omega) (by omega), ?_⟩))
  · refine yj_red (fun z => absurd z (fun z => z.elim (bv_no e1) (bk_no e2))) (fun _ => yw_all G Fh.2.2.2.2.2.2.2 fun pl' dp' st' sp' pr' en' mw' bg' lf' oc' mt' sw' vs' HT' _ => yq_wh ?_)
    have hT : T = 0 := (Nat.gcd_eq_zero_iff.mp e).2
    rw [(hY sw' vs' HT').1, hT]
    exact br_t rfl ⟨rfl, re_mk _ Fh⟩
  · refine yj_red (fun z => absurd z (fun z => z.elim (bv_no e1) (bk_no e2))) (fun _ => yw_all G Fh.2.2.2.2.2.2.2 fun pl' dp' st' sp' pr' en' mw' bg' lf' oc' mt' sw' vs' HT' _ => yq_wh ?_)
    have hT : T ≠ 0 := fun z => e (by have : P = 0 := by omega
                                      subst z this; exact Nat.gcd_zero_left 0)
    rw [(hY sw' vs' HT').1]
    refine br_f (nI_ne0 (by omega) (by omega)) (yq_to e1 e2 e1 e2 ?_)
    rw [(hY sw' vs' HT').2]
    refine yq_div (by omega) (by omega) ?_
    rw [Nat.gcd_comm T P]
    exact br_f (nI_ne0 (by omega) (by omega)) (br_f (by decide) ⟨nI_ne0 (by omega) (by omega), rfl, re_mk _ Fh⟩)
theorem i_vc_bottom {k : Nat} {u : SX} {v : SY} (I : i_Rel k u v) (hk : k + 5 ≤ 2560) (v1 : Int32) (v2 : Int32) : wpX_bottom (fun r u' => wpY_bottom (fun r' v' => r' = r ∧ i_Rel (k + 5) u' v') v v1 v2) u v1 v2 := by
  have I' := I
  obtain ⟨h, c, K, A, N, V, xplace, xstate, xrandomSteps, xrunWeight, xending, xbestWeight, xbestCode, xbestSteps, xstackValues, xkinds, xvariables, xnumbers, xprogramValues, xopen, xblockOf, xelseOf, xendOf, xroundsLeft, xrunVisits, xstateWeights, xvisitSums, yopen, yat, ydepth, ystate, ysteps, yproduct, yend, ymost, ymostRow, ymostSteps, ykinds, yvariables, ynumbers, yvalues, yopened, ybegins, yleft, youtcomes, ymet, ysums, yvisited, rfl, rfl, Fh⟩ := I
  obtain ⟨E, F, B, G, HX⟩ := re_G Fh
  unfold wpX_bottom wpY_bottom
  refine xv_var (fun b => br_t rfl (yj_red (fun _ => ⟨rfl, I'⟩) (fun z => absurd (Or.inl b) z))) (fun a1 e1 f1 => br_f (by decide) (xv_val (fun b => br_t rfl (yj_red (fun _ => ⟨rfl, I'⟩) (fun z => absurd (Or.inr b) z))) (fun a2 e2 f2 => br_f (by decide) ?_)))
  subst f1 f2
  refine xt_all G HX Fh.2.2.2.2.2.2.1 fun pl st sp rw en rl rv sw vs HT => xq_ww e1 e2 e1 e2 (xq_kw ?_)
  have hall := cp_all (K := K) (A := A) (N := N) (E := E) (F := F) (B := B) (V := V) (M := cp_M K c) Fh.2.2.2.1 (Nat.le_refl 4096)
  have hpart := cp_part (R := cp_fin K A N E F B V (cp_M K c)) (n := 4096) (v := a1) (k := a2)
  have hY : ∀ (sw' : Nat → Int32) (vs' : Nat → Int64), cp_TL (cp_fin K A N E F B V (cp_M K c)) K c 4096 sw' vs' → cp_si sw' 64 = nI (cp_sm (cp_Sm (cp_fin K A N E F B V (cp_M K c)) 4096) 64) ∧ cp_kw a1 a2 a1 a2 sw' 64 = nI (cp_sm (fun s => if s / 4 ^ a1 % 4 = a2 ∧ s / 4 ^ a1 % 4 = a2 then cp_Sm (cp_fin K A N E F B V (cp_M K c)) 4096 s else 0) 64) := fun sw' vs' H => ⟨si_Sm H, kw_Sm H⟩
  rw [(hY sw vs HT).1, (hY sw vs HT).2]
  generalize cp_sm (cp_Sm (cp_fin K A N E F B V (cp_M K c)) 4096) 64 = T at hall hpart hY ⊢
  generalize cp_sm (fun s => if s / 4 ^ a1 % 4 = a2 ∧ s / 4 ^ a1 % 4 = a2 then cp_Sm (cp_fin K A N E F B V (cp_M K c)) 4096 s else 0) 64 = P at hpart hY ⊢
  have hg : Nat.gcd P T ≤ 16777216 := by
    by_cases hT : T = 0
    · have : P = 0 := by omega
      subst hT this
      exact Nat.le_trans (Nat.le_of_eq (Nat.gcd_zero_left 0)) (by omega)
    · exact Nat.le_trans (Nat.gcd_le_right P (by omega)) hall
  refine xg_gcd (by omega) hall (pk_eq (Nat.gcd P T) 0 (fun e => ?_) (fun e => ⟨nI_ne0 (by omega) (by omega), ?_⟩))
  · refine yj_red (fun z => absurd z (fun z => z.elim (bv_no e1) (bk_no e2))) (fun _ => yw_all G Fh.2.2.2.2.2.2.2 fun pl' dp' st' sp' pr' en' mw' bg' lf' oc' mt' sw' vs' HT' _ => yq_wh ?_)
    have hT : T = 0 := (Nat.gcd_eq_zero_iff.mp e).2
    rw [(hY sw' vs' HT').1, hT]
    exact br_t rfl ⟨rfl, re_mk _ Fh⟩
  · refine yj_red (fun z => absurd z (fun z => z.elim (bv_no e1) (bk_no e2))) (fun _ => yw_all G Fh.2.2.2.2.2.2.2 fun pl' dp' st' sp' pr' en' mw' bg' lf' oc' mt' sw' vs' HT' _ => yq_wh ?_)
    have hT : T ≠ 0 := fun z => e (by have : P = 0 := by omega
                                      subst z this; exact Nat.gcd_zero_left 0)
    rw [(hY sw' vs' HT').1]
    refine br_f (nI_ne0 (by omega) (by omega)) (yq_to e1 e2 e1 e2 ?_)
    rw [(hY sw' vs' HT').2]
    refine yq_div (by omega) (by omega) ?_
    rw [Nat.gcd_comm T P]
    exact br_f (nI_ne0 (by omega) (by omega)) (br_t rfl ⟨nI_ne0 (by omega) (by omega), rfl, re_mk _ Fh⟩)
theorem cp_Q_eq {v w : Nat} {sw sw' : Nat → Int32} {x3 : Int64} (h : ∀ v k w l, cp_kw v k w l sw' 64 = cp_kw v k w l sw 64) (k l : Nat) : cp_Q v w sw' x3 k l ↔ cp_Q v w sw x3 k l := by
  unfold cp_Q
  rw [h, h, h]
theorem i_vc_independent {k : Nat} {u : SX} {v : SY} (I : i_Rel k u v) (hk : k + 5 ≤ 2560) (v1 : Int32) (v2 : Int32) : wpX_independent (fun r u' => wpY_independent (fun r' v' => r' = r ∧ i_Rel (k + 5) u' v') v v1 v2) u v1 v2 := by
  have I' := I
  obtain ⟨h, c, K, A, N, V, xplace, xstate, xrandomSteps, xrunWeight, xending, xbestWeight, xbestCode, xbestSteps, xstackValues, xkinds, xvariables, xnumbers, xprogramValues, xopen, xblockOf, xelseOf, xendOf, xroundsLeft, xrunVisits, xstateWeights, xvisitSums, yopen, yat, ydepth, ystate, ysteps, yproduct, yend, ymost, ymostRow, ymostSteps, ykinds, yvariables, ynumbers, yvalues, yopened, ybegins, yleft, youtcomes, ymet, ysums, yvisited, rfl, rfl, Fh⟩ := I
  obtain ⟨E, F, B, G, HX⟩ := re_G Fh
  unfold wpX_independent wpY_independent
  refine xv_var (fun b => br_t rfl (yv_var (fun _ => br_t rfl ⟨rfl, I'⟩) (fun a e f => absurd b (by rw [f]; exact bv_no e)))) (fun a1 e1 f1 => br_f (by decide) (xv_var (fun b => br_t rfl (yv_var (fun _ => br_t rfl ⟨rfl, I'⟩) (fun _ _ _ => br_f (by decide) (yv_var (fun _ => br_t rfl ⟨rfl, I'⟩) (fun a e f => absurd b (by rw [f]; exact bv_no e)))))) (fun a2 e2 f2 => br_f (by decide) ?_)))
  subst f1 f2
  refine xt_all G HX Fh.2.2.2.2.2.2.1 fun pl st sp rw en rl rv sw vs HT => xq_kw ?_
  refine ⟨5, xq_29 e1 e2 (fun hq => ?_) (fun hq => ?_) 4 0 5 (by omega) (by omega) (fun k' l hk' => absurd hk' (Nat.not_lt_zero k'))⟩
  · refine yv_var (fun b => absurd b (bv_no e1)) (fun _ _ _ => br_f (by decide) (yv_var (fun b => absurd b (bv_no e2)) (fun _ _ _ => br_f (by decide) ?_)))
    refine yw_all G Fh.2.2.2.2.2.2.2 fun pl' dp' st' sp' pr' en' mw' bg' lf' oc' mt' sw' vs' HT' _ => yq_wh ?_
    rw [si_Sm HT', ← si_Sm HT]
    exact ⟨17, yq_34 e1 e2 (fun _ => ⟨rfl, re_mk _ Fh⟩) (fun z => absurd (fun k l hk hl => (cp_Q_eq (kw_eq HT HT') k l).mpr (hq k l hk hl)) z) 16 0 17 1 (by omega) (by omega) (Or.inl ⟨rfl, fun c' hc' => absurd hc' (Nat.not_lt_zero c')⟩)⟩
  · refine yv_var (fun b => absurd b (bv_no e1)) (fun _ _ _ => br_f (by decide) (yv_var (fun b => absurd b (bv_no e2)) (fun _ _ _ => br_f (by decide) ?_)))
    refine yw_all G Fh.2.2.2.2.2.2.2 fun pl' dp' st' sp' pr' en' mw' bg' lf' oc' mt' sw' vs' HT' _ => yq_wh ?_
    rw [si_Sm HT', ← si_Sm HT]
    exact ⟨17, yq_34 e1 e2 (fun z => absurd (fun k l hk hl => (cp_Q_eq (kw_eq HT HT') k l).mp (z k l hk hl)) hq) (fun _ => ⟨rfl, re_mk _ Fh⟩) 16 0 17 1 (by omega) (by omega) (Or.inl ⟨rfl, fun c' hc' => absurd hc' (Nat.not_lt_zero c')⟩)⟩
/-! follow -/
theorem cp_or2 : ∀ a, a < 1024 → ∀ d, d < 4 → (nI a <<< ((2 : Int32) &&& 31)) ||| nI d = nI (4 * a + d) := by decide +kernel
def cp_dj (x : Int32) (j : Nat) : Nat := ((x >>> ((2 * nI j) &&& 31)) &&& 3).toNatClampNeg
theorem dj_eq (x : Int32) (j : Nat) : ((x >>> ((2 * nI j) &&& 31)) &&& 3) = nI (cp_dj x j) ∧ cp_dj x j < 4 := by
  obtain ⟨d, hd, e⟩ := pk_andE (x >>> ((2 * nI j) &&& 31)) (m := 3) 2 (by decide)
  unfold cp_dj
  rw [e, nI_clamp (by omega)]
  exact ⟨rfl, hd⟩
def cp_cc (x : Int32) : Nat → Nat
  | 0 => 0
  | i + 1 => 4 * cp_cc x i + cp_dj x i
theorem cc_lt (x : Int32) : ∀ i, cp_cc x i < 4 ^ i := by
  intro i
  induction i with
  | zero => exact Nat.zero_lt_one
  | succ i ih =>
    have := (dj_eq x i).2
    rw [cp_cc, Nat.pow_succ]
    omega
theorem cc_rd (x : Int32) : ∀ j, j < 6 → cp_rd (cp_cc x 6) j = cp_dj x j := by
  have h0 := (dj_eq x 0).2
  have h1 := (dj_eq x 1).2
  have h2 := (dj_eq x 2).2
  have h3 := (dj_eq x 3).2
  have h4 := (dj_eq x 4).2
  have h5 := (dj_eq x 5).2
  intro j hj
  have hj' : j = 0 ∨ j = 1 ∨ j = 2 ∨ j = 3 ∨ j = 4 ∨ j = 5 := by omega
  have e : cp_cc x 6 = 4 * (4 * (4 * (4 * (4 * (4 * 0 + cp_dj x 0) + cp_dj x 1) + cp_dj x 2) + cp_dj x 3) + cp_dj x 4) + cp_dj x 5 := rfl
  unfold cp_rd
  rw [e]
  rcases hj' with rfl | rfl | rfl | rfl | rfl | rfl
  · show _ / 1024 % 4 = _; omega
  · show _ / 256 % 4 = _; omega
  · show _ / 64 % 4 = _; omega
  · show _ / 16 % 4 = _; omega
  · show _ / 4 % 4 = _; omega
  · show _ / 1 % 4 = _; omega
section
variable {xexpressionCount xstatementCount xopenCount xclosedLength xplace xstate xrandomSteps xrunWeight xending xbestWeight xbestCode xbestSteps : Int32} {xstackValues xkinds xvariables xnumbers xprogramValues xopen xblockOf xelseOf xendOf xroundsLeft xrunVisits xstateWeights : Nat → Int32} {xvisitSums : Nat → Int64}
theorem xf_loop {post : Int32 → SX → Prop} {x1 : Int32} (H : wpX_carryOut (fun u => match u with | (xexpressionCount, xstatementCount, xopenCount, xclosedLength, xplace, xstate, xrandomSteps, xrunWeight, xending, xbestWeight, xbestCode, xbestSteps, xstackValues, xkinds, xvariables, xnumbers, xprogramValues, xopen, xblockOf, xelseOf, xendOf, xroundsLeft, xrunVisits, xstateWeights, xvisitSums) => ((xending = 0 → post xstate (xexpressionCount, xstatementCount, xopenCount, xclosedLength, xplace, xstate, xrandomSteps, xrunWeight, xending, xbestWeight, xbestCode, xbestSteps, xstackValues, xkinds, xvariables, xnumbers, xprogramValues, xopen, xblockOf, xelseOf, xendOf, xroundsLeft, xrunVisits, xstateWeights, xvisitSums)) ∧ (¬ xending = 0 → post xending (xexpressionCount, xstatementCount, xopenCount, xclosedLength, xplace, xstate, xrandomSteps, xrunWeight, xending, xbestWeight, xbestCode, xbestSteps, xstackValues, xkinds, xvariables, xnumbers, xprogramValues, xopen, xblockOf, xelseOf, xendOf, xroundsLeft, xrunVisits, xstateWeights, xvisitSums)))) (xexpressionCount, xstatementCount, xopenCount, xclosedLength, xplace, xstate, xrandomSteps, xrunWeight, xending, xbestWeight, xbestCode, xbestSteps, xstackValues, xkinds, xvariables, xnumbers, xprogramValues, xopen, xblockOf, xelseOf, xendOf, xroundsLeft, xrunVisits, xstateWeights, xvisitSums) (nI (cp_cc x1 6))) :
    ∀ (d i n : Nat), i + d = 6 → d < n → wX_follow_4 post x1 xexpressionCount xstatementCount xopenCount xclosedLength xplace xstate xrandomSteps xrunWeight xending xbestWeight xbestCode xbestSteps xstackValues xkinds xvariables xnumbers xprogramValues xopen xblockOf xelseOf xendOf xroundsLeft xrunVisits xstateWeights xvisitSums n (nI (cp_cc x1 i)) (nI i) := by
  intro d
  induction d with
  | zero =>
    intro i n hi hn
    obtain ⟨m, rfl⟩ : ∃ m, n = m + 1 := ⟨n - 1, by omega⟩
    have e : i = 6 := by omega
    subst e
    rw [wX_follow_4]
    exact br_t (by decide) H
  | succ d ih =>
    intro i n hi hn
    obtain ⟨m, rfl⟩ : ∃ m, n = m + 1 := ⟨n - 1, by omega⟩
    have h1 := cc_lt x1 i
    have h2 : 4 ^ i ≤ 4 ^ 5 := Nat.pow_le_pow_right (by omega) (by omega)
    obtain ⟨d1, d2⟩ := dj_eq x1 i
    rw [wX_follow_4]
    exact br_f (nI_ge (b := 6) (by omega) (by decide)) (nm_r (e' := nI (cp_cc x1 (i + 1))) (by rw [d1, cp_or2 _ (by omega) _ d2, cp_cc]) (nm_r (nI_1 i) (ih (i + 1) m (by omega) (by omega))))
end
section
variable {yheight ycount yopen yat ydepth ystate ysteps yproduct yend ymost ymostRow ymostSteps : Int32} {ystack ykinds yvariables ynumbers yvalues yopened ybegins yleft youtcomes ymet ysums : Nat → Int32} {yvisited : Nat → Int64}
theorem yf_foll {post : Int32 → SY → Prop} {x1 : Int32} (H : ∀ oc : Nat → Int32, (∀ j, j < 6 → oc j = nI (cp_dj x1 j)) → wpY_run (fun u => match u with | (yheight, ycount, yopen, yat, ydepth, ystate, ysteps, yproduct, yend, ymost, ymostRow, ymostSteps, ystack, ykinds, yvariables, ynumbers, yvalues, yopened, ybegins, yleft, youtcomes, ymet, ysums, yvisited) => ((yend = 0 → post ystate (yheight, ycount, yopen, yat, ydepth, ystate, ysteps, yproduct, yend, ymost, ymostRow, ymostSteps, ystack, ykinds, yvariables, ynumbers, yvalues, yopened, ybegins, yleft, youtcomes, ymet, ysums, yvisited)) ∧ (¬ yend = 0 → post yend (yheight, ycount, yopen, yat, ydepth, ystate, ysteps, yproduct, yend, ymost, ymostRow, ymostSteps, ystack, ykinds, yvariables, ynumbers, yvalues, yopened, ybegins, yleft, youtcomes, ymet, ysums, yvisited)))) (yheight, ycount, yopen, yat, ydepth, ystate, ysteps, yproduct, yend, ymost, ymostRow, ymostSteps, ystack, ykinds, yvariables, ynumbers, yvalues, yopened, ybegins, yleft, oc, ymet, ysums, yvisited)) :
    ∀ (d i n : Nat) (oc : Nat → Int32), i + d = 6 → d < n → (∀ j, j < i → oc j = nI (cp_dj x1 j)) → wY_follow_2 post x1 yheight ycount yopen yat ydepth ystate ysteps yproduct yend ymost ymostRow ymostSteps n (nI i) ystack ykinds yvariables ynumbers yvalues yopened ybegins yleft oc ymet ysums yvisited := by
  intro d
  induction d with
  | zero =>
    intro i n oc hi hn h
    obtain ⟨m, rfl⟩ : ∃ m, n = m + 1 := ⟨n - 1, by omega⟩
    have e : i = 6 := by omega
    subst e
    rw [wY_follow_2]
    exact br_t (by decide) (H oc h)
  | succ d ih =>
    intro i n oc hi hn h
    obtain ⟨m, rfl⟩ : ∃ m, n = m + 1 := ⟨n - 1, by omega⟩
    rw [wY_follow_2]
    refine br_f (nI_ge (b := 6) (by omega) (by decide)) ⟨vp_in_nI (by omega) (by omega), nm_r (e' := upd oc i (nI (cp_dj x1 i))) (by rw [nI_clamp (by omega), (dj_eq x1 i).1]) (nm_r (nI_1 i) (ih (i + 1) m _ (by omega) (by omega) fun j hj => ?_))⟩
    by_cases e : j = i
    · subst e; exact pk_us
    · rw [pk_un e]; exact h j (by omega)
end
theorem i_vc_follow {k : Nat} {u : SX} {v : SY} (I : i_Rel k u v) (hk : k + 5 ≤ 2560) (v1 : Int32) : wpX_follow (fun r u' => wpY_follow (fun r' v' => r' = r ∧ i_Rel (k + 5) u' v') v v1) u v1 := by
  obtain ⟨h, c, K, A, N, V, xplace, xstate, xrandomSteps, xrunWeight, xending, xbestWeight, xbestCode, xbestSteps, xstackValues, xkinds, xvariables, xnumbers, xprogramValues, xopen, xblockOf, xelseOf, xendOf, xroundsLeft, xrunVisits, xstateWeights, xvisitSums, yopen, yat, ydepth, ystate, ysteps, yproduct, yend, ymost, ymostRow, ymostSteps, ykinds, yvariables, ynumbers, yvalues, yopened, ybegins, yleft, youtcomes, ymet, ysums, yvisited, rfl, rfl, Fh⟩ := I
  obtain ⟨E, F, B, G, HX⟩ := re_G Fh
  have hrow : cp_cc v1 6 < 4096 := cc_lt v1 6
  unfold wpX_follow wpY_follow
  refine ⟨7, xf_loop ?_ 6 0 7 (by omega) (by omega)⟩
  obtain ⟨_, f2, f3, f4, f5, _⟩ := cp_finI G (cp_cc v1 6)
  refine xs_run G HX Fh.2.2.2.2.2.2.1 hrow fun pl rw rl rv _ _ => ?_
  generalize hq : cp_fin K A N E F B V (cp_M K c) (cp_cc v1 6) = q at *
  by_cases he : q.2.2.2.2.1 = 1
  · rw [if_pos he]
    refine br_t rfl ⟨7, yf_foll (fun oc hoc => ?_) 6 0 7 youtcomes (by omega) (by omega) (fun j hj => absurd hj (Nat.not_lt_zero j))⟩
    refine yx_run (row := cp_cc v1 6) G Fh.2.2.2.2.2.2.2 (fun j hj => by rw [hoc j hj, cc_rd v1 j hj]) fun pl' dp' sp' pr' bg' lf' mt' _ _ => ?_
    rw [hq, if_pos he]
    exact br_t rfl ⟨rfl, re_mk _ Fh⟩
  · rw [if_neg he]
    have hne : ¬ q.2.2.2.2.1 = 0 := by
      rcases f5 with h | h | h | h
      · exact absurd h he
      · rw [h]; decide
      · rw [h]; decide
      · rw [h]; decide
    refine br_f hne ⟨7, yf_foll (fun oc hoc => ?_) 6 0 7 youtcomes (by omega) (by omega) (fun j hj => absurd hj (Nat.not_lt_zero j))⟩
    refine yx_run (row := cp_cc v1 6) G Fh.2.2.2.2.2.2.2 (fun j hj => by rw [hoc j hj, cc_rd v1 j hj]) fun pl' dp' sp' pr' bg' lf' mt' _ _ => ?_
    rw [hq, if_neg he]
    exact br_f hne ⟨rfl, re_mk _ Fh⟩
theorem Bm_0 (R : Nat → cp_S) : ∀ n, (cp_Bm R n).1 = 0 → (cp_Bm R n).2.2 = 0 := by
  intro n
  induction n with
  | zero => intro _; rfl
  | succ n ih =>
    rw [cp_Bm]
    split
    · intro e
      dsimp only at e
      omega
    · exact ih
theorem i_vc_likely {k : Nat} {u : SX} {v : SY} (I : i_Rel k u v) (hk : k + 5 ≤ 2560) (v1 : Int32) : wpX_likely (fun r u' => wpY_likely (fun r' v' => r' = r ∧ i_Rel (k + 5) u' v') v v1) u v1 := by
  obtain ⟨h, c, K, A, N, V, xplace, xstate, xrandomSteps, xrunWeight, xending, xbestWeight, xbestCode, xbestSteps, xstackValues, xkinds, xvariables, xnumbers, xprogramValues, xopen, xblockOf, xelseOf, xendOf, xroundsLeft, xrunVisits, xstateWeights, xvisitSums, yopen, yat, ydepth, ystate, ysteps, yproduct, yend, ymost, ymostRow, ymostSteps, ykinds, yvariables, ynumbers, yvalues, yopened, ybegins, yleft, youtcomes, ymet, ysums, yvisited, rfl, rfl, Fh⟩ := I
  obtain ⟨E, F, B, G, HX⟩ := re_G Fh
  have hfin := cp_finI G
  have b1 := tl_B (R := cp_fin K A N E F B V (cp_M K c)) (fun a => tl_wt _ _ (hfin a).2.2.1 (hfin a).2.2.2.1) 4096
  have b2 := tl_B4 (R := cp_fin K A N E F B V (cp_M K c)) (fun a => (hfin a).2.2.1) 4096 (Nat.le_refl _)
  have b3 := Bm_0 (cp_fin K A N E F B V (cp_M K c)) 4096
  unfold wpX_likely wpY_likely
  refine xt_all G HX Fh.2.2.2.2.2.2.1 fun pl st sp rw en rl rv sw vs HT => ?_
  refine br_c (fun hn => ?_) (fun hp => br_c (fun hl => ?_) (fun hl => ?_))
  · refine yw_all G Fh.2.2.2.2.2.2.2 fun pl' dp' st' sp' pr' en' mw' bg' lf' oc' mt' sw' vs' HT' hmw => ?_
    exact br_c (fun _ => ⟨rfl, re_mk _ Fh⟩) (fun _ => br_t hn ⟨rfl, re_mk _ Fh⟩)
  · obtain ⟨j, hj, rfl⟩ := cp_in (n := (cp_Bm (cp_fin K A N E F B V (cp_M K c)) 4096).2.2) (by omega) hp (Int32.not_le.mpr hl)
    unfold wpX_outcomeIn
    rw [cp_rdI b2.1 (by omega)]
    refine yw_all G Fh.2.2.2.2.2.2.2 fun pl' dp' st' sp' pr' en' mw' bg' lf' oc' mt' sw' vs' HT' hmw => ?_
    have hB : (cp_Bm (cp_fin K A N E F B V (cp_M K c)) 4096).1 ≠ 0 := fun z => by
      have := b3 z
      omega
    refine br_f (nI_ne0 (by omega) (by omega)) (br_f hp (br_t hl ?_))
    rw [hmw hB, cp_rdY b2.1 (by omega)]
    exact ⟨rfl, re_mk _ Fh⟩
  · refine yw_all G Fh.2.2.2.2.2.2.2 fun pl' dp' st' sp' pr' en' mw' bg' lf' oc' mt' sw' vs' HT' hmw => ?_
    exact br_c (fun _ => ⟨rfl, re_mk _ Fh⟩) (fun _ => br_f hp (br_f hl ⟨rfl, re_mk _ Fh⟩))
end
section
/-! push -/
section
variable {xexpressionCount xstatementCount xopenCount xclosedLength xplace xstate xrandomSteps xrunWeight xending xbestWeight xbestCode xbestSteps : Int32} {xstackValues xkinds xvariables xnumbers xprogramValues xopen xblockOf xelseOf xendOf xroundsLeft xrunVisits xstateWeights : Nat → Int32} {xvisitSums : Nat → Int64}
theorem xe_is {post : Int32 → Prop} {q : Nat} {a : Int32} (hq : q < 10) (h0 : ((q = 0 ∧ cp_bk a) ∨ (q = 1 ∧ cp_bv a)) → post 0) (h1 : ((q = 0 → ∃ v, v < 4 ∧ a = nI v) ∧ (q = 1 → ∃ v, v < 3 ∧ a = nI v)) → post 1) : wpX_isExpression post (nI q) a := by
  unfold wpX_isExpression
  refine pk_eq q 0 (fun e => xv_val (fun b => ⟨rfl, h0 (Or.inl ⟨e, b⟩)⟩) (fun v hv e2 => ⟨rfl, h1 ⟨fun _ => ⟨v, hv, e2⟩, fun z => by omega⟩⟩)) (fun n0 => pk_eq q 1 (fun e => xv_var (fun b => ⟨rfl, h0 (Or.inr ⟨e, b⟩)⟩) (fun v hv e2 => ⟨rfl, h1 ⟨fun z => by omega, fun _ => ⟨v, hv, e2⟩⟩⟩)) (fun n1 => pk_lt q 2 (fun z => by omega) (fun _ => pk_lt 9 q (fun z => by omega) (fun _ => h1 ⟨fun z => by omega, fun z => by omega⟩))))
end
section
variable {yheight ycount yopen yat ydepth ystate ysteps yproduct yend ymost ymostRow ymostSteps : Int32} {ystack ykinds yvariables ynumbers yvalues yopened ybegins yleft youtcomes ymet ysums : Nat → Int32} {yvisited : Nat → Int64}
theorem ye_is {post : Int32 → SY → Prop} {q : Nat} {a : Int32} (hq : q < 10) (h0 : ((q = 0 ∧ cp_bk a) ∨ (q = 1 ∧ cp_bv a)) → post (-1) (yheight, ycount, yopen, yat, ydepth, ystate, ysteps, yproduct, yend, ymost, ymostRow, ymostSteps, ystack, ykinds, yvariables, ynumbers, yvalues, yopened, ybegins, yleft, youtcomes, ymet, ysums, yvisited)) (h1 : (¬ ((q = 0 ∧ cp_bk a) ∨ (q = 1 ∧ cp_bv a))) → wY_push_59 post (nI q) a (nI (cp_tk q)) yheight ycount yopen yat ydepth ystate ysteps yproduct yend ymost ymostRow ymostSteps ystack ykinds yvariables ynumbers yvalues yopened ybegins yleft youtcomes ymet ysums yvisited) : wpY_push post (yheight, ycount, yopen, yat, ydepth, ystate, ysteps, yproduct, yend, ymost, ymostRow, ymostSteps, ystack, ykinds, yvariables, ynumbers, yvalues, yopened, ybegins, yleft, youtcomes, ymet, ysums, yvisited) (nI q) a := by
  have h39 : (¬ ((q = 0 ∧ cp_bk a) ∨ (q = 1 ∧ cp_bv a))) → wY_push_39 post (nI q) a yheight ycount yopen yat ydepth ystate ysteps yproduct yend ymost ymostRow ymostSteps ystack ykinds yvariables ynumbers yvalues yopened ybegins yleft youtcomes ymet ysums yvisited := fun hb => by
    have h := h1 hb
    unfold wY_push_39
    refine pk_le 2 q (fun h2 => pk_eq q 7 (fun e => ?_) (fun e => ?_)) (fun h2 => ?_)
    · rw [cp_tk, if_neg (by omega), if_pos e] at h
      exact h
    · rw [cp_tk, if_neg (by omega), if_neg e] at h
      exact h
    · rw [cp_tk, if_pos h2] at h
      exact h
  have h23 : ¬ (q = 0 ∧ cp_bk a) → wY_push_23 post (nI q) a yheight ycount yopen yat ydepth ystate ysteps yproduct yend ymost ymostRow ymostSteps ystack ykinds yvariables ynumbers yvalues yopened ybegins yleft youtcomes ymet ysums yvisited := fun hb => by
    unfold wY_push_23
    refine pk_eq q 1 (fun e => br_c (fun z => h0 (Or.inr ⟨e, Or.inl z⟩)) (fun z => br_c (fun z2 => h39 (fun y => y.elim hb (fun y => y.2.elim z (fun y => absurd (Int32.le_trans y z2) (by decide))))) (fun z2 => h0 (Or.inr ⟨e, Or.inr ((cp_lt23 a).mp (Int32.not_le.mp z2))⟩)))) (fun e => h39 (fun y => y.elim hb (fun y => e y.1)))
  unfold wpY_push
  refine br_f (nI_pos (by omega)) (pk_lt 9 q (fun z => by omega) (fun _ => pk_eq q 0 (fun e => br_c (fun z => h0 (Or.inl ⟨e, Or.inl z⟩)) (fun z => br_c (fun z2 => h0 (Or.inl ⟨e, Or.inr ((cp_lt34 a).mp z2)⟩)) (fun z2 => h23 (fun y => y.2.elim z (fun y => z2 ((cp_lt34 a).mpr y)))))) (fun e => h23 (fun y => e y.1))))
theorem ye_all {post : Int32 → SY → Prop} {q a' h : Nat} {a : Int32} (hq : q < 10) (hh : h ≤ 6) (hb : ¬ ((q = 0 ∧ cp_bk a) ∨ (q = 1 ∧ cp_bv a))) (hf : cp_4 ystack) (ha : q < 2 → a = nI a') (ha1 : q = 1 → a' < 3)
    (m2 : h < cp_tk q → post (-2) (nI h, ycount, yopen, yat, ydepth, ystate, ysteps, yproduct, yend, ymost, ymostRow, ymostSteps, ystack, ykinds, yvariables, ynumbers, yvalues, yopened, ybegins, yleft, youtcomes, ymet, ysums, yvisited)) (m3 : cp_tk q = 0 → h = 6 → post (-3) (nI h, ycount, yopen, yat, ydepth, ystate, ysteps, yproduct, yend, ymost, ymostRow, ymostSteps, ystack, ykinds, yvariables, ynumbers, yvalues, yopened, ybegins, yleft, youtcomes, ymet, ysums, yvisited)) (go : cp_tk q ≤ h → (cp_tk q = 0 → h < 6) → post (nI (h - cp_tk q + 1)) (nI (h - cp_tk q + 1), ycount, yopen, yat, ydepth, ystate, ysteps, yproduct, yend, ymost, ymostRow, ymostSteps, cp_fl q a' (64 * (h - cp_tk q)) ystack 64, ykinds, yvariables, ynumbers, yvalues, yopened, ybegins, yleft, youtcomes, ymet, ysums, yvisited)) : wpY_push post (nI h, ycount, yopen, yat, ydepth, ystate, ysteps, yproduct, yend, ymost, ymostRow, ymostSteps, ystack, ykinds, yvariables, ynumbers, yvalues, yopened, ybegins, yleft, youtcomes, ymet, ysums, yvisited) (nI q) a := by
  have ht : cp_tk q < 3 := by unfold cp_tk; split <;> (try split) <;> omega
  refine ye_is hq (fun z => absurd z hb) (fun _ => ?_)
  unfold wY_push_59
  refine pk_le (cp_tk q) h (fun h1 => pk_eq (cp_tk q) 0 (fun e => pk_eq h 6 (fun e6 => m3 e e6) (fun e6 => ?_)) (fun e => ?_)) (fun h1 => m2 h1)
  · exact yc_push (by omega) hh h1 (fun _ => by omega) hf ha ha1 (go h1 (fun _ => by omega))
  · exact yc_push (by omega) hh h1 (fun z => absurd z e) hf ha ha1 (go h1 (fun z => absurd z e))
end
theorem i_vc_push {k : Nat} {u : SX} {v : SY} (I : i_Rel k u v) (hk : k + 5 ≤ 2560) (v1 : Int32) (v2 : Int32) : wpX_push (fun r u' => wpY_push (fun r' v' => r' = r ∧ i_Rel (k + 5) u' v') v v1 v2) u v1 v2 := by
  have I' := I
  obtain ⟨h, c, K, A, N, V, xplace, xstate, xrandomSteps, xrunWeight, xending, xbestWeight, xbestCode, xbestSteps, xstackValues, xkinds, xvariables, xnumbers, xprogramValues, xopen, xblockOf, xelseOf, xendOf, xroundsLeft, xrunVisits, xstateWeights, xvisitSums, yopen, yat, ydepth, ystate, ysteps, yproduct, yend, ymost, ymostRow, ymostSteps, ykinds, yvariables, ynumbers, yvalues, yopened, ybegins, yleft, youtcomes, ymet, ysums, yvisited, rfl, rfl, Fh⟩ := I
  obtain ⟨g1, g2, g3⟩ := id Fh
  unfold wpX_push
  by_cases h0 : v1 < 0
  · unfold wpX_isExpression
    refine br_f (fun z => by rw [z] at h0; exact absurd h0 (by decide)) (br_f (fun z => by rw [z] at h0; exact absurd h0 (by decide)) (br_t (Int32.lt_trans h0 (by decide)) (br_t rfl ?_)))
    unfold wpY_push
    exact br_t h0 ⟨rfl, I'⟩
  rcases pk_ix v1 (n := 10) (by omega) with h1 | h1 | ⟨q, hq, rfl⟩
  · exact absurd h1 h0
  · have h9 : 9 < v1 := Int32.lt_of_lt_of_le (show (9 : Int32) < nI 10 by decide) h1
    unfold wpX_isExpression
    refine br_f (fun z => by rw [z] at h9; exact absurd h9 (by decide)) (br_f (fun z => by rw [z] at h9; exact absurd h9 (by decide)) (br_f (fun z => absurd (Int32.lt_trans h9 z) (by decide)) (br_t h9 (br_t rfl ?_))))
    unfold wpY_push
    exact br_f h0 (br_t h9 ⟨rfl, I'⟩)
  · refine xe_is hq (fun b => br_t rfl (ye_is hq (fun _ => ⟨rfl, I'⟩) (fun z => absurd b z))) (fun hg => br_f (by decide) (xc_taken (by omega) ?_))
    have hb : ¬ ((q = 0 ∧ cp_bk v2) ∨ (q = 1 ∧ cp_bv v2)) := fun z => by
      rcases z with z | z
      · obtain ⟨w, hw, e⟩ := hg.1 z.1
        exact bk_no hw (by rw [← e]; exact z.2)
      · obtain ⟨w, hw, e⟩ := hg.2 z.1
        exact bv_no hw (by rw [← e]; exact z.2)
    have ha : q < 2 → v2 = nI v2.toNatClampNeg := fun h2 => by
      by_cases e0 : q = 0
      · obtain ⟨w, hw, e⟩ := hg.1 e0
        rw [e, nI_clamp (by omega)]
      · obtain ⟨w, hw, e⟩ := hg.2 (by omega)
        rw [e, nI_clamp (by omega)]
    have ha1 : q = 1 → v2.toNatClampNeg < 3 := fun e1 => by
      obtain ⟨w, hw, e⟩ := hg.2 e1
      rw [e, nI_clamp (by omega)]
      exact hw
    have ha0 : q = 0 → v2.toNatClampNeg < 4 := fun e1 => by
      obtain ⟨w, hw, e⟩ := hg.1 e1
      rw [e, nI_clamp (by omega)]
      exact hw
    have ht : cp_tk q < 3 := by unfold cp_tk; split <;> (try split) <;> omega
    have fin : cp_tk q ≤ h → (cp_tk q = 0 → h < 6) → cp_F (h - cp_tk q + 1) c K A N V (cp_fl q v2.toNatClampNeg (64 * (h - cp_tk q)) xstackValues 64) xkinds xvariables xnumbers xprogramValues xopen xblockOf xelseOf xendOf ykinds yvariables ynumbers yvalues := fun a b => ⟨by omega, fl_4 ha0 g2 64, g3⟩
    refine pk_le (cp_tk q) h (fun h1 => pk_eq (cp_tk q) 0 (fun e => pk_lt h 6 (fun h6 => ?_) (fun h6 => ?_)) (fun e => ?_)) (fun h1 => ?_)
    · refine xc_push (by omega) g1 h1 (fun _ => h6) g2 ha ha1 ?_
      exact ye_all hq g1 hb g2 ha ha1 (fun z => by omega) (fun _ z => by omega) (fun a b => ⟨rfl, re_mk _ (fin a b)⟩)
    · exact ye_all hq g1 hb g2 ha ha1 (fun z => by omega) (fun _ _ => ⟨rfl, I'⟩) (fun a b => by have := b e; omega)
    · refine xc_push (by omega) g1 h1 (fun z => absurd z e) g2 ha ha1 ?_
      exact ye_all hq g1 hb g2 ha ha1 (fun z => by omega) (fun z _ => absurd z e) (fun a b => ⟨rfl, re_mk _ (fin a b)⟩)
    · exact ye_all hq g1 hb g2 ha ha1 (fun _ => ⟨rfl, I'⟩) (fun z _ => by omega) (fun a b => by omega)
end
section
/-! put -/
def cp_bs (q : Nat) (a p : Int32) : Prop := (q ≤ 2 ∧ cp_bv a) ∨ (q = 1 ∧ (p < 0 ∨ 16 < p)) ∨ (q = 6 ∧ (p < 1 ∨ 3 < p))
def cp_tq (q : Nat) : Nat := if q = 0 ∨ q = 3 ∨ q = 4 then 1 else 0
section
variable {xexpressionCount xstatementCount xopenCount xclosedLength xplace xstate xrandomSteps xrunWeight xending xbestWeight xbestCode xbestSteps : Int32} {xstackValues xkinds xvariables xnumbers xprogramValues xopen xblockOf xelseOf xendOf xroundsLeft xrunVisits xstateWeights : Nat → Int32} {xvisitSums : Nat → Int64}
theorem xp_is {post : Int32 → Prop} {q : Nat} {a p : Int32} (hq : q < 9) (h0 : cp_bs q a p → post 0) (h1 : ¬ cp_bs q a p → post 1) : wpX_isStatement post (nI q) a p := by
  have h9 : (q = 0 ∨ q = 2) → wX_isStatement_9 post a := fun e => by
    unfold wX_isStatement_9
    exact xv_var (fun b => ⟨rfl, h0 (Or.inl ⟨by omega, b⟩)⟩) (fun v hv e2 => ⟨rfl, h1 (fun z => z.elim (fun z => bv_no hv (by rw [← e2]; exact z.2)) (fun z => z.elim (fun z => by have := z.1; omega) (fun z => by have := z.1; omega)))⟩)
  unfold wpX_isStatement
  refine pk_eq q 0 (fun e => h9 (Or.inl e)) (fun n0 => pk_eq q 2 (fun e => h9 (Or.inr e)) (fun n2 => pk_eq q 1 (fun e => xv_var (fun b => br_t rfl (h0 (Or.inl ⟨by omega, b⟩))) (fun v hv e2 => br_f (by decide) (br_c (fun z => h0 (Or.inr (Or.inl ⟨e, Or.inl z⟩))) (fun z => br_c (fun z2 => h0 (Or.inr (Or.inl ⟨e, Or.inr z2⟩))) (fun z2 => h1 (fun y => y.elim (fun y => bv_no hv (by rw [← e2]; exact y.2)) (fun y => y.elim (fun y => y.2.elim z z2) (fun y => by have := y.1; omega)))))))) (fun n1 => pk_eq q 6 (fun e => br_c (fun z => h0 (Or.inr (Or.inr ⟨e, Or.inl z⟩))) (fun z => br_c (fun z2 => h0 (Or.inr (Or.inr ⟨e, Or.inr z2⟩))) (fun z2 => h1 (fun y => y.elim (fun y => by have := y.1; omega) (fun y => y.elim (fun y => by have := y.1; omega) (fun y => y.2.elim z z2)))))) (fun n6 => pk_lt q 3 (fun z => by omega) (fun _ => pk_lt 8 q (fun z => by omega) (fun _ => h1 (fun y => y.elim (fun y => by have := y.1; omega) (fun y => y.elim (fun y => by have := y.1; omega) (fun y => by have := y.1; omega)))))))))
theorem xp_all {post : Int32 → SX → Prop} {K : Nat → Nat} {c h q : Nat} {a p : Int32} (hq : q < 9) (hh : h ≤ 6) (W : cp_wf K c) (hk : ∀ j, j < cp_M K c → xkinds j = nI (K j)) (ho : cp_hl xopen (cp_O K c)) (HL : cp_LK K (cp_M K c) xblockOf xelseOf xendOf)
    (m1 : cp_bs q a p → post (-1) (nI h, nI c, nI (cp_O K c).length, xclosedLength, xplace, xstate, xrandomSteps, xrunWeight, xending, xbestWeight, xbestCode, xbestSteps, xstackValues, xkinds, xvariables, xnumbers, xprogramValues, xopen, xblockOf, xelseOf, xendOf, xroundsLeft, xrunVisits, xstateWeights, xvisitSums))
    (m2 : ¬ cp_bs q a p → c = 24 → post (-2) (nI h, nI c, nI (cp_O K c).length, xclosedLength, xplace, xstate, xrandomSteps, xrunWeight, xending, xbestWeight, xbestCode, xbestSteps, xstackValues, xkinds, xvariables, xnumbers, xprogramValues, xopen, xblockOf, xelseOf, xendOf, xroundsLeft, xrunVisits, xstateWeights, xvisitSums))
    (m3 : ¬ cp_bs q a p → c < 24 → cp_tq q = 1 → h = 0 → post (-3) (nI h, nI c, nI (cp_O K c).length, xclosedLength, xplace, xstate, xrandomSteps, xrunWeight, xending, xbestWeight, xbestCode, xbestSteps, xstackValues, xkinds, xvariables, xnumbers, xprogramValues, xopen, xblockOf, xelseOf, xendOf, xroundsLeft, xrunVisits, xstateWeights, xvisitSums))
    (m4 : ¬ cp_bs q a p → c < 24 → (cp_tq q = 1 → 0 < h) → ¬ cp_al K c q → post (-4) (nI h, nI c, nI (cp_O K c).length, xclosedLength, xplace, xstate, xrandomSteps, xrunWeight, xending, xbestWeight, xbestCode, xbestSteps, xstackValues, xkinds, xvariables, xnumbers, xprogramValues, xopen, xblockOf, xelseOf, xendOf, xroundsLeft, xrunVisits, xstateWeights, xvisitSums))
    (go : ¬ cp_bs q a p → c < 24 → (cp_tq q = 1 → 0 < h) → cp_al K c q → ∀ (pv o' k' b' e' f' : Nat → Int32), (cp_tq q = 1 → pv = cp_cpy xprogramValues (64 * c) (fun s => xstackValues (64 * (h - 1) + s)) 64) → (cp_tq q = 0 → pv = xprogramValues) → cp_hl o' (cp_O (cp_pt K c q) (c + 1)) → (∀ j, j < cp_M (cp_pt K c q) (c + 1) → k' j = nI (cp_pt K c q j)) → cp_LK (cp_pt K c q) (cp_M (cp_pt K c q) (c + 1)) b' e' f' →
      post (nI c) (nI (h - cp_tq q), nI (c + 1), nI (cp_O (cp_pt K c q) (c + 1)).length, nI (cp_M (cp_pt K c q) (c + 1)), xplace, xstate, xrandomSteps, xrunWeight, xending, xbestWeight, xbestCode, xbestSteps, xstackValues, k', upd xvariables c a, upd xnumbers c p, pv, o', b', e', f', xroundsLeft, xrunVisits, xstateWeights, xvisitSums)) :
    wpX_put post (nI h, nI c, nI (cp_O K c).length, xclosedLength, xplace, xstate, xrandomSteps, xrunWeight, xending, xbestWeight, xbestCode, xbestSteps, xstackValues, xkinds, xvariables, xnumbers, xprogramValues, xopen, xblockOf, xelseOf, xendOf, xroundsLeft, xrunVisits, xstateWeights, xvisitSums) (nI q) a p := by
  have hc24 := W.1
  have hM := cp_M_le W
  have hcc : (nI c).toNatClampNeg = c := nI_clamp (by omega)
  unfold wpX_put
  refine xp_is hq (fun b => br_t rfl (m1 b)) (fun nb => br_f (by decide) (pk_lt c 24 (fun hc => ?_) (fun hc => m2 nb (by omega))))
  have vpc : vp_in (nI c) 27 := vp_in_nI (by omega) (by omega)
  have h42 : ∀ t, t = cp_tq q → wX_put_42 post (nI q) a p (nI t) (nI h) (nI c) (nI (cp_O K c).length) xclosedLength xplace xstate xrandomSteps xrunWeight xending xbestWeight xbestCode xbestSteps xstackValues xkinds xvariables xnumbers xprogramValues xopen xblockOf xelseOf xendOf xroundsLeft xrunVisits xstateWeights xvisitSums := fun t ht => by
    have ht2 : t = 0 ∨ t = 1 := by rw [ht]; unfold cp_tq; split <;> omega
    have h59 : (cp_tq q = 1 → 0 < h) → wX_put_59 post (nI q) a p (nI t) (nI h) (nI c) (nI (cp_O K c).length) xclosedLength xplace xstate xrandomSteps xrunWeight xending xbestWeight xbestCode xbestSteps xstackValues xkinds xvariables xnumbers xprogramValues xopen xblockOf xelseOf xendOf xroundsLeft xrunVisits xstateWeights xvisitSums := fun hpos => by
      unfold wX_put_59
      refine xb_allow W hq hk ho HL (fun al => br_f (by decide) ?_) (fun al => br_t rfl (m4 nb hc hpos al))
      have W' := wf_put W hc hq al
      have hk' : ∀ j, j < c + 1 → upd xkinds c (nI q) j = nI (cp_pt K c q j) := fun j hj => by
        by_cases e : j = c
        · subst e; rw [pk_us, pt_c]
        · rw [pk_un e, pt_n e]; exact hk j (by omega)
      refine ⟨vpc, nm_r (e' := upd xkinds c (nI q)) (by rw [hcc]) ⟨vpc, nm_r (e' := upd xvariables c a) (by rw [hcc]) ⟨vpc, nm_r (e' := upd xnumbers c p) (by rw [hcc]) (pk_eq t 0 (fun e => ?_) (fun e => ?_))⟩⟩⟩
      · unfold wX_put_111
        refine nm_r (nI_1 c) (xl_all W' hk' fun o' k' b' e' f' h1 h2 h3 => ?_)
        have e0 : cp_tq q = 0 := by omega
        have := go nb hc hpos al xprogramValues o' k' b' e' f' (fun z => by omega) (fun _ => rfl) h1 h2 h3
        rw [e0, Nat.sub_zero] at this
        exact this
      · have e1 : cp_tq q = 1 := by omega
        obtain ⟨m, rfl⟩ : ∃ m, h = m + 1 := ⟨h - 1, by have := hpos e1; omega⟩
        refine xm_move (by omega) hc ?_
        unfold wX_put_111
        refine nm_r (nI_1 c) (xl_all W' hk' fun o' k' b' e' f' h1 h2 h3 => ?_)
        have := go nb hc hpos al _ o' k' b' e' f' (fun _ => rfl) (fun z => by omega) h1 h2 h3
        rw [e1, Nat.add_sub_cancel] at this
        exact this
    unfold wX_put_42
    refine pk_eq t 0 (fun e => h59 (fun z => by omega)) (fun e => pk_eq h 0 (fun e0 => m3 nb hc (by omega) e0) (fun e0 => h59 (fun _ => by omega)))
  have h37 : cp_tq q = 1 → wX_put_37 post (nI q) a p (nI h) (nI c) (nI (cp_O K c).length) xclosedLength xplace xstate xrandomSteps xrunWeight xending xbestWeight xbestCode xbestSteps xstackValues xkinds xvariables xnumbers xprogramValues xopen xblockOf xelseOf xendOf xroundsLeft xrunVisits xstateWeights xvisitSums := fun e => by
    unfold wX_put_37
    exact h42 1 e.symm
  refine pk_eq q 0 (fun e => h37 (if_pos (by omega))) (fun n0 => pk_eq q 3 (fun e => h37 (if_pos (by omega))) (fun n3 => pk_eq q 4 (fun e => h37 (if_pos (by omega))) (fun n4 => h42 0 (if_neg (by omega)).symm)))
end
section
variable {yheight ycount yopen yat ydepth ystate ysteps yproduct yend ymost ymostRow ymostSteps : Int32} {ystack ykinds yvariables ynumbers yvalues yopened ybegins yleft youtcomes ymet ysums : Nat → Int32} {yvisited : Nat → Int64}
theorem yp_is {post : Int32 → SY → Prop} {q : Nat} {a p : Int32} (hq : q < 9) (h0 : cp_bs q a p → post (-1) (yheight, ycount, yopen, yat, ydepth, ystate, ysteps, yproduct, yend, ymost, ymostRow, ymostSteps, ystack, ykinds, yvariables, ynumbers, yvalues, yopened, ybegins, yleft, youtcomes, ymet, ysums, yvisited)) (h1 : ¬ cp_bs q a p → wY_put_73 post (nI q) a p yheight ycount yopen yat ydepth ystate ysteps yproduct yend ymost ymostRow ymostSteps ystack ykinds yvariables ynumbers yvalues yopened ybegins yleft youtcomes ymet ysums yvisited) : wpY_put post (yheight, ycount, yopen, yat, ydepth, ystate, ysteps, yproduct, yend, ymost, ymostRow, ymostSteps, ystack, ykinds, yvariables, ynumbers, yvalues, yopened, ybegins, yleft, youtcomes, ymet, ysums, yvisited) (nI q) a p := by
  have h55 : ¬ (q ≤ 2 ∧ cp_bv a) → ¬ (q = 1 ∧ (p < 0 ∨ 16 < p)) → wY_put_55 post (nI q) a p yheight ycount yopen yat ydepth ystate ysteps yproduct yend ymost ymostRow ymostSteps ystack ykinds yvariables ynumbers yvalues yopened ybegins yleft youtcomes ymet ysums yvisited := fun b1 b2 => by
    unfold wY_put_55
    refine pk_eq q 6 (fun e => br_c (fun z => h0 (Or.inr (Or.inr ⟨e, Or.inl z⟩))) (fun z => br_c (fun z2 => h1 (fun y => y.elim b1 (fun y => y.elim b2 (fun y => y.2.elim z (Int32.not_lt.mpr z2))))) (fun z2 => h0 (Or.inr (Or.inr ⟨e, Or.inr (Int32.not_le.mp z2)⟩))))) (fun e => h1 (fun y => y.elim b1 (fun y => y.elim b2 (fun y => e y.1))))
  have h40 : ¬ (q ≤ 2 ∧ cp_bv a) → wY_put_40 post (nI q) a p yheight ycount yopen yat ydepth ystate ysteps yproduct yend ymost ymostRow ymostSteps ystack ykinds yvariables ynumbers yvalues yopened ybegins yleft youtcomes ymet ysums yvisited := fun b1 => by
    unfold wY_put_40
    refine pk_eq q 1 (fun e => br_c (fun z => h0 (Or.inr (Or.inl ⟨e, Or.inl z⟩))) (fun z => br_c (fun z2 => h0 (Or.inr (Or.inl ⟨e, Or.inr z2⟩))) (fun z2 => h55 b1 (fun y => y.2.elim z z2)))) (fun e => h55 b1 (fun y => e y.1))
  have h14 : ∀ t : Nat, (t = 0 → ¬ q ≤ 2) → (t ≠ 0 → q ≤ 2) → t < 2 → wY_put_14 post (nI q) a p (nI t) yheight ycount yopen yat ydepth ystate ysteps yproduct yend ymost ymostRow ymostSteps ystack ykinds yvariables ynumbers yvalues yopened ybegins yleft youtcomes ymet ysums yvisited := fun t t0 t1 t2 => by
    unfold wY_put_14
    refine br_f (nI_pos (by omega)) (pk_lt 8 q (fun z => by omega) (fun _ => pk_eq t 0 (fun e => h40 (fun y => t0 e y.1)) (fun e => br_c (fun z => h0 (Or.inl ⟨t1 e, Or.inl z⟩)) (fun z => br_c (fun z2 => h0 (Or.inl ⟨t1 e, Or.inr ((cp_lt23 a).mp z2)⟩)) (fun z2 => h40 (fun y => y.2.elim z (fun y => z2 ((cp_lt23 a).mpr y))))))))
  unfold wpY_put
  refine br_f (nI_pos (by omega)) (pk_lt 2 q (fun z => ?_) (fun z => h14 1 (fun z => by omega) (fun _ => by omega) (by omega)))
  unfold wY_put_13
  exact h14 0 (fun _ => by omega) (fun y => absurd rfl y) (by omega)
theorem yp_loop {post : Int32 → SY → Prop} {c h t : Nat} {f : Nat → Int32} (hc : c < 24) (ht : t < 2) (h0 : t = 0 → f = fun _ => 0) (h1 : t ≠ 0 → h < 6 ∧ f = fun s => ystack (64 * h + s)) (H : post (nI c) (nI h, nI (c + 1), yopen, yat, ydepth, ystate, ysteps, yproduct, yend, ymost, ymostRow, ymostSteps, ystack, ykinds, yvariables, ynumbers, cp_cpy yvalues (64 * c) f 64, yopened, ybegins, yleft, youtcomes, ymet, ysums, yvisited)) :
    ∀ (d s n : Nat), s + d = 64 → d < n → wY_put_187 post (nI t) (nI h) (nI c) yopen yat ydepth ystate ysteps yproduct yend ymost ymostRow ymostSteps n (nI s) ystack ykinds yvariables ynumbers (cp_cpy yvalues (64 * c) f s) yopened ybegins yleft youtcomes ymet ysums yvisited := by
  intro d
  induction d with
  | zero =>
    intro s n hs hn
    obtain ⟨m, rfl⟩ : ∃ m, n = m + 1 := ⟨n - 1, by omega⟩
    have e : s = 64 := by omega
    subst e
    rw [wY_put_187]
    refine br_t (by decide) (nm_r (nI_1 c) ?_)
    rw [nI_pred]
    exact H
  | succ d ih =>
    intro s n hs hn
    obtain ⟨m, rfl⟩ : ∃ m, n = m + 1 := ⟨n - 1, by omega⟩
    have go := ih (s + 1) m (by omega) (by omega)
    rw [wY_put_187]
    dsimp only
    rw [cp_ixY, cp_ixY]
    refine br_f (nI_ge (b := 64) (by omega) (by decide)) (pk_eq t 0 (fun e => ⟨vp_in_nI (by omega) (by omega), nm_r (by rw [nI_clamp (by omega)]) (nm_r (nI_1 s) ?_)⟩) (fun e => ?_))
    · rw [cp_cpy, h0 e] at go
      rw [h0 e]
      exact go
    · obtain ⟨h6, ef⟩ := h1 e
      refine ⟨vp_in_nI (by omega) (by omega), vp_in_nI (by omega) (by omega), nm_r (by rw [nI_clamp (by omega), nI_clamp (by omega)]) (nm_r (nI_1 s) ?_)⟩
      rw [cp_cpy, ef] at go
      rw [ef]
      exact go
theorem yp_all {post : Int32 → SY → Prop} {K : Nat → Nat} {c h q : Nat} {a p : Int32} (hq : q < 9) (hh : h ≤ 6) (W : cp_wf K c) (hk : ∀ j, j < c → ykinds j = nI (K j))
    (m1 : cp_bs q a p → post (-1) (nI h, nI c, yopen, yat, ydepth, ystate, ysteps, yproduct, yend, ymost, ymostRow, ymostSteps, ystack, ykinds, yvariables, ynumbers, yvalues, yopened, ybegins, yleft, youtcomes, ymet, ysums, yvisited))
    (m2 : ¬ cp_bs q a p → c = 24 → post (-2) (nI h, nI c, yopen, yat, ydepth, ystate, ysteps, yproduct, yend, ymost, ymostRow, ymostSteps, ystack, ykinds, yvariables, ynumbers, yvalues, yopened, ybegins, yleft, youtcomes, ymet, ysums, yvisited))
    (m3 : ¬ cp_bs q a p → c < 24 → cp_tq q = 1 → h = 0 → post (-3) (nI h, nI c, yopen, yat, ydepth, ystate, ysteps, yproduct, yend, ymost, ymostRow, ymostSteps, ystack, ykinds, yvariables, ynumbers, yvalues, yopened, ybegins, yleft, youtcomes, ymet, ysums, yvisited))
    (m4 : ¬ cp_bs q a p → c < 24 → (cp_tq q = 1 → 0 < h) → ¬ cp_al K c q → ∀ op : Nat → Int32, post (-4) (nI h, nI c, nI (cp_O K c).length, yat, ydepth, ystate, ysteps, yproduct, yend, ymost, ymostRow, ymostSteps, ystack, ykinds, yvariables, ynumbers, yvalues, op, ybegins, yleft, youtcomes, ymet, ysums, yvisited))
    (go : ¬ cp_bs q a p → c < 24 → (cp_tq q = 1 → 0 < h) → cp_al K c q → ∀ (op vl : Nat → Int32), (cp_tq q = 1 → vl = cp_cpy yvalues (64 * c) (fun s => ystack (64 * (h - 1) + s)) 64) → (cp_tq q = 0 → vl = cp_cpy yvalues (64 * c) (fun _ => 0) 64) →
      post (nI c) (nI (h - cp_tq q), nI (c + 1), nI (cp_O K c).length, yat, ydepth, ystate, ysteps, yproduct, yend, ymost, ymostRow, ymostSteps, ystack, upd ykinds c (nI q), upd yvariables c a, upd ynumbers c p, vl, op, ybegins, yleft, youtcomes, ymet, ysums, yvisited)) :
    wpY_put post (nI h, nI c, yopen, yat, ydepth, ystate, ysteps, yproduct, yend, ymost, ymostRow, ymostSteps, ystack, ykinds, yvariables, ynumbers, yvalues, yopened, ybegins, yleft, youtcomes, ymet, ysums, yvisited) (nI q) a p := by
  have hc24 := W.1
  have hcc : (nI c).toNatClampNeg = c := nI_clamp (by omega)
  refine yp_is hq m1 (fun nb => ?_)
  unfold wY_put_73
  refine pk_eq c 24 (fun e => m2 nb e) (fun hne => ?_)
  have hc : c < 24 := by omega
  have vpc : vp_in (nI c) 24 := vp_in_nI hc (by omega)
  have h104 : ∀ t, t = cp_tq q → wY_put_104 post (nI q) a p (nI t) (nI h) (nI c) yopen yat ydepth ystate ysteps yproduct yend ymost ymostRow ymostSteps ystack ykinds yvariables ynumbers yvalues yopened ybegins yleft youtcomes ymet ysums yvisited := fun t ht => by
    have ht2 : t = 0 ∨ t = 1 := by rw [ht]; unfold cp_tq; split <;> omega
    have h121 : (cp_tq q = 1 → 0 < h) → wY_put_121 post (nI q) a p (nI t) (nI h) (nI c) yopen yat ydepth ystate ysteps yproduct yend ymost ymostRow ymostSteps ystack ykinds yvariables ynumbers yvalues yopened ybegins yleft youtcomes ymet ysums yvisited := fun hpos => by
      unfold wY_put_121
      refine yo_mis W hq hk (fun al op => br_f (by decide) (m4 nb hc hpos al op)) (fun al op => br_t rfl ?_)
      refine ⟨vpc, nm_r (e' := upd ykinds c (nI q)) (by rw [hcc]) ⟨vpc, nm_r (e' := upd yvariables c a) (by rw [hcc]) ⟨vpc, nm_r (e' := upd ynumbers c p) (by rw [hcc]) (pk_eq t 0 (fun e => ?_) (fun e => ?_))⟩⟩⟩
      · have e0 : cp_tq q = 0 := by omega
        have := go nb hc hpos al op _ (fun z => by omega) (fun _ => rfl)
        rw [e0, Nat.sub_zero] at this
        exact ⟨65, yp_loop hc (by omega) (fun _ => rfl) (fun z => absurd e z) this 64 0 65 (by omega) (by omega)⟩
      · have e1 : cp_tq q = 1 := by omega
        obtain ⟨m, rfl⟩ : ∃ m, h = m + 1 := ⟨h - 1, by have := hpos e1; omega⟩
        have := go nb hc hpos al op _ (fun _ => rfl) (fun z => by omega)
        rw [e1, Nat.add_sub_cancel] at this
        exact nm_r (nI_pred m) ⟨65, yp_loop hc (by omega) (fun z => absurd z e) (fun _ => ⟨by omega, rfl⟩) this 64 0 65 (by omega) (by omega)⟩
    unfold wY_put_104
    refine pk_eq t 0 (fun e => h121 (fun z => by omega)) (fun e => pk_eq h 0 (fun e0 => m3 nb hc (by omega) e0) (fun e0 => h121 (fun _ => by omega)))
  have h99 : cp_tq q = 1 → wY_put_99 post (nI q) a p (nI h) (nI c) yopen yat ydepth ystate ysteps yproduct yend ymost ymostRow ymostSteps ystack ykinds yvariables ynumbers yvalues yopened ybegins yleft youtcomes ymet ysums yvisited := fun e => by
    unfold wY_put_99
    exact h104 1 e.symm
  refine pk_eq q 0 (fun e => h99 (if_pos (by omega))) (fun n0 => pk_eq q 3 (fun e => h99 (if_pos (by omega))) (fun n3 => pk_eq q 4 (fun e => h99 (if_pos (by omega))) (fun n4 => h104 0 (if_neg (by omega)).symm)))
end
theorem cp_tq01 (q : Nat) : cp_tq q = 0 ∨ cp_tq q = 1 := by unfold cp_tq; split <;> omega
theorem tq_1 {q : Nat} (h : q = 0 ∨ q = 3 ∨ q = 4) : cp_tq q = 1 := if_pos h
/-- what the new statement gives -/
theorem pt_XA {K A N : Nat → Nat} {V : Nat → Nat → Nat} {M c q : Nat} {a p : Int32} {k' k xv xn xp pv f : Nat → Int32} (hM : c < M) (nb : ¬ cp_bs q a p) (hk : ∀ j, j < M → k' j = nI (cp_pt K c q j)) (HA : cp_XA K A N V c c k xv xn xp)
    (hf : (q = 0 ∨ q = 3 ∨ q = 4) → (∀ s, s < 64 → ∃ w, w < 4 ∧ f s = nI w) ∧ pv = cp_cpy xp (64 * c) f 64) (hpv : ∀ j, j < c → ∀ s, s < 64 → pv (64 * j + s) = xp (64 * j + s)) :
    cp_XA (cp_pt K c q) (cp_pt A c a.toNatClampNeg) (cp_pt N c p.toNatClampNeg) (fun j s => if j = c then (f s).toNatClampNeg else V j s) M (c + 1) k' (upd xv c a) (upd xn c p) pv := by
  obtain ⟨_, a2, a3, a4⟩ := HA
  refine ⟨hk, fun j hj h => ?_, fun j hj h => ?_, fun j hj h s hs => ?_⟩
  · by_cases e : j = c
    · subst e
      rw [pt_c] at h
      rw [pk_us, pt_c]
      obtain ⟨w, hw, rfl⟩ := cp_in (a := a) (n := 3) (by omega) (fun z => nb (Or.inl ⟨h, Or.inl z⟩)) (fun z => nb (Or.inl ⟨h, Or.inr z⟩))
      rw [nI_clamp (by omega)]
    · rw [pt_n e] at h
      rw [pk_un e, pt_n e]
      exact a2 j (by omega) h
  · by_cases e : j = c
    · subst e
      rw [pt_c] at h
      rw [pk_us, pt_c]
      have hp0 : ¬ p < 0 := fun z => nb (by
        rcases h with h | h
        · exact Or.inr (Or.inl ⟨h, Or.inl z⟩)
        · exact Or.inr (Or.inr ⟨h, Or.inl (Int32.lt_trans z (by decide))⟩))
      obtain ⟨w, hw, rfl⟩ := nI_of hp0
      rw [nI_clamp hw]
    · rw [pt_n e] at h
      rw [pk_un e, pt_n e]
      exact a3 j (by omega) h
  · by_cases e : j = c
    · subst e
      rw [pt_c] at h
      obtain ⟨h1, rfl⟩ := hf h
      rw [cpy_in 64 s hs]
      dsimp only
      rw [if_pos rfl]
      obtain ⟨w, hw, ew⟩ := h1 s hs
      rw [ew, cp_cl4 hw]
    · rw [pt_n e] at h
      dsimp only
      rw [if_neg e, hpv j (by omega) s hs]
      exact a4 j (by omega) h s hs
theorem pt_dat {K A N : Nat → Nat} {V : Nat → Nat → Nat} {c q : Nat} {a p : Int32} {f : Nat → Int32} (nb : ¬ cp_bs q a p) (D : cp_dat K A N V) (hf : (q = 0 ∨ q = 3 ∨ q = 4) → ∀ s, s < 64 → ∃ w, w < 4 ∧ f s = nI w) :
    cp_dat (cp_pt K c q) (cp_pt A c a.toNatClampNeg) (cp_pt N c p.toNatClampNeg) (fun j s => if j = c then (f s).toNatClampNeg else V j s) := by
  intro j
  by_cases e : j = c
  · subst e
    rw [pt_c, pt_c, pt_c]
    refine ⟨fun h => ?_, fun h => ?_, fun h => ?_, fun h s hs => ?_⟩
    · obtain ⟨w, hw, rfl⟩ := cp_in (a := a) (n := 3) (by omega) (fun z => nb (Or.inl ⟨by omega, Or.inl z⟩)) (fun z => nb (Or.inl ⟨by omega, Or.inr z⟩))
      rw [nI_clamp (by omega)]
      exact hw
    · obtain ⟨w, hw, rfl⟩ := cp_in (a := p) (n := 17) (by omega) (fun z => nb (Or.inr (Or.inl ⟨h, Or.inl z⟩))) (fun z => nb (Or.inr (Or.inl ⟨h, Or.inr (Int32.lt_of_lt_of_le (show (16 : Int32) < nI 17 by decide) z)⟩)))
      rw [nI_clamp (by omega)]
      omega
    · obtain ⟨w, hw, rfl⟩ := cp_in (a := p) (n := 4) (by omega) (fun z => nb (Or.inr (Or.inr ⟨h, Or.inl (Int32.lt_trans z (by decide))⟩))) (fun z => nb (Or.inr (Or.inr ⟨h, Or.inr (Int32.lt_of_lt_of_le (show (3 : Int32) < nI 4 by decide) z)⟩)))
      rw [nI_clamp (by omega)]
      refine ⟨?_, by omega⟩
      by_cases e0 : w = 0
      · subst e0
        exact absurd (Or.inr (Or.inr ⟨h, Or.inl (by decide)⟩)) nb
      · omega
    · obtain ⟨w, hw, ew⟩ := hf h s hs
      dsimp only
      rw [if_pos rfl, ew, cp_cl4 hw]
      exact hw
  · rw [pt_n e, pt_n e, pt_n e]
    obtain ⟨d1, d2, d3, d4⟩ := D j
    refine ⟨d1, d2, d3, fun h s hs => ?_⟩
    dsimp only
    rw [if_neg e]
    exact d4 h s hs
theorem i_vc_put {k : Nat} {u : SX} {v : SY} (I : i_Rel k u v) (hk : k + 5 ≤ 2560) (v1 : Int32) (v2 : Int32) (v3 : Int32) : wpX_put (fun r u' => wpY_put (fun r' v' => r' = r ∧ i_Rel (k + 5) u' v') v v1 v2 v3) u v1 v2 v3 := by
  have I' := I
  obtain ⟨h, c, K, A, N, V, xplace, xstate, xrandomSteps, xrunWeight, xending, xbestWeight, xbestCode, xbestSteps, xstackValues, xkinds, xvariables, xnumbers, xprogramValues, xopen, xblockOf, xelseOf, xendOf, xroundsLeft, xrunVisits, xstateWeights, xvisitSums, yopen, yat, ydepth, ystate, ysteps, yproduct, yend, ymost, ymostRow, ymostSteps, ykinds, yvariables, ynumbers, yvalues, yopened, ybegins, yleft, youtcomes, ymet, ysums, yvisited, rfl, rfl, Fh⟩ := I
  obtain ⟨g1, g2, W, D, g5, g6, HA, HA'⟩ := id Fh
  by_cases h0 : v1 < 0
  · unfold wpX_put wpX_isStatement
    refine br_f (fun z => by rw [z] at h0; exact absurd h0 (by decide)) (br_f (fun z => by rw [z] at h0; exact absurd h0 (by decide)) (br_f (fun z => by rw [z] at h0; exact absurd h0 (by decide)) (br_f (fun z => by rw [z] at h0; exact absurd h0 (by decide)) (br_t (Int32.lt_trans h0 (by decide)) (br_t rfl ?_)))))
    unfold wpY_put wY_put_13 wY_put_14
    exact br_t h0 (br_t h0 ⟨rfl, I'⟩)
  rcases pk_ix v1 (n := 9) (by omega) with h1 | h1 | ⟨q, hq, rfl⟩
  · exact absurd h1 h0
  · have h9 : 8 < v1 := Int32.lt_of_lt_of_le (show (8 : Int32) < nI 9 by decide) h1
    unfold wpX_put wpX_isStatement
    refine br_f (fun z => by rw [z] at h9; exact absurd h9 (by decide)) (br_f (fun z => by rw [z] at h9; exact absurd h9 (by decide)) (br_f (fun z => by rw [z] at h9; exact absurd h9 (by decide)) (br_f (fun z => by rw [z] at h9; exact absurd h9 (by decide)) (br_f (fun z => absurd (Int32.lt_trans h9 z) (by decide)) (br_t h9 (br_t rfl ?_))))))
    unfold wpY_put wY_put_13 wY_put_14
    exact br_f h0 (br_t (Int32.lt_trans (by decide) h9) (br_f h0 (br_t h9 ⟨rfl, I'⟩)))
  · have t01 := cp_tq01 q
    refine xp_all hq g1 W HA.1 g5 g6 (fun b => ?_) (fun nb e => ?_) (fun nb a b d => ?_) (fun nb a b al => ?_) (fun nb hc hpos al pv o' k' b' e' f' p1 p0 q1 q2 q3 => ?_)
    · exact yp_all hq g1 W HA'.1 (fun _ => ⟨rfl, I'⟩) (fun z => absurd b z) (fun z => absurd b z) (fun z => absurd b z) (fun z => absurd b z)
    · exact yp_all hq g1 W HA'.1 (fun z => absurd z nb) (fun _ _ => ⟨rfl, I'⟩) (fun _ z => by omega) (fun _ z => by omega) (fun _ z => by omega)
    · exact yp_all hq g1 W HA'.1 (fun z => absurd z nb) (fun _ z => by omega) (fun _ _ _ _ => ⟨rfl, I'⟩) (fun _ _ z => by have := z b; omega) (fun _ _ z => by have := z b; omega)
    · exact yp_all hq g1 W HA'.1 (fun z => absurd z nb) (fun _ z => by omega) (fun _ _ y z => by have := b y; omega) (fun _ _ _ _ op => ⟨rfl, re_mk _ Fh⟩) (fun _ _ _ z => absurd z al)
    · refine yp_all hq g1 W HA'.1 (fun z => absurd z nb) (fun _ z => by omega) (fun _ _ y z => by have := hpos y; omega) (fun _ _ _ z => absurd al z) (fun _ _ _ _ op vl l1 l0 => ⟨rfl, ?_⟩)
      have W' := wf_put W hc hq al
      have hM' := cp_M_le W'
      have hf : (q = 0 ∨ q = 3 ∨ q = 4) → ∀ s, s < 64 → ∃ w, w < 4 ∧ (fun s => xstackValues (64 * (h - 1) + s)) s = nI w := fun _ s _ => g2 _
      refine re_mk _ ⟨by omega, g2, W', pt_dat (a := v2) (p := v3) (f := fun s => xstackValues (64 * (h - 1) + s)) nb D hf, q1, q3, pt_XA (f := fun s => xstackValues (64 * (h - 1) + s)) (k := ykinds) (by omega) nb q2 ⟨HA'.1, HA.2⟩ (fun z => ⟨hf z, p1 (tq_1 z)⟩) (fun j hj s hs => ?_), pt_XA (f := fun s => xstackValues (64 * (h - 1) + s)) (k := ykinds) (by omega) nb (fun j hj => ?_) HA' (fun z => ⟨hf z, l1 (tq_1 z)⟩) (fun j hj s hs => ?_)⟩
      · rcases t01 with t | t
        · rw [p0 t]
        · rw [p1 t, cpy_out 64 _ (by omega)]
      · by_cases e : j = c
        · subst e; rw [pk_us, pt_c]
        · rw [pk_un e, pt_n e]; exact HA'.1 j (by omega)
      · rcases t01 with t | t
        · rw [l0 t, cpy_out 64 _ (by omega)]
        · rw [l1 t, cpy_out 64 _ (by omega)]
end
