/-! rows pasted from the given rows (stores, numbers, shifts, bits) -/
theorem pk_us {f : Nat → Int32} {k : Nat} {x : Int32} : upd f k x k = x := if_pos rfl
theorem pk_un {f : Nat → Int32} {k j : Nat} {x : Int32} (h : j ≠ k) : upd f k x j = f j := if_neg h
theorem pk_sub {a b : Nat} (h : b ≤ a) : nI a - nI b = nI (a - b) := by
  obtain ⟨c, rfl⟩ : ∃ c, a = c + b := ⟨a - b, by omega⟩
  rw [← nI_add, Int32.add_sub_cancel, Nat.add_sub_cancel]
theorem pk_m1 (n : Nat) : nI (n + 1) + (-1) = nI n := by
  rw [← nI_1, Int32.add_assoc, show (1 : Int32) + (-1) = 0 from rfl, Int32.add_zero]
theorem pk_mul (a b : Nat) : nI a * nI b = nI (a * b) := (Int32.ofNat_mul a b).symm
theorem pk_div {a d : Nat} (ha : a < 2 ^ 31) (h0 : 0 < d) (hd : d < 2 ^ 31) : nI a / nI d = nI (a / d) := by
  apply Int32.toInt_inj.mp
  rw [lg_idiv_nonneg (by rw [nI_toInt ha]; omega) (by rw [nI_toInt hd]; omega), nI_toInt ha, nI_toInt hd, nI_toInt (Nat.lt_of_le_of_lt (Nat.div_le_self a d) ha)]
  first | rfl | exact (Int.natCast_ediv _ _).symm
theorem pk_rem {a d : Nat} (ha : a < 2 ^ 31) (h0 : 0 < d) (hd : d < 2 ^ 31) : nI a - nI a / nI d * nI d = nI (a % d) := by
  rw [pk_div ha h0 hd, pk_mul, pk_sub (Nat.div_mul_le_self a d)]
  exact congrArg nI (by have := Nat.div_add_mod' a d; omega)
theorem pk_sub_toInt {a b : Nat} (ha : a < 2 ^ 30) (hb : b < 2 ^ 30) : (nI a - nI b).toInt = (a : Int) - b := by
  rw [Int32.toInt_sub, nI_toInt (by omega), nI_toInt (by omega)]
  exact Int.bmod_eq_of_le (by omega) (by omega)
theorem pk_le {x y : Int32} {A B : Prop} (a b : Nat) (f : a ≤ b → A) (g : b < a → B) (hx : x = nI a := by rfl) (hy : y = nI b := by rfl) (ha : a < 2 ^ 31 := by omega) (hb : b < 2 ^ 31 := by omega) : (x ≤ y → A) ∧ (¬ x ≤ y → B) := by
  subst hx hy
  rw [nI_leI ha hb]
  exact ⟨f, fun z => g (by omega)⟩
theorem pk_lt {x y : Int32} {A B : Prop} (a b : Nat) (f : a < b → A) (g : b ≤ a → B) (hx : x = nI a := by rfl) (hy : y = nI b := by rfl) (ha : a < 2 ^ 31 := by omega) (hb : b < 2 ^ 31 := by omega) : (x < y → A) ∧ (¬ x < y → B) := by
  subst hx hy
  rw [nI_ltI ha hb]
  exact ⟨f, fun z => g (by omega)⟩
theorem pk_eq {x y : Int32} {A B : Prop} (a b : Nat) (f : a = b → A) (g : a ≠ b → B) (hx : x = nI a := by rfl) (hy : y = nI b := by rfl) (ha : a < 2 ^ 31 := by omega) (hb : b < 2 ^ 31 := by omega) : (x = y → A) ∧ (¬ x = y → B) := by
  subst hx hy
  rw [nI_eq ha hb]
  exact ⟨f, g⟩
theorem pk_in {x : Int32} (n N : Nat) (h : n < N) (hx : x = nI n := by rfl) (hN : N < 2 ^ 31 := by omega) : vp_in x N := by
  subst hx
  exact vp_in_nI h hN
theorem pk_cl {x : Int32} (n : Nat) (hx : x = nI n := by rfl) (h : n < 2 ^ 31 := by omega) : x.toNatClampNeg = n := by
  subst hx
  exact nI_clamp h
theorem pk_tn {n : Nat} (h : n < 2 ^ 32) : (nI n).toBitVec.toNat = n := Nat.mod_eq_of_lt h
theorem pk_shr (a s : Int32) (k : Nat) (hs : (s.toBitVec.smod 32).toNat = k) : (a >>> s).toInt = a.toInt >>> k := by
  show (a.toBitVec.sshiftRight (s.toBitVec.smod 32).toNat).toInt = _
  rw [hs, BitVec.toInt_sshiftRight]
  rfl
theorem pk_shrN {n : Nat} (h : n < 2 ^ 31) (s : Int32) (k : Nat) (hs : (s.toBitVec.smod 32).toNat = k) : nI n >>> s = nI (n / 2 ^ k) := by
  apply Int32.toInt_inj.mp
  have h2 : n / 2 ^ k ≤ n := Nat.div_le_self _ _
  rw [pk_shr _ _ k hs, nI_toInt h, nI_toInt (by omega), Int.shiftRight_eq_div_pow]
  rfl
theorem pk_least (P : Nat → Prop) (h : ∃ k, P k) : ∃ k, P k ∧ ∀ j, j < k → ¬ P j := by
  obtain ⟨k, hk⟩ := h
  induction k using Nat.strongRecOn with
  | ind k ih =>
    by_cases e : ∃ j, j < k ∧ P j
    · obtain ⟨j, hj, pj⟩ := e
      exact ih j hj pj
    · exact ⟨k, hk, fun j hj pj => e ⟨j, hj, pj⟩⟩
theorem s_l : ∀ n, n < 32 → ((nI n &&& 31).toBitVec.smod 32).toNat = n := by decide +kernel
theorem nx_and (a b : Nat) : nI a &&& nI b = nI (a &&& b) := by
  apply Int32.toBitVec_inj.1
  show BitVec.ofNat 32 a &&& BitVec.ofNat 32 b = BitVec.ofNat 32 (a &&& b)
  apply BitVec.eq_of_getLsbD_eq
  intro i hi
  simp [hi]
theorem nx_xor (a b : Nat) : nI a ^^^ nI b = nI (a ^^^ b) := by
  apply Int32.toBitVec_inj.1
  show BitVec.ofNat 32 a ^^^ BitVec.ofNat 32 b = BitVec.ofNat 32 (a ^^^ b)
  apply BitVec.eq_of_getLsbD_eq
  intro i hi
  simp [hi]
theorem nx_mod (k : Nat) : nI k &&& 65535 = nI (k % 65536) := by
  show nI k &&& nI 65535 = _
  rw [nx_and, show (65535 : Nat) = 2 ^ 16 - 1 from rfl, Nat.and_two_pow_sub_one_eq_mod]
theorem nx_mask (x : Int32) : ∃ k, k < 65536 ∧ x &&& 65535 = nI k := by
  have e : x = nI x.toBitVec.toNat := by
    apply Int32.toBitVec_inj.1
    show x.toBitVec = BitVec.ofNat 32 x.toBitVec.toNat
    simp
  refine ⟨x.toBitVec.toNat % 65536, Nat.mod_lt _ (by omega), ?_⟩
  rw [← nx_mod, ← e]
/-! ===== bits of a value of sixteen digits ===== -/
theorem sc_bit {k j : Nat} (hk : k < 65536) (hj : j < 32) : ((nI k >>> (nI j &&& 31)) &&& 1) = 0 ↔ k.testBit j = false := by
  have h2 : k / 2 ^ j ≤ k := Nat.div_le_self _ _
  rw [pk_shrN (by omega) _ j (s_l j hj)]
  show nI (k / 2 ^ j) &&& nI 1 = 0 ↔ _
  rw [nx_and, Nat.and_one_is_mod, ← nI_0, nI_eq (by omega) (by omega), Nat.testBit_eq_decide_div_mod_eq, decide_eq_false_iff_not]
  generalize k / 2 ^ j = z
  omega
theorem sc_bits {k : Nat} (hk : k < 65536) (h0 : k ≠ 0) : ∃ j, j < 16 ∧ k.testBit j = true := by
  apply Classical.byContradiction
  intro hn
  apply h0
  apply Nat.eq_of_testBit_eq
  intro i
  rw [Nat.zero_testBit]
  by_cases hi : i < 16
  · cases hb : k.testBit i with
    | false => rfl
    | true => exact (hn ⟨i, hi, hb⟩).elim
  · have hp : 65536 ≤ 2 ^ i := by
      have := Nat.pow_le_pow_right (n := 2) (by decide) (show 16 ≤ i by omega)
      omega
    exact Nat.testBit_lt_two_pow (Nat.lt_of_lt_of_le hk hp)
theorem sc_first {k : Nat} (F : Nat → Int32) (G : Nat → Nat) (hG : ∀ b, b < 16 → ∃ j, j < 16 ∧ G j = b) (e : ∀ j, j < 16 → (F j = 0 ↔ k.testBit (G j) = false)) (hk : k < 65536) (h0 : k ≠ 0) :
    ∃ l, l < 16 ∧ ¬ F l = 0 ∧ ∀ j, j < l → F j = 0 := by
  obtain ⟨b, hb, hbt⟩ := sc_bits hk h0
  obtain ⟨c, hc, hcb⟩ := hG b hb
  obtain ⟨l, ⟨hl, hl2⟩, hmin⟩ := pk_least (fun j => j < 16 ∧ k.testBit (G j) = true) ⟨c, hc, by rw [hcb]; exact hbt⟩
  refine ⟨l, hl, fun z => ?_, fun j hj => ?_⟩
  · rw [(e l hl).mp z] at hl2
    cases hl2
  · have hj16 : j < 16 := by omega
    refine (e j hj16).mpr ?_
    cases hb2 : k.testBit (G j) with
    | false => rfl
    | true => exact (hmin j hj ⟨hj16, hb2⟩).elim
theorem sc_lead {k : Nat} (hk : k < 65536) (h0 : k ≠ 0) : ∃ l, l < 16 ∧ ¬ ((nI k >>> ((15 - nI l) &&& 31)) &&& 1) = 0 ∧ ∀ j, j < l → ((nI k >>> ((15 - nI j) &&& 31)) &&& 1) = 0 := by
  refine sc_first (fun j => (nI k >>> ((15 - nI j) &&& 31)) &&& 1) (fun j => 15 - j) (fun b hb => ⟨15 - b, by omega, ?_⟩) (fun j hj => ?_) hk h0
  · show 15 - (15 - b) = b
    omega
  · show (nI k >>> ((15 - nI j) &&& 31)) &&& 1 = 0 ↔ k.testBit (15 - j) = false
    rw [show (15 : Int32) - nI j = nI (15 - j) from pk_sub (a := 15) (by omega)]
    exact sc_bit hk (by omega)
theorem sc_trail {k : Nat} (hk : k < 65536) (h0 : k ≠ 0) : ∃ l, l < 16 ∧ ¬ ((nI k >>> (nI l &&& 31)) &&& 1) = 0 ∧ ∀ j, j < l → ((nI k >>> (nI j &&& 31)) &&& 1) = 0 :=
  sc_first (fun j => (nI k >>> (nI j &&& 31)) &&& 1) (fun j => j) (fun b hb => ⟨b, hb, rfl⟩) (fun j hj => sc_bit hk (by omega)) hk h0
theorem sc_xor {a b : Nat} (ha : a < 65536) (hb : b < 65536) : ∃ k, k < 65536 ∧ nI a ^^^ nI b = nI k :=
  ⟨a ^^^ b, Nat.xor_lt_two_pow (n := 16) ha hb, nx_xor a b⟩
/-! ===== what both states hold ===== -/
def sc_ok (n : Nat) (T V : Nat → Int32) : Prop := n ≤ 64 ∧ (∀ j, j < n → ∃ a, a ≤ 60000 ∧ T j = nI a) ∧ (∀ j, j + 1 < n → T j ≤ T (j + 1)) ∧ (∀ j, j < n → ∃ b, b < 65536 ∧ V j = nI b)
theorem sc_ok0 (T V : Nat → Int32) : sc_ok 0 T V := ⟨by omega, fun j hj => by omega, fun j hj => by omega, fun j hj => by omega⟩
theorem sc_okm {n m : Nat} {T V : Nat → Int32} (h : sc_ok n T V) (hm : m ≤ n) : sc_ok m T V :=
  ⟨by have := h.1; omega, fun j hj => h.2.1 j (by omega), fun j hj => h.2.2.1 j (by omega), fun j hj => h.2.2.2 j (by omega)⟩
/-- a is the time of the last of n points, 0 without a point -/
def sc_la (n : Nat) (T : Nat → Int32) (a : Nat) : Prop := (n = 0 ∧ a = 0) ∨ (∃ m, n = m + 1 ∧ T m = nI a)
theorem sc_last {n : Nat} {T V : Nat → Int32} (h : sc_ok n T V) : ∃ a, a ≤ 60000 ∧ sc_la n T a := by
  cases n with
  | zero => exact ⟨0, by omega, Or.inl ⟨rfl, rfl⟩⟩
  | succ m =>
    obtain ⟨a, ha, e⟩ := h.2.1 m (by omega)
    exact ⟨a, ha, Or.inr ⟨m, rfl, e⟩⟩
theorem sc_put {n a g b : Nat} {T V : Nat → Int32} (h : sc_ok n T V) (hn : n < 64) (hl : sc_la n T a) (hg : a + g ≤ 60000) (hb : b < 65536) :
    sc_ok (n + 1) (upd T n (nI (a + g))) (upd V n (nI b)) ∧ sc_la (n + 1) (upd T n (nI (a + g))) (a + g) := by
  refine ⟨⟨by omega, fun j hj => ?_, fun j hj => ?_, fun j hj => ?_⟩, Or.inr ⟨n, rfl, pk_us⟩⟩
  · by_cases e : j = n
    · subst e
      exact ⟨a + g, hg, pk_us⟩
    · obtain ⟨c, hc, e2⟩ := h.2.1 j (by omega)
      exact ⟨c, hc, (pk_un e).trans e2⟩
  · rcases hl with ⟨h0, _⟩ | ⟨m, rfl, hm⟩
    · omega
    · by_cases e : j = m
      · subst e
        rw [pk_un (show j ≠ j + 1 by omega), pk_us, hm]
        exact nI_le (by omega) (by omega)
      · rw [pk_un (show j ≠ m + 1 by omega), pk_un (show j + 1 ≠ m + 1 by omega)]
        exact h.2.2.1 j (by omega)
  · by_cases e : j = n
    · subst e
      exact ⟨b, hb, pk_us⟩
    · obtain ⟨c, hc, e2⟩ := h.2.2.2 j (by omega)
      exact ⟨c, hc, (pk_un e).trans e2⟩
/-- the first i places taken from sixteen further on -/
def sc_sh (T : Nat → Int32) (i : Nat) : Nat → Int32 := fun j => if j < i then T (j + 16) else T j
theorem sc_sh0 (T : Nat → Int32) : sc_sh T 0 = T := by
  funext j
  exact if_neg (by omega)
theorem sc_sh1 (T : Nat → Int32) (i : Nat) : upd (sc_sh T i) i (T (i + 16)) = sc_sh T (i + 1) := by
  funext j
  unfold upd sc_sh
  by_cases e : j = i
  · subst e
    rw [if_pos rfl, if_pos (show j < j + 1 by omega)]
  · rw [if_neg e]
    by_cases h : j < i
    · rw [if_pos h, if_pos (show j < i + 1 by omega)]
    · rw [if_neg h, if_neg (show ¬ j < i + 1 by omega)]
theorem sc_shr (T : Nat → Int32) (i : Nat) : sc_sh T i (i + 16) = T (i + 16) := if_neg (by omega)
theorem sc_shl (T : Nat → Int32) {i j : Nat} (h : j < i) : sc_sh T i j = T (j + 16) := if_pos h
theorem sc_drop {m : Nat} {T V : Nat → Int32} (h : sc_ok (m + 16) T V) : sc_ok m (sc_sh T m) (sc_sh V m) := by
  refine ⟨by have := h.1; omega, fun j hj => ?_, fun j hj => ?_, fun j hj => ?_⟩
  · rw [sc_shl T hj]
    exact h.2.1 (j + 16) (by omega)
  · rw [sc_shl T (show j < m by omega), sc_shl T hj, show j + 1 + 16 = j + 16 + 1 by omega]
    exact h.2.2.1 (j + 16) (by omega)
  · rw [sc_shl V hj]
    exact h.2.2.2 (j + 16) (by omega)
/-- the value of the last of n points whose time is at most t -/
def sc_va (T V : Nat → Int32) (t : Int32) : Nat → Int32
  | 0 => -4
  | n + 1 => if T n ≤ t then V n else sc_va T V t n
theorem sc_va_t {T V : Nat → Int32} {t : Int32} {n : Nat} (h : T n ≤ t) : sc_va T V t (n + 1) = V n := if_pos h
theorem sc_va_f {T V : Nat → Int32} {t : Int32} {n : Nat} (h : ¬ T n ≤ t) : sc_va T V t (n + 1) = sc_va T V t n := if_neg h
/-- the size of a difference of time gaps -/
def sc_ts (d : Int32) : Int32 := if d = 0 then 1 else if -7 ≤ d ∧ d ≤ 8 then 6 else if -63 ≤ d ∧ d ≤ 64 then 10 else 21
/-! ===== an argument against a range ===== -/
theorem sc_rng (x : Int32) (M : Nat) (hM : M < 2 ^ 31) : x < 0 ∨ (¬ x < 0 ∧ nI M < x) ∨ ∃ j : Nat, j ≤ M ∧ x = nI j := by
  by_cases h : x < 0
  · exact Or.inl h
  · obtain ⟨j, hj, rfl⟩ := nI_of h
    by_cases h2 : j ≤ M
    · exact Or.inr (Or.inr ⟨j, h2, rfl⟩)
    · exact Or.inr (Or.inl ⟨h, nI_lt (by omega) hj⟩)
theorem sc_ix (x : Int32) {n : Nat} (hn : n < 2 ^ 31) : (x < 0 ∨ (¬ x < 0 ∧ nI n ≤ x)) ∨ ∃ j : Nat, j < n ∧ x = nI j := by
  by_cases h : x < 0
  · exact Or.inl (Or.inl h)
  · obtain ⟨j, hj, rfl⟩ := nI_of h
    by_cases h2 : j < n
    · exact Or.inr ⟨j, h2, rfl⟩
    · exact Or.inl (Or.inr ⟨h, nI_le (by omega) hj⟩)
theorem sc_nl {a b : Nat} (h : a ≤ b) (hb : b < 2 ^ 31) : ¬ nI b < nI a := nI_nlt h hb
theorem sc_10 : ¬ (1 : Int32) = 0 := by decide
theorem sc_ch {n : Nat} (h : n ≤ 64) : (nI n + 16 - 1) / 16 = nI ((n + 15) / 16) := by
  have e : nI n + 16 - 1 = nI (n + 15) := by
    show nI n + nI 16 - 1 = _
    rw [nI_add, show n + 16 = n + 15 + 1 by omega, nI_pred]
  rw [e]
  exact pk_div (d := 16) (by omega) (by omega) (by omega)
def sc_end (j n : Nat) : Nat := if n ≤ 16 * j + 16 then n else 16 * j + 16
