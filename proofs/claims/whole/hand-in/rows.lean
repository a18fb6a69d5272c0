section
/-! rows pasted from the given rows (stores, numbers, shifts, bits) -/
theorem pk_us {f : Nat → Int32} {k : Nat} {x : Int32} : upd f k x k = x := if_pos rfl
theorem pk_un {f : Nat → Int32} {k j : Nat} {x : Int32} (h : j ≠ k) : upd f k x j = f j := if_neg h
theorem pk_sub {a b : Nat} (h : b ≤ a) : nI a - nI b = nI (a - b) := by
  obtain ⟨c, rfl⟩ : ∃ c, a = c + b := ⟨a - b, by omega⟩
  rw [← nI_add, Int32.add_sub_cancel, Nat.add_sub_cancel]
theorem pk_m1 (n : Nat) : nI (n + 1) + (-1) = nI n := by
  rw [← nI_1, Int32.add_assoc, show (1 : Int32) + (-1) = 0 from rfl, Int32.add_zero]
theorem pk_mul (a b : Nat) : nI a * nI b = nI (a * b) := (Int32.ofNat_mul a b).symm
theorem pk_div {a d : Nat} (ha : a < 2 ^ 31) (h0 : 0 < d) (hd : d < 2 ^ 31) : nI a / nI d = nI (a / d) := by
  apply Int32.toInt_inj.mp
  rw [lg_idiv_nonneg (by rw [nI_toInt ha]; omega) (by rw [nI_toInt hd]; omega), nI_toInt ha, nI_toInt hd, nI_toInt (Nat.lt_of_le_of_lt (Nat.div_le_self a d) ha)]
  first | rfl | exact (Int.natCast_ediv _ _).symm
theorem pk_rem {a d : Nat} (ha : a < 2 ^ 31) (h0 : 0 < d) (hd : d < 2 ^ 31) : nI a - nI a / nI d * nI d = nI (a % d) := by
  rw [pk_div ha h0 hd, pk_mul, pk_sub (Nat.div_mul_le_self a d)]
  exact congrArg nI (by have := Nat.div_add_mod' a d; omega)
theorem pk_sub_toInt {a b : Nat} (ha : a < 2 ^ 30) (hb : b < 2 ^ 30) : (nI a - nI b).toInt = (a : Int) - b := by
  rw [Int32.toInt_sub, nI_toInt (by omega), nI_toInt (by omega)]
  exact Int.bmod_eq_of_le (by omega) (by omega)
theorem pk_le {x y : Int32} {A B : Prop} (a b : Nat) (f : a ≤ b → A) (g : b < a → B) (hx : x = nI a := by rfl) (hy : y = nI b := by rfl) (ha : a < 2 ^ 31 := by omega) (hb : b < 2 ^ 31 := by omega) : (x ≤ y → A) ∧ (¬ x ≤ y → B) := by
  subst hx hy
  rw [nI_leI ha hb]
  exact ⟨f, fun z => g (by omega)⟩
theorem pk_lt {x y : Int32} {A B : Prop} (a b : Nat) (f : a < b → A) (g : b ≤ a → B) (hx : x = nI a := by rfl) (hy : y = nI b := by rfl) (ha : a < 2 ^ 31 := by omega) (hb : b < 2 ^ 31 := by omega) : (x < y → A) ∧ (¬ x < y → B) := by
  subst hx hy
  rw [nI_ltI ha hb]
  exact ⟨f, fun z => g (by omega)⟩
theorem pk_eq {x y : Int32} {A B : Prop} (a b : Nat) (f : a = b → A) (g : a ≠ b → B) (hx : x = nI a := by rfl) (hy : y = nI b := by rfl) (ha : a < 2 ^ 31 := by omega) (hb : b < 2 ^ 31 := by omega) : (x = y → A) ∧ (¬ x = y → B) := by
  subst hx hy
  rw [nI_eq ha hb]
  exact ⟨f, g⟩
theorem pk_in {x : Int32} (n N : Nat) (h : n < N) (hx : x = nI n := by rfl) (hN : N < 2 ^ 31 := by omega) : vp_in x N := by
  subst hx
  exact vp_in_nI h hN
theorem pk_cl {x : Int32} (n : Nat) (hx : x = nI n := by rfl) (h : n < 2 ^ 31 := by omega) : x.toNatClampNeg = n := by
  subst hx
  exact nI_clamp h
theorem pk_tn {n : Nat} (h : n < 2 ^ 32) : (nI n).toBitVec.toNat = n := Nat.mod_eq_of_lt h
theorem pk_shr (a s : Int32) (k : Nat) (hs : (s.toBitVec.smod 32).toNat = k) : (a >>> s).toInt = a.toInt >>> k := by
  show (a.toBitVec.sshiftRight (s.toBitVec.smod 32).toNat).toInt = _
  rw [hs, BitVec.toInt_sshiftRight]
  rfl
theorem pk_shrN {n : Nat} (h : n < 2 ^ 31) (s : Int32) (k : Nat) (hs : (s.toBitVec.smod 32).toNat = k) : nI n >>> s = nI (n / 2 ^ k) := by
  apply Int32.toInt_inj.mp
  have h2 : n / 2 ^ k ≤ n := Nat.div_le_self _ _
  rw [pk_shr _ _ k hs, nI_toInt h, nI_toInt (by omega), Int.shiftRight_eq_div_pow]
  rfl
theorem pk_least (P : Nat → Prop) (h : ∃ k, P k) : ∃ k, P k ∧ ∀ j, j < k → ¬ P j := by
  obtain ⟨k, hk⟩ := h
  induction k using Nat.strongRecOn with
  | ind k ih =>
    by_cases e : ∃ j, j < k ∧ P j
    · obtain ⟨j, hj, pj⟩ := e
      exact ih j hj pj
    · exact ⟨k, hk, fun j hj pj => e ⟨j, hj, pj⟩⟩
theorem s_l : ∀ n, n < 32 → ((nI n &&& 31).toBitVec.smod 32).toNat = n := by decide +kernel
theorem nx_and (a b : Nat) : nI a &&& nI b = nI (a &&& b) := by
  apply Int32.toBitVec_inj.1
  show BitVec.ofNat 32 a &&& BitVec.ofNat 32 b = BitVec.ofNat 32 (a &&& b)
  apply BitVec.eq_of_getLsbD_eq
  intro i hi
  simp [hi]
theorem nx_xor (a b : Nat) : nI a ^^^ nI b = nI (a ^^^ b) := by
  apply Int32.toBitVec_inj.1
  show BitVec.ofNat 32 a ^^^ BitVec.ofNat 32 b = BitVec.ofNat 32 (a ^^^ b)
  apply BitVec.eq_of_getLsbD_eq
  intro i hi
  simp [hi]
theorem nx_mod (k : Nat) : nI k &&& 65535 = nI (k % 65536) := by
  show nI k &&& nI 65535 = _
  rw [nx_and, show (65535 : Nat) = 2 ^ 16 - 1 from rfl, Nat.and_two_pow_sub_one_eq_mod]
theorem nx_mask (x : Int32) : ∃ k, k < 65536 ∧ x &&& 65535 = nI k := by
  have e : x = nI x.toBitVec.toNat := by
    apply Int32.toBitVec_inj.1
    show x.toBitVec = BitVec.ofNat 32 x.toBitVec.toNat
    simp
  refine ⟨x.toBitVec.toNat % 65536, Nat.mod_lt _ (by omega), ?_⟩
  rw [← nx_mod, ← e]
/-! ===== bits of a value of sixteen digits ===== -/
theorem sc_bit {k j : Nat} (hk : k < 65536) (hj : j < 32) : ((nI k >>> (nI j &&& 31)) &&& 1) = 0 ↔ k.testBit j = false := by
  have h2 : k / 2 ^ j ≤ k := Nat.div_le_self _ _
  rw [pk_shrN (by omega) _ j (s_l j hj)]
  show nI (k / 2 ^ j) &&& nI 1 = 0 ↔ _
  rw [nx_and, Nat.and_one_is_mod, ← nI_0, nI_eq (by omega) (by omega), Nat.testBit_eq_decide_div_mod_eq, decide_eq_false_iff_not]
  generalize k / 2 ^ j = z
  omega
theorem sc_bits {k : Nat} (hk : k < 65536) (h0 : k ≠ 0) : ∃ j, j < 16 ∧ k.testBit j = true := by
  apply Classical.byContradiction
  intro hn
  apply h0
  apply Nat.eq_of_testBit_eq
  intro i
  rw [Nat.zero_testBit]
  by_cases hi : i < 16
  · cases hb : k.testBit i with
    | false => rfl
    | true => exact (hn ⟨i, hi, hb⟩).elim
  · have hp : 65536 ≤ 2 ^ i := by
      have := Nat.pow_le_pow_right (n := 2) (by decide) (show 16 ≤ i by omega)
      omega
    exact Nat.testBit_lt_two_pow (Nat.lt_of_lt_of_le hk hp)
theorem sc_first {k : Nat} (F : Nat → Int32) (G : Nat → Nat) (hG : ∀ b, b < 16 → ∃ j, j < 16 ∧ G j = b) (e : ∀ j, j < 16 → (F j = 0 ↔ k.testBit (G j) = false)) (hk : k < 65536) (h0 : k ≠ 0) :
    ∃ l, l < 16 ∧ ¬ F l = 0 ∧ ∀ j, j < l → F j = 0 := by
  obtain ⟨b, hb, hbt⟩ := sc_bits hk h0
  obtain ⟨c, hc, hcb⟩ := hG b hb
  obtain ⟨l, ⟨hl, hl2⟩, hmin⟩ := pk_least (fun j => j < 16 ∧ k.testBit (G j) = true) ⟨c, hc, by rw [hcb]; exact hbt⟩
  refine ⟨l, hl, fun z => ?_, fun j hj => ?_⟩
  · rw [(e l hl).mp z] at hl2
    cases hl2
  · have hj16 : j < 16 := by omega
    refine (e j hj16).mpr ?_
    cases hb2 : k.testBit (G j) with
    | false => rfl
    | true => exact (hmin j hj ⟨hj16, hb2⟩).elim
theorem sc_lead {k : Nat} (hk : k < 65536) (h0 : k ≠ 0) : ∃ l, l < 16 ∧ ¬ ((nI k >>> ((15 - nI l) &&& 31)) &&& 1) = 0 ∧ ∀ j, j < l → ((nI k >>> ((15 - nI j) &&& 31)) &&& 1) = 0 := by
  refine sc_first (fun j => (nI k >>> ((15 - nI j) &&& 31)) &&& 1) (fun j => 15 - j) (fun b hb => ⟨15 - b, by omega, ?_⟩) (fun j hj => ?_) hk h0
  · show 15 - (15 - b) = b
    omega
  · show (nI k >>> ((15 - nI j) &&& 31)) &&& 1 = 0 ↔ k.testBit (15 - j) = false
    rw [show (15 : Int32) - nI j = nI (15 - j) from pk_sub (a := 15) (by omega)]
    exact sc_bit hk (by omega)
theorem sc_trail {k : Nat} (hk : k < 65536) (h0 : k ≠ 0) : ∃ l, l < 16 ∧ ¬ ((nI k >>> (nI l &&& 31)) &&& 1) = 0 ∧ ∀ j, j < l → ((nI k >>> (nI j &&& 31)) &&& 1) = 0 :=
  sc_first (fun j => (nI k >>> (nI j &&& 31)) &&& 1) (fun j => j) (fun b hb => ⟨b, hb, rfl⟩) (fun j hj => sc_bit hk (by omega)) hk h0
theorem sc_xor {a b : Nat} (ha : a < 65536) (hb : b < 65536) : ∃ k, k < 65536 ∧ nI a ^^^ nI b = nI k :=
  ⟨a ^^^ b, Nat.xor_lt_two_pow (n := 16) ha hb, nx_xor a b⟩
/-! ===== what both states hold ===== -/
def sc_ok (n : Nat) (T V : Nat → Int32) : Prop := n ≤ 64 ∧ (∀ j, j < n → ∃ a, a ≤ 60000 ∧ T j = nI a) ∧ (∀ j, j + 1 < n → T j ≤ T (j + 1)) ∧ (∀ j, j < n → ∃ b, b < 65536 ∧ V j = nI b)
theorem sc_ok0 (T V : Nat → Int32) : sc_ok 0 T V := ⟨by omega, fun j hj => by omega, fun j hj => by omega, fun j hj => by omega⟩
theorem sc_okm {n m : Nat} {T V : Nat → Int32} (h : sc_ok n T V) (hm : m ≤ n) : sc_ok m T V :=
  ⟨by have := h.1; omega, fun j hj => h.2.1 j (by omega), fun j hj => h.2.2.1 j (by omega), fun j hj => h.2.2.2 j (by omega)⟩
/-- a is the time of the last of n points, 0 without a point -/
def sc_la (n : Nat) (T : Nat → Int32) (a : Nat) : Prop := (n = 0 ∧ a = 0) ∨ (∃ m, n = m + 1 ∧ T m = nI a)
theorem sc_last {n : Nat} {T V : Nat → Int32} (h : sc_ok n T V) : ∃ a, a ≤ 60000 ∧ sc_la n T a := by
  cases n with
  | zero => exact ⟨0, by omega, Or.inl ⟨rfl, rfl⟩⟩
  | succ m =>
    obtain ⟨a, ha, e⟩ := h.2.1 m (by omega)
    exact ⟨a, ha, Or.inr ⟨m, rfl, e⟩⟩
theorem sc_put {n a g b : Nat} {T V : Nat → Int32} (h : sc_ok n T V) (hn : n < 64) (hl : sc_la n T a) (hg : a + g ≤ 60000) (hb : b < 65536) :
    sc_ok (n + 1) (upd T n (nI (a + g))) (upd V n (nI b)) ∧ sc_la (n + 1) (upd T n (nI (a + g))) (a + g) := by
  refine ⟨⟨by omega, fun j hj => ?_, fun j hj => ?_, fun j hj => ?_⟩, Or.inr ⟨n, rfl, pk_us⟩⟩
  · by_cases e : j = n
    · subst e
      exact ⟨a + g, hg, pk_us⟩
    · obtain ⟨c, hc, e2⟩ := h.2.1 j (by omega)
      exact ⟨c, hc, (pk_un e).trans e2⟩
  · rcases hl with ⟨h0, _⟩ | ⟨m, rfl, hm⟩
    · omega
    · by_cases e : j = m
      · subst e
        rw [pk_un (show j ≠ j + 1 by omega), pk_us, hm]
        exact nI_le (by omega) (by omega)
      · rw [pk_un (show j ≠ m + 1 by omega), pk_un (show j + 1 ≠ m + 1 by omega)]
        exact h.2.2.1 j (by omega)
  · by_cases e : j = n
    · subst e
      exact ⟨b, hb, pk_us⟩
    · obtain ⟨c, hc, e2⟩ := h.2.2.2 j (by omega)
      exact ⟨c, hc, (pk_un e).trans e2⟩
/-- the first i places taken from sixteen further on -/
def sc_sh (T : Nat → Int32) (i : Nat) : Nat → Int32 := fun j => if j < i then T (j + 16) else T j
theorem sc_sh0 (T : Nat → Int32) : sc_sh T 0 = T := by
  funext j
  exact if_neg (by omega)
theorem sc_sh1 (T : Nat → Int32) (i : Nat) : upd (sc_sh T i) i (T (i + 16)) = sc_sh T (i + 1) := by
  funext j
  unfold upd sc_sh
  by_cases e : j = i
  · subst e
    rw [if_pos rfl, if_pos (show j < j + 1 by omega)]
  · rw [if_neg e]
    by_cases h : j < i
    · rw [if_pos h, if_pos (show j < i + 1 by omega)]
    · rw [if_neg h, if_neg (show ¬ j < i + 1 by omega)]
theorem sc_shr (T : Nat → Int32) (i : Nat) : sc_sh T i (i + 16) = T (i + 16) := if_neg (by omega)
theorem sc_shl (T : Nat → Int32) {i j : Nat} (h : j < i) : sc_sh T i j = T (j + 16) := if_pos h
theorem sc_drop {m : Nat} {T V : Nat → Int32} (h : sc_ok (m + 16) T V) : sc_ok m (sc_sh T m) (sc_sh V m) := by
  refine ⟨by have := h.1; omega, fun j hj => ?_, fun j hj => ?_, fun j hj => ?_⟩
  · rw [sc_shl T hj]
    exact h.2.1 (j + 16) (by omega)
  · rw [sc_shl T (show j < m by omega), sc_shl T hj, show j + 1 + 16 = j + 16 + 1 by omega]
    exact h.2.2.1 (j + 16) (by omega)
  · rw [sc_shl V hj]
    exact h.2.2.2 (j + 16) (by omega)
/-- the value of the last of n points whose time is at most t -/
def sc_va (T V : Nat → Int32) (t : Int32) : Nat → Int32
  | 0 => -4
  | n + 1 => if T n ≤ t then V n else sc_va T V t n
theorem sc_va_t {T V : Nat → Int32} {t : Int32} {n : Nat} (h : T n ≤ t) : sc_va T V t (n + 1) = V n := if_pos h
theorem sc_va_f {T V : Nat → Int32} {t : Int32} {n : Nat} (h : ¬ T n ≤ t) : sc_va T V t (n + 1) = sc_va T V t n := if_neg h
/-- the size of a difference of time gaps -/
def sc_ts (d : Int32) : Int32 := if d = 0 then 1 else if -7 ≤ d ∧ d ≤ 8 then 6 else if -63 ≤ d ∧ d ≤ 64 then 10 else 21
/-! ===== an argument against a range ===== -/
theorem sc_rng (x : Int32) (M : Nat) (hM : M < 2 ^ 31) : x < 0 ∨ (¬ x < 0 ∧ nI M < x) ∨ ∃ j : Nat, j ≤ M ∧ x = nI j := by
  by_cases h : x < 0
  · exact Or.inl h
  · obtain ⟨j, hj, rfl⟩ := nI_of h
    by_cases h2 : j ≤ M
    · exact Or.inr (Or.inr ⟨j, h2, rfl⟩)
    · exact Or.inr (Or.inl ⟨h, nI_lt (by omega) hj⟩)
theorem sc_ix (x : Int32) {n : Nat} (hn : n < 2 ^ 31) : (x < 0 ∨ (¬ x < 0 ∧ nI n ≤ x)) ∨ ∃ j : Nat, j < n ∧ x = nI j := by
  by_cases h : x < 0
  · exact Or.inl (Or.inl h)
  · obtain ⟨j, hj, rfl⟩ := nI_of h
    by_cases h2 : j < n
    · exact Or.inr ⟨j, h2, rfl⟩
    · exact Or.inl (Or.inr ⟨h, nI_le (by omega) hj⟩)
theorem sc_nl {a b : Nat} (h : a ≤ b) (hb : b < 2 ^ 31) : ¬ nI b < nI a := nI_nlt h hb
theorem sc_10 : ¬ (1 : Int32) = 0 := by decide
theorem sc_ch {n : Nat} (h : n ≤ 64) : (nI n + 16 - 1) / 16 = nI ((n + 15) / 16) := by
  have e : nI n + 16 - 1 = nI (n + 15) := by
    show nI n + nI 16 - 1 = _
    rw [nI_add, show n + 16 = n + 15 + 1 by omega, nI_pred]
  rw [e]
  exact pk_div (d := 16) (by omega) (by omega) (by omega)
def sc_end (j n : Nat) : Nat := if n ≤ 16 * j + 16 then n else 16 * j + 16
end
section
/-! ===== the relation; the tests of arguments; points, time, value, unappend, firstFrom ===== -/
def i_Rel (_ : Nat) (u : SX) (v : SY) : Prop := ∃ (n : Nat) (l r : Int32) (T V : Nat → Int32), u = (nI n, T, V) ∧ v = (nI n, l, r, T, V) ∧ sc_ok n T V
theorem sc_rel {k n : Nat} {l r : Int32} {T V : Nat → Int32} (h : sc_ok n T V) : i_Rel k (nI n, T, V) (nI n, l, r, T, V) := ⟨n, l, r, T, V, rfl, rfl, h⟩
theorem i_up {k : Nat} {u : SX} {v : SY} (h : i_Rel k u v) : i_Rel (k + 5) u v := h
theorem i_vc0 : wpX_init (fun u => wpY_init (fun v => i_Rel 0 u v)) := by
  have h : i_Rel 0 (nI 0, (fun _ => 0), (fun _ => 0)) (nI 0, 0, 0, (fun _ => 0), (fun _ => 0)) := sc_rel (sc_ok0 _ _)
  rw [nI_0] at h
  exact h
section
variable {n : Nat} {l r : Int32} {T V : Nat → Int32}
theorem sx_T_t {post : Int32 → Prop} {j : Nat} (h : j ≤ 60000) (hp : post 1) : wpX_isTime post (nI n, T, V) (nI j) :=
  br_f (nI_pos (by omega)) (br_f (nI_nlt (a := 60000) h (by omega)) hp)
theorem sx_T_f {post : Int32 → Prop} {x : Int32} (h : x < 0 ∨ (¬ x < 0 ∧ nI 60000 < x)) (hp : post 0) : wpX_isTime post (nI n, T, V) x := by
  rcases h with h | ⟨h, g⟩
  · exact br_t h hp
  · exact br_f h (br_t g hp)
theorem sx_V_t {post : Int32 → Prop} {j : Nat} (h : j ≤ 65535) (hp : post 1) : wpX_isValue post (nI n, T, V) (nI j) :=
  br_f (nI_pos (by omega)) (br_f (nI_nlt (a := 65535) h (by omega)) hp)
theorem sx_V_f {post : Int32 → Prop} {x : Int32} (h : x < 0 ∨ (¬ x < 0 ∧ nI 65535 < x)) (hp : post 0) : wpX_isValue post (nI n, T, V) x := by
  rcases h with h | ⟨h, g⟩
  · exact br_t h hp
  · exact br_f h (br_t g hp)
theorem sy_V_t {post : Int32 → Prop} {j : Nat} (h : j ≤ 65535) (hp : post 1) : wpY_isValue post (nI n, l, r, T, V) (nI j) :=
  br_f (nI_pos (by omega)) (br_f (nI_nlt (a := 65535) h (by omega)) hp)
theorem sy_V_f {post : Int32 → Prop} {x : Int32} (h : x < 0 ∨ (¬ x < 0 ∧ nI 65535 < x)) (hp : post 0) : wpY_isValue post (nI n, l, r, T, V) x := by
  rcases h with h | ⟨h, g⟩
  · exact br_t h hp
  · exact br_f h (br_t g hp)
theorem sx_P_f {post : Int32 → Prop} {x : Int32} (g : x < 0 ∨ (¬ x < 0 ∧ nI n ≤ x)) (hp : post 0) : wpX_isPoint post (nI n, T, V) x := by
  rcases g with g | ⟨g, g2⟩
  · exact br_t g hp
  · exact br_f g (br_t g2 hp)
theorem sx_P_t {post : Int32 → Prop} {j : Nat} (hj : j < n) (hn : n ≤ 64) (hp : post 1) : wpX_isPoint post (nI n, T, V) (nI j) :=
  br_f (nI_pos (by omega)) (br_f (nI_ge hj (by omega)) hp)
theorem sy_P_f {post : Int32 → Prop} {x : Int32} (g : x < 0 ∨ (¬ x < 0 ∧ nI n ≤ x)) (hp : post 0) : wpY_isPoint post (nI n, l, r, T, V) x := by
  rcases g with g | ⟨g, g2⟩
  · exact br_t g hp
  · exact br_f g (br_t g2 hp)
theorem sy_P_t {post : Int32 → Prop} {j : Nat} (hj : j < n) (hn : n ≤ 64) (hp : post 1) : wpY_isPoint post (nI n, l, r, T, V) (nI j) :=
  br_f (nI_pos (by omega)) (br_f (nI_ge hj (by omega)) hp)
theorem sx_L {post : Int32 → Prop} {a : Nat} (hl : sc_la n T a) (hn : n ≤ 64) (hp : post (nI a)) : wpX_lastTime post (nI n, T, V) := by
  rcases hl with ⟨rfl, rfl⟩ | ⟨m, rfl, e⟩
  · exact br_t nI_0 hp
  · refine br_f (nI_ne0 (by omega) (by omega)) (And.intro ?_ ?_)
    · rw [nI_pred]
      exact vp_in_nI (by omega) (by omega)
    · rw [nI_pred, nI_clamp (by omega), e]
      exact hp
theorem sy_L {post : Int32 → Prop} {a : Nat} (hl : sc_la n T a) (hn : n ≤ 64) (hp : post (nI a)) : wpY_lastTime post (nI n, l, r, T, V) := by
  rcases hl with ⟨rfl, rfl⟩ | ⟨m, rfl, e⟩
  · exact br_t nI_0 hp
  · refine br_f (nI_ne0 (by omega) (by omega)) (And.intro ?_ ?_)
    · rw [nI_pred]
      exact vp_in_nI (by omega) (by omega)
    · rw [nI_pred, nI_clamp (by omega), e]
      exact hp
theorem sc_ff (t : Int32) (hn : n ≤ 64) : ∀ d i : Nat, i + d = n → ∃ q : Int32, (∀ post : Int32 → Prop, post q → wX_firstFrom_2 post t (nI n) T V (d + 1) (nI i)) ∧ (∀ post : Int32 → Prop, post q → wY_firstFrom_2 post t (nI n) l r T V (d + 1) (nI i)) := by
  intro d
  induction d with
  | zero =>
    intro i hi
    have e : nI n ≤ nI i := nI_le (by omega) (by omega)
    exact ⟨-4, fun _ hp => br_t e hp, fun _ hp => br_t e hp⟩
  | succ d ih =>
    intro i hi
    have e : ¬ nI n ≤ nI i := nI_ge (by omega) (by omega)
    have v : vp_in (nI i) 64 := vp_in_nI (by omega) (by omega)
    by_cases z : T (nI i).toNatClampNeg < t
    · obtain ⟨q, hX, hY⟩ := ih (i + 1) (by omega)
      exact ⟨q, fun post hp => br_f e ⟨v, br_t z (nm_r (nI_1 i) (hX post hp))⟩, fun post hp => br_f e ⟨v, br_t z (nm_r (nI_1 i) (hY post hp))⟩⟩
    · exact ⟨nI i, fun _ hp => br_f e ⟨v, br_f z hp⟩, fun _ hp => br_f e ⟨v, br_f z hp⟩⟩
end
theorem i_vc_points {k : Nat} {u : SX} {v : SY} (I : i_Rel k u v) (hk : k + 5 ≤ 2560) : wpX_points (fun r => wpY_points (fun r' => r' = r ∧ i_Rel (k + 5) u v) v) u := by
  obtain ⟨n, l, r, T, V, rfl, rfl, h⟩ := I
  exact And.intro rfl (sc_rel h)
theorem i_vc_time {k : Nat} {u : SX} {v : SY} (I : i_Rel k u v) (hk : k + 5 ≤ 2560) (v1 : Int32) : wpX_time (fun r => wpY_time (fun r' => r' = r ∧ i_Rel (k + 5) u v) v v1) u v1 := by
  obtain ⟨n, l, r, T, V, rfl, rfl, h⟩ := I
  unfold wpX_time wpY_time
  dsimp only
  have hn := h.1
  rcases sc_ix v1 (n := n) (by omega) with g | ⟨j, hj, rfl⟩
  · exact sx_P_f g (br_t rfl (sy_P_f g (br_t rfl ⟨rfl, sc_rel h⟩)))
  · have w : vp_in (nI j) 64 := vp_in_nI (by omega) (by omega)
    exact sx_P_t hj hn (br_f sc_10 ⟨w, sy_P_t hj hn (br_f sc_10 ⟨w, rfl, sc_rel h⟩)⟩)
theorem i_vc_value {k : Nat} {u : SX} {v : SY} (I : i_Rel k u v) (hk : k + 5 ≤ 2560) (v1 : Int32) : wpX_value (fun r => wpY_value (fun r' => r' = r ∧ i_Rel (k + 5) u v) v v1) u v1 := by
  obtain ⟨n, l, r, T, V, rfl, rfl, h⟩ := I
  unfold wpX_value wpY_value
  dsimp only
  have hn := h.1
  rcases sc_ix v1 (n := n) (by omega) with g | ⟨j, hj, rfl⟩
  · exact sx_P_f g (br_t rfl (sy_P_f g (br_t rfl ⟨rfl, sc_rel h⟩)))
  · have w : vp_in (nI j) 64 := vp_in_nI (by omega) (by omega)
    exact sx_P_t hj hn (br_f sc_10 ⟨w, sy_P_t hj hn (br_f sc_10 ⟨w, rfl, sc_rel h⟩)⟩)
theorem i_vc_unappend {k : Nat} {u : SX} {v : SY} (I : i_Rel k u v) (hk : k + 5 ≤ 2560) : wpX_unappend (fun r u' => wpY_unappend (fun r' v' => r' = r ∧ i_Rel (k + 5) u' v') v) u := by
  obtain ⟨n, l, r, T, V, rfl, rfl, h⟩ := I
  have hn := h.1
  cases n with
  | zero => exact br_t nI_0 (br_t nI_0 ⟨rfl, sc_rel h⟩)
  | succ m =>
    have w : vp_in (nI m) 64 := vp_in_nI (by omega) (by omega)
    have z : ¬ nI (m + 1) = 0 := nI_ne0 (by omega) (by omega)
    exact br_f z (nm_r (nI_pred m) ⟨w, br_f z (nm_r (nI_pred m) ⟨w, rfl, sc_rel (sc_okm h (by omega))⟩)⟩)
theorem i_vc_firstFrom {k : Nat} {u : SX} {v : SY} (I : i_Rel k u v) (hk : k + 5 ≤ 2560) (v1 : Int32) : wpX_firstFrom (fun r => wpY_firstFrom (fun r' => r' = r ∧ i_Rel (k + 5) u v) v v1) u v1 := by
  obtain ⟨n, l, r, T, V, rfl, rfl, h⟩ := I
  obtain ⟨q, hX, hY⟩ := sc_ff (l := l) (r := r) (T := T) (V := V) v1 h.1 n 0 (by omega)
  exact Exists.intro (n + 1) (hX _ (Exists.intro (n + 1) (hY _ ⟨rfl, sc_rel h⟩)))
end
section
/-! ===== count, sum, greatest, least, valueAt, rises, widestGap ===== -/
theorem sc_m4 {b : Nat} (h : b < 2 ^ 31) : ¬ nI b ≤ -4 := by
  rw [Int32.le_iff_toInt_le, nI_toInt h, show (-4 : Int32).toInt = -4 by decide]
  omega
theorem sc_e4 {b : Nat} (h : b < 2 ^ 31) : ¬ nI b = -4 := fun e => sc_m4 h (by rw [e]; exact Int32.le_refl _)
section
variable {n : Nat} {l r : Int32} {T V : Nat → Int32}
theorem sc_span (n : Nat) (l r : Int32) (T V : Nat → Int32) (f t : Int32) :
    ((∀ post : Int32 → Prop, post 0 → wpX_isSpan post (nI n, T, V) f t) ∧ (∀ post : Int32 → Prop, post 0 → wpY_isSpan post (nI n, l, r, T, V) f t)) ∨
    ((∀ post : Int32 → Prop, post 1 → wpX_isSpan post (nI n, T, V) f t) ∧ (∀ post : Int32 → Prop, post 1 → wpY_isSpan post (nI n, l, r, T, V) f t)) := by
  by_cases a : f < 0
  · exact Or.inl ⟨fun _ hp => br_t a hp, fun _ hp => br_t a hp⟩
  · by_cases b : t < f
    · exact Or.inl ⟨fun _ hp => br_f a (br_t b hp), fun _ hp => br_f a (br_t b hp)⟩
    · by_cases c : 60000 < t
      · exact Or.inl ⟨fun _ hp => br_f a (br_f b (br_t c hp)), fun _ hp => br_f a (br_f b (br_t c hp))⟩
      · exact Or.inr ⟨fun _ hp => br_f a (br_f b (br_f c hp)), fun _ hp => br_f a (br_f b (br_f c hp))⟩
theorem sc_in (n : Nat) (l r : Int32) (T V : Nat → Int32) (f t : Int32) {j : Nat} (hj : j < 64) :
    ((∀ post : Int32 → Prop, post 0 → wpX_isIn post (nI n, T, V) (nI j) f t) ∧ (∀ post : Int32 → Prop, post 0 → wpY_isIn post (nI n, l, r, T, V) (nI j) f t)) ∨
    ((∀ post : Int32 → Prop, post 1 → wpX_isIn post (nI n, T, V) (nI j) f t) ∧ (∀ post : Int32 → Prop, post 1 → wpY_isIn post (nI n, l, r, T, V) (nI j) f t)) := by
  have v : vp_in (nI j) 64 := vp_in_nI hj (by omega)
  by_cases a : T (nI j).toNatClampNeg < f
  · exact Or.inl ⟨fun _ hp => And.intro v (br_t a hp), fun _ hp => And.intro v (br_t a hp)⟩
  · by_cases b : t < T (nI j).toNatClampNeg
    · exact Or.inl ⟨fun _ hp => And.intro v (br_f a ⟨v, br_t b hp⟩), fun _ hp => And.intro v (br_f a ⟨v, br_t b hp⟩)⟩
    · exact Or.inr ⟨fun _ hp => And.intro v (br_f a ⟨v, br_f b hp⟩), fun _ hp => And.intro v (br_f a ⟨v, br_f b hp⟩)⟩
theorem sc_count (hn : n ≤ 64) (f t : Int32) : ∀ (d i : Nat) (s : Int32), i + d = n → ∃ q : Int32, (∀ post : Int32 → Prop, post q → wX_count_16 post f t (nI n) T V (d + 1) s (nI i)) ∧ (∀ post : Int32 → Prop, post q → wY_count_16 post f t (nI n) l r T V (d + 1) s (nI i)) := by
  intro d
  induction d with
  | zero =>
    intro i s hi
    have e : nI n ≤ nI i := nI_le (by omega) (by omega)
    exact ⟨s, fun _ hp => br_t e hp, fun _ hp => br_t e hp⟩
  | succ d ih =>
    intro i s hi
    have e : ¬ nI n ≤ nI i := nI_ge (by omega) (by omega)
    rcases sc_in n l r T V f t (j := i) (by omega) with ⟨hx, hy⟩ | ⟨hx, hy⟩
    · obtain ⟨q, hX, hY⟩ := ih (i + 1) s (by omega)
      exact ⟨q, fun post hp => br_f e (hx _ (br_t rfl (nm_r (nI_1 i) (hX post hp)))), fun post hp => br_f e (hy _ (br_t rfl (nm_r (nI_1 i) (hY post hp))))⟩
    · obtain ⟨q, hX, hY⟩ := ih (i + 1) (s + 1) (by omega)
      exact ⟨q, fun post hp => br_f e (hx _ (br_f sc_10 (nm_e (nm_r (nI_1 i) (hX post hp))))), fun post hp => br_f e (hy _ (br_f sc_10 (nm_e (nm_r (nI_1 i) (hY post hp)))))⟩
theorem sc_sum (hn : n ≤ 64) (f t : Int32) : ∀ (d i : Nat) (s : Int32), i + d = n → ∃ q : Int32, (∀ post : Int32 → Prop, post q → wX_sum_16 post f t (nI n) T V (d + 1) s (nI i)) ∧ (∀ post : Int32 → Prop, post q → wY_sum_16 post f t (nI n) l r T V (d + 1) s (nI i)) := by
  intro d
  induction d with
  | zero =>
    intro i s hi
    have e : nI n ≤ nI i := nI_le (by omega) (by omega)
    exact ⟨s, fun _ hp => br_t e hp, fun _ hp => br_t e hp⟩
  | succ d ih =>
    intro i s hi
    have e : ¬ nI n ≤ nI i := nI_ge (by omega) (by omega)
    have v : vp_in (nI i) 64 := vp_in_nI (by omega) (by omega)
    rcases sc_in n l r T V f t (j := i) (by omega) with ⟨hx, hy⟩ | ⟨hx, hy⟩
    · obtain ⟨q, hX, hY⟩ := ih (i + 1) s (by omega)
      exact ⟨q, fun post hp => br_f e (hx _ (br_t rfl (nm_r (nI_1 i) (hX post hp)))), fun post hp => br_f e (hy _ (br_t rfl (nm_r (nI_1 i) (hY post hp))))⟩
    · obtain ⟨q, hX, hY⟩ := ih (i + 1) (s + V (nI i).toNatClampNeg) (by omega)
      exact ⟨q, fun post hp => br_f e (hx _ (br_f sc_10 ⟨v, nm_e (nm_r (nI_1 i) (hX post hp))⟩)), fun post hp => br_f e (hy _ (br_f sc_10 ⟨v, nm_e (nm_r (nI_1 i) (hY post hp))⟩))⟩
theorem sc_great (h : sc_ok n T V) (f t : Int32) : ∀ (d i : Nat) (s : Int32), i + d = n → ∃ q : Int32, (∀ post : Int32 → Prop, post q → wX_greatest_17 post f t (nI n) T V (d + 1) s (nI i)) ∧ (∀ post : Int32 → Prop, post q → wY_greatest_17 post f t (nI n) l r T V (d + 1) s (nI i)) := by
  have hn := h.1
  intro d
  induction d with
  | zero =>
    intro i s hi
    have e : nI n ≤ nI i := nI_le (by omega) (by omega)
    exact ⟨s, fun _ hp => br_t e hp, fun _ hp => br_t e hp⟩
  | succ d ih =>
    intro i s hi
    have e : ¬ nI n ≤ nI i := nI_ge (by omega) (by omega)
    have v : vp_in (nI i) 64 := vp_in_nI (by omega) (by omega)
    rcases sc_in n l r T V f t (j := i) (by omega) with ⟨hx, hy⟩ | ⟨hx, hy⟩
    · obtain ⟨q, hX, hY⟩ := ih (i + 1) s (by omega)
      exact ⟨q, fun post hp => br_f e (hx _ (br_t rfl (nm_r (nI_1 i) (hX post hp)))), fun post hp => br_f e (hy _ (br_t rfl (nm_r (nI_1 i) (hY post hp))))⟩
    · by_cases c : V (nI i).toNatClampNeg ≤ s
      · have s4 : ¬ s = -4 := by
          obtain ⟨b, hb, eb⟩ := h.2.2.2 i (by omega)
          intro z
          rw [z, nI_clamp (by omega), eb] at c
          exact sc_m4 (by omega) c
        obtain ⟨q, hX, hY⟩ := ih (i + 1) s (by omega)
        exact ⟨q, fun post hp => br_f e (hx _ (br_f sc_10 (br_f s4 ⟨v, br_t c (nm_r (nI_1 i) (hX post hp))⟩))), fun post hp => br_f e (hy _ (br_f sc_10 ⟨v, br_t c (nm_r (nI_1 i) (hY post hp))⟩))⟩
      · obtain ⟨q, hX, hY⟩ := ih (i + 1) (V (nI i).toNatClampNeg) (by omega)
        refine ⟨q, fun post hp => br_f e (hx _ (br_f sc_10 ?_)), fun post hp => br_f e (hy _ (br_f sc_10 ⟨v, br_f c ⟨v, nm_e (nm_r (nI_1 i) (hY post hp))⟩⟩))⟩
        by_cases s4 : s = -4
        · exact br_t s4 ⟨v, nm_e (nm_r (nI_1 i) (hX post hp))⟩
        · exact br_f s4 ⟨v, br_f c ⟨v, nm_e (nm_r (nI_1 i) (hX post hp))⟩⟩
theorem sc_least (h : sc_ok n T V) (f t : Int32) : ∀ (d i : Nat) (s : Int32), i + d = n → (s = -4 ∨ ∃ b, b < 65536 ∧ s = nI b) → ∃ q : Int32, (∀ post : Int32 → Prop, post q → wX_least_17 post f t (nI n) T V (d + 1) s (nI i)) ∧ (∀ post : Int32 → Prop, post q → wY_least_17 post f t (nI n) l r T V (d + 1) s (nI i)) := by
  have hn := h.1
  intro d
  induction d with
  | zero =>
    intro i s hi _
    have e : nI n ≤ nI i := nI_le (by omega) (by omega)
    exact ⟨s, fun _ hp => br_t e hp, fun _ hp => br_t e hp⟩
  | succ d ih =>
    intro i s hi hs
    have e : ¬ nI n ≤ nI i := nI_ge (by omega) (by omega)
    have v : vp_in (nI i) 64 := vp_in_nI (by omega) (by omega)
    have hv : ∃ b, b < 65536 ∧ V (nI i).toNatClampNeg = nI b := by
      rw [nI_clamp (by omega)]
      exact h.2.2.2 i (by omega)
    rcases sc_in n l r T V f t (j := i) (by omega) with ⟨hx, hy⟩ | ⟨hx, hy⟩
    · obtain ⟨q, hX, hY⟩ := ih (i + 1) s (by omega) hs
      exact ⟨q, fun post hp => br_f e (hx _ (br_t rfl (nm_r (nI_1 i) (hX post hp)))), fun post hp => br_f e (hy _ (br_t rfl (nm_r (nI_1 i) (hY post hp))))⟩
    · by_cases s4 : s = -4
      · have s0 : s < 0 := by rw [s4]; decide
        obtain ⟨q, hX, hY⟩ := ih (i + 1) (V (nI i).toNatClampNeg) (by omega) (Or.inr hv)
        exact ⟨q, fun post hp => br_f e (hx _ (br_f sc_10 (br_t s4 ⟨v, nm_e (nm_r (nI_1 i) (hX post hp))⟩))), fun post hp => br_f e (hy _ (br_f sc_10 (br_t s0 (And.intro v (nm_e (nm_r (nI_1 i) (hY post hp)))))))⟩
      · have s0 : ¬ s < 0 := by
          rcases hs with z | ⟨b, hb, rfl⟩
          · exact (s4 z).elim
          · exact nI_pos (by omega)
        by_cases c : s ≤ V (nI i).toNatClampNeg
        · obtain ⟨q, hX, hY⟩ := ih (i + 1) s (by omega) hs
          exact ⟨q, fun post hp => br_f e (hx _ (br_f sc_10 (br_f s4 ⟨v, br_t c (nm_r (nI_1 i) (hX post hp))⟩))), fun post hp => br_f e (hy _ (br_f sc_10 (br_f s0 ⟨v, br_t c (nm_r (nI_1 i) (hY post hp))⟩)))⟩
        · obtain ⟨q, hX, hY⟩ := ih (i + 1) (V (nI i).toNatClampNeg) (by omega) (Or.inr hv)
          exact ⟨q, fun post hp => br_f e (hx _ (br_f sc_10 (br_f s4 ⟨v, br_f c ⟨v, nm_e (nm_r (nI_1 i) (hX post hp))⟩⟩))), fun post hp => br_f e (hy _ (br_f sc_10 (br_f s0 ⟨v, br_f c (And.intro v (nm_e (nm_r (nI_1 i) (hY post hp))))⟩)))⟩
theorem sx_va (F t : Int32) : ∀ m : Nat, m ≤ 64 → ∀ post : Int32 → Prop, post (sc_va T V t m) → wX_valueAt_7 post t F T V (m + 1) (nI m - 1) := by
  intro m
  induction m with
  | zero =>
    intro _ post hp
    have e : nI 0 - 1 < 0 := by decide
    exact br_t e hp
  | succ m ih =>
    intro hm post hp
    rw [nI_pred]
    have v : vp_in (nI m) 64 := vp_in_nI (by omega) (by omega)
    have c : (nI m).toNatClampNeg = m := nI_clamp (by omega)
    by_cases z : t < T m
    · have z2 : t < T (nI m).toNatClampNeg := by rw [c]; exact z
      rw [sc_va_f (Int32.not_le.mpr z)] at hp
      exact br_f (nI_pos (by omega)) ⟨v, br_t z2 (nm_r (Int32.sub_eq_add_neg (nI m) 1).symm (ih (by omega) post hp))⟩
    · have z2 : ¬ t < T (nI m).toNatClampNeg := by rw [c]; exact z
      rw [sc_va_t (Int32.not_lt.mp z)] at hp
      refine br_f (nI_pos (by omega)) ⟨v, br_f z2 ⟨v, ?_⟩⟩
      rw [c]
      exact hp
theorem sy_va (t : Int32) (hn : n ≤ 64) : ∀ d i : Nat, i + d = n → ∀ post : Int32 → Prop, post (sc_va T V t n) → wY_valueAt_5 post t (nI n) l r T V (d + 1) (sc_va T V t i) (nI i) := by
  intro d
  induction d with
  | zero =>
    intro i hi post hp
    have e : i = n := by omega
    subst e
    exact br_t (nI_le (Nat.le_refl _) (by omega)) hp
  | succ d ih =>
    intro i hi post hp
    have e : ¬ nI n ≤ nI i := nI_ge (by omega) (by omega)
    have v : vp_in (nI i) 64 := vp_in_nI (by omega) (by omega)
    have c : (nI i).toNatClampNeg = i := nI_clamp (by omega)
    have h := ih (i + 1) (by omega) post hp
    by_cases z : t < T i
    · have z2 : t < T (nI i).toNatClampNeg := by rw [c]; exact z
      rw [sc_va_f (Int32.not_le.mpr z)] at h
      exact br_f e ⟨v, br_t z2 (nm_r (nI_1 i) h)⟩
    · have z2 : ¬ t < T (nI i).toNatClampNeg := by rw [c]; exact z
      rw [sc_va_t (Int32.not_lt.mp z)] at h
      exact br_f e ⟨v, br_f z2 ⟨v, nm_r (congrArg V c) (nm_r (nI_1 i) h)⟩⟩
theorem sc_rises (hn : n ≤ 64) : ∀ (d m : Nat) (s : Int32), n ≤ m + 1 + d → m ≤ n → ∃ q : Int32, (∀ post : Int32 → Prop, post q → wX_rises_4 post (nI n) T V (d + 1) s (nI (m + 1))) ∧ (∀ post : Int32 → Prop, post q → wY_rises_4 post (nI n) l r T V (d + 1) s (nI (m + 1))) := by
  intro d
  induction d with
  | zero =>
    intro m s hi hm
    have e : nI n ≤ nI (m + 1) := nI_le (by omega) (by omega)
    exact ⟨s, fun _ hp => br_t e hp, fun _ hp => br_t e hp⟩
  | succ d ih =>
    intro m s hi hm
    by_cases e1 : n ≤ m + 1
    · have e : nI n ≤ nI (m + 1) := nI_le e1 (by omega)
      exact ⟨s, fun _ hp => br_t e hp, fun _ hp => br_t e hp⟩
    · have e : ¬ nI n ≤ nI (m + 1) := nI_ge (by omega) (by omega)
      have v : vp_in (nI (m + 1)) 64 := vp_in_nI (by omega) (by omega)
      have w : vp_in (nI (m + 1) - 1) 64 := by
        rw [nI_pred]
        exact vp_in_nI (by omega) (by omega)
      by_cases z : V (nI (m + 1)).toNatClampNeg ≤ V (nI (m + 1) - 1).toNatClampNeg
      · obtain ⟨q, hX, hY⟩ := ih (m + 1) s (by omega) (by omega)
        exact ⟨q, fun post hp => br_f e ⟨v, w, br_t z (nm_r (nI_1 (m + 1)) (hX post hp))⟩, fun post hp => br_f e ⟨v, w, br_t z (nm_r (nI_1 (m + 1)) (hY post hp))⟩⟩
      · obtain ⟨q, hX, hY⟩ := ih (m + 1) (s + 1) (by omega) (by omega)
        exact ⟨q, fun post hp => br_f e ⟨v, w, br_f z (nm_e (nm_r (nI_1 (m + 1)) (hX post hp)))⟩, fun post hp => br_f e ⟨v, w, br_f z (nm_e (nm_r (nI_1 (m + 1)) (hY post hp)))⟩⟩
theorem sc_wide (hn : n ≤ 64) : ∀ (d m : Nat) (s : Int32), n ≤ m + 1 + d → m ≤ n → ∃ q : Int32, (∀ post : Int32 → Prop, post q → wX_widestGap_15 post (nI n) T V (d + 1) s (nI (m + 1))) ∧ (∀ post : Int32 → Prop, post q → wY_widestGap_5 post (nI n) l r T V (d + 1) s (nI (m + 1))) := by
  intro d
  induction d with
  | zero =>
    intro m s hi hm
    have e : nI n ≤ nI (m + 1) := nI_le (by omega) (by omega)
    exact ⟨s, fun _ hp => br_t e hp, fun _ hp => br_t e hp⟩
  | succ d ih =>
    intro m s hi hm
    by_cases e1 : n ≤ m + 1
    · have e : nI n ≤ nI (m + 1) := nI_le e1 (by omega)
      exact ⟨s, fun _ hp => br_t e hp, fun _ hp => br_t e hp⟩
    · have e : ¬ nI n ≤ nI (m + 1) := nI_ge (by omega) (by omega)
      have v : vp_in (nI (m + 1)) 64 := vp_in_nI (by omega) (by omega)
      have w : vp_in (nI (m + 1) - 1) 64 := by
        rw [nI_pred]
        exact vp_in_nI (by omega) (by omega)
      by_cases z : T (nI (m + 1)).toNatClampNeg - T (nI (m + 1) - 1).toNatClampNeg ≤ s
      · obtain ⟨q, hX, hY⟩ := ih (m + 1) s (by omega) (by omega)
        exact ⟨q, fun post hp => br_f e ⟨v, w, nm_e (br_t z (nm_r (nI_1 (m + 1)) (hX post hp)))⟩, fun post hp => br_f e ⟨v, w, br_t z (nm_r (nI_1 (m + 1)) (hY post hp))⟩⟩
      · obtain ⟨q, hX, hY⟩ := ih (m + 1) (T (nI (m + 1)).toNatClampNeg - T (nI (m + 1) - 1).toNatClampNeg) (by omega) (by omega)
        exact ⟨q, fun post hp => br_f e ⟨v, w, nm_e (br_f z (nm_r (nI_1 (m + 1)) (hX post hp)))⟩, fun post hp => br_f e ⟨v, w, br_f z ⟨v, w, nm_e (nm_r (nI_1 (m + 1)) (hY post hp))⟩⟩⟩
theorem sc_wide1 (h : sc_ok n T V) (h2 : 2 ≤ n) : ∃ (q : Int32) (N : Nat), (∀ post : Int32 → Prop, post q → wX_widestGap_15 post (nI n) T V (N + 1) 0 (nI (0 + 1))) ∧ (∀ post : Int32 → Prop, post q → wY_widestGap_5 post (nI n) l r T V (N + 1) (-4) (nI (0 + 1))) := by
  have hn := h.1
  have e : ¬ nI n ≤ nI (0 + 1) := nI_ge (by omega) (by omega)
  have v : vp_in (nI (0 + 1)) 64 := vp_in_nI (by omega) (by omega)
  have w : vp_in (nI (0 + 1) - 1) 64 := by
    rw [nI_pred]
    exact vp_in_nI (by omega) (by omega)
  obtain ⟨a, ha, ea⟩ := h.2.1 0 (by omega)
  obtain ⟨b, hb, eb⟩ := h.2.1 1 (by omega)
  have hab : a ≤ b := by
    have := h.2.2.1 0 (by omega)
    rw [ea, eb, nI_leI (by omega) (by omega)] at this
    exact this
  have g : T (nI (0 + 1)).toNatClampNeg - T (nI (0 + 1) - 1).toNatClampNeg = nI (b - a) := by
    rw [nI_pred, nI_clamp (by omega), nI_clamp (by omega), ea, eb, pk_sub hab]
  have z4 : ¬ T (nI (0 + 1)).toNatClampNeg - T (nI (0 + 1) - 1).toNatClampNeg ≤ -4 := by
    rw [g]
    exact sc_m4 (by omega)
  obtain ⟨q, hX, hY⟩ := sc_wide (n := n) (l := l) (r := r) (T := T) (V := V) hn n 1 (T (nI (0 + 1)).toNatClampNeg - T (nI (0 + 1) - 1).toNatClampNeg) (by omega) (by omega)
  refine ⟨q, n + 1, fun post hp => br_f e ⟨v, w, nm_e ?_⟩, fun post hp => br_f e ⟨v, w, br_f z4 ⟨v, w, nm_e (nm_r (nI_1 (0 + 1)) (hY post hp))⟩⟩⟩
  by_cases z : T (nI (0 + 1)).toNatClampNeg - T (nI (0 + 1) - 1).toNatClampNeg ≤ 0
  · have z0 : T (nI (0 + 1)).toNatClampNeg - T (nI (0 + 1) - 1).toNatClampNeg = 0 := by
      rw [g] at z ⊢
      rw [← nI_0, nI_leI (by omega) (by omega)] at z
      rw [show b - a = 0 by omega, nI_0]
    have hx := hX post hp
    rw [z0] at hx
    exact br_t z (nm_r (nI_1 (0 + 1)) hx)
  · exact br_f z (nm_r (nI_1 (0 + 1)) (hX post hp))
end
theorem i_vc_count {k : Nat} {u : SX} {v : SY} (I : i_Rel k u v) (hk : k + 5 ≤ 2560) (v1 : Int32) (v2 : Int32) : wpX_count (fun r => wpY_count (fun r' => r' = r ∧ i_Rel (k + 5) u v) v v1 v2) u v1 v2 := by
  obtain ⟨n, l, r, T, V, rfl, rfl, h⟩ := I
  unfold wpX_count wpY_count
  dsimp only
  rcases sc_span n l r T V v1 v2 with ⟨hx, hy⟩ | ⟨hx, hy⟩
  · exact hx _ (br_t rfl (hy _ (br_t rfl ⟨rfl, sc_rel h⟩)))
  · obtain ⟨q, hX, hY⟩ := sc_count (l := l) (r := r) (T := T) (V := V) h.1 v1 v2 n 0 0 (by omega)
    exact hx _ (br_f sc_10 ⟨n + 1, hX _ (hy _ (br_f sc_10 ⟨n + 1, hY _ ⟨rfl, sc_rel h⟩⟩))⟩)
theorem i_vc_sum {k : Nat} {u : SX} {v : SY} (I : i_Rel k u v) (hk : k + 5 ≤ 2560) (v1 : Int32) (v2 : Int32) : wpX_sum (fun r => wpY_sum (fun r' => r' = r ∧ i_Rel (k + 5) u v) v v1 v2) u v1 v2 := by
  obtain ⟨n, l, r, T, V, rfl, rfl, h⟩ := I
  unfold wpX_sum wpY_sum
  dsimp only
  rcases sc_span n l r T V v1 v2 with ⟨hx, hy⟩ | ⟨hx, hy⟩
  · exact hx _ (br_t rfl (hy _ (br_t rfl ⟨rfl, sc_rel h⟩)))
  · obtain ⟨q, hX, hY⟩ := sc_sum (l := l) (r := r) (T := T) (V := V) h.1 v1 v2 n 0 0 (by omega)
    exact hx _ (br_f sc_10 ⟨n + 1, hX _ (hy _ (br_f sc_10 ⟨n + 1, hY _ ⟨rfl, sc_rel h⟩⟩))⟩)
theorem i_vc_greatest {k : Nat} {u : SX} {v : SY} (I : i_Rel k u v) (hk : k + 5 ≤ 2560) (v1 : Int32) (v2 : Int32) : wpX_greatest (fun r => wpY_greatest (fun r' => r' = r ∧ i_Rel (k + 5) u v) v v1 v2) u v1 v2 := by
  obtain ⟨n, l, r, T, V, rfl, rfl, h⟩ := I
  unfold wpX_greatest wpY_greatest
  dsimp only
  rcases sc_span n l r T V v1 v2 with ⟨hx, hy⟩ | ⟨hx, hy⟩
  · exact hx _ (br_t rfl (hy _ (br_t rfl ⟨rfl, sc_rel h⟩)))
  · obtain ⟨q, hX, hY⟩ := sc_great (l := l) (r := r) (T := T) (V := V) h v1 v2 n 0 (-4) (by omega)
    exact hx _ (br_f sc_10 ⟨n + 1, hX _ (hy _ (br_f sc_10 ⟨n + 1, hY _ ⟨rfl, sc_rel h⟩⟩))⟩)
theorem i_vc_least {k : Nat} {u : SX} {v : SY} (I : i_Rel k u v) (hk : k + 5 ≤ 2560) (v1 : Int32) (v2 : Int32) : wpX_least (fun r => wpY_least (fun r' => r' = r ∧ i_Rel (k + 5) u v) v v1 v2) u v1 v2 := by
  obtain ⟨n, l, r, T, V, rfl, rfl, h⟩ := I
  unfold wpX_least wpY_least
  dsimp only
  rcases sc_span n l r T V v1 v2 with ⟨hx, hy⟩ | ⟨hx, hy⟩
  · exact hx _ (br_t rfl (hy _ (br_t rfl ⟨rfl, sc_rel h⟩)))
  · obtain ⟨q, hX, hY⟩ := sc_least (l := l) (r := r) (T := T) (V := V) h v1 v2 n 0 (-4) (by omega) (Or.inl rfl)
    exact hx _ (br_f sc_10 ⟨n + 1, hX _ (hy _ (br_f sc_10 ⟨n + 1, hY _ ⟨rfl, sc_rel h⟩⟩))⟩)
theorem i_vc_valueAt {k : Nat} {u : SX} {v : SY} (I : i_Rel k u v) (hk : k + 5 ≤ 2560) (v1 : Int32) : wpX_valueAt (fun r => wpY_valueAt (fun r' => r' = r ∧ i_Rel (k + 5) u v) v v1) u v1 := by
  obtain ⟨n, l, r, T, V, rfl, rfl, h⟩ := I
  unfold wpX_valueAt wpY_valueAt
  dsimp only
  exact nm_e ⟨n + 1, sx_va (nI n) v1 n h.1 _ ⟨n + 1, sy_va v1 h.1 n 0 (by omega) _ ⟨rfl, sc_rel h⟩⟩⟩
theorem i_vc_rises {k : Nat} {u : SX} {v : SY} (I : i_Rel k u v) (hk : k + 5 ≤ 2560) : wpX_rises (fun r => wpY_rises (fun r' => r' = r ∧ i_Rel (k + 5) u v) v) u := by
  obtain ⟨n, l, r, T, V, rfl, rfl, h⟩ := I
  unfold wpX_rises wpY_rises
  dsimp only
  obtain ⟨q, hX, hY⟩ := sc_rises (l := l) (r := r) (T := T) (V := V) h.1 n 0 0 (by omega) (by omega)
  exact ⟨n + 1, hX _ ⟨n + 1, hY _ ⟨rfl, sc_rel h⟩⟩⟩
theorem i_vc_widestGap {k : Nat} {u : SX} {v : SY} (I : i_Rel k u v) (hk : k + 5 ≤ 2560) : wpX_widestGap (fun r => wpY_widestGap (fun r' => r' = r ∧ i_Rel (k + 5) u v) v) u := by
  obtain ⟨n, l, r, T, V, rfl, rfl, h⟩ := I
  unfold wpX_widestGap wpY_widestGap
  dsimp only
  have hn := h.1
  by_cases h2 : 2 ≤ n
  · obtain ⟨q, N, hX, hY⟩ := sc_wide1 (l := l) (r := r) h h2
    exact br_t (nI_le (a := 2) h2 (by omega)) ⟨N + 1, hX _ ⟨N + 1, hY _ ⟨rfl, sc_rel h⟩⟩⟩
  · have e : nI n ≤ nI 1 := nI_le (by omega) (by omega)
    exact br_f (nI_ge (b := 2) (show n < 2 by omega) (by omega)) ⟨1, br_t e ⟨rfl, sc_rel h⟩⟩
end
section
/-! ===== append, steady, dropOldest ===== -/
theorem sc_m16 (m : Nat) : nI (m + 16) - 16 = nI m := by
  have h := pk_sub (a := m + 16) (b := 16) (by omega)
  rw [Nat.add_sub_cancel] at h
  exact h
theorem sc_p16 (p : Nat) : nI p + 16 = nI (p + 16) := nI_add p 16
section
variable {n : Nat} {l r : Int32} {T V : Nat → Int32}
theorem sx_put {post : SX → Prop} {a g : Nat} {x : Int32} (hl : sc_la n T a) (hn : n < 64) (hp : post (nI (n + 1), upd T n (nI (a + g)), upd V n x)) : wpX_put post (nI n, T, V) (nI g) x := by
  unfold wpX_put
  dsimp only
  have v : vp_in (nI n) 64 := vp_in_nI hn (by omega)
  have c : (nI n).toNatClampNeg = n := nI_clamp (by omega)
  refine sx_L hl (by omega) (And.intro v ?_)
  rw [c, nI_add]
  exact nm_e ⟨v, nm_e (nm_r (nI_1 n) hp)⟩
theorem sy_append {post : Int32 → SY → Prop} {a g b : Nat} (hl : sc_la n T a) (hn : n < 64) (hg : a + g ≤ 60000) (hb : b ≤ 65535) (hp : post (nI n) (nI (n + 1), l, r, upd T n (nI (a + g)), upd V n (nI b))) : wpY_append post (nI n, l, r, T, V) (nI g) (nI b) := by
  have v : vp_in (nI n) 64 := vp_in_nI hn (by omega)
  have c : (nI n).toNatClampNeg = n := nI_clamp (by omega)
  have g0 : ¬ nI g < 0 := nI_pos (by omega)
  have g1 : ¬ (60000 : Int32) < nI g := nI_nlt (a := 60000) (by omega) (by omega)
  have s2 : ¬ 60000 < nI a + nI g := by
    rw [nI_add]
    exact nI_nlt (a := 60000) hg (by omega)
  have f2 : ¬ nI n = 64 := by
    intro z
    have := (nI_eq (a := n) (b := 64) (by omega) (by omega)).mp z
    omega
  refine br_f g0 (br_f g1 (sy_L hl (by omega) (br_f s2 (sy_V_t hb (br_f sc_10 (br_f f2 (sy_L hl (by omega) (And.intro v ?_))))))))
  rw [c, nI_add]
  refine nm_e ⟨v, nm_e (nm_r (nI_1 n) ?_)⟩
  show post (nI (n + 1) - 1) _
  rw [nI_pred]
  exact hp
theorem sx_drop {post : Int32 → SX → Prop} {m : Nat} (hm : m + 16 ≤ 64) (hp : post (nI m) (nI m, sc_sh T m, sc_sh V m)) : ∀ d p : Nat, p + d = m → wX_dropOldest_15 post (nI (m + 16)) (d + 1) (nI (p + 16)) (sc_sh T p) (sc_sh V p) := by
  intro d
  induction d with
  | zero =>
    intro p hd
    have e : p = m := by omega
    subst e
    exact br_t (nI_le (Nat.le_refl _) (by omega)) (nm_r (sc_m16 p) hp)
  | succ d ih =>
    intro p hd
    have e : ¬ nI (m + 16) ≤ nI (p + 16) := nI_ge (by omega) (by omega)
    have v : vp_in (nI (p + 16)) 64 := vp_in_nI (by omega) (by omega)
    have w : vp_in (nI (p + 16) - 16) 64 := by
      rw [sc_m16]
      exact vp_in_nI (by omega) (by omega)
    have u : ∀ A : Nat → Int32, upd (sc_sh A p) (nI (p + 16) - 16).toNatClampNeg (sc_sh A p (nI (p + 16)).toNatClampNeg) = sc_sh A (p + 1) := by
      intro A
      rw [sc_m16, nI_clamp (show p < 2 ^ 31 by omega), nI_clamp (show p + 16 < 2 ^ 31 by omega), sc_shr, sc_sh1]
    have i1 : nI (p + 16) + 1 = nI (p + 1 + 16) := (nI_1 (p + 16)).trans (congrArg nI (by omega))
    exact br_f e ⟨v, w, nm_r (u T) ⟨v, w, nm_r (u V) (nm_r i1 (ih (p + 1) (by omega)))⟩⟩
theorem sy_drop {post : Int32 → SY → Prop} {m : Nat} (hm : m + 16 ≤ 64) (hp : post (nI m) (nI m, l, r, sc_sh T m, sc_sh V m)) : ∀ d p : Nat, p + d = m → wY_dropOldest_25 post (nI m) l r (d + 1) (nI p) (sc_sh T p) (sc_sh V p) := by
  intro d
  induction d with
  | zero =>
    intro p hd
    have e : p = m := by omega
    subst e
    exact br_t (nI_le (Nat.le_refl _) (by omega)) hp
  | succ d ih =>
    intro p hd
    have e : ¬ nI m ≤ nI p := nI_ge (by omega) (by omega)
    have v : vp_in (nI p + 16) 64 := by
      rw [sc_p16]
      exact vp_in_nI (by omega) (by omega)
    have w : vp_in (nI p) 64 := vp_in_nI (by omega) (by omega)
    have u : ∀ A : Nat → Int32, upd (sc_sh A p) (nI p).toNatClampNeg (sc_sh A p (nI p + 16).toNatClampNeg) = sc_sh A (p + 1) := by
      intro A
      rw [sc_p16, nI_clamp (show p < 2 ^ 31 by omega), nI_clamp (show p + 16 < 2 ^ 31 by omega), sc_shr, sc_sh1]
    exact br_f e ⟨v, w, nm_r (u T) ⟨v, w, nm_r (u V) (nm_r (nI_1 p) (ih (p + 1) (by omega)))⟩⟩
end
theorem sc_steady (l r p : Int32) (m g : Nat) (hm : m ≤ 64) : ∀ (d i n a b : Nat) (T V : Nat → Int32), i + d = m → sc_ok n T V → n + d ≤ 64 → sc_la n T a → a + d * g ≤ 60000 → b ≤ 65535 → ∃ T' V' : Nat → Int32, sc_ok (n + d) T' V' ∧ (∀ post : Int32 → SX → Prop, post (nI (n + d)) (nI (n + d), T', V') → wX_steady_79 post (nI m) (nI g) p (d + 1) (nI b) (nI i) (nI n) T V) ∧ (∀ post : Int32 → SY → Prop, post (nI (n + d)) (nI (n + d), l, r, T', V') → wY_steady_79 post (nI m) (nI g) p (d + 1) (nI b) (nI i) (nI n) l r T V) := by
  intro d
  induction d with
  | zero =>
    intro i n a b T V hi h _ _ _ _
    have e : nI m ≤ nI i := nI_le (by omega) (by omega)
    exact ⟨T, V, h, fun _ hp => br_t e hp, fun _ hp => br_t e hp⟩
  | succ d ih =>
    intro i n a b T V hi h hn hl hg hb
    have e : ¬ nI m ≤ nI i := nI_ge (by omega) (by omega)
    rw [Nat.succ_mul] at hg
    obtain ⟨c, hc, ec⟩ := nx_mask (nI b + p)
    have hs := sc_put h (show n < 64 by omega) hl (show a + g ≤ 60000 by omega) (show b < 65536 by omega)
    obtain ⟨T', V', ok', hX, hY⟩ := ih (i + 1) (n + 1) (a + g) c _ _ (by omega) hs.1 (by omega) hs.2 (by omega) (by omega)
    rw [show n + 1 + d = n + (d + 1) by omega] at ok' hX hY
    exact ⟨T', V', ok', fun post hp => br_f e (sx_put hl (by omega) (nm_r ec (nm_r (nI_1 i) (hX post hp)))), fun post hp => br_f e (sy_append hl (by omega) (by omega) hb (nm_r ec (nm_r (nI_1 i) (hY post hp))))⟩
theorem i_vc_append {k : Nat} {u : SX} {v : SY} (I : i_Rel k u v) (hk : k + 5 ≤ 2560) (v1 : Int32) (v2 : Int32) : wpX_append (fun r u' => wpY_append (fun r' v' => r' = r ∧ i_Rel (k + 5) u' v') v v1 v2) u v1 v2 := by
  obtain ⟨n, l, r, T, V, rfl, rfl, h⟩ := I
  have hn := h.1
  obtain ⟨a, ha, hl⟩ := sc_last h
  unfold wpX_append
  dsimp only
  rcases sc_rng v1 60000 (by omega) with g | g | ⟨g, hg, rfl⟩
  · exact sx_T_f (Or.inl g) (br_t rfl (br_t g ⟨rfl, sc_rel h⟩))
  · exact sx_T_f (Or.inr g) (br_t rfl (br_f g.1 (br_t g.2 ⟨rfl, sc_rel h⟩)))
  · have g0 : ¬ nI g < 0 := nI_pos (by omega)
    have g1 : ¬ (60000 : Int32) < nI g := nI_nlt (a := 60000) hg (by omega)
    by_cases s : a + g ≤ 60000
    · have s1 : nI a + nI g ≤ 60000 := by
        rw [nI_add]
        exact nI_le (b := 60000) s (by omega)
      have s2 : ¬ 60000 < nI a + nI g := by
        rw [nI_add]
        exact nI_nlt (a := 60000) s (by omega)
      rcases sc_rng v2 65535 (by omega) with b | b | ⟨b, hb, rfl⟩
      · exact sx_T_t hg (br_f sc_10 (sx_L hl hn (br_t s1 (sx_V_f (Or.inl b) (br_t rfl (br_f g0 (br_f g1 (sy_L hl hn (br_f s2 (sy_V_f (Or.inl b) (br_t rfl ⟨rfl, sc_rel h⟩)))))))))))
      · exact sx_T_t hg (br_f sc_10 (sx_L hl hn (br_t s1 (sx_V_f (Or.inr b) (br_t rfl (br_f g0 (br_f g1 (sy_L hl hn (br_f s2 (sy_V_f (Or.inr b) (br_t rfl ⟨rfl, sc_rel h⟩)))))))))))
      · by_cases f : n < 64
        · have f1 : nI n < 64 := nI_lt (b := 64) f (by omega)
          exact sx_T_t hg (br_f sc_10 (sx_L hl hn (br_t s1 (sx_V_t hb (br_f sc_10 (br_t f1 (sx_put hl f (sy_append hl f s hb ⟨(nI_pred n).symm, sc_rel (sc_put h f hl s (by omega)).1⟩))))))))
        · have e : n = 64 := by omega
          have f1 : ¬ nI n < 64 := nI_nlt (b := 64) (by omega) (by omega)
          have f2 : nI n = 64 := congrArg nI e
          exact sx_T_t hg (br_f sc_10 (sx_L hl hn (br_t s1 (sx_V_t hb (br_f sc_10 (br_f f1 (br_f g0 (br_f g1 (sy_L hl hn (br_f s2 (sy_V_t hb (br_f sc_10 (br_t f2 ⟨rfl, sc_rel h⟩)))))))))))))
    · have s1 : ¬ nI a + nI g ≤ 60000 := by
        rw [nI_add]
        exact nI_ge (a := 60000) (by omega) (by omega)
      have s2 : 60000 < nI a + nI g := by
        rw [nI_add]
        exact nI_lt (a := 60000) (by omega) (by omega)
      exact sx_T_t hg (br_f sc_10 (sx_L hl hn (br_f s1 (br_f g0 (br_f g1 (sy_L hl hn (br_t s2 ⟨rfl, sc_rel h⟩)))))))
theorem i_vc_steady {k : Nat} {u : SX} {v : SY} (I : i_Rel k u v) (hk : k + 5 ≤ 2560) (v1 : Int32) (v2 : Int32) (v3 : Int32) (v4 : Int32) : wpX_steady (fun r u' => wpY_steady (fun r' v' => r' = r ∧ i_Rel (k + 5) u' v') v v1 v2 v3 v4) u v1 v2 v3 v4 := by
  obtain ⟨n, l, r, T, V, rfl, rfl, h⟩ := I
  have hn := h.1
  obtain ⟨a, ha, hl⟩ := sc_last h
  rcases sc_rng v1 64 (by omega) with m | m | ⟨m, hm, rfl⟩
  · exact br_t m (br_t m ⟨rfl, sc_rel h⟩)
  · exact br_f m.1 (br_t m.2 (br_f m.1 (br_t m.2 ⟨rfl, sc_rel h⟩)))
  · have m0 : ¬ nI m < 0 := nI_pos (by omega)
    have m1 : ¬ (64 : Int32) < nI m := nI_nlt (a := 64) hm (by omega)
    rcases sc_rng v2 60000 (by omega) with g | g | ⟨g, hg, rfl⟩
    · exact br_f m0 (br_f m1 (sx_T_f (Or.inl g) (br_t rfl (br_f m0 (br_f m1 (br_t g ⟨rfl, sc_rel h⟩))))))
    · exact br_f m0 (br_f m1 (sx_T_f (Or.inr g) (br_t rfl (br_f m0 (br_f m1 (br_f g.1 (br_t g.2 ⟨rfl, sc_rel h⟩)))))))
    · have g0 : ¬ nI g < 0 := nI_pos (by omega)
      have g1 : ¬ (60000 : Int32) < nI g := nI_nlt (a := 60000) hg (by omega)
      have hmg : m * g ≤ 64 * 60000 := Nat.mul_le_mul hm hg
      have em : nI a + nI m * nI g = nI (a + m * g) := by rw [pk_mul, nI_add]
      by_cases s : a + m * g ≤ 60000
      · have s1 : nI a + nI m * nI g ≤ 60000 := by
          rw [em]
          exact nI_le (b := 60000) s (by omega)
        rcases sc_rng v3 65535 (by omega) with b | b | ⟨b, hb, rfl⟩
        · exact br_f m0 (br_f m1 (sx_T_t hg (br_f sc_10 (sx_L hl hn (br_t s1 (sx_V_f (Or.inl b) (br_t rfl (br_f m0 (br_f m1 (br_f g0 (br_f g1 (sy_L hl hn (br_t s1 (sy_V_f (Or.inl b) (br_t rfl ⟨rfl, sc_rel h⟩)))))))))))))))
        · exact br_f m0 (br_f m1 (sx_T_t hg (br_f sc_10 (sx_L hl hn (br_t s1 (sx_V_f (Or.inr b) (br_t rfl (br_f m0 (br_f m1 (br_f g0 (br_f g1 (sy_L hl hn (br_t s1 (sy_V_f (Or.inr b) (br_t rfl ⟨rfl, sc_rel h⟩)))))))))))))))
        · by_cases p0 : v4 < -65535
          · exact br_f m0 (br_f m1 (sx_T_t hg (br_f sc_10 (sx_L hl hn (br_t s1 (sx_V_t hb (br_f sc_10 (br_t p0 (br_f m0 (br_f m1 (br_f g0 (br_f g1 (sy_L hl hn (br_t s1 (sy_V_t hb (br_f sc_10 (br_t p0 ⟨rfl, sc_rel h⟩)))))))))))))))))
          · by_cases p1 : v4 ≤ 65535
            · have ef : nI n + nI m = nI (n + m) := nI_add n m
              by_cases f : n + m ≤ 64
              · have f1 : nI n + nI m ≤ 64 := by
                  rw [ef]
                  exact nI_le (b := 64) f (by omega)
                obtain ⟨T', V', ok', hX, hY⟩ := sc_steady l r v4 m g hm m 0 n a b T V (by omega) h f hl s hb
                exact br_f m0 (br_f m1 (sx_T_t hg (br_f sc_10 (sx_L hl hn (br_t s1 (sx_V_t hb (br_f sc_10 (br_f p0 (br_t p1 (br_t f1 ⟨m + 1, hX _ (br_f m0 (br_f m1 (br_f g0 (br_f g1 (sy_L hl hn (br_t s1 (sy_V_t hb (br_f sc_10 (br_f p0 (br_t p1 (br_t f1 ⟨m + 1, hY _ ⟨rfl, sc_rel ok'⟩⟩)))))))))))⟩))))))))))
              · have f1 : ¬ nI n + nI m ≤ 64 := by
                  rw [ef]
                  exact nI_ge (a := 64) (by omega) (by omega)
                exact br_f m0 (br_f m1 (sx_T_t hg (br_f sc_10 (sx_L hl hn (br_t s1 (sx_V_t hb (br_f sc_10 (br_f p0 (br_t p1 (br_f f1 (br_f m0 (br_f m1 (br_f g0 (br_f g1 (sy_L hl hn (br_t s1 (sy_V_t hb (br_f sc_10 (br_f p0 (br_t p1 (br_f f1 ⟨rfl, sc_rel h⟩)))))))))))))))))))))
            · exact br_f m0 (br_f m1 (sx_T_t hg (br_f sc_10 (sx_L hl hn (br_t s1 (sx_V_t hb (br_f sc_10 (br_f p0 (br_f p1 (br_f m0 (br_f m1 (br_f g0 (br_f g1 (sy_L hl hn (br_t s1 (sy_V_t hb (br_f sc_10 (br_f p0 (br_f p1 ⟨rfl, sc_rel h⟩)))))))))))))))))))
      · have s1 : ¬ nI a + nI m * nI g ≤ 60000 := by
          rw [em]
          exact nI_ge (a := 60000) (by omega) (by omega)
        exact br_f m0 (br_f m1 (sx_T_t hg (br_f sc_10 (sx_L hl hn (br_f s1 (br_f m0 (br_f m1 (br_f g0 (br_f g1 (sy_L hl hn (br_f s1 ⟨rfl, sc_rel h⟩)))))))))))
theorem i_vc_dropOldest {k : Nat} {u : SX} {v : SY} (I : i_Rel k u v) (hk : k + 5 ≤ 2560) : wpX_dropOldest (fun r u' => wpY_dropOldest (fun r' v' => r' = r ∧ i_Rel (k + 5) u' v') v) u := by
  obtain ⟨n, l, r, T, V, rfl, rfl, h⟩ := I
  have hn := h.1
  by_cases f : 16 ≤ n
  · obtain ⟨m, rfl⟩ : ∃ m, n = m + 16 := ⟨n - 16, by omega⟩
    have f1 : 16 ≤ nI (m + 16) := nI_le (a := 16) f (by omega)
    have hX := fun (post : Int32 → SX → Prop) hp => sx_drop (T := T) (V := V) (post := post) hn hp m 0 (by omega)
    have hY := fun (post : Int32 → SY → Prop) hp => sy_drop (l := l) (r := r) (T := T) (V := V) (post := post) hn hp m 0 (by omega)
    simp only [sc_sh0] at hX hY
    exact br_t f1 ⟨m + 1, hX _ (br_t f1 (nm_r (sc_m16 m) ⟨m + 1, hY _ ⟨rfl, sc_rel (sc_drop h)⟩⟩))⟩
  · have f1 : ¬ 16 ≤ nI n := nI_ge (b := 16) (by omega) (by omega)
    exact br_f f1 (br_f f1 ⟨rfl, sc_rel h⟩)
end
section
/-! ===== size, packed ===== -/
theorem sc_16a (j : Nat) : (16 : Int32) * nI j = nI (16 * j) := pk_mul 16 j
theorem sc_16b (j : Nat) : (16 : Int32) * nI j + 16 = nI (16 * j + 16) := by
  rw [sc_16a]
  exact nI_add (16 * j) 16
theorem sc_16c (j : Nat) : (16 : Int32) * nI j + 1 = nI (16 * j + 1) := by
  rw [sc_16a]
  exact nI_1 (16 * j)
theorem sc_16d (j : Nat) : nI j * 16 + 1 = nI (16 * j + 1) := by
  have e : nI j * 16 = nI (j * 16) := pk_mul j 16
  rw [e, nI_1, Nat.mul_comm]
theorem sc_16e (j : Nat) : (nI j + 1) * 16 = nI (16 * j + 16) := by
  have e : nI (j + 1) * 16 = nI ((j + 1) * 16) := pk_mul (j + 1) 16
  rw [nI_1, e]
  exact congrArg nI (by omega)
theorem sc_n0 : ¬ (16 : Int32) = 0 := by decide
/-- X's window and Y's window: none, or the same one -/
def sc_win (wl wt l r : Int32) : Prop := (wl = 16 ∧ wt = 16 ∧ l = -1) ∨ ∃ a b : Nat, a < 16 ∧ b < 16 ∧ wl = nI a ∧ wt = nI b ∧ l = nI a ∧ r = nI b
/-- the time gap before that of point i, 0 for the second point of chunk j -/
def sc_gb (T : Nat → Int32) (j i : Nat) (g : Int32) : Prop := (i = 16 * j + 1 ∧ g = 0) ∨ (i ≠ 16 * j + 1 ∧ g = T (nI i - 1).toNatClampNeg - T (nI i - 2).toNatClampNeg)
theorem sc_gbs (T : Nat → Int32) {j i : Nat} (hi : 16 * j + 1 ≤ i) : sc_gb T j (i + 1) (T (nI i).toNatClampNeg - T (nI i - 1).toNatClampNeg) := by
  refine Or.inr ⟨by omega, ?_⟩
  obtain ⟨m, rfl⟩ : ∃ m, i = m + 1 := ⟨i - 1, by omega⟩
  have e : nI (m + 1 + 1) - 2 = nI m := by
    have h := pk_sub (a := m + 2) (b := 2) (by omega)
    rw [Nat.add_sub_cancel] at h
    exact h
  rw [e, nI_pred, nI_pred]
section
variable {n : Nat} {l r : Int32} {T V : Nat → Int32}
theorem sc_tsz (n : Nat) (l r : Int32) (T V : Nat → Int32) (d : Int32) : ∃ q : Int32, (∀ post : Int32 → Prop, post q → wpX_timeSize post (nI n, T, V) d) ∧ (∀ post : Int32 → Prop, post q → ((d = 0 → post 1) ∧ (¬ d = 0 → ((d < (-7) → wY_timeSize_71 post d (nI n) l r T V) ∧ (¬ d < (-7) → ((8 < d → wY_timeSize_71 post d (nI n) l r T V) ∧ (¬ 8 < d → post 6))))))) := by
  by_cases a : d = 0
  · exact ⟨1, fun _ hp => br_t a hp, fun _ hp => br_t a hp⟩
  · have h71 : ∃ q : Int32, (∀ post : Int32 → Prop, post q → wX_timeSize_21 post d (nI n) T V) ∧ (∀ post : Int32 → Prop, post q → wY_timeSize_71 post d (nI n) l r T V) := by
      by_cases b : d < (-63)
      · exact ⟨21, fun _ hp => br_t b hp, fun _ hp => br_t b hp⟩
      · by_cases c : 64 < d
        · exact ⟨21, fun _ hp => br_f b (br_t c hp), fun _ hp => br_f b (br_t c hp)⟩
        · exact ⟨10, fun _ hp => br_f b (br_f c hp), fun _ hp => br_f b (br_f c hp)⟩
    obtain ⟨q, hX, hY⟩ := h71
    by_cases b : d < (-7)
    · exact ⟨q, fun post hp => br_f a (br_t b (hX post hp)), fun post hp => br_f a (br_t b (hY post hp))⟩
    · by_cases c : 8 < d
      · exact ⟨q, fun post hp => br_f a (br_f b (br_t c (hX post hp))), fun post hp => br_f a (br_f b (br_t c (hY post hp)))⟩
      · exact ⟨6, fun post hp => br_f a (br_f b (br_f c hp)), fun post hp => br_f a (br_f b (br_f c hp))⟩
theorem sc_time (n : Nat) (l r : Int32) (T V : Nat → Int32) {i j : Nat} {g : Int32} (h1 : 16 * j + 1 ≤ i) (h2 : i < 16 * j + 16) (h3 : i < 64) (hg : sc_gb T j i g) :
    ∃ q : Int32, (∀ post : Int32 → Prop, post q → wpX_timeSize post (nI n, T, V) (T (nI i).toNatClampNeg - T (nI i - 1).toNatClampNeg - g)) ∧ (∀ post : Int32 → Prop, post q → wpY_timeSize post (nI n, l, r, T, V) (nI i)) := by
  obtain ⟨q, hX, hY⟩ := sc_tsz n l r T V (T (nI i).toNatClampNeg - T (nI i - 1).toNatClampNeg - g)
  refine ⟨q, hX, fun post hp => ?_⟩
  have hy := hY post hp
  have v : vp_in (nI i) 64 := vp_in_nI h3 (by omega)
  have w : vp_in (nI i - 1) 64 := by
    obtain ⟨m, rfl⟩ : ∃ m, i = m + 1 := ⟨i - 1, by omega⟩
    rw [nI_pred]
    exact vp_in_nI (by omega) (by omega)
  have hr : nI i - nI i / 16 * 16 = nI (i % 16) := pk_rem (d := 16) (by omega) (by omega) (by omega)
  rcases hg with ⟨e, rfl⟩ | ⟨e, rfl⟩
  · have h : nI i - nI i / 16 * 16 = 1 := by
      rw [hr, show i % 16 = 1 by omega]
      exact rfl
    exact And.intro sc_n0 (br_t h (And.intro v (And.intro w (nm_e hy))))
  · have h : ¬ nI i - nI i / 16 * 16 = 1 := by
      rw [hr]
      intro z
      have := (nI_eq (a := i % 16) (b := 1) (by omega) (by omega)).mp z
      omega
    have x : vp_in (nI i - 2) 64 := by
      obtain ⟨m, rfl⟩ : ∃ m, i = m + 2 := ⟨i - 2, by omega⟩
      have e : nI (m + 2) - 2 = nI m := by
        have h := pk_sub (a := m + 2) (b := 2) (by omega)
        rw [Nat.add_sub_cancel] at h
        exact h
      rw [e]
      exact vp_in_nI (by omega) (by omega)
    exact And.intro sc_n0 (br_f h ⟨w, x, And.intro v (And.intro w (nm_e hy))⟩)
theorem sx_lead {post : Int32 → Prop} {k p : Nat} (hp16 : p < 16) (h1 : ¬ ((nI k >>> ((15 - nI p) &&& 31)) &&& 1) = 0) (h2 : ∀ j, j < p → ((nI k >>> ((15 - nI j) &&& 31)) &&& 1) = 0) (hp : post (nI p)) : wpX_leadingZeros post (nI n, T, V) (nI k) := by
  have hd : ∀ d i : Nat, i + d = p → wX_leadingZeros_2 post (nI k) (nI n) T V (d + 1) (nI i) := by
    intro d
    induction d with
    | zero =>
      intro i hi
      have e : i = p := by omega
      subst e
      exact br_f (nI_ge (b := 16) hp16 (by omega)) (br_f h1 hp)
    | succ d ih =>
      intro i hi
      exact br_f (nI_ge (b := 16) (by omega) (by omega)) (br_t (h2 i (by omega)) (nm_r (nI_1 i) (ih (i + 1) (by omega))))
  exact Exists.intro (p + 1) (hd p 0 (by omega))
theorem sx_trail {post : Int32 → Prop} {k p : Nat} (hp16 : p < 16) (h1 : ¬ ((nI k >>> (nI p &&& 31)) &&& 1) = 0) (h2 : ∀ j, j < p → ((nI k >>> (nI j &&& 31)) &&& 1) = 0) (hp : post (nI p)) : wpX_trailingZeros post (nI n, T, V) (nI k) := by
  have hd : ∀ d i : Nat, i + d = p → wX_trailingZeros_2 post (nI k) (nI n) T V (d + 1) (nI i) := by
    intro d
    induction d with
    | zero =>
      intro i hi
      have e : i = p := by omega
      subst e
      exact br_f (nI_ge (b := 16) hp16 (by omega)) (br_f h1 hp)
    | succ d ih =>
      intro i hi
      exact br_f (nI_ge (b := 16) (by omega) (by omega)) (br_t (h2 i (by omega)) (nm_r (nI_1 i) (ih (i + 1) (by omega))))
  exact Exists.intro (p + 1) (hd p 0 (by omega))
theorem sy_24 {post : Int32 → SY → Prop} {k p : Nat} (h1 : ¬ ((nI k >>> ((15 - nI p) &&& 31)) &&& 1) = 0) (h2 : ∀ j, j < p → ((nI k >>> ((15 - nI j) &&& 31)) &&& 1) = 0) (hp : ∃ N : Nat, wY_valueSize_44 post (nI k) (nI p) (nI n) l r T V N 0) : ∀ d i : Nat, i + d = p → wY_valueSize_24 post (nI k) (nI n) l r T V (d + 1) (nI i) := by
  intro d
  induction d with
  | zero =>
    intro i hi
    have e : i = p := by omega
    subst e
    exact br_f h1 hp
  | succ d ih =>
    intro i hi
    exact br_t (h2 i (by omega)) (nm_r (nI_1 i) (ih (i + 1) (by omega)))
theorem sy_44 {post : Int32 → SY → Prop} {k p q : Nat} (h1 : ¬ ((nI k >>> (nI q &&& 31)) &&& 1) = 0) (h2 : ∀ j, j < q → ((nI k >>> (nI j &&& 31)) &&& 1) = 0)
    (hp : (l < 0 → wY_valueSize_96 post (nI p) (nI q) (nI n) l r T V) ∧ (¬ l < 0 → ((nI p < l → wY_valueSize_96 post (nI p) (nI q) (nI n) l r T V) ∧ (¬ nI p < l → ((nI q < r → wY_valueSize_96 post (nI p) (nI q) (nI n) l r T V) ∧ (¬ nI q < r → post ((18 - l) - r) (nI n, l, r, T, V))))))) :
    ∀ d i : Nat, i + d = q → wY_valueSize_44 post (nI k) (nI p) (nI n) l r T V (d + 1) (nI i) := by
  intro d
  induction d with
  | zero =>
    intro i hi
    have e : i = q := by omega
    subst e
    exact br_f h1 hp
  | succ d ih =>
    intro i hi
    exact br_t (h2 i (by omega)) (nm_r (nI_1 i) (ih (i + 1) (by omega)))
theorem sc_vs (h : sc_ok n T V) {i : Nat} {wl wt : Int32} (hi : 1 ≤ i) (hin : i < n) (x0 : ¬ V (nI i).toNatClampNeg ^^^ V (nI i - 1).toNatClampNeg = 0) (hw : sc_win wl wt l r) :
    ∃ p q : Nat, p < 16 ∧ q < 16 ∧ (∀ post : Int32 → Prop, post (nI p) → wpX_leadingZeros post (nI n, T, V) (V (nI i).toNatClampNeg ^^^ V (nI i - 1).toNatClampNeg)) ∧ (∀ post : Int32 → Prop, post (nI q) → wpX_trailingZeros post (nI n, T, V) (V (nI i).toNatClampNeg ^^^ V (nI i - 1).toNatClampNeg)) ∧
      (((nI p < wl ∨ (¬ nI p < wl ∧ nI q < wt)) ∧ ∀ post : Int32 → SY → Prop, post ((26 - nI p) - nI q) (nI n, nI p, nI q, T, V) → wpY_valueSize post (nI n, l, r, T, V) (nI i)) ∨
       ((¬ nI p < wl ∧ ¬ nI q < wt) ∧ ∀ post : Int32 → SY → Prop, post ((18 - wl) - wt) (nI n, l, r, T, V) → wpY_valueSize post (nI n, l, r, T, V) (nI i))) := by
  have hn := h.1
  have v : vp_in (nI i) 64 := vp_in_nI (by omega) (by omega)
  have w : vp_in (nI i - 1) 64 := by
    obtain ⟨m, rfl⟩ : ∃ m, i = m + 1 := ⟨i - 1, by omega⟩
    rw [nI_pred]
    exact vp_in_nI (by omega) (by omega)
  obtain ⟨k, hk, ek⟩ : ∃ k, k < 65536 ∧ V (nI i).toNatClampNeg ^^^ V (nI i - 1).toNatClampNeg = nI k := by
    obtain ⟨m, rfl⟩ : ∃ m, i = m + 1 := ⟨i - 1, by omega⟩
    obtain ⟨a, ha, ea⟩ := h.2.2.2 (m + 1) (by omega)
    obtain ⟨b, hb, eb⟩ := h.2.2.2 m (by omega)
    rw [nI_pred, nI_clamp (show m + 1 < 2 ^ 31 by omega), nI_clamp (show m < 2 ^ 31 by omega), ea, eb]
    exact sc_xor ha hb
  have k0 : k ≠ 0 := by
    intro z
    rw [ek, z] at x0
    exact x0 nI_0
  obtain ⟨p, hp, p1, p2⟩ := sc_lead hk k0
  obtain ⟨q, hq, q1, q2⟩ := sc_trail hk k0
  have y : ∀ post : Int32 → SY → Prop, ((l < 0 → wY_valueSize_96 post (nI p) (nI q) (nI n) l r T V) ∧ (¬ l < 0 → ((nI p < l → wY_valueSize_96 post (nI p) (nI q) (nI n) l r T V) ∧ (¬ nI p < l → ((nI q < r → wY_valueSize_96 post (nI p) (nI q) (nI n) l r T V) ∧ (¬ nI q < r → post ((18 - l) - r) (nI n, l, r, T, V))))))) → wpY_valueSize post (nI n, l, r, T, V) (nI i) := by
    intro post c
    have kz : ¬ nI k = 0 := nI_ne0 (by omega) (by omega)
    exact And.intro v (And.intro w (nm_r ek (br_f kz ⟨p + 1, sy_24 p1 p2 ⟨q + 1, sy_44 q1 q2 c q 0 (by omega)⟩ p 0 (by omega)⟩)))
  rw [ek]
  refine ⟨p, q, hp, hq, fun post c => sx_lead hp p1 p2 c, fun post c => sx_trail hq q1 q2 c, ?_⟩
  rcases hw with ⟨rfl, rfl, rfl⟩ | ⟨a, b, ha, hb, rfl, rfl, rfl, rfl⟩
  · exact Or.inl ⟨Or.inl (nI_lt (b := 16) hp (by omega)), fun post c => y post (br_t (by decide) c)⟩
  · have a0 : ¬ nI a < 0 := nI_pos (by omega)
    by_cases z : nI p < nI a
    · exact Or.inl ⟨Or.inl z, fun post c => y post (br_f a0 (br_t z c))⟩
    · by_cases z2 : nI q < nI b
      · exact Or.inl ⟨Or.inr ⟨z, z2⟩, fun post c => y post (br_f a0 (br_f z (br_t z2 c)))⟩
      · exact Or.inr ⟨⟨z, z2⟩, fun post c => y post (br_f a0 (br_f z (br_f z2 c)))⟩
end
theorem sc_chunk {n j e : Nat} {T V : Nat → Int32} (h : sc_ok n T V) (he1 : e ≤ n) (he2 : e ≤ 16 * j + 16) (he3 : n ≤ e ∨ 16 * j + 16 ≤ e) (hj : j ≤ 3) :
    ∀ (d i : Nat) (s g wl wt l r : Int32), i + d = e → 16 * j + 1 ≤ i → sc_gb T j i g → sc_win wl wt l r → ∃ q l' r' : Int32, (∀ post : Int32 → Prop, post q → wX_chunkSize_28 post (nI e) (nI n) T V (d + 1) s g wl wt (nI i)) ∧ (∀ post : Int32 → SY → Prop, post q (nI n, l', r', T, V) → wY_size_38 post (nI j) (d + 1) s (nI i) (nI n) l r T V) := by
  have hn := h.1
  intro d
  induction d with
  | zero =>
    intro i s g wl wt l r hi hij hg hw
    have x : nI e ≤ nI i := nI_le (by omega) (by omega)
    refine ⟨s, l, r, fun post hp => br_t x hp, fun post hp => ?_⟩
    by_cases y : 16 * j + 16 ≤ i
    · have y1 : (16 : Int32) * nI j + 16 ≤ nI i := by
        rw [sc_16b]
        exact nI_le y (by omega)
      exact br_t y1 hp
    · have y1 : ¬ (16 : Int32) * nI j + 16 ≤ nI i := by
        rw [sc_16b]
        exact nI_ge (by omega) (by omega)
      exact br_f y1 (br_t (nI_le (show n ≤ i by omega) (by omega)) hp)
  | succ d ih =>
    intro i s g wl wt l r hi hij hg hw
    have x : ¬ nI e ≤ nI i := nI_ge (by omega) (by omega)
    have y : ¬ (16 : Int32) * nI j + 16 ≤ nI i := by
      rw [sc_16b]
      exact nI_ge (by omega) (by omega)
    have z : ¬ nI n ≤ nI i := nI_ge (by omega) (by omega)
    have v : vp_in (nI i) 64 := vp_in_nI (by omega) (by omega)
    have w : vp_in (nI i - 1) 64 := by
      obtain ⟨m, rfl⟩ : ∃ m, i = m + 1 := ⟨i - 1, by omega⟩
      rw [nI_pred]
      exact vp_in_nI (by omega) (by omega)
    obtain ⟨t, tX, tY⟩ := sc_time n l r T V hij (by omega) (by omega) hg
    have hg2 := sc_gbs T hij
    by_cases x0 : V (nI i).toNatClampNeg ^^^ V (nI i - 1).toNatClampNeg = 0
    · obtain ⟨q, l', r', hX, hY⟩ := ih (i + 1) (s + t + 1) _ wl wt l r (by omega) (by omega) hg2 hw
      exact ⟨q, l', r', fun post hp => br_f x ⟨v, w, nm_e (tX _ (nm_e ⟨v, w, nm_e (br_t x0 (nm_e (nm_r (nI_1 i) (hX post hp))))⟩))⟩,
        fun post hp => br_f y (br_f z (tY _ (And.intro v (And.intro w (nm_e (br_t x0 (nm_e (nm_r (nI_1 i) (hY post hp)))))))))⟩
    · obtain ⟨p, c, hp16, hc16, hL, hR, hv⟩ := sc_vs h (show 1 ≤ i by omega) (show i < n by omega) x0 hw
      rcases hv with ⟨hf, hv⟩ | ⟨⟨f1, f2⟩, hv⟩
      · obtain ⟨q, l', r', hX, hY⟩ := ih (i + 1) (s + t + ((26 - nI p) - nI c)) _ (nI p) (nI c) (nI p) (nI c) (by omega) (by omega) hg2 (Or.inr ⟨p, c, hp16, hc16, rfl, rfl, rfl, rfl⟩)
        refine ⟨q, l', r', fun post hp => br_f x ⟨v, w, nm_e (tX _ (nm_e ⟨v, w, nm_e (br_f x0 (hL _ (hR _ ?_)))⟩))⟩, fun post hp => br_f y (br_f z (tY _ (hv _ (nm_e (nm_r (nI_1 i) (hY post hp))))))⟩
        rcases hf with f | ⟨f1, f2⟩
        · exact br_t f (nm_e (nm_r (nI_1 i) (hX post hp)))
        · exact br_f f1 (br_t f2 (nm_e (nm_r (nI_1 i) (hX post hp))))
      · obtain ⟨q, l', r', hX, hY⟩ := ih (i + 1) (s + t + ((18 - wl) - wt)) _ wl wt l r (by omega) (by omega) hg2 hw
        exact ⟨q, l', r', fun post hp => br_f x ⟨v, w, nm_e (tX _ (nm_e ⟨v, w, nm_e (br_f x0 (hL _ (hR _ (br_f f1 (br_f f2 (nm_e (nm_r (nI_1 i) (hX post hp))))))))⟩))⟩, fun post hp => br_f y (br_f z (tY _ (hv _ (nm_e (nm_r (nI_1 i) (hY post hp))))))⟩
section
variable {n : Nat} {T V : Nat → Int32}
theorem sc_cs (h : sc_ok n T V) (l r : Int32) {j : Nat} (hj : 16 * j < n) : ∃ q l' r' : Int32, (∀ post : Int32 → Prop, post q → wpX_chunkSize post (nI n, T, V) (nI j)) ∧ (∀ post : Int32 → SY → Prop, post q (nI n, l', r', T, V) → wpY_size post (nI n, l, r, T, V) (nI j)) := by
  have hn := h.1
  obtain ⟨e, he1, he2, he3, he4, hE⟩ : ∃ e : Nat, e ≤ n ∧ e ≤ 16 * j + 16 ∧ (n ≤ e ∨ 16 * j + 16 ≤ e) ∧ 16 * j + 1 ≤ e ∧ ∀ post : Int32 → Prop, post (nI e) → wpX_chunkEnd post (nI n, T, V) (nI j) := by
    by_cases f : n ≤ 16 * j + 16
    · exact ⟨n, Nat.le_refl _, f, Or.inl (Nat.le_refl _), by omega, fun post hp => nm_r (sc_16e j) (br_t (nI_le f (by omega)) hp)⟩
    · exact ⟨16 * j + 16, by omega, Nat.le_refl _, Or.inr (Nat.le_refl _), by omega, fun post hp => nm_r (sc_16e j) (br_f (nI_ge (by omega) (by omega)) hp)⟩
  obtain ⟨q, l', r', hX, hY⟩ := sc_chunk h he1 he2 he3 (by omega) (e - (16 * j + 1)) (16 * j + 1) 32 0 16 16 (-1) r (by omega) (Nat.le_refl _) (Or.inl ⟨rfl, rfl⟩) (Or.inl ⟨rfl, rfl, rfl⟩)
  refine ⟨q, l', r', fun post hp => ?_, fun post hp => ?_⟩
  · unfold wpX_chunkSize
    dsimp only
    exact hE _ (nm_r (sc_16d j) ⟨_, hX post hp⟩)
  · have a : ¬ nI j < 0 := nI_pos (by omega)
    have b : ¬ (3 : Int32) < nI j := nI_nlt (a := 3) (by omega) (by omega)
    have c : (16 : Int32) * nI j < nI n := by
      rw [sc_16a]
      exact nI_lt hj (by omega)
    exact br_f a (br_f b (br_t c (nm_r (sc_16c j) ⟨_, hY post hp⟩)))
theorem sx_chunks {post : Int32 → Prop} (hn : n ≤ 64) (hp : post (nI ((n + 15) / 16))) : wpX_chunks post (nI n, T, V) := by
  refine And.intro sc_n0 ?_
  rw [sc_ch hn]
  exact hp
theorem sc_packed (h : sc_ok n T V) : ∀ (d c : Nat) (s l r : Int32), c + d = (n + 15) / 16 → ∃ q l' r' : Int32, (∀ post : Int32 → Prop, post q → wX_packed_9 post (nI ((n + 15) / 16)) (nI n) T V (d + 1) s (nI c)) ∧ (∀ post : Int32 → SY → Prop, post q (nI n, l', r', T, V) → wY_packed_4 post (d + 1) s (nI c) (nI n) l r T V) := by
  have hn := h.1
  intro d
  induction d with
  | zero =>
    intro c s l r hc
    have x : nI ((n + 15) / 16) ≤ nI c := nI_le (by omega) (by omega)
    have y : nI n ≤ (16 : Int32) * nI c := by
      rw [sc_16a]
      exact nI_le (by omega) (by omega)
    exact ⟨s, l, r, fun _ hp => br_t x hp, fun _ hp => br_t y hp⟩
  | succ d ih =>
    intro c s l r hc
    have x : ¬ nI ((n + 15) / 16) ≤ nI c := nI_ge (by omega) (by omega)
    have y : ¬ nI n ≤ (16 : Int32) * nI c := by
      rw [sc_16a]
      exact nI_ge (by omega) (by omega)
    obtain ⟨t, l1, r1, cX, cY⟩ := sc_cs h l r (j := c) (by omega)
    obtain ⟨q, l', r', hX, hY⟩ := ih (c + 1) (s + t) l1 r1 (by omega)
    exact ⟨q, l', r', fun post hp => br_f x (cX _ (nm_e (nm_r (nI_1 c) (hX post hp)))), fun post hp => br_f y (cY _ (nm_e (nm_r (nI_1 c) (hY post hp))))⟩
end
theorem i_vc_size {k : Nat} {u : SX} {v : SY} (I : i_Rel k u v) (hk : k + 5 ≤ 2560) (v1 : Int32) : wpX_size (fun r => wpY_size (fun r' v' => r' = r ∧ i_Rel (k + 5) u v') v v1) u v1 := by
  obtain ⟨n, l, r, T, V, rfl, rfl, h⟩ := I
  have hn := h.1
  by_cases a : v1 < 0
  · exact br_t a (br_t a ⟨rfl, sc_rel h⟩)
  · obtain ⟨j, hj, rfl⟩ := nI_of a
    by_cases f : 16 * j < n
    · obtain ⟨q, l', r', hX, hY⟩ := sc_cs h l r f
      exact br_f a (sx_chunks hn (br_t (nI_lt (by omega) (by omega)) (hX _ (hY _ ⟨rfl, sc_rel h⟩))))
    · refine br_f a (sx_chunks hn (br_f (nI_nlt (by omega) hj) (br_f a ?_)))
      by_cases g : j ≤ 3
      · have b : ¬ (3 : Int32) < nI j := nI_nlt (a := 3) g (by omega)
        have c : ¬ (16 : Int32) * nI j < nI n := by
          rw [sc_16a]
          exact nI_nlt (by omega) (by omega)
        exact br_f b (br_f c ⟨rfl, sc_rel h⟩)
      · exact br_t (nI_lt (a := 3) (by omega) hj) ⟨rfl, sc_rel h⟩
theorem i_vc_packed {k : Nat} {u : SX} {v : SY} (I : i_Rel k u v) (hk : k + 5 ≤ 2560) : wpX_packed (fun r => wpY_packed (fun r' v' => r' = r ∧ i_Rel (k + 5) u v') v) u := by
  obtain ⟨n, l, r, T, V, rfl, rfl, h⟩ := I
  unfold wpX_packed wpY_packed
  dsimp only
  obtain ⟨q, l', r', hX, hY⟩ := sc_packed h ((n + 15) / 16) 0 0 l r (by omega)
  exact sx_chunks h.1 ⟨_, hX _ ⟨_, hY _ ⟨rfl, sc_rel h⟩⟩⟩
end
