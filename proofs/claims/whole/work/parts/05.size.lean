/-! ===== size, packed ===== -/
theorem sc_16a (j : Nat) : (16 : Int32) * nI j = nI (16 * j) := pk_mul 16 j
theorem sc_16b (j : Nat) : (16 : Int32) * nI j + 16 = nI (16 * j + 16) := by
  rw [sc_16a]
  exact nI_add (16 * j) 16
theorem sc_16c (j : Nat) : (16 : Int32) * nI j + 1 = nI (16 * j + 1) := by
  rw [sc_16a]
  exact nI_1 (16 * j)
theorem sc_16d (j : Nat) : nI j * 16 + 1 = nI (16 * j + 1) := by
  have e : nI j * 16 = nI (j * 16) := pk_mul j 16
  rw [e, nI_1, Nat.mul_comm]
theorem sc_16e (j : Nat) : (nI j + 1) * 16 = nI (16 * j + 16) := by
  have e : nI (j + 1) * 16 = nI ((j + 1) * 16) := pk_mul (j + 1) 16
  rw [nI_1, e]
  exact congrArg nI (by omega)
theorem sc_n0 : ¬ (16 : Int32) = 0 := by decide
/-- X's window and Y's window: none, or the same one -/
def sc_win (wl wt l r : Int32) : Prop := (wl = 16 ∧ wt = 16 ∧ l = -1) ∨ ∃ a b : Nat, a < 16 ∧ b < 16 ∧ wl = nI a ∧ wt = nI b ∧ l = nI a ∧ r = nI b
/-- the time gap before that of point i, 0 for the second point of chunk j -/
def sc_gb (T : Nat → Int32) (j i : Nat) (g : Int32) : Prop := (i = 16 * j + 1 ∧ g = 0) ∨ (i ≠ 16 * j + 1 ∧ g = T (nI i - 1).toNatClampNeg - T (nI i - 2).toNatClampNeg)
theorem sc_gbs (T : Nat → Int32) {j i : Nat} (hi : 16 * j + 1 ≤ i) : sc_gb T j (i + 1) (T (nI i).toNatClampNeg - T (nI i - 1).toNatClampNeg) := by
  refine Or.inr ⟨by omega, ?_⟩
  obtain ⟨m, rfl⟩ : ∃ m, i = m + 1 := ⟨i - 1, by omega⟩
  have e : nI (m + 1 + 1) - 2 = nI m := by
    have h := pk_sub (a := m + 2) (b := 2) (by omega)
    rw [Nat.add_sub_cancel] at h
    exact h
  rw [e, nI_pred, nI_pred]
section
variable {n : Nat} {l r : Int32} {T V : Nat → Int32}
theorem sc_tsz (n : Nat) (l r : Int32) (T V : Nat → Int32) (d : Int32) : ∃ q : Int32, (∀ post : Int32 → Prop, post q → wpX_timeSize post (nI n, T, V) d) ∧ (∀ post : Int32 → Prop, post q → ((d = 0 → post 1) ∧ (¬ d = 0 → ((d < (-7) → wY_timeSize_71 post d (nI n) l r T V) ∧ (¬ d < (-7) → ((8 < d → wY_timeSize_71 post d (nI n) l r T V) ∧ (¬ 8 < d → post 6))))))) := by
  by_cases a : d = 0
  · exact ⟨1, fun _ hp => br_t a hp, fun _ hp => br_t a hp⟩
  · have h71 : ∃ q : Int32, (∀ post : Int32 → Prop, post q → wX_timeSize_21 post d (nI n) T V) ∧ (∀ post : Int32 → Prop, post q → wY_timeSize_71 post d (nI n) l r T V) := by
      by_cases b : d < (-63)
      · exact ⟨21, fun _ hp => br_t b hp, fun _ hp => br_t b hp⟩
      · by_cases c : 64 < d
        · exact ⟨21, fun _ hp => br_f b (br_t c hp), fun _ hp => br_f b (br_t c hp)⟩
        · exact ⟨10, fun _ hp => br_f b (br_f c hp), fun _ hp => br_f b (br_f c hp)⟩
    obtain ⟨q, hX, hY⟩ := h71
    by_cases b : d < (-7)
    · exact ⟨q, fun post hp => br_f a (br_t b (hX post hp)), fun post hp => br_f a (br_t b (hY post hp))⟩
    · by_cases c : 8 < d
      · exact ⟨q, fun post hp => br_f a (br_f b (br_t c (hX post hp))), fun post hp => br_f a (br_f b (br_t c (hY post hp)))⟩
      · exact ⟨6, fun post hp => br_f a (br_f b (br_f c hp)), fun post hp => br_f a (br_f b (br_f c hp))⟩
theorem sc_time (n : Nat) (l r : Int32) (T V : Nat → Int32) {i j : Nat} {g : Int32} (h1 : 16 * j + 1 ≤ i) (h2 : i < 16 * j + 16) (h3 : i < 64) (hg : sc_gb T j i g) :
    ∃ q : Int32, (∀ post : Int32 → Prop, post q → wpX_timeSize post (nI n, T, V) (T (nI i).toNatClampNeg - T (nI i - 1).toNatClampNeg - g)) ∧ (∀ post : Int32 → Prop, post q → wpY_timeSize post (nI n, l, r, T, V) (nI i)) := by
  obtain ⟨q, hX, hY⟩ := sc_tsz n l r T V (T (nI i).toNatClampNeg - T (nI i - 1).toNatClampNeg - g)
  refine ⟨q, hX, fun post hp => ?_⟩
  have hy := hY post hp
  have v : vp_in (nI i) 64 := vp_in_nI h3 (by omega)
  have w : vp_in (nI i - 1) 64 := by
    obtain ⟨m, rfl⟩ : ∃ m, i = m + 1 := ⟨i - 1, by omega⟩
    rw [nI_pred]
    exact vp_in_nI (by omega) (by omega)
  have hr : nI i - nI i / 16 * 16 = nI (i % 16) := pk_rem (d := 16) (by omega) (by omega) (by omega)
  rcases hg with ⟨e, rfl⟩ | ⟨e, rfl⟩
  · have h : nI i - nI i / 16 * 16 = 1 := by
      rw [hr, show i % 16 = 1 by omega]
      exact rfl
    exact And.intro sc_n0 (br_t h (And.intro v (And.intro w (nm_e hy))))
  · have h : ¬ nI i - nI i / 16 * 16 = 1 := by
      rw [hr]
      intro z
      have := (nI_eq (a := i % 16) (b := 1) (by omega) (by omega)).mp z
      omega
    have x : vp_in (nI i - 2) 64 := by
      obtain ⟨m, rfl⟩ : ∃ m, i = m + 2 := ⟨i - 2, by omega⟩
      have e : nI (m + 2) - 2 = nI m := by
        have h := pk_sub (a := m + 2) (b := 2) (by omega)
        rw [Nat.add_sub_cancel] at h
        exact h
      rw [e]
      exact vp_in_nI (by omega) (by omega)
    exact And.intro sc_n0 (br_f h ⟨w, x, And.intro v (And.intro w (nm_e hy))⟩)
theorem sx_lead {post : Int32 → Prop} {k p : Nat} (hp16 : p < 16) (h1 : ¬ ((nI k >>> ((15 - nI p) &&& 31)) &&& 1) = 0) (h2 : ∀ j, j < p → ((nI k >>> ((15 - nI j) &&& 31)) &&& 1) = 0) (hp : post (nI p)) : wpX_leadingZeros post (nI n, T, V) (nI k) := by
  have hd : ∀ d i : Nat, i + d = p → wX_leadingZeros_2 post (nI k) (nI n) T V (d + 1) (nI i) := by
    intro d
    induction d with
    | zero =>
      intro i hi
      have e : i = p := by omega
      subst e
      exact br_f (nI_ge (b := 16) hp16 (by omega)) (br_f h1 hp)
    | succ d ih =>
      intro i hi
      exact br_f (nI_ge (b := 16) (by omega) (by omega)) (br_t (h2 i (by omega)) (nm_r (nI_1 i) (ih (i + 1) (by omega))))
  exact Exists.intro (p + 1) (hd p 0 (by omega))
theorem sx_trail {post : Int32 → Prop} {k p : Nat} (hp16 : p < 16) (h1 : ¬ ((nI k >>> (nI p &&& 31)) &&& 1) = 0) (h2 : ∀ j, j < p → ((nI k >>> (nI j &&& 31)) &&& 1) = 0) (hp : post (nI p)) : wpX_trailingZeros post (nI n, T, V) (nI k) := by
  have hd : ∀ d i : Nat, i + d = p → wX_trailingZeros_2 post (nI k) (nI n) T V (d + 1) (nI i) := by
    intro d
    induction d with
    | zero =>
      intro i hi
      have e : i = p := by omega
      subst e
      exact br_f (nI_ge (b := 16) hp16 (by omega)) (br_f h1 hp)
    | succ d ih =>
      intro i hi
      exact br_f (nI_ge (b := 16) (by omega) (by omega)) (br_t (h2 i (by omega)) (nm_r (nI_1 i) (ih (i + 1) (by omega))))
  exact Exists.intro (p + 1) (hd p 0 (by omega))
theorem sy_24 {post : Int32 → SY → Prop} {k p : Nat} (h1 : ¬ ((nI k >>> ((15 - nI p) &&& 31)) &&& 1) = 0) (h2 : ∀ j, j < p → ((nI k >>> ((15 - nI j) &&& 31)) &&& 1) = 0) (hp : ∃ N : Nat, wY_valueSize_44 post (nI k) (nI p) (nI n) l r T V N 0) : ∀ d i : Nat, i + d = p → wY_valueSize_24 post (nI k) (nI n) l r T V (d + 1) (nI i) := by
  intro d
  induction d with
  | zero =>
    intro i hi
    have e : i = p := by omega
    subst e
    exact br_f h1 hp
  | succ d ih =>
    intro i hi
    exact br_t (h2 i (by omega)) (nm_r (nI_1 i) (ih (i + 1) (by omega)))
theorem sy_44 {post : Int32 → SY → Prop} {k p q : Nat} (h1 : ¬ ((nI k >>> (nI q &&& 31)) &&& 1) = 0) (h2 : ∀ j, j < q → ((nI k >>> (nI j &&& 31)) &&& 1) = 0)
    (hp : (l < 0 → wY_valueSize_96 post (nI p) (nI q) (nI n) l r T V) ∧ (¬ l < 0 → ((nI p < l → wY_valueSize_96 post (nI p) (nI q) (nI n) l r T V) ∧ (¬ nI p < l → ((nI q < r → wY_valueSize_96 post (nI p) (nI q) (nI n) l r T V) ∧ (¬ nI q < r → post ((18 - l) - r) (nI n, l, r, T, V))))))) :
    ∀ d i : Nat, i + d = q → wY_valueSize_44 post (nI k) (nI p) (nI n) l r T V (d + 1) (nI i) := by
  intro d
  induction d with
  | zero =>
    intro i hi
    have e : i = q := by omega
    subst e
    exact br_f h1 hp
  | succ d ih =>
    intro i hi
    exact br_t (h2 i (by omega)) (nm_r (nI_1 i) (ih (i + 1) (by omega)))
theorem sc_vs (h : sc_ok n T V) {i : Nat} {wl wt : Int32} (hi : 1 ≤ i) (hin : i < n) (x0 : ¬ V (nI i).toNatClampNeg ^^^ V (nI i - 1).toNatClampNeg = 0) (hw : sc_win wl wt l r) :
    ∃ p q : Nat, p < 16 ∧ q < 16 ∧ (∀ post : Int32 → Prop, post (nI p) → wpX_leadingZeros post (nI n, T, V) (V (nI i).toNatClampNeg ^^^ V (nI i - 1).toNatClampNeg)) ∧ (∀ post : Int32 → Prop, post (nI q) → wpX_trailingZeros post (nI n, T, V) (V (nI i).toNatClampNeg ^^^ V (nI i - 1).toNatClampNeg)) ∧
      (((nI p < wl ∨ (¬ nI p < wl ∧ nI q < wt)) ∧ ∀ post : Int32 → SY → Prop, post ((26 - nI p) - nI q) (nI n, nI p, nI q, T, V) → wpY_valueSize post (nI n, l, r, T, V) (nI i)) ∨
       ((¬ nI p < wl ∧ ¬ nI q < wt) ∧ ∀ post : Int32 → SY → Prop, post ((18 - wl) - wt) (nI n, l, r, T, V) → wpY_valueSize post (nI n, l, r, T, V) (nI i))) := by
  have hn := h.1
  have v : vp_in (nI i) 64 := vp_in_nI (by omega) (by omega)
  have w : vp_in (nI i - 1) 64 := by
    obtain ⟨m, rfl⟩ : ∃ m, i = m + 1 := ⟨i - 1, by omega⟩
    rw [nI_pred]
    exact vp_in_nI (by omega) (by omega)
  obtain ⟨k, hk, ek⟩ : ∃ k, k < 65536 ∧ V (nI i).toNatClampNeg ^^^ V (nI i - 1).toNatClampNeg = nI k := by
    obtain ⟨m, rfl⟩ : ∃ m, i = m + 1 := ⟨i - 1, by omega⟩
    obtain ⟨a, ha, ea⟩ := h.2.2.2 (m + 1) (by omega)
    obtain ⟨b, hb, eb⟩ := h.2.2.2 m (by omega)
    rw [nI_pred, nI_clamp (show m + 1 < 2 ^ 31 by omega), nI_clamp (show m < 2 ^ 31 by omega), ea, eb]
    exact sc_xor ha hb
  have k0 : k ≠ 0 := by
    intro z
    rw [ek, z] at x0
    exact x0 nI_0
  obtain ⟨p, hp, p1, p2⟩ := sc_lead hk k0
  obtain ⟨q, hq, q1, q2⟩ := sc_trail hk k0
  have y : ∀ post : Int32 → SY → Prop, ((l < 0 → wY_valueSize_96 post (nI p) (nI q) (nI n) l r T V) ∧ (¬ l < 0 → ((nI p < l → wY_valueSize_96 post (nI p) (nI q) (nI n) l r T V) ∧ (¬ nI p < l → ((nI q < r → wY_valueSize_96 post (nI p) (nI q) (nI n) l r T V) ∧ (¬ nI q < r → post ((18 - l) - r) (nI n, l, r, T, V))))))) → wpY_valueSize post (nI n, l, r, T, V) (nI i) := by
    intro post c
    have kz : ¬ nI k = 0 := nI_ne0 (by omega) (by omega)
    exact And.intro v (And.intro w (nm_r ek (br_f kz ⟨p + 1, sy_24 p1 p2 ⟨q + 1, sy_44 q1 q2 c q 0 (by omega)⟩ p 0 (by omega)⟩)))
  rw [ek]
  refine ⟨p, q, hp, hq, fun post c => sx_lead hp p1 p2 c, fun post c => sx_trail hq q1 q2 c, ?_⟩
  rcases hw with ⟨rfl, rfl, rfl⟩ | ⟨a, b, ha, hb, rfl, rfl, rfl, rfl⟩
  · exact Or.inl ⟨Or.inl (nI_lt (b := 16) hp (by omega)), fun post c => y post (br_t (by decide) c)⟩
  · have a0 : ¬ nI a < 0 := nI_pos (by omega)
    by_cases z : nI p < nI a
    · exact Or.inl ⟨Or.inl z, fun post c => y post (br_f a0 (br_t z c))⟩
    · by_cases z2 : nI q < nI b
      · exact Or.inl ⟨Or.inr ⟨z, z2⟩, fun post c => y post (br_f a0 (br_f z (br_t z2 c)))⟩
      · exact Or.inr ⟨⟨z, z2⟩, fun post c => y post (br_f a0 (br_f z (br_f z2 c)))⟩
end
theorem sc_chunk {n j e : Nat} {T V : Nat → Int32} (h : sc_ok n T V) (he1 : e ≤ n) (he2 : e ≤ 16 * j + 16) (he3 : n ≤ e ∨ 16 * j + 16 ≤ e) (hj : j ≤ 3) :
    ∀ (d i : Nat) (s g wl wt l r : Int32), i + d = e → 16 * j + 1 ≤ i → sc_gb T j i g → sc_win wl wt l r → ∃ q l' r' : Int32, (∀ post : Int32 → Prop, post q → wX_chunkSize_28 post (nI e) (nI n) T V (d + 1) s g wl wt (nI i)) ∧ (∀ post : Int32 → SY → Prop, post q (nI n, l', r', T, V) → wY_size_38 post (nI j) (d + 1) s (nI i) (nI n) l r T V) := by
  have hn := h.1
  intro d
  induction d with
  | zero =>
    intro i s g wl wt l r hi hij hg hw
    have x : nI e ≤ nI i := nI_le (by omega) (by omega)
    refine ⟨s, l, r, fun post hp => br_t x hp, fun post hp => ?_⟩
    by_cases y : 16 * j + 16 ≤ i
    · have y1 : (16 : Int32) * nI j + 16 ≤ nI i := by
        rw [sc_16b]
        exact nI_le y (by omega)
      exact br_t y1 hp
    · have y1 : ¬ (16 : Int32) * nI j + 16 ≤ nI i := by
        rw [sc_16b]
        exact nI_ge (by omega) (by omega)
      exact br_f y1 (br_t (nI_le (show n ≤ i by omega) (by omega)) hp)
  | succ d ih =>
    intro i s g wl wt l r hi hij hg hw
    have x : ¬ nI e ≤ nI i := nI_ge (by omega) (by omega)
    have y : ¬ (16 : Int32) * nI j + 16 ≤ nI i := by
      rw [sc_16b]
      exact nI_ge (by omega) (by omega)
    have z : ¬ nI n ≤ nI i := nI_ge (by omega) (by omega)
    have v : vp_in (nI i) 64 := vp_in_nI (by omega) (by omega)
    have w : vp_in (nI i - 1) 64 := by
      obtain ⟨m, rfl⟩ : ∃ m, i = m + 1 := ⟨i - 1, by omega⟩
      rw [nI_pred]
      exact vp_in_nI (by omega) (by omega)
    obtain ⟨t, tX, tY⟩ := sc_time n l r T V hij (by omega) (by omega) hg
    have hg2 := sc_gbs T hij
    by_cases x0 : V (nI i).toNatClampNeg ^^^ V (nI i - 1).toNatClampNeg = 0
    · obtain ⟨q, l', r', hX, hY⟩ := ih (i + 1) (s + t + 1) _ wl wt l r (by omega) (by omega) hg2 hw
      exact ⟨q, l', r', fun post hp => br_f x ⟨v, w, nm_e (tX _ (nm_e ⟨v, w, nm_e (br_t x0 (nm_e (nm_r (nI_1 i) (hX post hp))))⟩))⟩,
        fun post hp => br_f y (br_f z (tY _ (And.intro v (And.intro w (nm_e (br_t x0 (nm_e (nm_r (nI_1 i) (hY post hp)))))))))⟩
    · obtain ⟨p, c, hp16, hc16, hL, hR, hv⟩ := sc_vs h (show 1 ≤ i by omega) (show i < n by omega) x0 hw
      rcases hv with ⟨hf, hv⟩ | ⟨⟨f1, f2⟩, hv⟩
      · obtain ⟨q, l', r', hX, hY⟩ := ih (i + 1) (s + t + ((26 - nI p) - nI c)) _ (nI p) (nI c) (nI p) (nI c) (by omega) (by omega) hg2 (Or.inr ⟨p, c, hp16, hc16, rfl, rfl, rfl, rfl⟩)
        refine ⟨q, l', r', fun post hp => br_f x ⟨v, w, nm_e (tX _ (nm_e ⟨v, w, nm_e (br_f x0 (hL _ (hR _ ?_)))⟩))⟩, fun post hp => br_f y (br_f z (tY _ (hv _ (nm_e (nm_r (nI_1 i) (hY post hp))))))⟩
        rcases hf with f | ⟨f1, f2⟩
        · exact br_t f (nm_e (nm_r (nI_1 i) (hX post hp)))
        · exact br_f f1 (br_t f2 (nm_e (nm_r (nI_1 i) (hX post hp))))
      · obtain ⟨q, l', r', hX, hY⟩ := ih (i + 1) (s + t + ((18 - wl) - wt)) _ wl wt l r (by omega) (by omega) hg2 hw
        exact ⟨q, l', r', fun post hp => br_f x ⟨v, w, nm_e (tX _ (nm_e ⟨v, w, nm_e (br_f x0 (hL _ (hR _ (br_f f1 (br_f f2 (nm_e (nm_r (nI_1 i) (hX post hp))))))))⟩))⟩, fun post hp => br_f y (br_f z (tY _ (hv _ (nm_e (nm_r (nI_1 i) (hY post hp))))))⟩
section
variable {n : Nat} {T V : Nat → Int32}
theorem sc_cs (h : sc_ok n T V) (l r : Int32) {j : Nat} (hj : 16 * j < n) : ∃ q l' r' : Int32, (∀ post : Int32 → Prop, post q → wpX_chunkSize post (nI n, T, V) (nI j)) ∧ (∀ post : Int32 → SY → Prop, post q (nI n, l', r', T, V) → wpY_size post (nI n, l, r, T, V) (nI j)) := by
  have hn := h.1
  obtain ⟨e, he1, he2, he3, he4, hE⟩ : ∃ e : Nat, e ≤ n ∧ e ≤ 16 * j + 16 ∧ (n ≤ e ∨ 16 * j + 16 ≤ e) ∧ 16 * j + 1 ≤ e ∧ ∀ post : Int32 → Prop, post (nI e) → wpX_chunkEnd post (nI n, T, V) (nI j) := by
    by_cases f : n ≤ 16 * j + 16
    · exact ⟨n, Nat.le_refl _, f, Or.inl (Nat.le_refl _), by omega, fun post hp => nm_r (sc_16e j) (br_t (nI_le f (by omega)) hp)⟩
    · exact ⟨16 * j + 16, by omega, Nat.le_refl _, Or.inr (Nat.le_refl _), by omega, fun post hp => nm_r (sc_16e j) (br_f (nI_ge (by omega) (by omega)) hp)⟩
  obtain ⟨q, l', r', hX, hY⟩ := sc_chunk h he1 he2 he3 (by omega) (e - (16 * j + 1)) (16 * j + 1) 32 0 16 16 (-1) r (by omega) (Nat.le_refl _) (Or.inl ⟨rfl, rfl⟩) (Or.inl ⟨rfl, rfl, rfl⟩)
  refine ⟨q, l', r', fun post hp => ?_, fun post hp => ?_⟩
  · unfold wpX_chunkSize
    dsimp only
    exact hE _ (nm_r (sc_16d j) ⟨_, hX post hp⟩)
  · have a : ¬ nI j < 0 := nI_pos (by omega)
    have b : ¬ (3 : Int32) < nI j := nI_nlt (a := 3) (by omega) (by omega)
    have c : (16 : Int32) * nI j < nI n := by
      rw [sc_16a]
      exact nI_lt hj (by omega)
    exact br_f a (br_f b (br_t c (nm_r (sc_16c j) ⟨_, hY post hp⟩)))
theorem sx_chunks {post : Int32 → Prop} (hn : n ≤ 64) (hp : post (nI ((n + 15) / 16))) : wpX_chunks post (nI n, T, V) := by
  refine And.intro sc_n0 ?_
  rw [sc_ch hn]
  exact hp
theorem sc_packed (h : sc_ok n T V) : ∀ (d c : Nat) (s l r : Int32), c + d = (n + 15) / 16 → ∃ q l' r' : Int32, (∀ post : Int32 → Prop, post q → wX_packed_9 post (nI ((n + 15) / 16)) (nI n) T V (d + 1) s (nI c)) ∧ (∀ post : Int32 → SY → Prop, post q (nI n, l', r', T, V) → wY_packed_4 post (d + 1) s (nI c) (nI n) l r T V) := by
  have hn := h.1
  intro d
  induction d with
  | zero =>
    intro c s l r hc
    have x : nI ((n + 15) / 16) ≤ nI c := nI_le (by omega) (by omega)
    have y : nI n ≤ (16 : Int32) * nI c := by
      rw [sc_16a]
      exact nI_le (by omega) (by omega)
    exact ⟨s, l, r, fun _ hp => br_t x hp, fun _ hp => br_t y hp⟩
  | succ d ih =>
    intro c s l r hc
    have x : ¬ nI ((n + 15) / 16) ≤ nI c := nI_ge (by omega) (by omega)
    have y : ¬ nI n ≤ (16 : Int32) * nI c := by
      rw [sc_16a]
      exact nI_ge (by omega) (by omega)
    obtain ⟨t, l1, r1, cX, cY⟩ := sc_cs h l r (j := c) (by omega)
    obtain ⟨q, l', r', hX, hY⟩ := ih (c + 1) (s + t) l1 r1 (by omega)
    exact ⟨q, l', r', fun post hp => br_f x (cX _ (nm_e (nm_r (nI_1 c) (hX post hp)))), fun post hp => br_f y (cY _ (nm_e (nm_r (nI_1 c) (hY post hp))))⟩
end
theorem i_vc_size {k : Nat} {u : SX} {v : SY} (I : i_Rel k u v) (hk : k + 5 ≤ 2560) (v1 : Int32) : wpX_size (fun r => wpY_size (fun r' v' => r' = r ∧ i_Rel (k + 5) u v') v v1) u v1 := by
  obtain ⟨n, l, r, T, V, rfl, rfl, h⟩ := I
  have hn := h.1
  by_cases a : v1 < 0
  · exact br_t a (br_t a ⟨rfl, sc_rel h⟩)
  · obtain ⟨j, hj, rfl⟩ := nI_of a
    by_cases f : 16 * j < n
    · obtain ⟨q, l', r', hX, hY⟩ := sc_cs h l r f
      exact br_f a (sx_chunks hn (br_t (nI_lt (by omega) (by omega)) (hX _ (hY _ ⟨rfl, sc_rel h⟩))))
    · refine br_f a (sx_chunks hn (br_f (nI_nlt (by omega) hj) (br_f a ?_)))
      by_cases g : j ≤ 3
      · have b : ¬ (3 : Int32) < nI j := nI_nlt (a := 3) g (by omega)
        have c : ¬ (16 : Int32) * nI j < nI n := by
          rw [sc_16a]
          exact nI_nlt (by omega) (by omega)
        exact br_f b (br_f c ⟨rfl, sc_rel h⟩)
      · exact br_t (nI_lt (a := 3) (by omega) hj) ⟨rfl, sc_rel h⟩
theorem i_vc_packed {k : Nat} {u : SX} {v : SY} (I : i_Rel k u v) (hk : k + 5 ≤ 2560) : wpX_packed (fun r => wpY_packed (fun r' v' => r' = r ∧ i_Rel (k + 5) u v') v) u := by
  obtain ⟨n, l, r, T, V, rfl, rfl, h⟩ := I
  unfold wpX_packed wpY_packed
  dsimp only
  obtain ⟨q, l', r', hX, hY⟩ := sc_packed h ((n + 15) / 16) 0 0 l r (by omega)
  exact sx_chunks h.1 ⟨_, hX _ ⟨_, hY _ ⟨rfl, sc_rel h⟩⟩⟩
