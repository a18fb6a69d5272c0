/-! ===== count, sum, greatest, least, valueAt, rises, widestGap ===== -/
theorem sc_m4 {b : Nat} (h : b < 2 ^ 31) : ¬ nI b ≤ -4 := by
  rw [Int32.le_iff_toInt_le, nI_toInt h, show (-4 : Int32).toInt = -4 by decide]
  omega
theorem sc_e4 {b : Nat} (h : b < 2 ^ 31) : ¬ nI b = -4 := fun e => sc_m4 h (by rw [e]; exact Int32.le_refl _)
section
variable {n : Nat} {l r : Int32} {T V : Nat → Int32}
theorem sc_span (n : Nat) (l r : Int32) (T V : Nat → Int32) (f t : Int32) :
    ((∀ post : Int32 → Prop, post 0 → wpX_isSpan post (nI n, T, V) f t) ∧ (∀ post : Int32 → Prop, post 0 → wpY_isSpan post (nI n, l, r, T, V) f t)) ∨
    ((∀ post : Int32 → Prop, post 1 → wpX_isSpan post (nI n, T, V) f t) ∧ (∀ post : Int32 → Prop, post 1 → wpY_isSpan post (nI n, l, r, T, V) f t)) := by
  by_cases a : f < 0
  · exact Or.inl ⟨fun _ hp => br_t a hp, fun _ hp => br_t a hp⟩
  · by_cases b : t < f
    · exact Or.inl ⟨fun _ hp => br_f a (br_t b hp), fun _ hp => br_f a (br_t b hp)⟩
    · by_cases c : 60000 < t
      · exact Or.inl ⟨fun _ hp => br_f a (br_f b (br_t c hp)), fun _ hp => br_f a (br_f b (br_t c hp))⟩
      · exact Or.inr ⟨fun _ hp => br_f a (br_f b (br_f c hp)), fun _ hp => br_f a (br_f b (br_f c hp))⟩
theorem sc_in (n : Nat) (l r : Int32) (T V : Nat → Int32) (f t : Int32) {j : Nat} (hj : j < 64) :
    ((∀ post : Int32 → Prop, post 0 → wpX_isIn post (nI n, T, V) (nI j) f t) ∧ (∀ post : Int32 → Prop, post 0 → wpY_isIn post (nI n, l, r, T, V) (nI j) f t)) ∨
    ((∀ post : Int32 → Prop, post 1 → wpX_isIn post (nI n, T, V) (nI j) f t) ∧ (∀ post : Int32 → Prop, post 1 → wpY_isIn post (nI n, l, r, T, V) (nI j) f t)) := by
  have v : vp_in (nI j) 64 := vp_in_nI hj (by omega)
  by_cases a : T (nI j).toNatClampNeg < f
  · exact Or.inl ⟨fun _ hp => And.intro v (br_t a hp), fun _ hp => And.intro v (br_t a hp)⟩
  · by_cases b : t < T (nI j).toNatClampNeg
    · exact Or.inl ⟨fun _ hp => And.intro v (br_f a ⟨v, br_t b hp⟩), fun _ hp => And.intro v (br_f a ⟨v, br_t b hp⟩)⟩
    · exact Or.inr ⟨fun _ hp => And.intro v (br_f a ⟨v, br_f b hp⟩), fun _ hp => And.intro v (br_f a ⟨v, br_f b hp⟩)⟩
theorem sc_count (hn : n ≤ 64) (f t : Int32) : ∀ (d i : Nat) (s : Int32), i + d = n → ∃ q : Int32, (∀ post : Int32 → Prop, post q → wX_count_16 post f t (nI n) T V (d + 1) s (nI i)) ∧ (∀ post : Int32 → Prop, post q → wY_count_16 post f t (nI n) l r T V (d + 1) s (nI i)) := by
  intro d
  induction d with
  | zero =>
    intro i s hi
    have e : nI n ≤ nI i := nI_le (by omega) (by omega)
    exact ⟨s, fun _ hp => br_t e hp, fun _ hp => br_t e hp⟩
  | succ d ih =>
    intro i s hi
    have e : ¬ nI n ≤ nI i := nI_ge (by omega) (by omega)
    rcases sc_in n l r T V f t (j := i) (by omega) with ⟨hx, hy⟩ | ⟨hx, hy⟩
    · obtain ⟨q, hX, hY⟩ := ih (i + 1) s (by omega)
      exact ⟨q, fun post hp => br_f e (hx _ (br_t rfl (nm_r (nI_1 i) (hX post hp)))), fun post hp => br_f e (hy _ (br_t rfl (nm_r (nI_1 i) (hY post hp))))⟩
    · obtain ⟨q, hX, hY⟩ := ih (i + 1) (s + 1) (by omega)
      exact ⟨q, fun post hp => br_f e (hx _ (br_f sc_10 (nm_e (nm_r (nI_1 i) (hX post hp))))), fun post hp => br_f e (hy _ (br_f sc_10 (nm_e (nm_r (nI_1 i) (hY post hp)))))⟩
theorem sc_sum (hn : n ≤ 64) (f t : Int32) : ∀ (d i : Nat) (s : Int32), i + d = n → ∃ q : Int32, (∀ post : Int32 → Prop, post q → wX_sum_16 post f t (nI n) T V (d + 1) s (nI i)) ∧ (∀ post : Int32 → Prop, post q → wY_sum_16 post f t (nI n) l r T V (d + 1) s (nI i)) := by
  intro d
  induction d with
  | zero =>
    intro i s hi
    have e : nI n ≤ nI i := nI_le (by omega) (by omega)
    exact ⟨s, fun _ hp => br_t e hp, fun _ hp => br_t e hp⟩
  | succ d ih =>
    intro i s hi
    have e : ¬ nI n ≤ nI i := nI_ge (by omega) (by omega)
    have v : vp_in (nI i) 64 := vp_in_nI (by omega) (by omega)
    rcases sc_in n l r T V f t (j := i) (by omega) with ⟨hx, hy⟩ | ⟨hx, hy⟩
    · obtain ⟨q, hX, hY⟩ := ih (i + 1) s (by omega)
      exact ⟨q, fun post hp => br_f e (hx _ (br_t rfl (nm_r (nI_1 i) (hX post hp)))), fun post hp => br_f e (hy _ (br_t rfl (nm_r (nI_1 i) (hY post hp))))⟩
    · obtain ⟨q, hX, hY⟩ := ih (i + 1) (s + V (nI i).toNatClampNeg) (by omega)
      exact ⟨q, fun post hp => br_f e (hx _ (br_f sc_10 ⟨v, nm_e (nm_r (nI_1 i) (hX post hp))⟩)), fun post hp => br_f e (hy _ (br_f sc_10 ⟨v, nm_e (nm_r (nI_1 i) (hY post hp))⟩))⟩
theorem sc_great (h : sc_ok n T V) (f t : Int32) : ∀ (d i : Nat) (s : Int32), i + d = n → ∃ q : Int32, (∀ post : Int32 → Prop, post q → wX_greatest_17 post f t (nI n) T V (d + 1) s (nI i)) ∧ (∀ post : Int32 → Prop, post q → wY_greatest_17 post f t (nI n) l r T V (d + 1) s (nI i)) := by
  have hn := h.1
  intro d
  induction d with
  | zero =>
    intro i s hi
    have e : nI n ≤ nI i := nI_le (by omega) (by omega)
    exact ⟨s, fun _ hp => br_t e hp, fun _ hp => br_t e hp⟩
  | succ d ih =>
    intro i s hi
    have e : ¬ nI n ≤ nI i := nI_ge (by omega) (by omega)
    have v : vp_in (nI i) 64 := vp_in_nI (by omega) (by omega)
    rcases sc_in n l r T V f t (j := i) (by omega) with ⟨hx, hy⟩ | ⟨hx, hy⟩
    · obtain ⟨q, hX, hY⟩ := ih (i + 1) s (by omega)
      exact ⟨q, fun post hp => br_f e (hx _ (br_t rfl (nm_r (nI_1 i) (hX post hp)))), fun post hp => br_f e (hy _ (br_t rfl (nm_r (nI_1 i) (hY post hp))))⟩
    · by_cases c : V (nI i).toNatClampNeg ≤ s
      · have s4 : ¬ s = -4 := by
          obtain ⟨b, hb, eb⟩ := h.2.2.2 i (by omega)
          intro z
          rw [z, nI_clamp (by omega), eb] at c
          exact sc_m4 (by omega) c
        obtain ⟨q, hX, hY⟩ := ih (i + 1) s (by omega)
        exact ⟨q, fun post hp => br_f e (hx _ (br_f sc_10 (br_f s4 ⟨v, br_t c (nm_r (nI_1 i) (hX post hp))⟩))), fun post hp => br_f e (hy _ (br_f sc_10 ⟨v, br_t c (nm_r (nI_1 i) (hY post hp))⟩))⟩
      · obtain ⟨q, hX, hY⟩ := ih (i + 1) (V (nI i).toNatClampNeg) (by omega)
        refine ⟨q, fun post hp => br_f e (hx _ (br_f sc_10 ?_)), fun post hp => br_f e (hy _ (br_f sc_10 ⟨v, br_f c ⟨v, nm_e (nm_r (nI_1 i) (hY post hp))⟩⟩))⟩
        by_cases s4 : s = -4
        · exact br_t s4 ⟨v, nm_e (nm_r (nI_1 i) (hX post hp))⟩
        · exact br_f s4 ⟨v, br_f c ⟨v, nm_e (nm_r (nI_1 i) (hX post hp))⟩⟩
theorem sc_least (h : sc_ok n T V) (f t : Int32) : ∀ (d i : Nat) (s : Int32), i + d = n → (s = -4 ∨ ∃ b, b < 65536 ∧ s = nI b) → ∃ q : Int32, (∀ post : Int32 → Prop, post q → wX_least_17 post f t (nI n) T V (d + 1) s (nI i)) ∧ (∀ post : Int32 → Prop, post q → wY_least_17 post f t (nI n) l r T V (d + 1) s (nI i)) := by
  have hn := h.1
  intro d
  induction d with
  | zero =>
    intro i s hi _
    have e : nI n ≤ nI i := nI_le (by omega) (by omega)
    exact ⟨s, fun _ hp => br_t e hp, fun _ hp => br_t e hp⟩
  | succ d ih =>
    intro i s hi hs
    have e : ¬ nI n ≤ nI i := nI_ge (by omega) (by omega)
    have v : vp_in (nI i) 64 := vp_in_nI (by omega) (by omega)
    have hv : ∃ b, b < 65536 ∧ V (nI i).toNatClampNeg = nI b := by
      rw [nI_clamp (by omega)]
      exact h.2.2.2 i (by omega)
    rcases sc_in n l r T V f t (j := i) (by omega) with ⟨hx, hy⟩ | ⟨hx, hy⟩
    · obtain ⟨q, hX, hY⟩ := ih (i + 1) s (by omega) hs
      exact ⟨q, fun post hp => br_f e (hx _ (br_t rfl (nm_r (nI_1 i) (hX post hp)))), fun post hp => br_f e (hy _ (br_t rfl (nm_r (nI_1 i) (hY post hp))))⟩
    · by_cases s4 : s = -4
      · have s0 : s < 0 := by rw [s4]; decide
        obtain ⟨q, hX, hY⟩ := ih (i + 1) (V (nI i).toNatClampNeg) (by omega) (Or.inr hv)
        exact ⟨q, fun post hp => br_f e (hx _ (br_f sc_10 (br_t s4 ⟨v, nm_e (nm_r (nI_1 i) (hX post hp))⟩))), fun post hp => br_f e (hy _ (br_f sc_10 (br_t s0 (And.intro v (nm_e (nm_r (nI_1 i) (hY post hp)))))))⟩
      · have s0 : ¬ s < 0 := by
          rcases hs with z | ⟨b, hb, rfl⟩
          · exact (s4 z).elim
          · exact nI_pos (by omega)
        by_cases c : s ≤ V (nI i).toNatClampNeg
        · obtain ⟨q, hX, hY⟩ := ih (i + 1) s (by omega) hs
          exact ⟨q, fun post hp => br_f e (hx _ (br_f sc_10 (br_f s4 ⟨v, br_t c (nm_r (nI_1 i) (hX post hp))⟩))), fun post hp => br_f e (hy _ (br_f sc_10 (br_f s0 ⟨v, br_t c (nm_r (nI_1 i) (hY post hp))⟩)))⟩
        · obtain ⟨q, hX, hY⟩ := ih (i + 1) (V (nI i).toNatClampNeg) (by omega) (Or.inr hv)
          exact ⟨q, fun post hp => br_f e (hx _ (br_f sc_10 (br_f s4 ⟨v, br_f c ⟨v, nm_e (nm_r (nI_1 i) (hX post hp))⟩⟩))), fun post hp => br_f e (hy _ (br_f sc_10 (br_f s0 ⟨v, br_f c (And.intro v (nm_e (nm_r (nI_1 i) (hY post hp))))⟩)))⟩
theorem sx_va (F t : Int32) : ∀ m : Nat, m ≤ 64 → ∀ post : Int32 → Prop, post (sc_va T V t m) → wX_valueAt_7 post t F T V (m + 1) (nI m - 1) := by
  intro m
  induction m with
  | zero =>
    intro _ post hp
    have e : nI 0 - 1 < 0 := by decide
    exact br_t e hp
  | succ m ih =>
    intro hm post hp
    rw [nI_pred]
    have v : vp_in (nI m) 64 := vp_in_nI (by omega) (by omega)
    have c : (nI m).toNatClampNeg = m := nI_clamp (by omega)
    by_cases z : t < T m
    · have z2 : t < T (nI m).toNatClampNeg := by rw [c]; exact z
      rw [sc_va_f (Int32.not_le.mpr z)] at hp
      exact br_f (nI_pos (by omega)) ⟨v, br_t z2 (nm_r (Int32.sub_eq_add_neg (nI m) 1).symm (ih (by omega) post hp))⟩
    · have z2 : ¬ t < T (nI m).toNatClampNeg := by rw [c]; exact z
      rw [sc_va_t (Int32.not_lt.mp z)] at hp
      refine br_f (nI_pos (by omega)) ⟨v, br_f z2 ⟨v, ?_⟩⟩
      rw [c]
      exact hp
theorem sy_va (t : Int32) (hn : n ≤ 64) : ∀ d i : Nat, i + d = n → ∀ post : Int32 → Prop, post (sc_va T V t n) → wY_valueAt_5 post t (nI n) l r T V (d + 1) (sc_va T V t i) (nI i) := by
  intro d
  induction d with
  | zero =>
    intro i hi post hp
    have e : i = n := by omega
    subst e
    exact br_t (nI_le (Nat.le_refl _) (by omega)) hp
  | succ d ih =>
    intro i hi post hp
    have e : ¬ nI n ≤ nI i := nI_ge (by omega) (by omega)
    have v : vp_in (nI i) 64 := vp_in_nI (by omega) (by omega)
    have c : (nI i).toNatClampNeg = i := nI_clamp (by omega)
    have h := ih (i + 1) (by omega) post hp
    by_cases z : t < T i
    · have z2 : t < T (nI i).toNatClampNeg := by rw [c]; exact z
      rw [sc_va_f (Int32.not_le.mpr z)] at h
      exact br_f e ⟨v, br_t z2 (nm_r (nI_1 i) h)⟩
    · have z2 : ¬ t < T (nI i).toNatClampNeg := by rw [c]; exact z
      rw [sc_va_t (Int32.not_lt.mp z)] at h
      exact br_f e ⟨v, br_f z2 ⟨v, nm_r (congrArg V c) (nm_r (nI_1 i) h)⟩⟩
theorem sc_rises (hn : n ≤ 64) : ∀ (d m : Nat) (s : Int32), n ≤ m + 1 + d → m ≤ n → ∃ q : Int32, (∀ post : Int32 → Prop, post q → wX_rises_4 post (nI n) T V (d + 1) s (nI (m + 1))) ∧ (∀ post : Int32 → Prop, post q → wY_rises_4 post (nI n) l r T V (d + 1) s (nI (m + 1))) := by
  intro d
  induction d with
  | zero =>
    intro m s hi hm
    have e : nI n ≤ nI (m + 1) := nI_le (by omega) (by omega)
    exact ⟨s, fun _ hp => br_t e hp, fun _ hp => br_t e hp⟩
  | succ d ih =>
    intro m s hi hm
    by_cases e1 : n ≤ m + 1
    · have e : nI n ≤ nI (m + 1) := nI_le e1 (by omega)
      exact ⟨s, fun _ hp => br_t e hp, fun _ hp => br_t e hp⟩
    · have e : ¬ nI n ≤ nI (m + 1) := nI_ge (by omega) (by omega)
      have v : vp_in (nI (m + 1)) 64 := vp_in_nI (by omega) (by omega)
      have w : vp_in (nI (m + 1) - 1) 64 := by
        rw [nI_pred]
        exact vp_in_nI (by omega) (by omega)
      by_cases z : V (nI (m + 1)).toNatClampNeg ≤ V (nI (m + 1) - 1).toNatClampNeg
      · obtain ⟨q, hX, hY⟩ := ih (m + 1) s (by omega) (by omega)
        exact ⟨q, fun post hp => br_f e ⟨v, w, br_t z (nm_r (nI_1 (m + 1)) (hX post hp))⟩, fun post hp => br_f e ⟨v, w, br_t z (nm_r (nI_1 (m + 1)) (hY post hp))⟩⟩
      · obtain ⟨q, hX, hY⟩ := ih (m + 1) (s + 1) (by omega) (by omega)
        exact ⟨q, fun post hp => br_f e ⟨v, w, br_f z (nm_e (nm_r (nI_1 (m + 1)) (hX post hp)))⟩, fun post hp => br_f e ⟨v, w, br_f z (nm_e (nm_r (nI_1 (m + 1)) (hY post hp)))⟩⟩
theorem sc_wide (hn : n ≤ 64) : ∀ (d m : Nat) (s : Int32), n ≤ m + 1 + d → m ≤ n → ∃ q : Int32, (∀ post : Int32 → Prop, post q → wX_widestGap_15 post (nI n) T V (d + 1) s (nI (m + 1))) ∧ (∀ post : Int32 → Prop, post q → wY_widestGap_5 post (nI n) l r T V (d + 1) s (nI (m + 1))) := by
  intro d
  induction d with
  | zero =>
    intro m s hi hm
    have e : nI n ≤ nI (m + 1) := nI_le (by omega) (by omega)
    exact ⟨s, fun _ hp => br_t e hp, fun _ hp => br_t e hp⟩
  | succ d ih =>
    intro m s hi hm
    by_cases e1 : n ≤ m + 1
    · have e : nI n ≤ nI (m + 1) := nI_le e1 (by omega)
      exact ⟨s, fun _ hp => br_t e hp, fun _ hp => br_t e hp⟩
    · have e : ¬ nI n ≤ nI (m + 1) := nI_ge (by omega) (by omega)
      have v : vp_in (nI (m + 1)) 64 := vp_in_nI (by omega) (by omega)
      have w : vp_in (nI (m + 1) - 1) 64 := by
        rw [nI_pred]
        exact vp_in_nI (by omega) (by omega)
      by_cases z : T (nI (m + 1)).toNatClampNeg - T (nI (m + 1) - 1).toNatClampNeg ≤ s
      · obtain ⟨q, hX, hY⟩ := ih (m + 1) s (by omega) (by omega)
        exact ⟨q, fun post hp => br_f e ⟨v, w, nm_e (br_t z (nm_r (nI_1 (m + 1)) (hX post hp)))⟩, fun post hp => br_f e ⟨v, w, br_t z (nm_r (nI_1 (m + 1)) (hY post hp))⟩⟩
      · obtain ⟨q, hX, hY⟩ := ih (m + 1) (T (nI (m + 1)).toNatClampNeg - T (nI (m + 1) - 1).toNatClampNeg) (by omega) (by omega)
        exact ⟨q, fun post hp => br_f e ⟨v, w, nm_e (br_f z (nm_r (nI_1 (m + 1)) (hX post hp)))⟩, fun post hp => br_f e ⟨v, w, br_f z ⟨v, w, nm_e (nm_r (nI_1 (m + 1)) (hY post hp))⟩⟩⟩
theorem sc_wide1 (h : sc_ok n T V) (h2 : 2 ≤ n) : ∃ (q : Int32) (N : Nat), (∀ post : Int32 → Prop, post q → wX_widestGap_15 post (nI n) T V (N + 1) 0 (nI (0 + 1))) ∧ (∀ post : Int32 → Prop, post q → wY_widestGap_5 post (nI n) l r T V (N + 1) (-4) (nI (0 + 1))) := by
  have hn := h.1
  have e : ¬ nI n ≤ nI (0 + 1) := nI_ge (by omega) (by omega)
  have v : vp_in (nI (0 + 1)) 64 := vp_in_nI (by omega) (by omega)
  have w : vp_in (nI (0 + 1) - 1) 64 := by
    rw [nI_pred]
    exact vp_in_nI (by omega) (by omega)
  obtain ⟨a, ha, ea⟩ := h.2.1 0 (by omega)
  obtain ⟨b, hb, eb⟩ := h.2.1 1 (by omega)
  have hab : a ≤ b := by
    have := h.2.2.1 0 (by omega)
    rw [ea, eb, nI_leI (by omega) (by omega)] at this
    exact this
  have g : T (nI (0 + 1)).toNatClampNeg - T (nI (0 + 1) - 1).toNatClampNeg = nI (b - a) := by
    rw [nI_pred, nI_clamp (by omega), nI_clamp (by omega), ea, eb, pk_sub hab]
  have z4 : ¬ T (nI (0 + 1)).toNatClampNeg - T (nI (0 + 1) - 1).toNatClampNeg ≤ -4 := by
    rw [g]
    exact sc_m4 (by omega)
  obtain ⟨q, hX, hY⟩ := sc_wide (n := n) (l := l) (r := r) (T := T) (V := V) hn n 1 (T (nI (0 + 1)).toNatClampNeg - T (nI (0 + 1) - 1).toNatClampNeg) (by omega) (by omega)
  refine ⟨q, n + 1, fun post hp => br_f e ⟨v, w, nm_e ?_⟩, fun post hp => br_f e ⟨v, w, br_f z4 ⟨v, w, nm_e (nm_r (nI_1 (0 + 1)) (hY post hp))⟩⟩⟩
  by_cases z : T (nI (0 + 1)).toNatClampNeg - T (nI (0 + 1) - 1).toNatClampNeg ≤ 0
  · have z0 : T (nI (0 + 1)).toNatClampNeg - T (nI (0 + 1) - 1).toNatClampNeg = 0 := by
      rw [g] at z ⊢
      rw [← nI_0, nI_leI (by omega) (by omega)] at z
      rw [show b - a = 0 by omega, nI_0]
    have hx := hX post hp
    rw [z0] at hx
    exact br_t z (nm_r (nI_1 (0 + 1)) hx)
  · exact br_f z (nm_r (nI_1 (0 + 1)) (hX post hp))
end
theorem i_vc_count {k : Nat} {u : SX} {v : SY} (I : i_Rel k u v) (hk : k + 5 ≤ 2560) (v1 : Int32) (v2 : Int32) : wpX_count (fun r => wpY_count (fun r' => r' = r ∧ i_Rel (k + 5) u v) v v1 v2) u v1 v2 := by
  obtain ⟨n, l, r, T, V, rfl, rfl, h⟩ := I
  unfold wpX_count wpY_count
  dsimp only
  rcases sc_span n l r T V v1 v2 with ⟨hx, hy⟩ | ⟨hx, hy⟩
  · exact hx _ (br_t rfl (hy _ (br_t rfl ⟨rfl, sc_rel h⟩)))
  · obtain ⟨q, hX, hY⟩ := sc_count (l := l) (r := r) (T := T) (V := V) h.1 v1 v2 n 0 0 (by omega)
    exact hx _ (br_f sc_10 ⟨n + 1, hX _ (hy _ (br_f sc_10 ⟨n + 1, hY _ ⟨rfl, sc_rel h⟩⟩))⟩)
theorem i_vc_sum {k : Nat} {u : SX} {v : SY} (I : i_Rel k u v) (hk : k + 5 ≤ 2560) (v1 : Int32) (v2 : Int32) : wpX_sum (fun r => wpY_sum (fun r' => r' = r ∧ i_Rel (k + 5) u v) v v1 v2) u v1 v2 := by
  obtain ⟨n, l, r, T, V, rfl, rfl, h⟩ := I
  unfold wpX_sum wpY_sum
  dsimp only
  rcases sc_span n l r T V v1 v2 with ⟨hx, hy⟩ | ⟨hx, hy⟩
  · exact hx _ (br_t rfl (hy _ (br_t rfl ⟨rfl, sc_rel h⟩)))
  · obtain ⟨q, hX, hY⟩ := sc_sum (l := l) (r := r) (T := T) (V := V) h.1 v1 v2 n 0 0 (by omega)
    exact hx _ (br_f sc_10 ⟨n + 1, hX _ (hy _ (br_f sc_10 ⟨n + 1, hY _ ⟨rfl, sc_rel h⟩⟩))⟩)
theorem i_vc_greatest {k : Nat} {u : SX} {v : SY} (I : i_Rel k u v) (hk : k + 5 ≤ 2560) (v1 : Int32) (v2 : Int32) : wpX_greatest (fun r => wpY_greatest (fun r' => r' = r ∧ i_Rel (k + 5) u v) v v1 v2) u v1 v2 := by
  obtain ⟨n, l, r, T, V, rfl, rfl, h⟩ := I
  unfold wpX_greatest wpY_greatest
  dsimp only
  rcases sc_span n l r T V v1 v2 with ⟨hx, hy⟩ | ⟨hx, hy⟩
  · exact hx _ (br_t rfl (hy _ (br_t rfl ⟨rfl, sc_rel h⟩)))
  · obtain ⟨q, hX, hY⟩ := sc_great (l := l) (r := r) (T := T) (V := V) h v1 v2 n 0 (-4) (by omega)
    exact hx _ (br_f sc_10 ⟨n + 1, hX _ (hy _ (br_f sc_10 ⟨n + 1, hY _ ⟨rfl, sc_rel h⟩⟩))⟩)
theorem i_vc_least {k : Nat} {u : SX} {v : SY} (I : i_Rel k u v) (hk : k + 5 ≤ 2560) (v1 : Int32) (v2 : Int32) : wpX_least (fun r => wpY_least (fun r' => r' = r ∧ i_Rel (k + 5) u v) v v1 v2) u v1 v2 := by
  obtain ⟨n, l, r, T, V, rfl, rfl, h⟩ := I
  unfold wpX_least wpY_least
  dsimp only
  rcases sc_span n l r T V v1 v2 with ⟨hx, hy⟩ | ⟨hx, hy⟩
  · exact hx _ (br_t rfl (hy _ (br_t rfl ⟨rfl, sc_rel h⟩)))
  · obtain ⟨q, hX, hY⟩ := sc_least (l := l) (r := r) (T := T) (V := V) h v1 v2 n 0 (-4) (by omega) (Or.inl rfl)
    exact hx _ (br_f sc_10 ⟨n + 1, hX _ (hy _ (br_f sc_10 ⟨n + 1, hY _ ⟨rfl, sc_rel h⟩⟩))⟩)
theorem i_vc_valueAt {k : Nat} {u : SX} {v : SY} (I : i_Rel k u v) (hk : k + 5 ≤ 2560) (v1 : Int32) : wpX_valueAt (fun r => wpY_valueAt (fun r' => r' = r ∧ i_Rel (k + 5) u v) v v1) u v1 := by
  obtain ⟨n, l, r, T, V, rfl, rfl, h⟩ := I
  unfold wpX_valueAt wpY_valueAt
  dsimp only
  exact nm_e ⟨n + 1, sx_va (nI n) v1 n h.1 _ ⟨n + 1, sy_va v1 h.1 n 0 (by omega) _ ⟨rfl, sc_rel h⟩⟩⟩
theorem i_vc_rises {k : Nat} {u : SX} {v : SY} (I : i_Rel k u v) (hk : k + 5 ≤ 2560) : wpX_rises (fun r => wpY_rises (fun r' => r' = r ∧ i_Rel (k + 5) u v) v) u := by
  obtain ⟨n, l, r, T, V, rfl, rfl, h⟩ := I
  unfold wpX_rises wpY_rises
  dsimp only
  obtain ⟨q, hX, hY⟩ := sc_rises (l := l) (r := r) (T := T) (V := V) h.1 n 0 0 (by omega) (by omega)
  exact ⟨n + 1, hX _ ⟨n + 1, hY _ ⟨rfl, sc_rel h⟩⟩⟩
theorem i_vc_widestGap {k : Nat} {u : SX} {v : SY} (I : i_Rel k u v) (hk : k + 5 ≤ 2560) : wpX_widestGap (fun r => wpY_widestGap (fun r' => r' = r ∧ i_Rel (k + 5) u v) v) u := by
  obtain ⟨n, l, r, T, V, rfl, rfl, h⟩ := I
  unfold wpX_widestGap wpY_widestGap
  dsimp only
  have hn := h.1
  by_cases h2 : 2 ≤ n
  · obtain ⟨q, N, hX, hY⟩ := sc_wide1 (l := l) (r := r) h h2
    exact br_t (nI_le (a := 2) h2 (by omega)) ⟨N + 1, hX _ ⟨N + 1, hY _ ⟨rfl, sc_rel h⟩⟩⟩
  · have e : nI n ≤ nI 1 := nI_le (by omega) (by omega)
    exact br_f (nI_ge (b := 2) (show n < 2 by omega) (by omega)) ⟨1, br_t e ⟨rfl, sc_rel h⟩⟩
