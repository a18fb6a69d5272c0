/-! ===== append, steady, dropOldest ===== -/
theorem sc_m16 (m : Nat) : nI (m + 16) - 16 = nI m := by
  have h := pk_sub (a := m + 16) (b := 16) (by omega)
  rw [Nat.add_sub_cancel] at h
  exact h
theorem sc_p16 (p : Nat) : nI p + 16 = nI (p + 16) := nI_add p 16
section
variable {n : Nat} {l r : Int32} {T V : Nat → Int32}
theorem sx_put {post : SX → Prop} {a g : Nat} {x : Int32} (hl : sc_la n T a) (hn : n < 64) (hp : post (nI (n + 1), upd T n (nI (a + g)), upd V n x)) : wpX_put post (nI n, T, V) (nI g) x := by
  unfold wpX_put
  dsimp only
  have v : vp_in (nI n) 64 := vp_in_nI hn (by omega)
  have c : (nI n).toNatClampNeg = n := nI_clamp (by omega)
  refine sx_L hl (by omega) (And.intro v ?_)
  rw [c, nI_add]
  exact nm_e ⟨v, nm_e (nm_r (nI_1 n) hp)⟩
theorem sy_append {post : Int32 → SY → Prop} {a g b : Nat} (hl : sc_la n T a) (hn : n < 64) (hg : a + g ≤ 60000) (hb : b ≤ 65535) (hp : post (nI n) (nI (n + 1), l, r, upd T n (nI (a + g)), upd V n (nI b))) : wpY_append post (nI n, l, r, T, V) (nI g) (nI b) := by
  have v : vp_in (nI n) 64 := vp_in_nI hn (by omega)
  have c : (nI n).toNatClampNeg = n := nI_clamp (by omega)
  have g0 : ¬ nI g < 0 := nI_pos (by omega)
  have g1 : ¬ (60000 : Int32) < nI g := nI_nlt (a := 60000) (by omega) (by omega)
  have s2 : ¬ 60000 < nI a + nI g := by
    rw [nI_add]
    exact nI_nlt (a := 60000) hg (by omega)
  have f2 : ¬ nI n = 64 := by
    intro z
    have := (nI_eq (a := n) (b := 64) (by omega) (by omega)).mp z
    omega
  refine br_f g0 (br_f g1 (sy_L hl (by omega) (br_f s2 (sy_V_t hb (br_f sc_10 (br_f f2 (sy_L hl (by omega) (And.intro v ?_))))))))
  rw [c, nI_add]
  refine nm_e ⟨v, nm_e (nm_r (nI_1 n) ?_)⟩
  show post (nI (n + 1) - 1) _
  rw [nI_pred]
  exact hp
theorem sx_drop {post : Int32 → SX → Prop} {m : Nat} (hm : m + 16 ≤ 64) (hp : post (nI m) (nI m, sc_sh T m, sc_sh V m)) : ∀ d p : Nat, p + d = m → wX_dropOldest_15 post (nI (m + 16)) (d + 1) (nI (p + 16)) (sc_sh T p) (sc_sh V p) := by
  intro d
  induction d with
  | zero =>
    intro p hd
    have e : p = m := by omega
    subst e
    exact br_t (nI_le (Nat.le_refl _) (by omega)) (nm_r (sc_m16 p) hp)
  | succ d ih =>
    intro p hd
    have e : ¬ nI (m + 16) ≤ nI (p + 16) := nI_ge (by omega) (by omega)
    have v : vp_in (nI (p + 16)) 64 := vp_in_nI (by omega) (by omega)
    have w : vp_in (nI (p + 16) - 16) 64 := by
      rw [sc_m16]
      exact vp_in_nI (by omega) (by omega)
    have u : ∀ A : Nat → Int32, upd (sc_sh A p) (nI (p + 16) - 16).toNatClampNeg (sc_sh A p (nI (p + 16)).toNatClampNeg) = sc_sh A (p + 1) := by
      intro A
      rw [sc_m16, nI_clamp (show p < 2 ^ 31 by omega), nI_clamp (show p + 16 < 2 ^ 31 by omega), sc_shr, sc_sh1]
    have i1 : nI (p + 16) + 1 = nI (p + 1 + 16) := (nI_1 (p + 16)).trans (congrArg nI (by omega))
    exact br_f e ⟨v, w, nm_r (u T) ⟨v, w, nm_r (u V) (nm_r i1 (ih (p + 1) (by omega)))⟩⟩
theorem sy_drop {post : Int32 → SY → Prop} {m : Nat} (hm : m + 16 ≤ 64) (hp : post (nI m) (nI m, l, r, sc_sh T m, sc_sh V m)) : ∀ d p : Nat, p + d = m → wY_dropOldest_25 post (nI m) l r (d + 1) (nI p) (sc_sh T p) (sc_sh V p) := by
  intro d
  induction d with
  | zero =>
    intro p hd
    have e : p = m := by omega
    subst e
    exact br_t (nI_le (Nat.le_refl _) (by omega)) hp
  | succ d ih =>
    intro p hd
    have e : ¬ nI m ≤ nI p := nI_ge (by omega) (by omega)
    have v : vp_in (nI p + 16) 64 := by
      rw [sc_p16]
      exact vp_in_nI (by omega) (by omega)
    have w : vp_in (nI p) 64 := vp_in_nI (by omega) (by omega)
    have u : ∀ A : Nat → Int32, upd (sc_sh A p) (nI p).toNatClampNeg (sc_sh A p (nI p + 16).toNatClampNeg) = sc_sh A (p + 1) := by
      intro A
      rw [sc_p16, nI_clamp (show p < 2 ^ 31 by omega), nI_clamp (show p + 16 < 2 ^ 31 by omega), sc_shr, sc_sh1]
    exact br_f e ⟨v, w, nm_r (u T) ⟨v, w, nm_r (u V) (nm_r (nI_1 p) (ih (p + 1) (by omega)))⟩⟩
end
theorem sc_steady (l r p : Int32) (m g : Nat) (hm : m ≤ 64) : ∀ (d i n a b : Nat) (T V : Nat → Int32), i + d = m → sc_ok n T V → n + d ≤ 64 → sc_la n T a → a + d * g ≤ 60000 → b ≤ 65535 → ∃ T' V' : Nat → Int32, sc_ok (n + d) T' V' ∧ (∀ post : Int32 → SX → Prop, post (nI (n + d)) (nI (n + d), T', V') → wX_steady_79 post (nI m) (nI g) p (d + 1) (nI b) (nI i) (nI n) T V) ∧ (∀ post : Int32 → SY → Prop, post (nI (n + d)) (nI (n + d), l, r, T', V') → wY_steady_79 post (nI m) (nI g) p (d + 1) (nI b) (nI i) (nI n) l r T V) := by
  intro d
  induction d with
  | zero =>
    intro i n a b T V hi h _ _ _ _
    have e : nI m ≤ nI i := nI_le (by omega) (by omega)
    exact ⟨T, V, h, fun _ hp => br_t e hp, fun _ hp => br_t e hp⟩
  | succ d ih =>
    intro i n a b T V hi h hn hl hg hb
    have e : ¬ nI m ≤ nI i := nI_ge (by omega) (by omega)
    rw [Nat.succ_mul] at hg
    obtain ⟨c, hc, ec⟩ := nx_mask (nI b + p)
    have hs := sc_put h (show n < 64 by omega) hl (show a + g ≤ 60000 by omega) (show b < 65536 by omega)
    obtain ⟨T', V', ok', hX, hY⟩ := ih (i + 1) (n + 1) (a + g) c _ _ (by omega) hs.1 (by omega) hs.2 (by omega) (by omega)
    rw [show n + 1 + d = n + (d + 1) by omega] at ok' hX hY
    exact ⟨T', V', ok', fun post hp => br_f e (sx_put hl (by omega) (nm_r ec (nm_r (nI_1 i) (hX post hp)))), fun post hp => br_f e (sy_append hl (by omega) (by omega) hb (nm_r ec (nm_r (nI_1 i) (hY post hp))))⟩
theorem i_vc_append {k : Nat} {u : SX} {v : SY} (I : i_Rel k u v) (hk : k + 5 ≤ 2560) (v1 : Int32) (v2 : Int32) : wpX_append (fun r u' => wpY_append (fun r' v' => r' = r ∧ i_Rel (k + 5) u' v') v v1 v2) u v1 v2 := by
  obtain ⟨n, l, r, T, V, rfl, rfl, h⟩ := I
  have hn := h.1
  obtain ⟨a, ha, hl⟩ := sc_last h
  unfold wpX_append
  dsimp only
  rcases sc_rng v1 60000 (by omega) with g | g | ⟨g, hg, rfl⟩
  · exact sx_T_f (Or.inl g) (br_t rfl (br_t g ⟨rfl, sc_rel h⟩))
  · exact sx_T_f (Or.inr g) (br_t rfl (br_f g.1 (br_t g.2 ⟨rfl, sc_rel h⟩)))
  · have g0 : ¬ nI g < 0 := nI_pos (by omega)
    have g1 : ¬ (60000 : Int32) < nI g := nI_nlt (a := 60000) hg (by omega)
    by_cases s : a + g ≤ 60000
    · have s1 : nI a + nI g ≤ 60000 := by
        rw [nI_add]
        exact nI_le (b := 60000) s (by omega)
      have s2 : ¬ 60000 < nI a + nI g := by
        rw [nI_add]
        exact nI_nlt (a := 60000) s (by omega)
      rcases sc_rng v2 65535 (by omega) with b | b | ⟨b, hb, rfl⟩
      · exact sx_T_t hg (br_f sc_10 (sx_L hl hn (br_t s1 (sx_V_f (Or.inl b) (br_t rfl (br_f g0 (br_f g1 (sy_L hl hn (br_f s2 (sy_V_f (Or.inl b) (br_t rfl ⟨rfl, sc_rel h⟩)))))))))))
      · exact sx_T_t hg (br_f sc_10 (sx_L hl hn (br_t s1 (sx_V_f (Or.inr b) (br_t rfl (br_f g0 (br_f g1 (sy_L hl hn (br_f s2 (sy_V_f (Or.inr b) (br_t rfl ⟨rfl, sc_rel h⟩)))))))))))
      · by_cases f : n < 64
        · have f1 : nI n < 64 := nI_lt (b := 64) f (by omega)
          exact sx_T_t hg (br_f sc_10 (sx_L hl hn (br_t s1 (sx_V_t hb (br_f sc_10 (br_t f1 (sx_put hl f (sy_append hl f s hb ⟨(nI_pred n).symm, sc_rel (sc_put h f hl s (by omega)).1⟩))))))))
        · have e : n = 64 := by omega
          have f1 : ¬ nI n < 64 := nI_nlt (b := 64) (by omega) (by omega)
          have f2 : nI n = 64 := congrArg nI e
          exact sx_T_t hg (br_f sc_10 (sx_L hl hn (br_t s1 (sx_V_t hb (br_f sc_10 (br_f f1 (br_f g0 (br_f g1 (sy_L hl hn (br_f s2 (sy_V_t hb (br_f sc_10 (br_t f2 ⟨rfl, sc_rel h⟩)))))))))))))
    · have s1 : ¬ nI a + nI g ≤ 60000 := by
        rw [nI_add]
        exact nI_ge (a := 60000) (by omega) (by omega)
      have s2 : 60000 < nI a + nI g := by
        rw [nI_add]
        exact nI_lt (a := 60000) (by omega) (by omega)
      exact sx_T_t hg (br_f sc_10 (sx_L hl hn (br_f s1 (br_f g0 (br_f g1 (sy_L hl hn (br_t s2 ⟨rfl, sc_rel h⟩)))))))
theorem i_vc_steady {k : Nat} {u : SX} {v : SY} (I : i_Rel k u v) (hk : k + 5 ≤ 2560) (v1 : Int32) (v2 : Int32) (v3 : Int32) (v4 : Int32) : wpX_steady (fun r u' => wpY_steady (fun r' v' => r' = r ∧ i_Rel (k + 5) u' v') v v1 v2 v3 v4) u v1 v2 v3 v4 := by
  obtain ⟨n, l, r, T, V, rfl, rfl, h⟩ := I
  have hn := h.1
  obtain ⟨a, ha, hl⟩ := sc_last h
  rcases sc_rng v1 64 (by omega) with m | m | ⟨m, hm, rfl⟩
  · exact br_t m (br_t m ⟨rfl, sc_rel h⟩)
  · exact br_f m.1 (br_t m.2 (br_f m.1 (br_t m.2 ⟨rfl, sc_rel h⟩)))
  · have m0 : ¬ nI m < 0 := nI_pos (by omega)
    have m1 : ¬ (64 : Int32) < nI m := nI_nlt (a := 64) hm (by omega)
    rcases sc_rng v2 60000 (by omega) with g | g | ⟨g, hg, rfl⟩
    · exact br_f m0 (br_f m1 (sx_T_f (Or.inl g) (br_t rfl (br_f m0 (br_f m1 (br_t g ⟨rfl, sc_rel h⟩))))))
    · exact br_f m0 (br_f m1 (sx_T_f (Or.inr g) (br_t rfl (br_f m0 (br_f m1 (br_f g.1 (br_t g.2 ⟨rfl, sc_rel h⟩)))))))
    · have g0 : ¬ nI g < 0 := nI_pos (by omega)
      have g1 : ¬ (60000 : Int32) < nI g := nI_nlt (a := 60000) hg (by omega)
      have hmg : m * g ≤ 64 * 60000 := Nat.mul_le_mul hm hg
      have em : nI a + nI m * nI g = nI (a + m * g) := by rw [pk_mul, nI_add]
      by_cases s : a + m * g ≤ 60000
      · have s1 : nI a + nI m * nI g ≤ 60000 := by
          rw [em]
          exact nI_le (b := 60000) s (by omega)
        rcases sc_rng v3 65535 (by omega) with b | b | ⟨b, hb, rfl⟩
        · exact br_f m0 (br_f m1 (sx_T_t hg (br_f sc_10 (sx_L hl hn (br_t s1 (sx_V_f (Or.inl b) (br_t rfl (br_f m0 (br_f m1 (br_f g0 (br_f g1 (sy_L hl hn (br_t s1 (sy_V_f (Or.inl b) (br_t rfl ⟨rfl, sc_rel h⟩)))))))))))))))
        · exact br_f m0 (br_f m1 (sx_T_t hg (br_f sc_10 (sx_L hl hn (br_t s1 (sx_V_f (Or.inr b) (br_t rfl (br_f m0 (br_f m1 (br_f g0 (br_f g1 (sy_L hl hn (br_t s1 (sy_V_f (Or.inr b) (br_t rfl ⟨rfl, sc_rel h⟩)))))))))))))))
        · by_cases p0 : v4 < -65535
          · exact br_f m0 (br_f m1 (sx_T_t hg (br_f sc_10 (sx_L hl hn (br_t s1 (sx_V_t hb (br_f sc_10 (br_t p0 (br_f m0 (br_f m1 (br_f g0 (br_f g1 (sy_L hl hn (br_t s1 (sy_V_t hb (br_f sc_10 (br_t p0 ⟨rfl, sc_rel h⟩)))))))))))))))))
          · by_cases p1 : v4 ≤ 65535
            · have ef : nI n + nI m = nI (n + m) := nI_add n m
              by_cases f : n + m ≤ 64
              · have f1 : nI n + nI m ≤ 64 := by
                  rw [ef]
                  exact nI_le (b := 64) f (by omega)
                obtain ⟨T', V', ok', hX, hY⟩ := sc_steady l r v4 m g hm m 0 n a b T V (by omega) h f hl s hb
                exact br_f m0 (br_f m1 (sx_T_t hg (br_f sc_10 (sx_L hl hn (br_t s1 (sx_V_t hb (br_f sc_10 (br_f p0 (br_t p1 (br_t f1 ⟨m + 1, hX _ (br_f m0 (br_f m1 (br_f g0 (br_f g1 (sy_L hl hn (br_t s1 (sy_V_t hb (br_f sc_10 (br_f p0 (br_t p1 (br_t f1 ⟨m + 1, hY _ ⟨rfl, sc_rel ok'⟩⟩)))))))))))⟩))))))))))
              · have f1 : ¬ nI n + nI m ≤ 64 := by
                  rw [ef]
                  exact nI_ge (a := 64) (by omega) (by omega)
                exact br_f m0 (br_f m1 (sx_T_t hg (br_f sc_10 (sx_L hl hn (br_t s1 (sx_V_t hb (br_f sc_10 (br_f p0 (br_t p1 (br_f f1 (br_f m0 (br_f m1 (br_f g0 (br_f g1 (sy_L hl hn (br_t s1 (sy_V_t hb (br_f sc_10 (br_f p0 (br_t p1 (br_f f1 ⟨rfl, sc_rel h⟩)))))))))))))))))))))
            · exact br_f m0 (br_f m1 (sx_T_t hg (br_f sc_10 (sx_L hl hn (br_t s1 (sx_V_t hb (br_f sc_10 (br_f p0 (br_f p1 (br_f m0 (br_f m1 (br_f g0 (br_f g1 (sy_L hl hn (br_t s1 (sy_V_t hb (br_f sc_10 (br_f p0 (br_f p1 ⟨rfl, sc_rel h⟩)))))))))))))))))))
      · have s1 : ¬ nI a + nI m * nI g ≤ 60000 := by
          rw [em]
          exact nI_ge (a := 60000) (by omega) (by omega)
        exact br_f m0 (br_f m1 (sx_T_t hg (br_f sc_10 (sx_L hl hn (br_f s1 (br_f m0 (br_f m1 (br_f g0 (br_f g1 (sy_L hl hn (br_f s1 ⟨rfl, sc_rel h⟩)))))))))))
theorem i_vc_dropOldest {k : Nat} {u : SX} {v : SY} (I : i_Rel k u v) (hk : k + 5 ≤ 2560) : wpX_dropOldest (fun r u' => wpY_dropOldest (fun r' v' => r' = r ∧ i_Rel (k + 5) u' v') v) u := by
  obtain ⟨n, l, r, T, V, rfl, rfl, h⟩ := I
  have hn := h.1
  by_cases f : 16 ≤ n
  · obtain ⟨m, rfl⟩ : ∃ m, n = m + 16 := ⟨n - 16, by omega⟩
    have f1 : 16 ≤ nI (m + 16) := nI_le (a := 16) f (by omega)
    have hX := fun (post : Int32 → SX → Prop) hp => sx_drop (T := T) (V := V) (post := post) hn hp m 0 (by omega)
    have hY := fun (post : Int32 → SY → Prop) hp => sy_drop (l := l) (r := r) (T := T) (V := V) (post := post) hn hp m 0 (by omega)
    simp only [sc_sh0] at hX hY
    exact br_t f1 ⟨m + 1, hX _ (br_t f1 (nm_r (sc_m16 m) ⟨m + 1, hY _ ⟨rfl, sc_rel (sc_drop h)⟩⟩))⟩
  · have f1 : ¬ 16 ≤ nI n := nI_ge (b := 16) (by omega) (by omega)
    exact br_f f1 (br_f f1 ⟨rfl, sc_rel h⟩)
