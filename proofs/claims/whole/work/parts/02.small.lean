/-! ===== the relation; the tests of arguments; points, time, value, unappend, firstFrom ===== -/
def i_Rel (_ : Nat) (u : SX) (v : SY) : Prop := ∃ (n : Nat) (l r : Int32) (T V : Nat → Int32), u = (nI n, T, V) ∧ v = (nI n, l, r, T, V) ∧ sc_ok n T V
theorem sc_rel {k n : Nat} {l r : Int32} {T V : Nat → Int32} (h : sc_ok n T V) : i_Rel k (nI n, T, V) (nI n, l, r, T, V) := ⟨n, l, r, T, V, rfl, rfl, h⟩
theorem i_up {k : Nat} {u : SX} {v : SY} (h : i_Rel k u v) : i_Rel (k + 5) u v := h
theorem i_vc0 : wpX_init (fun u => wpY_init (fun v => i_Rel 0 u v)) := by
  have h : i_Rel 0 (nI 0, (fun _ => 0), (fun _ => 0)) (nI 0, 0, 0, (fun _ => 0), (fun _ => 0)) := sc_rel (sc_ok0 _ _)
  rw [nI_0] at h
  exact h
section
variable {n : Nat} {l r : Int32} {T V : Nat → Int32}
theorem sx_T_t {post : Int32 → Prop} {j : Nat} (h : j ≤ 60000) (hp : post 1) : wpX_isTime post (nI n, T, V) (nI j) :=
  br_f (nI_pos (by omega)) (br_f (nI_nlt (a := 60000) h (by omega)) hp)
theorem sx_T_f {post : Int32 → Prop} {x : Int32} (h : x < 0 ∨ (¬ x < 0 ∧ nI 60000 < x)) (hp : post 0) : wpX_isTime post (nI n, T, V) x := by
  rcases h with h | ⟨h, g⟩
  · exact br_t h hp
  · exact br_f h (br_t g hp)
theorem sx_V_t {post : Int32 → Prop} {j : Nat} (h : j ≤ 65535) (hp : post 1) : wpX_isValue post (nI n, T, V) (nI j) :=
  br_f (nI_pos (by omega)) (br_f (nI_nlt (a := 65535) h (by omega)) hp)
theorem sx_V_f {post : Int32 → Prop} {x : Int32} (h : x < 0 ∨ (¬ x < 0 ∧ nI 65535 < x)) (hp : post 0) : wpX_isValue post (nI n, T, V) x := by
  rcases h with h | ⟨h, g⟩
  · exact br_t h hp
  · exact br_f h (br_t g hp)
theorem sy_V_t {post : Int32 → Prop} {j : Nat} (h : j ≤ 65535) (hp : post 1) : wpY_isValue post (nI n, l, r, T, V) (nI j) :=
  br_f (nI_pos (by omega)) (br_f (nI_nlt (a := 65535) h (by omega)) hp)
theorem sy_V_f {post : Int32 → Prop} {x : Int32} (h : x < 0 ∨ (¬ x < 0 ∧ nI 65535 < x)) (hp : post 0) : wpY_isValue post (nI n, l, r, T, V) x := by
  rcases h with h | ⟨h, g⟩
  · exact br_t h hp
  · exact br_f h (br_t g hp)
theorem sx_P_f {post : Int32 → Prop} {x : Int32} (g : x < 0 ∨ (¬ x < 0 ∧ nI n ≤ x)) (hp : post 0) : wpX_isPoint post (nI n, T, V) x := by
  rcases g with g | ⟨g, g2⟩
  · exact br_t g hp
  · exact br_f g (br_t g2 hp)
theorem sx_P_t {post : Int32 → Prop} {j : Nat} (hj : j < n) (hn : n ≤ 64) (hp : post 1) : wpX_isPoint post (nI n, T, V) (nI j) :=
  br_f (nI_pos (by omega)) (br_f (nI_ge hj (by omega)) hp)
theorem sy_P_f {post : Int32 → Prop} {x : Int32} (g : x < 0 ∨ (¬ x < 0 ∧ nI n ≤ x)) (hp : post 0) : wpY_isPoint post (nI n, l, r, T, V) x := by
  rcases g with g | ⟨g, g2⟩
  · exact br_t g hp
  · exact br_f g (br_t g2 hp)
theorem sy_P_t {post : Int32 → Prop} {j : Nat} (hj : j < n) (hn : n ≤ 64) (hp : post 1) : wpY_isPoint post (nI n, l, r, T, V) (nI j) :=
  br_f (nI_pos (by omega)) (br_f (nI_ge hj (by omega)) hp)
theorem sx_L {post : Int32 → Prop} {a : Nat} (hl : sc_la n T a) (hn : n ≤ 64) (hp : post (nI a)) : wpX_lastTime post (nI n, T, V) := by
  rcases hl with ⟨rfl, rfl⟩ | ⟨m, rfl, e⟩
  · exact br_t nI_0 hp
  · refine br_f (nI_ne0 (by omega) (by omega)) (And.intro ?_ ?_)
    · rw [nI_pred]
      exact vp_in_nI (by omega) (by omega)
    · rw [nI_pred, nI_clamp (by omega), e]
      exact hp
theorem sy_L {post : Int32 → Prop} {a : Nat} (hl : sc_la n T a) (hn : n ≤ 64) (hp : post (nI a)) : wpY_lastTime post (nI n, l, r, T, V) := by
  rcases hl with ⟨rfl, rfl⟩ | ⟨m, rfl, e⟩
  · exact br_t nI_0 hp
  · refine br_f (nI_ne0 (by omega) (by omega)) (And.intro ?_ ?_)
    · rw [nI_pred]
      exact vp_in_nI (by omega) (by omega)
    · rw [nI_pred, nI_clamp (by omega), e]
      exact hp
theorem sc_ff (t : Int32) (hn : n ≤ 64) : ∀ d i : Nat, i + d = n → ∃ q : Int32, (∀ post : Int32 → Prop, post q → wX_firstFrom_2 post t (nI n) T V (d + 1) (nI i)) ∧ (∀ post : Int32 → Prop, post q → wY_firstFrom_2 post t (nI n) l r T V (d + 1) (nI i)) := by
  intro d
  induction d with
  | zero =>
    intro i hi
    have e : nI n ≤ nI i := nI_le (by omega) (by omega)
    exact ⟨-4, fun _ hp => br_t e hp, fun _ hp => br_t e hp⟩
  | succ d ih =>
    intro i hi
    have e : ¬ nI n ≤ nI i := nI_ge (by omega) (by omega)
    have v : vp_in (nI i) 64 := vp_in_nI (by omega) (by omega)
    by_cases z : T (nI i).toNatClampNeg < t
    · obtain ⟨q, hX, hY⟩ := ih (i + 1) (by omega)
      exact ⟨q, fun post hp => br_f e ⟨v, br_t z (nm_r (nI_1 i) (hX post hp))⟩, fun post hp => br_f e ⟨v, br_t z (nm_r (nI_1 i) (hY post hp))⟩⟩
    · exact ⟨nI i, fun _ hp => br_f e ⟨v, br_f z hp⟩, fun _ hp => br_f e ⟨v, br_f z hp⟩⟩
end
theorem i_vc_points {k : Nat} {u : SX} {v : SY} (I : i_Rel k u v) (hk : k + 5 ≤ 2560) : wpX_points (fun r => wpY_points (fun r' => r' = r ∧ i_Rel (k + 5) u v) v) u := by
  obtain ⟨n, l, r, T, V, rfl, rfl, h⟩ := I
  exact And.intro rfl (sc_rel h)
theorem i_vc_time {k : Nat} {u : SX} {v : SY} (I : i_Rel k u v) (hk : k + 5 ≤ 2560) (v1 : Int32) : wpX_time (fun r => wpY_time (fun r' => r' = r ∧ i_Rel (k + 5) u v) v v1) u v1 := by
  obtain ⟨n, l, r, T, V, rfl, rfl, h⟩ := I
  unfold wpX_time wpY_time
  dsimp only
  have hn := h.1
  rcases sc_ix v1 (n := n) (by omega) with g | ⟨j, hj, rfl⟩
  · exact sx_P_f g (br_t rfl (sy_P_f g (br_t rfl ⟨rfl, sc_rel h⟩)))
  · have w : vp_in (nI j) 64 := vp_in_nI (by omega) (by omega)
    exact sx_P_t hj hn (br_f sc_10 ⟨w, sy_P_t hj hn (br_f sc_10 ⟨w, rfl, sc_rel h⟩)⟩)
theorem i_vc_value {k : Nat} {u : SX} {v : SY} (I : i_Rel k u v) (hk : k + 5 ≤ 2560) (v1 : Int32) : wpX_value (fun r => wpY_value (fun r' => r' = r ∧ i_Rel (k + 5) u v) v v1) u v1 := by
  obtain ⟨n, l, r, T, V, rfl, rfl, h⟩ := I
  unfold wpX_value wpY_value
  dsimp only
  have hn := h.1
  rcases sc_ix v1 (n := n) (by omega) with g | ⟨j, hj, rfl⟩
  · exact sx_P_f g (br_t rfl (sy_P_f g (br_t rfl ⟨rfl, sc_rel h⟩)))
  · have w : vp_in (nI j) 64 := vp_in_nI (by omega) (by omega)
    exact sx_P_t hj hn (br_f sc_10 ⟨w, sy_P_t hj hn (br_f sc_10 ⟨w, rfl, sc_rel h⟩)⟩)
theorem i_vc_unappend {k : Nat} {u : SX} {v : SY} (I : i_Rel k u v) (hk : k + 5 ≤ 2560) : wpX_unappend (fun r u' => wpY_unappend (fun r' v' => r' = r ∧ i_Rel (k + 5) u' v') v) u := by
  obtain ⟨n, l, r, T, V, rfl, rfl, h⟩ := I
  have hn := h.1
  cases n with
  | zero => exact br_t nI_0 (br_t nI_0 ⟨rfl, sc_rel h⟩)
  | succ m =>
    have w : vp_in (nI m) 64 := vp_in_nI (by omega) (by omega)
    have z : ¬ nI (m + 1) = 0 := nI_ne0 (by omega) (by omega)
    exact br_f z (nm_r (nI_pred m) ⟨w, br_f z (nm_r (nI_pred m) ⟨w, rfl, sc_rel (sc_okm h (by omega))⟩)⟩)
theorem i_vc_firstFrom {k : Nat} {u : SX} {v : SY} (I : i_Rel k u v) (hk : k + 5 ≤ 2560) (v1 : Int32) : wpX_firstFrom (fun r => wpY_firstFrom (fun r' => r' = r ∧ i_Rel (k + 5) u v) v v1) u v1 := by
  obtain ⟨n, l, r, T, V, rfl, rfl, h⟩ := I
  obtain ⟨q, hX, hY⟩ := sc_ff (l := l) (r := r) (T := T) (V := V) v1 h.1 n 0 (by omega)
  exact Exists.intro (n + 1) (hX _ (Exists.intro (n + 1) (hY _ ⟨rfl, sc_rel h⟩)))
