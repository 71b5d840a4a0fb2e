/-- what both states keep: the width w, the latest moment L, the wheel (a counter's), each archive's shape, the moments -/
def ra_I (c q s : Int32) (w L : Nat) (span rule room m : Nat → Int32) : Prop := (1 ≤ w ∧ w ≤ 6 ∧ L ≤ 240) ∧ (c = 0 ∨ (s = q ∧ ∃ j, j < 256 ∧ q = nI j)) ∧
  (∀ a, a < 2 → ∃ p rl rm, 1 ≤ p ∧ p ≤ 4 ∧ span a = nI p ∧ rl < 4 ∧ rule a = nI rl ∧ rm ≤ 8 ∧ room a = nI rm) ∧ (∀ i, ra_ok (m i))
/-- the two states are the same but for the wheel: the gauge's wheel in X holds the last value, in Y it holds 0; nobody reads it -/
def i_Rel (_ : Nat) (u : SX) (v : SY) : Prop := ∃ (c hb q s : Int32) (w L : Nat) (span rule tol room m : Nat → Int32),
  u = (c, nI w, hb, nI L, q, span, rule, tol, room, m) ∧ v = (c, nI w, hb, nI L, s, span, rule, tol, room, m) ∧ ra_I c q s w L span rule room m
theorem i_up {k : Nat} {u : SX} {v : SY} (h : i_Rel k u v) : i_Rel (k + 3) u v := h
theorem ra_cl {x : Int32} {M : Nat} {M' : Int32} (hM : M' = nI M) (h1 : 1 ≤ M) (hb : M < 1000) : ∃ w, 1 ≤ w ∧ w ≤ M ∧ (∀ post : Int32 → Prop, post (nI w) → wpX_clamped post x M') ∧
    (∀ A : Int32 → Prop, A (nI w) → ((1 ≤ x → ((x ≤ M' → A x) ∧ (¬ x ≤ M' → A M'))) ∧ (¬ 1 ≤ x → A 1))) := by
  subst hM
  by_cases h : 1 ≤ x
  · have h0 : ¬ x < 0 := Int32.not_lt.mpr (Int32.le_trans (by decide) h)
    obtain ⟨j, hj, rfl⟩ := nI_of h0
    have j1 : 1 ≤ j := Nat.le_of_not_lt (fun z => nI_ge (b := 1) z (by omega) h)
    by_cases h2 : j ≤ M
    · have h3 : nI j ≤ nI M := nI_le h2 (by omega)
      exact ⟨j, j1, h2, fun _ hp => br_t h (br_t h3 hp), fun _ hp => br_t h (br_t h3 hp)⟩
    · have h3 : ¬ nI j ≤ nI M := nI_ge (by omega) hj
      exact ⟨M, h1, Nat.le_refl M, fun _ hp => br_t h (br_f h3 hp), fun _ hp => br_t h (br_f h3 hp)⟩
  · exact ⟨1, Nat.le_refl 1, h1, fun _ hp => br_f h hp, fun _ hp => br_f h hp⟩
def ra_two (x : Int32) : Nat → Int32 := upd (upd (fun _ => 0) 0 x) 1 x
theorem ra_two_at {x : Int32} {a : Nat} (ha : a < 2) : ra_two x a = x := by
  have hc : a = 0 ∨ a = 1 := by omega
  rcases hc with rfl | rfl <;> rfl
theorem ra_two0 : ra_two 0 = fun _ => 0 := by
  funext i
  unfold ra_two upd
  split
  · rfl
  · split <;> rfl
theorem ra_X_i88 (post : SX → Prop) (c w hb : Int32) (h : post (c, w, hb, 0, 0, ra_two 1, fun _ => 0, fun _ => 0, ra_two 4, fun _ => 0)) :
    ∃ n, wX_init_88 post c w hb 0 0 n 0 (fun _ => 0) (fun _ => 0) (fun _ => 0) (fun _ => 0) (fun _ => 0) := by
  have h' : post (c, w, hb, 0, 0, ra_two 1, ra_two 0, ra_two 0, ra_two 4, fun _ => 0) := by rw [ra_two0]; exact h
  have v0 : vp_in 0 2 := vp_in_iff.mpr (by decide)
  have v1 : vp_in 1 2 := vp_in_iff.mpr (by decide)
  refine ⟨3, br_f (by decide) ⟨v0, nm_e ⟨v0, nm_e ⟨v0, nm_e ⟨v0, nm_e (nm_r (e' := 1) (by decide) ?_)⟩⟩⟩⟩⟩
  refine br_f (by decide) ⟨v1, nm_e ⟨v1, nm_e ⟨v1, nm_e ⟨v1, nm_e (nm_r (e' := 2) (by decide) ?_)⟩⟩⟩⟩
  exact br_t (by decide) h'
theorem ra_Y_i108 (post : SY → Prop) (c w hb : Int32) (h : post (c, w, hb, 0, 0, ra_two 1, fun _ => 0, fun _ => 0, ra_two 4, fun _ => 0)) :
    ∃ n, wY_init_108 post c w hb 0 0 n 0 (fun _ => 0) (fun _ => 0) (fun _ => 0) (fun _ => 0) (fun _ => 0) := by
  have v0 : vp_in 0 2 := vp_in_iff.mpr (by decide)
  have v1 : vp_in 1 2 := vp_in_iff.mpr (by decide)
  exact ⟨3, br_f (by decide) ⟨v0, nm_e ⟨v0, nm_e (nm_r (e' := 1) (by decide) (br_f (by decide) ⟨v1, nm_e ⟨v1, nm_e (nm_r (e' := 2) (by decide) (br_t (by decide) h))⟩⟩))⟩⟩⟩
theorem ra_rel0 (c : Int32) (hb : Int32) (w : Nat) (h1 : 1 ≤ w) (h6 : w ≤ 6) : i_Rel 3 (c, nI w, hb, 0, 0, ra_two 1, fun _ => 0, fun _ => 0, ra_two 4, fun _ => 0) (c, nI w, hb, 0, 0, ra_two 1, fun _ => 0, fun _ => 0, ra_two 4, fun _ => 0) :=
  ⟨c, hb, 0, 0, w, 0, ra_two 1, fun _ => 0, fun _ => 0, ra_two 4, fun _ => 0, rfl, rfl, ⟨h1, h6, by omega⟩, Or.inr ⟨rfl, 0, by omega, rfl⟩,
    fun a ha => ⟨1, 0, 4, by omega, by omega, ra_two_at ha, by omega, rfl, by omega, ra_two_at ha⟩, fun _ => Or.inr (ra_bdN (d := 0) (by omega) (by omega))⟩
theorem i_vc0 (k0 : Int32) (k1 : Int32) (k2 : Int32) : wpX_init (fun u => wpY_init (fun v => i_Rel 3 u v) k0 k1 k2) k0 k1 k2 := by
  obtain ⟨w, w1, w6, wX, wY⟩ := ra_cl (x := k1) (M := 6) (M' := 6) rfl (by omega) (by omega)
  obtain ⟨b, b1, b30, bX, bY⟩ := ra_cl (x := k2) (M := 30) (M' := 30) rfl (by omega) (by omega)
  have key : ∀ z : Int32, narrow .boolean (.int z) = .int z → fits .boolean (.int z) = true → (wpY_init (fun v => i_Rel 3 (z, nI w, nI b, 0, 0, ra_two 1, fun _ => 0, fun _ => 0, ra_two 4, fun _ => 0) v) k0 k1 k2) →
      wX_init_62 (fun u => wpY_init (fun v => i_Rel 3 u v) k0 k1 k2) k1 k2 z 0 0 0 0 0 (fun _ => 0) (fun _ => 0) (fun _ => 0) (fun _ => 0) (fun _ => 0) := by
    intro z h1 h2 h
    exact ⟨h1, h2, wX _ (bX _ (ra_X_i88 _ z (nI w) (nI b) h))⟩
  have kez : ∀ z : Int32, narrow .boolean (.int z) = .int z → fits .boolean (.int z) = true →
      wY_init_52 (fun v => i_Rel 3 (z, nI w, nI b, 0, 0, ra_two 1, fun _ => 0, fun _ => 0, ra_two 4, fun _ => 0) v) k1 k2 z 0 0 0 0 0 (fun _ => 0) (fun _ => 0) (fun _ => 0) (fun _ => 0) (fun _ => 0) := by
    intro z h1 h2
    refine ⟨h1, h2, wY (fun x => wY_init_77 (fun v => i_Rel 3 (z, nI w, nI b, 0, 0, ra_two 1, fun _ => 0, fun _ => 0, ra_two 4, fun _ => 0) v) k2 x z 0 0 0 0 (fun _ => 0) (fun _ => 0) (fun _ => 0) (fun _ => 0) (fun _ => 0)) ?_⟩
    exact bY (fun y => ∃ n, wY_init_108 (fun v => i_Rel 3 (z, nI w, nI b, 0, 0, ra_two 1, fun _ => 0, fun _ => 0, ra_two 4, fun _ => 0) v) z (nI w) y 0 0 n 0 (fun _ => 0) (fun _ => 0) (fun _ => 0) (fun _ => 0) (fun _ => 0)) (ra_Y_i108 _ z (nI w) (nI b) (ra_rel0 z (nI b) w w1 w6))
  by_cases hk : k0 < 1
  · exact br_t hk (key 0 rfl rfl (br_t hk (kez 0 rfl rfl)))
  · exact br_f hk (key 1 rfl rfl (br_f hk (kez 1 rfl rfl)))
