section
variable (c hb l q : Int32) (span rule tol room : Nat → Int32) (c' hb' l' s' : Int32) (span' rule' bear' room' : Nat → Int32) (m : Nat → Int32)
theorem ra_st (w k : Nat) (hw1 : 1 ≤ w) (hw : w ≤ 6) (hk : (k + 1) * w ≤ 240) (hm : ∀ i, ra_ok (m i)) :
    ∀ d i n un : Nat, ∀ sum : Int32, i + d = w → n + un = i → ra_bd sum n → ∃ r, ra_ok r ∧
      (∀ post : Int32 → Prop, post r → wX_stepValue_17 post (nI (k * w + 1)) c (nI w) hb l q span rule tol room m (d + 1) sum (nI un) (nI i)) ∧
      (∀ post : Int32 → Prop, post r → wY_step_14 post (nI k) c' (nI w) hb' l' s' span' rule' bear' room' m (d + 1) sum (nI n) (nI (k * w + 1 + i))) := by
  have hkw : k * w + w ≤ 240 := by rw [Nat.succ_mul] at hk; exact hk
  have e1 : (nI k + 1) * nI w = nI (k * w + w) := by rw [nI_1, pk_mul, Nat.succ_mul]
  intro d
  induction d with
  | zero =>
    intro i n un sum hi hn hs
    have hiw : i = w := by omega
    subst hiw
    have hX0 : nI i ≤ nI i := nI_le (Nat.le_refl i) (by omega)
    have hY0 : ((nI k + 1) * nI i) < nI (k * i + 1 + i) := by rw [e1]; exact nI_lt (by omega) (by omega)
    have x2 : 2 * nI un = nI (2 * un) := pk_mul 2 un
    have y2 : 2 * (nI i - nI n) = nI (2 * (i - n)) := by rw [pk_sub (by omega)]; exact pk_mul 2 (i - n)
    by_cases hu : 2 * un ≤ i
    · have n0 : 0 < n := by omega
      have hX1 : 2 * nI un ≤ nI i := by rw [x2]; exact nI_le hu (by omega)
      have hY1 : ¬ nI i < 2 * (nI i - nI n) := by rw [y2]; exact nI_nlt (by omega) (by omega)
      have xd : nI i - nI un = nI n := by rw [pk_sub (by omega)]; exact congrArg nI (by omega)
      refine ⟨ra_fl sum n, Or.inr (ra_fl_bd n0 (by omega) hs), fun post hp => br_t hX0 (br_t hX1 ?_), fun post hp => br_t hY0 (br_f hY1 ?_)⟩
      · rw [xd]; exact ra_X_fl n0 (by omega) hp
      · exact ra_Y_fl _ n0 (by omega) hs hp
    · have hX1 : ¬ 2 * nI un ≤ nI i := by rw [x2]; exact nI_ge (by omega) (by omega)
      have hY1 : nI i < 2 * (nI i - nI n) := by rw [y2]; exact nI_lt (by omega) (by omega)
      exact ⟨-100000, Or.inl rfl, fun post hp => br_t hX0 (br_f hX1 hp), fun post hp => br_t hY0 (br_t hY1 hp)⟩
  | succ d ih =>
    intro i n un sum hi hn hs
    have hX0 : ¬ nI w ≤ nI i := nI_ge (by omega) (by omega)
    have hY0 : ¬ ((nI k + 1) * nI w) < nI (k * w + 1 + i) := by rw [e1]; exact nI_nlt (by omega) (by omega)
    have hY1 : ¬ 240 < nI (k * w + 1 + i) := nI_nlt (a := 240) (by omega) (by omega)
    have ex : (nI (k * w + 1) + nI i).toNatClampNeg = k * w + 1 + i := by rw [nI_add]; exact nI_clamp (by omega)
    have ey : (nI (k * w + 1 + i)).toNatClampNeg = k * w + 1 + i := nI_clamp (by omega)
    have vy : vp_in (nI (k * w + 1 + i)) 241 := vp_in_nI (by omega) (by omega)
    have vx : vp_in (nI (k * w + 1) + nI i) 241 := by rw [nI_add]; exact vy
    by_cases hy : m (k * w + 1 + i) = -100000
    · obtain ⟨r, ro, hX, hY⟩ := ih (i + 1) n (un + 1) sum (by omega) (by omega) hs
      refine ⟨r, ro, fun post hp => br_f hX0 ⟨vx, nm_r (congrArg m ex) (br_t hy (nm_r (nI_1 un) (nm_r (nI_1 i) (hX post hp))))⟩, fun post hp => br_f hY0 (br_f hY1 ⟨vy, br_t ((congrArg m ey).trans hy) (nm_r (nI_1 _) (hY post hp))⟩)⟩
    · have hb1 : ra_bd (m (k * w + 1 + i)) 1 := (hm _).resolve_left hy
      obtain ⟨r, ro, hX, hY⟩ := ih (i + 1) (n + 1) un (sum + m (k * w + 1 + i)) (by omega) (by omega) (ra_bd_add (by omega) hs hb1)
      have hy' : ¬ m (nI (k * w + 1 + i)).toNatClampNeg = -100000 := by rw [ey]; exact hy
      refine ⟨r, ro, fun post hp => br_f hX0 ⟨vx, nm_r (congrArg m ex) (br_f hy (nm_e (nm_r (nI_1 i) (hX post hp))))⟩, fun post hp => br_f hY0 (br_f hY1 ⟨vy, br_f hy' ⟨vy, nm_r (congrArg (fun z => sum + m z) ey) (nm_r (nI_1 n) (nm_r (nI_1 _) (hY post hp)))⟩⟩)⟩
theorem ra_step (w k : Nat) (hw1 : 1 ≤ w) (hw : w ≤ 6) (hk : (k + 1) * w ≤ 240) (hm : ∀ i, ra_ok (m i)) : ∃ r, ra_ok r ∧
      (∀ post : Int32 → Prop, post r → wpX_stepValue post (c, nI w, hb, l, q, span, rule, tol, room, m) (nI k)) ∧
      (∀ post : Int32 → Prop, post r → wpY_step post (c', nI w, hb', l', s', span', rule', bear', room', m) (nI k)) := by
  obtain ⟨r, ro, hX, hY⟩ := ra_st c hb l q span rule tol room c' hb' l' s' span' rule' bear' room' m w k hw1 hw hk hm w 0 0 0 0 (by omega) rfl ra_bd0
  have e : nI k * nI w + 1 = nI (k * w + 1) := by rw [pk_mul, nI_1]
  exact ⟨r, ro, fun post hp => nm_r e ⟨w + 1, hX post hp⟩, fun post hp => nm_r e ⟨w + 1, hY post hp⟩⟩
end
