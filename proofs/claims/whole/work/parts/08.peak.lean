theorem ra_ok_le {v : Int32} (ho : ra_ok v) : v ≤ -100000 ↔ v = -100000 := by
  constructor
  · intro h
    refine ho.resolve_right (fun b => ?_)
    unfold ra_bd at b
    rw [Int32.le_iff_toInt_le, show (-100000 : Int32).toInt = -100000 from by decide] at h
    omega
  · intro h
    subst h
    decide
section
variable (c hb q s : Int32) (span rule tol room m : Nat → Int32) (w L a p rl rm : Nat)
theorem ra_pk (H : ra_P w L a p rl rm span rule room m) : ∀ d i : Nat, ∀ best : Int32, i + d = L / w / p → L / w / p - rm ≤ i → ∃ r,
    (∀ post : Int32 → Prop, post r → wX_peak_26 post (nI a) (nI (L / w / p)) c (nI w) hb (nI L) q span rule tol room m (d + 1) best (nI i)) ∧
    (∀ post : Int32 → Prop, post r → wY_peak_24 post (nI a) (nI (L / w / p)) c (nI w) hb (nI L) s span rule tol room m (d + 1) best (nI i)) := by
  have hN := ra_N240 span rule room m w L a p rl rm H
  intro d
  induction d with
  | zero =>
    intro i best hi _
    have h : nI (L / w / p) ≤ nI i := nI_le (by omega) (by omega)
    exact ⟨best, fun _ hp => br_t h hp, fun _ hp => br_t h hp⟩
  | succ d ih =>
    intro i best hi hf
    have h : ¬ nI (L / w / p) ≤ nI i := nI_ge (by omega) (by omega)
    obtain ⟨x, _, sX, sY⟩ := ra_rv c hb q s span rule tol room m w L a p rl rm H i (by omega)
    by_cases hx : x ≤ best
    · obtain ⟨r, hX, hY⟩ := ih (i + 1) best (by omega) (by omega)
      exact ⟨r, fun post hp => br_f h (sX _ (br_t hx (nm_r (nI_1 i) (hX post hp)))),
        fun post hp => br_f h (ra_Y_kept c hb s span rule tol room m w L a p rl rm H i hf (by omega) (sY _ (br_t hx (nm_r (nI_1 i) (hY post hp)))))⟩
    · obtain ⟨r, hX, hY⟩ := ih (i + 1) x (by omega) (by omega)
      exact ⟨r, fun post hp => br_f h (sX _ (br_f hx (nm_r (nI_1 i) (hX post hp)))),
        fun post hp => br_f h (ra_Y_kept c hb s span rule tol room m w L a p rl rm H i hf (by omega) (sY _ (br_f hx (nm_r (nI_1 i) (hY post hp)))))⟩
theorem ra_pks (H : ra_P w L a p rl rm span rule room m) (post : Int32 → Prop) (n : Nat) (h : wY_peak_24 post (nI a) (nI (L / w / p)) c (nI w) hb (nI L) s span rule tol room m n (-100000) (nI (L / w / p - rm))) :
    ∀ d j : Nat, j + d = L / w / p - rm → wY_peak_24 post (nI a) (nI (L / w / p)) c (nI w) hb (nI L) s span rule tol room m (n + d) (-100000) (nI j) := by
  have hN := ra_N240 span rule room m w L a p rl rm H
  intro d
  induction d with
  | zero => intro j hj; rw [show j = L / w / p - rm from hj]; exact h
  | succ d ih =>
    intro j hj
    have g : ¬ nI (L / w / p) ≤ nI j := nI_ge (by omega) (by omega)
    exact br_f g (ra_Y_old c hb s span rule tol room m w L a p rl rm H j (by omega) (br_t (by decide) (nm_r (nI_1 j) (ih (j + 1) (by omega)))))
theorem ra_kn (H : ra_P w L a p rl rm span rule room m) : ∀ d i : Nat, ∀ best : Int32, i + d = L / w / p → L / w / p - rm ≤ i → ∃ r,
    (∀ post : Int32 → Prop, post r → wX_known_24 post (nI a) (nI (L / w / p)) c (nI w) hb (nI L) q span rule tol room m (d + 1) best (nI i)) ∧
    (∀ post : Int32 → Prop, post r → wY_known_11 post (nI a) (nI (L / w / p)) c (nI w) hb (nI L) s span rule tol room m (d + 1) best (nI i)) := by
  have hN := ra_N240 span rule room m w L a p rl rm H
  intro d
  induction d with
  | zero =>
    intro i best hi _
    have h : nI (L / w / p) ≤ nI i := nI_le (by omega) (by omega)
    exact ⟨best, fun _ hp => br_t h hp, fun _ hp => br_t h hp⟩
  | succ d ih =>
    intro i best hi hf
    have h : ¬ nI (L / w / p) ≤ nI i := nI_ge (by omega) (by omega)
    obtain ⟨x, xo, sX, sY⟩ := ra_rv c hb q s span rule tol room m w L a p rl rm H i (by omega)
    by_cases hx : x = -100000
    · have hy : x ≤ -100000 := (ra_ok_le xo).mpr hx
      obtain ⟨r, hX, hY⟩ := ih (i + 1) best (by omega) (by omega)
      exact ⟨r, fun post hp => br_f h (sX _ (br_t hx (nm_r (nI_1 i) (hX post hp)))),
        fun post hp => br_f h (ra_Y_kept c hb s span rule tol room m w L a p rl rm H i hf (by omega) (sY _ (br_t hy (nm_r (Int32.add_zero best) (nm_r (nI_1 i) (hY post hp))))))⟩
    · have hy : ¬ x ≤ -100000 := fun z => hx ((ra_ok_le xo).mp z)
      obtain ⟨r, hX, hY⟩ := ih (i + 1) (best + 1) (by omega) (by omega)
      exact ⟨r, fun post hp => br_f h (sX _ (br_f hx (nm_e (nm_r (nI_1 i) (hX post hp))))),
        fun post hp => br_f h (ra_Y_kept c hb s span rule tol room m w L a p rl rm H i hf (by omega) (sY _ (br_f hy (nm_e (nm_r (nI_1 i) (hY post hp))))))⟩
theorem ra_kns (H : ra_P w L a p rl rm span rule room m) (post : Int32 → Prop) (n : Nat) (h : wY_known_11 post (nI a) (nI (L / w / p)) c (nI w) hb (nI L) s span rule tol room m n 0 (nI (L / w / p - rm))) :
    ∀ d j : Nat, j + d = L / w / p - rm → wY_known_11 post (nI a) (nI (L / w / p)) c (nI w) hb (nI L) s span rule tol room m (n + d) 0 (nI j) := by
  have hN := ra_N240 span rule room m w L a p rl rm H
  intro d
  induction d with
  | zero => intro j hj; rw [show j = L / w / p - rm from hj]; exact h
  | succ d ih =>
    intro j hj
    have g : ¬ nI (L / w / p) ≤ nI j := nI_ge (by omega) (by omega)
    exact br_f g (ra_Y_old c hb s span rule tol room m w L a p rl rm H j (by omega) (br_t (by decide) (nm_r (Int32.add_zero 0) (nm_r (nI_1 j) (ih (j + 1) (by omega))))))
end
