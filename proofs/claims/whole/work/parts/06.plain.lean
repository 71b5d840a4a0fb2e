theorem i_vc_update {k : Nat} {u : SX} {v : SY} (I : i_Rel k u v) (hk : k + 3 ≤ 1539) (v1 : Int32) (v2 : Int32) : wpX_update (fun r u' => wpY_update (fun r' v' => r' = r ∧ i_Rel (k + 3) u' v') v v1 v2) u v1 v2 := by
  obtain ⟨c, hb, q, s, w, L, span, rule, tol, room, m, rfl, rfl, ⟨w1, w6, hL⟩, hq, hA, hm⟩ := I
  by_cases hn : v1 ≤ nI L ∨ 240 < v1 ∨ ra_fit c v2 = 0
  · exact ra_X_no c _ hb q span rule tol room _ _ m v1 v2 hn (ra_Y_no c _ hb s span rule tol room _ _ m v1 v2 hn ⟨rfl, c, hb, q, s, w, L, span, rule, tol, room, m, rfl, rfl, ⟨w1, w6, hL⟩, hq, hA, hm⟩)
  · have hf : ¬ ra_fit c v2 = 0 := fun z => hn (Or.inr (Or.inr z))
    have h1 : ¬ v1 ≤ nI L := fun z => hn (Or.inl z)
    have h2 : ¬ 240 < v1 := fun z => hn (Or.inr (Or.inl z))
    have h0 : ¬ v1 < 0 := fun z => h1 (Int32.le_trans (Int32.le_of_lt z) (nI_pos' (by omega)))
    obtain ⟨t, ht31, rfl⟩ := nI_of h0
    have ht : t ≤ 240 := Nat.le_of_not_lt (fun z => h2 (nI_lt (a := 240) z ht31))
    have hLt : L < t := Nat.lt_of_not_le (fun z => h1 (nI_le z (by omega)))
    refine ra_X_up c _ hb q span rule tol room _ t L v2 m hLt ht hf (ra_Y_up c _ hb s span rule tol room _ t L v2 m hLt ht hf ⟨rfl, ?_⟩)
    by_cases hc : c = 0
    · subst hc
      have eg : ra_g 0 hb v2 (((v2 - s) + 256) - ((v2 - s) + 256) / 256 * 256) (t - L) = ra_g 0 hb v2 (((v2 - q) + 256) - ((v2 - q) + 256) / 256 * 256) (t - L) := by
        funext i
        unfold ra_g
        rw [if_pos rfl, if_pos rfl]
      rw [eg]
      refine ⟨0, hb, v2, _, w, t, span, rule, tol, room, _, rfl, rfl, ⟨w1, w6, ht⟩, Or.inl rfl, hA, ra_fill_ok _ L (t - L) (t - L) 1 m (by omega) (by omega) (fun i _ _ => ?_) hm⟩
      unfold ra_g
      by_cases hP : nI (t - L) ≤ hb
      · rw [if_pos hP, if_pos rfl]; exact Or.inr (ra_fit_bd 0 rfl hf)
      · rw [if_neg hP]; exact Or.inl rfl
    · obtain ⟨rfl, j, hj, rfl⟩ := hq.resolve_left hc
      obtain ⟨n, hn', rfl⟩ := ra_fit_n c hc hf
      obtain ⟨d, hd, ed⟩ := ra_turn hn' hj
      rw [ed]
      refine ⟨c, hb, nI n, _, w, t, span, rule, tol, room, _, rfl, rfl, ⟨w1, w6, ht⟩, Or.inr ⟨if_neg hc, n, hn', rfl⟩, hA, ra_fill_ok _ L (t - L) (t - L) 1 m (by omega) (by omega) (fun i i1 i2 => ?_) hm⟩
      unfold ra_g
      by_cases hP : nI (t - L) ≤ hb
      · rw [if_pos hP, if_neg hc]; exact ra_sh_ok hd (by omega) i1 i2
      · rw [if_neg hP]; exact Or.inl rfl
theorem i_vc_lastTime {k : Nat} {u : SX} {v : SY} (I : i_Rel k u v) (hk : k + 3 ≤ 1539) : wpX_lastTime (fun r => wpY_lastTime (fun r' => r' = r ∧ i_Rel (k + 3) u v) v) u := by
  have J := i_up I
  obtain ⟨c, hb, q, s, w, L, span, rule, tol, room, m, rfl, rfl, _⟩ := I
  exact ⟨rfl, J⟩
theorem i_vc_moment {k : Nat} {u : SX} {v : SY} (I : i_Rel k u v) (hk : k + 3 ≤ 1539) (v1 : Int32) : wpX_moment (fun r => wpY_moment (fun r' => r' = r ∧ i_Rel (k + 3) u v) v v1) u v1 := by
  have J := i_up I
  obtain ⟨c, hb, q, s, w, L, span, rule, tol, room, m, rfl, rfl, ⟨w1, w6, hL⟩, hq, hA, hm⟩ := I
  by_cases h1 : v1 < 1
  · exact br_t h1 (br_t h1 ⟨rfl, J⟩)
  · by_cases h2 : nI L < v1
    · exact br_f h1 (br_t h2 (br_f h1 (br_t h2 ⟨rfl, J⟩)))
    · by_cases h3 : nI L - v1 ≤ 30
      · have vi : vp_in v1 241 := by
          have h0 : ¬ v1 < 0 := fun z => h1 (Int32.lt_trans z (by decide))
          obtain ⟨j, hj, rfl⟩ := nI_of h0
          have : ¬ L < j := fun z => h2 (nI_lt z hj)
          exact vp_in_nI (by omega) (by omega)
        exact br_f h1 (br_f h2 (br_t h3 ⟨vi, br_f h1 (br_f h2 (br_t h3 ⟨vi, rfl, J⟩))⟩))
      · exact br_f h1 (br_f h2 (br_f h3 (br_f h1 (br_f h2 (br_f h3 ⟨rfl, J⟩)))))
theorem i_vc_steps {k : Nat} {u : SX} {v : SY} (I : i_Rel k u v) (hk : k + 3 ≤ 1539) : wpX_steps (fun r => wpY_steps (fun r' => r' = r ∧ i_Rel (k + 3) u v) v) u := by
  have J := i_up I
  obtain ⟨c, hb, q, s, w, L, span, rule, tol, room, m, rfl, rfl, ⟨w1, w6, hL⟩, _⟩ := I
  have wz : ¬ nI w = 0 := nI_ne0 w1 (by omega)
  exact ⟨wz, wz, rfl, J⟩
theorem i_vc_pending {k : Nat} {u : SX} {v : SY} (I : i_Rel k u v) (hk : k + 3 ≤ 1539) : wpX_pending (fun r => wpY_pending (fun r' => r' = r ∧ i_Rel (k + 3) u v) v) u := by
  have J := i_up I
  obtain ⟨c, hb, q, s, w, L, span, rule, tol, room, m, rfl, rfl, ⟨w1, w6, hL⟩, _⟩ := I
  have wz : ¬ nI w = 0 := nI_ne0 w1 (by omega)
  exact ⟨wz, wz, rfl, J⟩
theorem ra_ps (c c' wd hb hb' q s : Int32) (span rule tol room span' rule' tol' room' m : Nat → Int32) (L : Nat) (hL : L ≤ 240) : ∀ d i : Nat, ∀ sum : Int32, i + d = L + 1 → ∃ r,
    (∀ post : Int32 → Prop, post r → wX_pendingSum_14 post c wd hb (nI L) q span rule tol room m (d + 1) sum (nI i)) ∧
    (∀ post : Int32 → Prop, post r → wY_pendingSum_19 post c' wd hb' (nI L) s span' rule' tol' room' m (d + 1) sum (nI i)) := by
  intro d
  induction d with
  | zero =>
    intro i sum hi
    have h : nI L < nI i := nI_lt (by omega) (by omega)
    exact ⟨sum, fun _ hp => br_t h hp, fun _ hp => br_t h hp⟩
  | succ d ih =>
    intro i sum hi
    have h : ¬ nI L < nI i := nI_nlt (by omega) (by omega)
    have vi : vp_in (nI i) 241 := vp_in_nI (by omega) (by omega)
    by_cases hy : m (nI i).toNatClampNeg = -100000
    · obtain ⟨r, hX, hY⟩ := ih (i + 1) sum (by omega)
      exact ⟨r, fun post hp => br_f h ⟨vi, br_t hy (nm_r (nI_1 i) (hX post hp))⟩, fun post hp => br_f h ⟨vi, br_t hy (nm_r (Int32.add_zero sum) (nm_r (nI_1 i) (hY post hp)))⟩⟩
    · obtain ⟨r, hX, hY⟩ := ih (i + 1) (sum + m (nI i).toNatClampNeg) (by omega)
      exact ⟨r, fun post hp => br_f h ⟨vi, br_f hy ⟨vi, nm_e (nm_r (nI_1 i) (hX post hp))⟩⟩, fun post hp => br_f h ⟨vi, br_f hy ⟨vi, nm_e (nm_r (nI_1 i) (hY post hp))⟩⟩⟩
theorem i_vc_pendingSum {k : Nat} {u : SX} {v : SY} (I : i_Rel k u v) (hk : k + 3 ≤ 1539) : wpX_pendingSum (fun r => wpY_pendingSum (fun r' => r' = r ∧ i_Rel (k + 3) u v) v) u := by
  have J := i_up I
  obtain ⟨c, hb, q, s, w, L, span, rule, tol, room, m, rfl, rfl, ⟨w1, w6, hL⟩, _⟩ := I
  have wz : ¬ nI w = 0 := nI_ne0 w1 (by omega)
  have hmod : L % w < w := Nat.mod_lt _ w1
  have hmod2 : L % w ≤ L := Nat.mod_le _ _
  have e : (nI L - (nI L - nI L / nI w * nI w)) + 1 = nI (L - L % w + 1) := by rw [pk_rem (by omega) w1 (by omega), pk_sub hmod2, nI_1]
  obtain ⟨r, hX, hY⟩ := ra_ps c c (nI w) hb hb q s span rule tol room span rule tol room m L hL (L % w) (L - L % w + 1) 0 (by omega)
  exact ⟨wz, nm_r e ⟨L % w + 1, hX _ ⟨wz, nm_r e ⟨L % w + 1, hY _ ⟨rfl, J⟩⟩⟩⟩⟩
