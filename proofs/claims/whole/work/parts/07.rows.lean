theorem ra_of3 {x : Int32} {M : Nat} {M' : Int32} (hM : M' = nI M) (hb : M < 1000) (h1 : ¬ x < 1) (h2 : ¬ M' < x) : ∃ p, 1 ≤ p ∧ p ≤ M ∧ x = nI p := by
  subst hM
  have h0 : ¬ x < 0 := fun z => h1 (Int32.lt_trans z (by decide))
  obtain ⟨j, hj, rfl⟩ := nI_of h0
  exact ⟨j, Nat.le_of_not_lt (fun z => h1 (nI_lt (b := 1) z (by omega))), Nat.le_of_not_lt (fun z => h2 (nI_lt z hj)), rfl⟩
theorem i_vc_shape {k : Nat} {u : SX} {v : SY} (I : i_Rel k u v) (hk : k + 3 ≤ 1539) (v1 : Int32) (v2 : Int32) : wpX_shape (fun r u' => wpY_shape (fun r' v' => r' = r ∧ i_Rel (k + 3) u' v') v v1 v2) u v1 v2 := by
  have J := i_up I
  obtain ⟨c, hb, q, s, w, L, span, rule, tol, room, m, rfl, rfl, ⟨w1, w6, hL⟩, hq, hA, hm⟩ := I
  rcases pk_ix v1 (n := 2) (by omega) with h | h | ⟨a, ha, rfl⟩
  · exact nm_e (nm_e (nm_e (nm_e (ra_X_na (Or.inl h) (br_t rfl (nm_e (nm_e (nm_e (nm_e (ra_nar (Or.inl h) ⟨rfl, J⟩))))))))))
  · exact nm_e (nm_e (nm_e (nm_e (ra_X_na (Or.inr h) (br_t rfl (nm_e (nm_e (nm_e (nm_e (ra_nar (Or.inr h) ⟨rfl, J⟩))))))))))
  · have va : vp_in (nI a) 2 := vp_in_nI ha (by omega)
    have ea : (nI a).toNatClampNeg = a := nI_clamp (by omega)
    obtain ⟨rl, hrl, erl⟩ := pk_andE (v2 >>> ((3 : Int32) &&& 31)) (m := 7) 3 (by decide)
    refine nm_e (nm_e (nm_e (nm_e (ra_X_ar ha (br_f (by decide) ?_)))))
    by_cases g1 : nI L ≤ 0
    · have g1' : ¬ 0 < nI L := Int32.not_lt.mpr g1
      by_cases g2 : v2 &&& 7 < 1
      · exact br_t g1 (br_t g2 (nm_e (nm_e (nm_e (nm_e (ra_arc ha (br_f g1' (br_t g2 ⟨rfl, J⟩))))))))
      · by_cases g3 : 4 < v2 &&& 7
        · exact br_t g1 (br_f g2 (br_t g3 (nm_e (nm_e (nm_e (nm_e (ra_arc ha (br_f g1' (br_f g2 (br_t g3 ⟨rfl, J⟩))))))))))
        · by_cases g4 : (v2 >>> ((3 : Int32) &&& 31)) &&& 7 ≤ 3
          · have g4' : ¬ 3 < (v2 >>> ((3 : Int32) &&& 31)) &&& 7 := Int32.not_lt.mpr g4
            by_cases g5 : 3 < (v2 >>> ((6 : Int32) &&& 31)) &&& 7
            · exact br_t g1 (br_f g2 (br_f g3 (br_t g4 (br_t g5 (nm_e (nm_e (nm_e (nm_e (ra_arc ha (br_f g1' (br_f g2 (br_f g3 (br_f g4' (br_t g5 ⟨rfl, J⟩))))))))))))))
            · by_cases g6 : v2 >>> ((9 : Int32) &&& 31) < 1
              · exact br_t g1 (br_f g2 (br_f g3 (br_t g4 (br_f g5 (br_t g6 (nm_e (nm_e (nm_e (nm_e (ra_arc ha (br_f g1' (br_f g2 (br_f g3 (br_f g4' (br_f g5 (br_t g6 ⟨rfl, J⟩))))))))))))))))
              · by_cases g7 : v2 >>> ((9 : Int32) &&& 31) ≤ 8
                · refine br_t g1 (br_f g2 (br_f g3 (br_t g4 (br_f g5 (br_f g6 (br_t g7 ⟨va, nm_e ⟨va, nm_e ⟨va, nm_e ⟨va, nm_e ?_⟩⟩⟩⟩))))))
                  refine nm_e (nm_e (nm_e (nm_e (ra_arc ha (br_f g1' (br_f g2 (br_f g3 (br_f g4' (br_f g5 (br_f g6 (br_t g7 ⟨va, nm_e ⟨va, nm_e ⟨va, nm_e ⟨va, nm_e ⟨rfl, ?_⟩⟩⟩⟩⟩)))))))))))
                  refine ⟨c, hb, q, s, w, L, _, _, _, _, m, rfl, rfl, ⟨w1, w6, hL⟩, hq, fun b hb2 => ?_, hm⟩
                  rw [ea]
                  by_cases hba : b = a
                  · subst hba
                    obtain ⟨p, p1, p4, ep⟩ := ra_of3 (M := 4) (M' := 4) rfl (by omega) g2 g3
                    obtain ⟨rm, rm1, rm8, erm⟩ := ra_of3 (M := 8) (M' := 8) rfl (by omega) g6 (Int32.not_lt.mpr g7)
                    rw [erl] at g4
                    have hrl4 : rl < 4 := Nat.lt_of_not_le (fun z => nI_ge (a := 3) (b := rl) (by omega) (by omega) g4)
                    exact ⟨p, rl, rm, p1, p4, pk_us.trans ep, hrl4, pk_us.trans erl, rm8, pk_us.trans erm⟩
                  · rw [pk_un hba, pk_un hba, pk_un hba]
                    exact hA b hb2
                · exact br_t g1 (br_f g2 (br_f g3 (br_t g4 (br_f g5 (br_f g6 (br_f g7 (nm_e (nm_e (nm_e (nm_e (ra_arc ha (br_f g1' (br_f g2 (br_f g3 (br_f g4' (br_f g5 (br_f g6 (br_f g7 ⟨rfl, J⟩))))))))))))))))))
          · have g4' : 3 < (v2 >>> ((3 : Int32) &&& 31)) &&& 7 := Int32.not_le.mp g4
            exact br_t g1 (br_f g2 (br_f g3 (br_f g4 (nm_e (nm_e (nm_e (nm_e (ra_arc ha (br_f g1' (br_f g2 (br_f g3 (br_t g4' ⟨rfl, J⟩))))))))))))
    · have g1' : 0 < nI L := Int32.not_le.mp g1
      exact br_f g1 (nm_e (nm_e (nm_e (nm_e (ra_arc ha (br_t g1' ⟨rfl, J⟩))))))
theorem i_vc_lastStep {k : Nat} {u : SX} {v : SY} (I : i_Rel k u v) (hk : k + 3 ≤ 1539) : wpX_lastStep (fun r => wpY_lastStep (fun r' => r' = r ∧ i_Rel (k + 3) u v) v) u := by
  have J := i_up I
  obtain ⟨c, hb, q, s, w, L, span, rule, tol, room, m, rfl, rfl, ⟨w1, w6, hL⟩, hq, hA, hm⟩ := I
  have wz : ¬ nI w = 0 := nI_ne0 w1 (by omega)
  have e : nI L / nI w = nI (L / w) := pk_div (by omega) w1 (by omega)
  have hle : L / w ≤ L := Nat.div_le_self _ _
  by_cases h0 : L / w = 0
  · have z : nI L / nI w = 0 := by rw [e, h0]; rfl
    exact ⟨wz, br_t z ⟨wz, br_t z ⟨rfl, J⟩⟩⟩
  · have hpos : 0 < L / w := Nat.pos_of_ne_zero h0
    have z : ¬ nI L / nI w = 0 := by rw [e]; exact nI_ne0 hpos (by omega)
    have e2 : nI L / nI w - 1 = nI (L / w - 1) := by rw [e]; exact pk_sub (b := 1) hpos
    have hkk : (L / w - 1 + 1) * w ≤ 240 := by
      rw [Nat.sub_add_cancel hpos]
      exact Nat.le_trans (Nat.div_mul_le_self L w) hL
    obtain ⟨r, ro, sX, sY⟩ := ra_step c hb (nI L) q span rule tol room c hb (nI L) s span rule tol room m w (L / w - 1) w1 w6 hkk hm
    rw [← e2] at sX sY
    exact ⟨wz, br_f z (sX _ ⟨wz, br_f z (sY _ ⟨rfl, J⟩)⟩)⟩
/-- what a valid archive's number gives -/
def ra_P (w L a p rl rm : Nat) (span rule room m : Nat → Int32) : Prop := (1 ≤ w ∧ w ≤ 6 ∧ L ≤ 240 ∧ a < 2 ∧ 1 ≤ p ∧ p ≤ 4 ∧ rl < 4 ∧ rm ≤ 8) ∧ span a = nI p ∧ rule a = nI rl ∧ room a = nI rm ∧ ∀ i, ra_ok (m i)
section
variable (c hb q s : Int32) (span rule tol room m : Nat → Int32) (w L a p rl rm : Nat)
theorem ra_N240 (H : ra_P w L a p rl rm span rule room m) : L / w / p ≤ 240 := by
  obtain ⟨⟨_, _, hL, _⟩, _⟩ := H
  exact Nat.le_trans (Nat.div_le_self _ _) (Nat.le_trans (Nat.div_le_self _ _) hL)
theorem ra_eN (H : ra_P w L a p rl rm span rule room m) : nI L / nI w / span (nI a).toNatClampNeg = nI (L / w / p) := by
  obtain ⟨⟨w1, w6, hL, ha, p1, p4, _, _⟩, hS, _⟩ := H
  have hle : L / w ≤ L := Nat.div_le_self _ _
  rw [nI_clamp (by omega), hS, pk_div (by omega) w1 (by omega), pk_div (by omega) p1 (by omega)]
theorem ra_X_cr {post : Int32 → Prop} (H : ra_P w L a p rl rm span rule room m) (hp : post (nI (L / w / p))) : wpX_completeRows post (c, nI w, hb, nI L, q, span, rule, tol, room, m) (nI a) := by
  have e := ra_eN span rule room m w L a p rl rm H
  obtain ⟨⟨w1, w6, hL, ha, p1, p4, _, _⟩, hS, _⟩ := H
  have sz : ¬ span (nI a).toNatClampNeg = 0 := by rw [nI_clamp (by omega), hS]; exact nI_ne0 p1 (by omega)
  exact ⟨nI_ne0 w1 (by omega), vp_in_nI ha (by omega), sz, (congrArg post e).mpr hp⟩
theorem ra_Y_rw {post : Int32 → Prop} (H : ra_P w L a p rl rm span rule room m) (hp : post (nI (L / w / p))) : wpY_rows post (c, nI w, hb, nI L, s, span, rule, tol, room, m) (nI a) := by
  have e := ra_eN span rule room m w L a p rl rm H
  obtain ⟨⟨w1, w6, hL, ha, p1, p4, _, _⟩, hS, _⟩ := H
  have sz : ¬ span (nI a).toNatClampNeg = 0 := by rw [nI_clamp (by omega), hS]; exact nI_ne0 p1 (by omega)
  exact ra_arc ha ⟨nI_ne0 w1 (by omega), vp_in_nI ha (by omega), sz, (congrArg post e).mpr hp⟩
theorem ra_X_fk {post : Int32 → Prop} (H : ra_P w L a p rl rm span rule room m) (hp : post (nI (L / w / p - rm))) : wpX_firstKeptRow post (c, nI w, hb, nI L, q, span, rule, tol, room, m) (nI a) := by
  have hN := ra_N240 span rule room m w L a p rl rm H
  unfold wpX_firstKeptRow
  dsimp only
  refine ra_X_cr c hb q span rule tol room m w L a p rl rm H ?_
  obtain ⟨⟨w1, w6, hL, ha, p1, p4, _, hrm⟩, _, _, hM, _⟩ := H
  have e : nI (L / w / p) - room (nI a).toNatClampNeg = nI (L / w / p) - nI rm := by rw [nI_clamp (by omega), hM]
  refine ⟨vp_in_nI ha (by omega), nm_r e ?_⟩
  by_cases h : rm ≤ L / w / p
  · rw [pk_sub h]
    exact br_t (nI_pos' (by omega)) hp
  · have hz : L / w / p - rm = 0 := by omega
    rw [hz] at hp
    exact br_f (fun z => Int32.not_lt.mpr z (pk_sneg (by omega) (by omega))) hp
theorem ra_rv (H : ra_P w L a p rl rm span rule room m) (r : Nat) (hr : r < L / w / p) : ∃ v, ra_ok v ∧
      (∀ post : Int32 → Prop, post v → wpX_rowValue post (c, nI w, hb, nI L, q, span, rule, tol, room, m) (nI a) (nI r)) ∧
      (∀ post : Int32 → Prop, post v → wpY_made post (c, nI w, hb, nI L, s, span, rule, tol, room, m) (nI a) (nI r)) := by
  obtain ⟨⟨w1, w6, hL, ha, p1, p4, hrl, hrm⟩, hS, hR, hM, hm⟩ := H
  have a1 : (r + 1) * p ≤ L / w := Nat.le_trans (Nat.mul_le_mul_right p hr) (Nat.div_mul_le_self _ _)
  have a2 : (r * p + p) * w ≤ 240 := by
    rw [← Nat.succ_mul]
    exact Nat.le_trans (Nat.mul_le_mul_right w a1) (Nat.le_trans (Nat.div_mul_le_self _ _) hL)
  exact ra_row c hb (nI L) q span rule tol room c hb (nI L) s room m w a p rl r w1 w6 ha p1 p4 hrl hS hR a2 hm
theorem ra_and1 (ha : a < 2) : nI a &&& 1 = nI a := by
  have hc : a = 0 ∨ a = 1 := by omega
  rcases hc with rfl | rfl <;> decide
theorem ra_Y_neg {post : Int32 → Prop} (H : ra_P w L a p rl rm span rule room m) (x : Int32) (hx : x < 0) (hp : post (-200000)) : wpY_row post (c, nI w, hb, nI L, s, span, rule, tol, room, m) (nI a) x :=
  ra_Y_rw c hb s span rule tol room m w L a p rl rm H (br_t hx hp)
theorem ra_Y_hi {post : Int32 → Prop} (H : ra_P w L a p rl rm span rule room m) (r : Nat) (hr : L / w / p ≤ r) (h31 : r < 2 ^ 31) (hp : post (-200000)) : wpY_row post (c, nI w, hb, nI L, s, span, rule, tol, room, m) (nI a) (nI r) :=
  ra_Y_rw c hb s span rule tol room m w L a p rl rm H (br_f (nI_pos h31) (br_t (nI_le hr h31) hp))
theorem ra_Y_old {post : Int32 → Prop} (H : ra_P w L a p rl rm span rule room m) (r : Nat) (hr : r < L / w / p - rm) (hp : post (-200000)) : wpY_row post (c, nI w, hb, nI L, s, span, rule, tol, room, m) (nI a) (nI r) := by
  have hN := ra_N240 span rule room m w L a p rl rm H
  refine ra_Y_rw c hb s span rule tol room m w L a p rl rm H (br_f (nI_pos (by omega)) (br_f (nI_ge (by omega) (by omega)) ?_))
  obtain ⟨⟨w1, w6, hL, ha, p1, p4, hrl, hrm⟩, hS, hR, hM, hm⟩ := H
  rw [ra_and1 a ha, nI_clamp (by omega), hM, pk_sub (by omega)]
  exact ⟨vp_in_nI ha (by omega), br_f (nI_ge hr (by omega)) hp⟩
theorem ra_Y_kept {post : Int32 → Prop} (H : ra_P w L a p rl rm span rule room m) (r : Nat) (h1 : L / w / p - rm ≤ r) (h2 : r < L / w / p) (hp : wpY_made post (c, nI w, hb, nI L, s, span, rule, tol, room, m) (nI a) (nI r)) : wpY_row post (c, nI w, hb, nI L, s, span, rule, tol, room, m) (nI a) (nI r) := by
  have hN := ra_N240 span rule room m w L a p rl rm H
  refine ra_Y_rw c hb s span rule tol room m w L a p rl rm H (br_f (nI_pos (by omega)) (br_f (nI_ge (by omega) (by omega)) ?_))
  obtain ⟨⟨w1, w6, hL, ha, p1, p4, hrl, hrm⟩, hS, hR, hM, hm⟩ := H
  rw [ra_and1 a ha, nI_clamp (by omega), hM]
  refine ⟨vp_in_nI ha (by omega), br_t ?_ hp⟩
  by_cases h : rm ≤ L / w / p
  · rw [pk_sub h]; exact nI_le h1 (by omega)
  · exact Int32.le_trans (Int32.le_of_lt (pk_sneg (by omega) (by omega))) (nI_pos' (by omega))
end
theorem ra_PI {c q s : Int32} {w L : Nat} {span rule room m : Nat → Int32} (I : ra_I c q s w L span rule room m) {a : Nat} (ha : a < 2) : ∃ p rl rm, ra_P w L a p rl rm span rule room m := by
  obtain ⟨⟨w1, w6, hL⟩, _, hA, hm⟩ := I
  obtain ⟨p, rl, rm, p1, p4, hS, hrl, hR, hrm, hM⟩ := hA a ha
  exact ⟨p, rl, rm, ⟨w1, w6, hL, ha, p1, p4, hrl, hrm⟩, hS, hR, hM, hm⟩
theorem i_vc_rows {k : Nat} {u : SX} {v : SY} (I : i_Rel k u v) (hk : k + 3 ≤ 1539) (v1 : Int32) : wpX_rows (fun r => wpY_rows (fun r' => r' = r ∧ i_Rel (k + 3) u v) v v1) u v1 := by
  have J := i_up I
  obtain ⟨c, hb, q, s, w, L, span, rule, tol, room, m, rfl, rfl, HI⟩ := I
  unfold wpX_rows
  dsimp only
  rcases pk_ix v1 (n := 2) (by omega) with h | h | ⟨a, ha, rfl⟩
  · exact ra_X_na (Or.inl h) (br_t rfl (ra_nar (Or.inl h) ⟨rfl, J⟩))
  · exact ra_X_na (Or.inr h) (br_t rfl (ra_nar (Or.inr h) ⟨rfl, J⟩))
  · obtain ⟨p, rl, rm, H⟩ := ra_PI HI ha
    exact ra_X_ar ha (br_f (by decide) (ra_X_cr c hb q span rule tol room m w L a p rl rm H (ra_Y_rw c hb s span rule tol room m w L a p rl rm H ⟨rfl, J⟩)))
theorem i_vc_row {k : Nat} {u : SX} {v : SY} (I : i_Rel k u v) (hk : k + 3 ≤ 1539) (v1 : Int32) (v2 : Int32) : wpX_row (fun r => wpY_row (fun r' => r' = r ∧ i_Rel (k + 3) u v) v v1 v2) u v1 v2 := by
  have J := i_up I
  obtain ⟨c, hb, q, s, w, L, span, rule, tol, room, m, rfl, rfl, HI⟩ := I
  have bad : (v1 < 0 ∨ nI 2 ≤ v1) → wpY_row (fun r' => r' = -200000 ∧ i_Rel (k + 3) (c, nI w, hb, nI L, q, span, rule, tol, room, m) (c, nI w, hb, nI L, s, span, rule, tol, room, m)) (c, nI w, hb, nI L, s, span, rule, tol, room, m) v1 v2 := by
    intro h
    refine ra_nar h ?_
    by_cases h0 : v2 < 0
    · exact br_t h0 ⟨rfl, J⟩
    · exact br_f h0 (br_t (Int32.not_lt.mp h0) ⟨rfl, J⟩)
  unfold wpX_row
  dsimp only
  rcases pk_ix v1 (n := 2) (by omega) with h | h | ⟨a, ha, rfl⟩
  · exact ra_X_na (Or.inl h) (br_t rfl (bad (Or.inl h)))
  · exact ra_X_na (Or.inr h) (br_t rfl (bad (Or.inr h)))
  · obtain ⟨p, rl, rm, H⟩ := ra_PI HI ha
    have hN := ra_N240 span rule room m w L a p rl rm H
    refine ra_X_ar ha (br_f (by decide) (ra_X_fk c hb q span rule tol room m w L a p rl rm H ?_))
    by_cases h0 : v2 < 0
    · exact br_t (Int32.lt_of_lt_of_le h0 (nI_pos' (by omega))) (ra_Y_neg c hb s span rule tol room m w L a p rl rm H v2 h0 ⟨rfl, J⟩)
    · obtain ⟨r, h31, rfl⟩ := nI_of h0
      by_cases h1 : r < L / w / p - rm
      · exact br_t (nI_lt h1 (by omega)) (ra_Y_old c hb s span rule tol room m w L a p rl rm H r h1 ⟨rfl, J⟩)
      · refine br_f (nI_nlt (by omega) (by omega)) (ra_X_cr c hb q span rule tol room m w L a p rl rm H ?_)
        by_cases h2 : r < L / w / p
        · obtain ⟨x, _, sX, sY⟩ := ra_rv c hb q s span rule tol room m w L a p rl rm H r h2
          exact br_t (nI_lt h2 (by omega)) (sX _ (ra_Y_kept c hb s span rule tol room m w L a p rl rm H r (by omega) h2 (sY _ ⟨rfl, J⟩)))
        · exact br_f (nI_nlt (by omega) (by omega)) (ra_Y_hi c hb s span rule tol room m w L a p rl rm H r (by omega) h31 ⟨rfl, J⟩)
