theorem i_vc_peak {k : Nat} {u : SX} {v : SY} (I : i_Rel k u v) (hk : k + 3 ≤ 1539) (v1 : Int32) : wpX_peak (fun r => wpY_peak (fun r' => r' = r ∧ i_Rel (k + 3) u v) v v1) u v1 := by
  have J := i_up I
  obtain ⟨c, hb, q, s, w, L, span, rule, tol, room, m, rfl, rfl, HI⟩ := I
  unfold wpX_peak
  dsimp only
  rcases pk_ix v1 (n := 2) (by omega) with h | h | ⟨a, ha, rfl⟩
  · exact ra_X_na (Or.inl h) (br_t rfl (ra_nar (Or.inl h) ⟨rfl, J⟩))
  · exact ra_X_na (Or.inr h) (br_t rfl (ra_nar (Or.inr h) ⟨rfl, J⟩))
  · obtain ⟨p, rl, rm, H⟩ := ra_PI HI ha
    obtain ⟨x, hX, hY⟩ := ra_pk c hb q s span rule tol room m w L a p rl rm H (L / w / p - (L / w / p - rm)) (L / w / p - rm) (-100000) (Nat.add_sub_of_le (Nat.sub_le _ _)) (Nat.le_refl _)
    refine ra_X_ar ha (br_f (by decide) (ra_X_cr c hb q span rule tol room m w L a p rl rm H (ra_X_fk c hb q span rule tol room m w L a p rl rm H ⟨_, hX _ ?_⟩)))
    refine ra_arc ha ?_
    unfold wY_peak_12
    exact ra_Y_rw c hb s span rule tol room m w L a p rl rm H ⟨_, ra_pks c hb s span rule tol room m w L a p rl rm H _ _ (hY _ ⟨rfl, J⟩) (L / w / p - rm) 0 (by omega)⟩
theorem i_vc_known {k : Nat} {u : SX} {v : SY} (I : i_Rel k u v) (hk : k + 3 ≤ 1539) (v1 : Int32) : wpX_known (fun r => wpY_known (fun r' => r' = r ∧ i_Rel (k + 3) u v) v v1) u v1 := by
  have J := i_up I
  obtain ⟨c, hb, q, s, w, L, span, rule, tol, room, m, rfl, rfl, HI⟩ := I
  unfold wpX_known wpY_known
  dsimp only
  rcases pk_ix v1 (n := 2) (by omega) with h | h | ⟨a, ha, rfl⟩
  · exact ra_X_na (Or.inl h) (br_t rfl (ra_nar (Or.inl h) ⟨1, br_t (by decide) ⟨rfl, J⟩⟩))
  · exact ra_X_na (Or.inr h) (br_t rfl (ra_nar (Or.inr h) ⟨1, br_t (by decide) ⟨rfl, J⟩⟩))
  · obtain ⟨p, rl, rm, H⟩ := ra_PI HI ha
    obtain ⟨x, hX, hY⟩ := ra_kn c hb q s span rule tol room m w L a p rl rm H (L / w / p - (L / w / p - rm)) (L / w / p - rm) 0 (Nat.add_sub_of_le (Nat.sub_le _ _)) (Nat.le_refl _)
    refine ra_X_ar ha (br_f (by decide) (ra_X_cr c hb q span rule tol room m w L a p rl rm H (ra_X_fk c hb q span rule tol room m w L a p rl rm H ⟨_, hX _ ?_⟩)))
    exact ra_Y_rw c hb s span rule tol room m w L a p rl rm H ⟨_, ra_kns c hb s span rule tol room m w L a p rl rm H _ _ (hY _ ⟨rfl, J⟩) (L / w / p - rm) 0 (by omega)⟩
