/-- what the moments hold when an update has written those behind moment L, from the j-th on, d of them -/
def ra_fill (g : Nat → Int32) (L : Nat) : Nat → Nat → (Nat → Int32) → (Nat → Int32)
  | 0, _, m => m
  | d + 1, j, m => ra_fill g L d (j + 1) (upd m (L + j) (g j))
theorem ra_fill_ok (g : Nat → Int32) (L P : Nat) : ∀ d j : Nat, ∀ m : Nat → Int32, j + d = P + 1 → 1 ≤ j → (∀ i, 1 ≤ i → i ≤ P → ra_ok (g i)) → (∀ i, ra_ok (m i)) → ∀ i, ra_ok (ra_fill g L d j m i) := by
  intro d
  induction d with
  | zero => intro j m _ _ _ hm; exact hm
  | succ d ih =>
    intro j m hj h1 hg hm
    refine ih (j + 1) _ (by omega) (by omega) hg ?_
    intro i
    unfold upd
    split
    · exact hg j h1 (by omega)
    · exact hm i
def ra_sh (x : Int32) (P i : Nat) : Int32 := ((x * nI i) / nI P) - ((x * (nI i - 1)) / nI P)
def ra_g (c hb v x : Int32) (P i : Nat) : Int32 := if nI P ≤ hb then (if c = 0 then v else ra_sh x P i) else -100000
def ra_fit (c v : Int32) : Int32 := if c = 0 then (if v < -1000 then 0 else if 1000 < v then 0 else 1) else (if v < 0 then 0 else if 255 < v then 0 else 1)
theorem ra_sh_ok {d P i : Nat} (hd : d < 256) (hP : P ≤ 240) (h1 : 1 ≤ i) (hi : i ≤ P) : ra_ok (ra_sh (nI d) P i) := by
  have a1 : d * i ≤ 255 * 240 := Nat.mul_le_mul (by omega) (by omega)
  have a2 : d * (i - 1) ≤ 255 * 240 := Nat.mul_le_mul (by omega) (by omega)
  have b1 : d * i / P ≤ d := by
    have h := Nat.div_le_div_right (c := P) (Nat.mul_le_mul_left d hi)
    rw [Nat.mul_div_cancel d (by omega)] at h
    exact h
  have b2 : d * (i - 1) / P ≤ d * i / P := Nat.div_le_div_right (Nat.mul_le_mul_left d (by omega))
  have e : nI i - 1 = nI (i - 1) := pk_sub (b := 1) h1
  refine Or.inr ?_
  unfold ra_sh
  rw [e, pk_mul, pk_mul, pk_div (by omega) (by omega) (by omega), pk_div (by omega) (by omega) (by omega), pk_sub b2]
  exact ra_bdN (Nat.le_trans (Nat.le_trans (Nat.sub_le _ _) b1) (by omega)) (by omega)
theorem ra_turn {v q : Nat} (hv : v < 256) (hq : q < 256) : ∃ d, d < 256 ∧ ((nI v - nI q) + 256) - ((nI v - nI q) + 256) / 256 * 256 = nI d := by
  have e : (nI v - nI q) + 256 = nI (v + 256 - q) := by
    rw [← pk_sub (by omega : q ≤ v + 256), ← nI_add]
    have z : nI 256 = 256 := rfl
    rw [z]
    grind
  rw [e]
  exact ⟨_, Nat.mod_lt _ (by decide), pk_rem (d := 256) (by omega) (by decide) (by decide)⟩
section
variable (c wd hb q s : Int32) (span rule tol room : Nat → Int32)
theorem ra_X_f7 (post : SX → Prop) (l : Int32) (t L : Nat) (v : Int32) (ht : t ≤ 240) (g : Nat → Int32) : ∀ d j : Nat, ∀ m : Nat → Int32, L + j + d = t + 1 → (∀ i, j ≤ i → L + i ≤ t → g i = v) →
    post (c, wd, hb, l, q, span, rule, tol, room, ra_fill g L d j m) → wX_fillUpTo_7 post (nI t) v c wd hb l q (d + 1) (nI (L + j)) span rule tol room m := by
  intro d
  induction d with
  | zero =>
    intro j m hj _ hp
    exact br_t (nI_lt (by omega) (by omega)) hp
  | succ d ih =>
    intro j m hj hg hp
    have e : upd m (nI (L + j)).toNatClampNeg v = upd m (L + j) (g j) := by rw [nI_clamp (by omega), hg j (Nat.le_refl j) (by omega)]
    exact br_f (nI_nlt (by omega) (by omega)) ⟨vp_in_nI (by omega) (by omega), nm_r e (nm_r (nI_1 (L + j)) (ih (j + 1) _ (by omega) (fun i h1 h2 => hg i (by omega) h2) hp))⟩
theorem ra_X_f (post : SX → Prop) (t L : Nat) (v : Int32) (hL : L < t) (ht : t ≤ 240) (g : Nat → Int32) (m : Nat → Int32) (hg : ∀ i, 1 ≤ i → i ≤ t - L → g i = v)
    (hp : post (c, wd, hb, nI L, q, span, rule, tol, room, ra_fill g L (t - L) 1 m)) : wpX_fillUpTo post (c, wd, hb, nI L, q, span, rule, tol, room, m) (nI t) v :=
  nm_r (nI_1 L) ⟨t - L + 1, ra_X_f7 c wd hb q span rule tol room post (nI L) t L v ht g (t - L) 1 m (by omega) (fun i h1 h2 => hg i h1 (by omega)) hp⟩
theorem ra_X_s26 (post : SX → Prop) (L P : Nat) (x : Int32) (hL : L + P ≤ 240) (g : Nat → Int32) : ∀ d j : Nat, ∀ m : Nat → Int32, j + d = P + 1 → 1 ≤ j → (∀ i, j ≤ i → i ≤ P → g i = ra_sh x P i) →
    post (c, wd, hb, nI L, q, span, rule, tol, room, ra_fill g L d j m) → wX_spreadUpTo_26 post x (nI P) c wd hb (nI L) q (d + 1) (nI j) span rule tol room m := by
  intro d
  induction d with
  | zero =>
    intro j m hj _ _ hp
    exact br_t (nI_lt (by omega) (by omega)) hp
  | succ d ih =>
    intro j m hj h1 hg hp
    have pz : ¬ nI P = 0 := nI_ne0 (by omega) (by omega)
    have e : upd m (nI L + nI j).toNatClampNeg (((x * nI j) / nI P) - ((x * (nI j - 1)) / nI P)) = upd m (L + j) (g j) := by
      rw [nI_add, nI_clamp (by omega), hg j (Nat.le_refl j) (by omega)]; rfl
    have vi : vp_in (nI L + nI j) 241 := by rw [nI_add]; exact vp_in_nI (by omega) (by omega)
    exact br_f (nI_nlt (by omega) (by omega)) ⟨pz, pz, vi, nm_r e (nm_r (nI_1 j) (ih (j + 1) _ (by omega) (by omega) (fun i h1 h2 => hg i (by omega) h2) hp))⟩
theorem ra_X_s (post : SX → Prop) (t L : Nat) (v : Int32) (hL : L < t) (ht : t ≤ 240) (g : Nat → Int32) (m : Nat → Int32)
    (hg : ∀ i, 1 ≤ i → i ≤ t - L → g i = ra_sh (((v - q) + 256) - ((v - q) + 256) / 256 * 256) (t - L) i)
    (hp : post (c, wd, hb, nI L, q, span, rule, tol, room, ra_fill g L (t - L) 1 m)) : wpX_spreadUpTo post (c, wd, hb, nI L, q, span, rule, tol, room, m) (nI t) v :=
  ⟨by decide, nm_e (nm_r (pk_sub (by omega)) ⟨t - L + 1, ra_X_s26 c wd hb q span rule tol room post L (t - L) _ (by omega) g (t - L) 1 m (by omega) (by omega) hg hp⟩)⟩
theorem ra_X_fit (post : Int32 → Prop) (l : Int32) (m : Nat → Int32) (v : Int32) (hp : post (ra_fit c v)) : wpX_isInRange post (c, wd, hb, l, q, span, rule, tol, room, m) v := by
  unfold ra_fit at hp
  by_cases hc : c = 0
  · rw [if_pos hc] at hp
    refine br_t hc ?_
    by_cases h1 : v < -1000
    · rw [if_pos h1] at hp; exact br_t h1 hp
    · rw [if_neg h1] at hp
      by_cases h2 : 1000 < v
      · rw [if_pos h2] at hp; exact br_f h1 (br_t h2 hp)
      · rw [if_neg h2] at hp; exact br_f h1 (br_f h2 hp)
  · rw [if_neg hc] at hp
    refine br_f hc ?_
    have hi : 256 ≤ v ↔ 255 < v := by
      rw [Int32.le_iff_toInt_le, Int32.lt_iff_toInt_lt, show (256 : Int32).toInt = 256 from by decide, show (255 : Int32).toInt = 255 from by decide]
      omega
    by_cases h1 : v < 0
    · rw [if_pos h1] at hp; exact br_t h1 hp
    · rw [if_neg h1] at hp
      by_cases h2 : 255 < v
      · rw [if_pos h2] at hp; exact br_f h1 (br_t (hi.mpr h2) hp)
      · rw [if_neg h2] at hp; exact br_f h1 (br_f (fun z => h2 (hi.mp z)) hp)
theorem ra_Y_fit (post : Int32 → SY → Prop) (l : Int32) (m : Nat → Int32) (t v : Int32) (hp : wY_update_45 post t v (ra_fit c v) c wd hb l s span rule tol room m) : wpY_update post (c, wd, hb, l, s, span, rule, tol, room, m) t v := by
  unfold ra_fit at hp
  by_cases hc : c = 0
  · rw [if_pos hc] at hp
    refine br_t hc ?_
    by_cases h1 : v < -1000
    · rw [if_pos h1] at hp; exact br_t h1 hp
    · rw [if_neg h1] at hp
      by_cases h2 : 1000 < v
      · rw [if_pos h2] at hp; exact br_f h1 (br_t h2 hp)
      · rw [if_neg h2] at hp; exact br_f h1 (br_f h2 hp)
  · rw [if_neg hc] at hp
    refine br_f hc ?_
    by_cases h1 : v < 0
    · rw [if_pos h1] at hp; exact br_t h1 hp
    · rw [if_neg h1] at hp
      by_cases h2 : 255 < v
      · rw [if_pos h2] at hp; exact br_f h1 (br_t h2 hp)
      · rw [if_neg h2] at hp; exact br_f h1 (br_f h2 hp)
theorem ra_X_no (post : Int32 → SX → Prop) (l : Int32) (m : Nat → Int32) (t v : Int32) (h : t ≤ l ∨ 240 < t ∨ ra_fit c v = 0)
    (hp : post 0 (c, wd, hb, l, q, span, rule, tol, room, m)) : wpX_update post (c, wd, hb, l, q, span, rule, tol, room, m) t v := by
  by_cases h1 : t ≤ l
  · exact br_t h1 hp
  · by_cases h2 : 240 < t
    · exact br_f h1 (br_t h2 hp)
    · exact br_f h1 (br_f h2 (ra_X_fit c wd hb q span rule tol room _ l m v (br_t ((h.resolve_left h1).resolve_left h2) hp)))
theorem ra_Y_no (post : Int32 → SY → Prop) (l : Int32) (m : Nat → Int32) (t v : Int32) (h : t ≤ l ∨ 240 < t ∨ ra_fit c v = 0)
    (hp : post 0 (c, wd, hb, l, s, span, rule, tol, room, m)) : wpY_update post (c, wd, hb, l, s, span, rule, tol, room, m) t v := by
  refine ra_Y_fit c wd hb s span rule tol room post l m t v ?_
  by_cases h0 : t < 1
  · exact br_t h0 hp
  · by_cases h2 : 240 < t
    · exact br_f h0 (br_t h2 hp)
    · by_cases h1 : t ≤ l
      · exact br_f h0 (br_f h2 (br_t h1 hp))
      · exact br_f h0 (br_f h2 (br_f h1 (br_t ((h.resolve_left h1).resolve_left h2) hp)))
theorem ra_X_up (post : Int32 → SX → Prop) (t L : Nat) (v : Int32) (m : Nat → Int32) (hL : L < t) (ht : t ≤ 240) (hf : ¬ ra_fit c v = 0)
    (hp : post 1 (c, wd, hb, nI t, v, span, rule, tol, room, ra_fill (ra_g c hb v (((v - q) + 256) - ((v - q) + 256) / 256 * 256) (t - L)) L (t - L) 1 m)) :
    wpX_update post (c, wd, hb, nI L, q, span, rule, tol, room, m) (nI t) v := by
  refine br_f (nI_ge hL (by omega)) (br_f (nI_nlt (a := 240) ht (by omega)) (ra_X_fit c wd hb q span rule tol room _ (nI L) m v (br_f hf ?_)))
  have es : nI t - nI L = nI (t - L) := pk_sub (by omega)
  by_cases hP : nI (t - L) ≤ hb
  · refine br_t (by rw [es]; exact hP) ?_
    by_cases hc : c = 0
    · refine br_t hc (ra_X_f c wd hb q span rule tol room _ t L v hL ht _ m (fun i _ _ => ?_) hp)
      unfold ra_g
      rw [if_pos hP, if_pos hc]
    · refine br_f hc (ra_X_s c wd hb q span rule tol room _ t L v hL ht _ m (fun i _ _ => ?_) hp)
      unfold ra_g
      rw [if_pos hP, if_neg hc]
  · refine br_f (by rw [es]; exact hP) (ra_X_f c wd hb q span rule tol room _ t L (-100000) hL ht _ m (fun i _ _ => ?_) hp)
    unfold ra_g
    rw [if_neg hP]
theorem ra_Y_136 (post : Int32 → SY → Prop) (J : Int32 → (Nat → Int32) → (Nat → Int32) → (Nat → Int32) → (Nat → Int32) → (Nat → Int32) → Prop) (x1 x2 x4 x5 z : Int32) (L j : Nat) (m : Nat → Int32) (hj : L + j ≤ 240)
    (h : J (nI (j + 1)) span rule tol room (upd m (L + j) (if x4 ≤ hb then z else -100000))) : wY_update_136 post J x1 x2 x4 x5 (nI j) z c wd hb (nI L) s span rule tol room m := by
  have vi : vp_in (nI L + nI j) 241 := by rw [nI_add]; exact vp_in_nI (by omega) (by omega)
  have e : (nI L + nI j).toNatClampNeg = L + j := by rw [nI_add]; exact nI_clamp (by omega)
  by_cases hx : x4 ≤ hb
  · rw [if_pos hx] at h
    exact br_t hx ⟨vi, nm_r (congrArg (fun k => upd m k z) e) (nm_r (nI_1 j) h)⟩
  · rw [if_neg hx] at h
    exact br_f hx ⟨vi, nm_r (congrArg (fun k => upd m k (-100000)) e) (nm_r (nI_1 j) h)⟩
theorem ra_Y_99 (post : Int32 → SY → Prop) (t v x : Int32) (L P : Nat) (hL : L + P ≤ 240) : ∀ d j : Nat, ∀ m : Nat → Int32, j + d = P + 1 → 1 ≤ j →
    post 1 (c, wd, hb, t, (if c = 0 then 0 else v), span, rule, tol, room, ra_fill (ra_g c hb v x P) L d j m) → wY_update_99 post t v (nI P) x c wd hb (nI L) s (d + 1) (nI j) span rule tol room m := by
  intro d
  induction d with
  | zero =>
    intro j m hj _ hp
    refine br_t (nI_lt (by omega) (by omega)) ?_
    by_cases hc : c = 0
    · rw [if_pos hc] at hp; exact br_t hc hp
    · rw [if_neg hc] at hp; exact br_f hc hp
  | succ d ih =>
    intro j m hj h1 hp
    have h := ih (j + 1) _ (by omega) (by omega) hp
    refine br_f (nI_nlt (by omega) (by omega)) ?_
    have pz : ¬ nI P = 0 := nI_ne0 (by omega) (by omega)
    by_cases hc : c = 0
    · refine br_t hc (ra_Y_136 c wd hb s span rule tol room post _ t v (nI P) x v L j m (by omega) ?_)
      unfold ra_g at h
      rw [if_pos hc] at h
      exact h
    · refine br_f hc ⟨pz, pz, ra_Y_136 c wd hb s span rule tol room post _ t v (nI P) x _ L j m (by omega) ?_⟩
      unfold ra_g at h
      rw [if_neg hc] at h
      exact h
theorem ra_Y_up (post : Int32 → SY → Prop) (t L : Nat) (v : Int32) (m : Nat → Int32) (hL : L < t) (ht : t ≤ 240) (hf : ¬ ra_fit c v = 0)
    (hp : post 1 (c, wd, hb, nI t, (if c = 0 then 0 else v), span, rule, tol, room, ra_fill (ra_g c hb v (((v - s) + 256) - ((v - s) + 256) / 256 * 256) (t - L)) L (t - L) 1 m)) :
    wpY_update post (c, wd, hb, nI L, s, span, rule, tol, room, m) (nI t) v := by
  refine ra_Y_fit c wd hb s span rule tol room post (nI L) m (nI t) v ?_
  refine br_f (nI_nlt (b := 1) (by omega) (by omega)) (br_f (nI_nlt (a := 240) ht (by omega)) (br_f (nI_ge hL (by omega)) (br_f hf ?_)))
  exact nm_r (pk_sub (by omega)) ⟨by decide, nm_e ⟨t - L + 1, ra_Y_99 c wd hb s span rule tol room post (nI t) v _ L (t - L) (by omega) (t - L) 1 m (by omega) (by omega) hp⟩⟩
theorem ra_fit_bd {v : Int32} (hc : c = 0) (hf : ¬ ra_fit c v = 0) : ra_bd v 1 := by
  unfold ra_fit at hf
  rw [if_pos hc] at hf
  by_cases h1 : v < -1000
  · rw [if_pos h1] at hf; exact absurd rfl hf
  · by_cases h2 : 1000 < v
    · rw [if_neg h1, if_pos h2] at hf; exact absurd rfl hf
    · rw [Int32.lt_iff_toInt_lt, show (-1000 : Int32).toInt = -1000 from by decide] at h1
      rw [Int32.lt_iff_toInt_lt, show (1000 : Int32).toInt = 1000 from by decide] at h2
      unfold ra_bd
      omega
theorem ra_fit_n {v : Int32} (hc : ¬ c = 0) (hf : ¬ ra_fit c v = 0) : ∃ j, j < 256 ∧ v = nI j := by
  unfold ra_fit at hf
  rw [if_neg hc] at hf
  by_cases h1 : v < 0
  · rw [if_pos h1] at hf; exact absurd rfl hf
  · by_cases h2 : 255 < v
    · rw [if_neg h1, if_pos h2] at hf; exact absurd rfl hf
    · obtain ⟨j, hj, rfl⟩ := nI_of h1
      exact ⟨j, Nat.lt_of_not_le (fun z => h2 (nI_lt (a := 255) (by omega) hj)), rfl⟩
end
