/-- a row's value by its rule, on X's side -/
def ra_jn (rl : Nat) (x v : Int32) : Int32 := if rl = 1 then (if x ≤ v then x else v) else if rl = 2 then (if v ≤ x then x else v) else if rl = 3 then v else x + v
def ra_lo (x v : Int32) : Int32 := if x ≤ v then x else v
def ra_hi (x v : Int32) : Int32 := if v ≤ x then x else v
theorem ra_lo_bd {x v : Int32} (hx : ra_bd x 1) (hv : ra_bd v 1) : ra_bd (ra_lo x v) 1 := by
  unfold ra_lo
  split <;> assumption
theorem ra_hi_bd {x v : Int32} (hx : ra_bd x 1) (hv : ra_bd v 1) : ra_bd (ra_hi x v) 1 := by
  unfold ra_hi
  split <;> assumption
theorem ra_X_jn {post : Int32 → Prop} {rl : Nat} {x v : Int32} (hr : rl < 4) (hp : post (ra_jn rl x v)) : wpX_joined post (nI rl) x v := by
  have hc : rl = 0 ∨ rl = 1 ∨ rl = 2 ∨ rl = 3 := by omega
  rcases hc with rfl | rfl | rfl | rfl
  · exact br_f (by decide) (br_f (by decide) (br_f (by decide) hp))
  · refine br_t rfl ?_
    replace hp : post (ra_lo x v) := hp
    unfold ra_lo at hp
    by_cases h : x ≤ v
    · rw [if_pos h] at hp; exact br_t h hp
    · rw [if_neg h] at hp; exact br_f h hp
  · refine br_f (by decide) (br_t rfl ?_)
    replace hp : post (ra_hi x v) := hp
    unfold ra_hi at hp
    by_cases h : v ≤ x
    · rw [if_pos h] at hp; exact br_t h hp
    · rw [if_neg h] at hp; exact br_f h hp
  · exact br_f (by decide) (br_f (by decide) (br_t rfl hp))
/-- what X's joint and Y's four results have to do with each other after n known steps -/
def ra_K (rl n : Nat) (xj ys lo hi en : Int32) : Prop := (n = 0 → ys = 0) ∧ ra_bd ys n ∧
  (0 < n → ra_bd lo 1 ∧ ra_bd hi 1 ∧ ra_bd en 1 ∧ (rl = 0 → xj = ys) ∧ (rl = 1 → xj = lo) ∧ (rl = 2 → xj = hi) ∧ (rl = 3 → xj = en))
theorem ra_K0 (rl : Nat) : ra_K rl 0 0 0 0 0 0 := ⟨fun _ => rfl, ra_bd0, fun h => absurd h (by decide)⟩
theorem ra_K1 {rl : Nat} {xj ys lo hi en v : Int32} (h : ra_K rl 0 xj ys lo hi en) (hv : ra_bd v 1) : ra_K rl 1 v (ys + v) v v v := by
  have e : ys = 0 := h.1 rfl
  subst e
  exact ⟨fun z => absurd z (by decide), ra_bd_add (by omega) h.2.1 hv, fun _ => ⟨hv, hv, hv, fun _ => (Int32.zero_add v).symm, fun _ => rfl, fun _ => rfl, fun _ => rfl⟩⟩
theorem ra_Kn {rl n : Nat} {xj ys lo hi en v : Int32} (n0 : 0 < n) (hn : n ≤ 4) (h : ra_K rl n xj ys lo hi en) (hv : ra_bd v 1) : ra_K rl (n + 1) (ra_jn rl xj v) (ys + v) (ra_lo lo v) (ra_hi hi v) v := by
  obtain ⟨h1, h2, h3⟩ := h
  obtain ⟨bl, bh, be, k0, k1, k2, k3⟩ := h3 n0
  refine ⟨fun z => absurd z (by omega), ra_bd_add (by omega) h2 hv, fun _ => ⟨ra_lo_bd bl hv, ra_hi_bd bh hv, hv, ?_, ?_, ?_, ?_⟩⟩
  · intro e; subst e; rw [k0 rfl]; rfl
  · intro e; subst e; rw [k1 rfl]; rfl
  · intro e; subst e; rw [k2 rfl]; rfl
  · intro e; subst e; rfl
section
variable (c hb l q : Int32) (span rule tol room : Nat → Int32) (c' hb' l' s' : Int32) (room' : Nat → Int32) (m : Nat → Int32)
/-- Y's three choices behind a known step -/
theorem ra_Y_m1 {post : Int32 → Prop} {J : Int32 → Int32 → Int32 → Int32 → Int32 → Int32 → Prop} (x1 x2 wd x4 x6 v : Int32) (e : Nat) (h : J (nI 1) (x4 + v) v v v (nI (e + 1))) :
    wY_made_65 post J x1 x2 (nI 0) x4 x6 (nI e) v c' wd hb' l' s' span rule tol room' m :=
  br_t rfl (nm_e (nm_r (nI_1 0) (nm_r (nI_1 e) h)))
theorem ra_Y_mn {post : Int32 → Prop} {J : Int32 → Int32 → Int32 → Int32 → Int32 → Int32 → Prop} (x1 x2 wd x4 x6 v z : Int32) (n e : Nat) (n0 : 0 < n) (hn : n < 10) (h : J (nI (n + 1)) (x4 + v) z (ra_hi x6 v) v (nI (e + 1))) :
    wY_made_72 post J x1 x2 (nI n) x4 x6 (nI e) v z c' wd hb' l' s' span rule tol room' m := by
  refine br_f (nI_ne0 n0 (by omega)) ?_
  unfold ra_hi at h
  by_cases hv : v ≤ x6
  · rw [if_pos hv] at h; exact br_t hv (nm_e (nm_r (nI_1 n) (nm_r (nI_1 e) h)))
  · rw [if_neg hv] at h; exact br_f hv (nm_e (nm_r (nI_1 n) (nm_r (nI_1 e) h)))
theorem ra_md (w a p rl r : Nat) (hw1 : 1 ≤ w) (hw : w ≤ 6) (ha : a < 2) (hp1 : 1 ≤ p) (hp4 : p ≤ 4) (hrl : rl < 4) (hS : span a = nI p) (hR : rule a = nI rl)
    (hk : (r * p + p) * w ≤ 240) (hm : ∀ i, ra_ok (m i)) :
    ∀ d i n : Nat, ∀ xj ys lo hi en : Int32, i + d = p → n ≤ i → ra_K rl n xj ys lo hi en → ∃ v, ra_ok v ∧
      (∀ post : Int32 → Prop, post v → wX_rowValue_18 post (nI a) (nI (r * p)) c (nI w) hb l q span rule tol room m (d + 1) xj (nI n) (nI i)) ∧
      (∀ post : Int32 → Prop, post v → wY_made_24 post (nI a) (nI r) c' (nI w) hb' l' s' span rule tol room' m (d + 1) (nI n) ys lo hi en (nI (r * p + i))) := by
  have ea : (nI a).toNatClampNeg = a := nI_clamp (by omega)
  have va : vp_in (nI a) 2 := vp_in_nI ha (by omega)
  have hS' : span (nI a).toNatClampNeg = nI p := by rw [ea]; exact hS
  have hR' : rule (nI a).toNatClampNeg = nI rl := by rw [ea]; exact hR
  have e1 : (nI r + 1) * span (nI a).toNatClampNeg = nI (r * p + p) := by rw [hS', nI_1, pk_mul, Nat.succ_mul]
  have hrp : r * p + p ≤ 240 := Nat.le_trans (Nat.le_mul_of_pos_right _ hw1) hk
  intro d
  induction d with
  | zero =>
    intro i n xj ys lo hi en hi' hn hK
    have hip : i = p := by omega
    subst hip
    have hX0 : span (nI a).toNatClampNeg ≤ nI i := by rw [hS']; exact nI_le (Nat.le_refl i) (by omega)
    have hY0 : (nI r + 1) * span (nI a).toNatClampNeg ≤ nI (r * i + i) := by rw [e1]; exact nI_le (Nat.le_refl _) (by omega)
    by_cases n0 : n = 0
    · subst n0
      exact ⟨-100000, Or.inl rfl, fun post hp => ⟨va, br_t hX0 (br_t rfl hp)⟩, fun post hp => ⟨va, br_t hY0 (br_t rfl hp)⟩⟩
    · have n1 : 0 < n := by omega
      have nz : ¬ nI n = 0 := nI_ne0 n1 (by omega)
      by_cases ht : (span (nI a).toNatClampNeg - nI n) ≤ tol (nI a).toNatClampNeg
      · obtain ⟨_, h2, h3⟩ := hK
        obtain ⟨bl, bh, be, k0, k1, k2, k3⟩ := h3 n1
        have hc : rl = 0 ∨ rl = 1 ∨ rl = 2 ∨ rl = 3 := by omega
        rcases hc with rfl | rfl | rfl | rfl
        · have exy : xj = ys := k0 rfl
          subst exy
          exact ⟨ra_fl xj n, Or.inr (ra_fl_bd n1 (by omega) h2), fun post hp => ⟨va, br_t hX0 (br_f nz ⟨va, va, br_t ht ⟨va, br_t hR' (ra_X_fl n1 (by omega) hp)⟩⟩)⟩,
            fun post hp => ⟨va, br_t hY0 (br_f nz ⟨va, va, br_t ht ⟨va, br_t hR' (ra_Y_fl _ n1 (by omega) h2 hp)⟩⟩)⟩⟩
        · have exy : xj = lo := k1 rfl
          subst exy
          have z0 : ¬ rule (nI a).toNatClampNeg = 0 := by rw [hR']; decide
          exact ⟨xj, Or.inr bl, fun post hp => ⟨va, br_t hX0 (br_f nz ⟨va, va, br_t ht ⟨va, br_f z0 hp⟩⟩)⟩,
            fun post hp => ⟨va, br_t hY0 (br_f nz ⟨va, va, br_t ht ⟨va, br_f z0 ⟨va, br_t hR' hp⟩⟩⟩)⟩⟩
        · have exy : xj = hi := k2 rfl
          subst exy
          have z0 : ¬ rule (nI a).toNatClampNeg = 0 := by rw [hR']; decide
          have z1 : ¬ rule (nI a).toNatClampNeg = 1 := by rw [hR']; decide
          exact ⟨xj, Or.inr bh, fun post hp => ⟨va, br_t hX0 (br_f nz ⟨va, va, br_t ht ⟨va, br_f z0 hp⟩⟩)⟩,
            fun post hp => ⟨va, br_t hY0 (br_f nz ⟨va, va, br_t ht ⟨va, br_f z0 ⟨va, br_f z1 ⟨va, br_t hR' hp⟩⟩⟩⟩)⟩⟩
        · have exy : xj = en := k3 rfl
          subst exy
          have z0 : ¬ rule (nI a).toNatClampNeg = 0 := by rw [hR']; decide
          have z1 : ¬ rule (nI a).toNatClampNeg = 1 := by rw [hR']; decide
          have z2 : ¬ rule (nI a).toNatClampNeg = 2 := by rw [hR']; decide
          exact ⟨xj, Or.inr be, fun post hp => ⟨va, br_t hX0 (br_f nz ⟨va, va, br_t ht ⟨va, br_f z0 hp⟩⟩)⟩,
            fun post hp => ⟨va, br_t hY0 (br_f nz ⟨va, va, br_t ht ⟨va, br_f z0 ⟨va, br_f z1 ⟨va, br_f z2 hp⟩⟩⟩⟩)⟩⟩
      · exact ⟨-100000, Or.inl rfl, fun post hp => ⟨va, br_t hX0 (br_f nz ⟨va, va, br_f ht hp⟩)⟩, fun post hp => ⟨va, br_t hY0 (br_f nz ⟨va, va, br_f ht hp⟩)⟩⟩
  | succ d ih =>
    intro i n xj ys lo hi en hi' hn hK
    have hX0 : ¬ span (nI a).toNatClampNeg ≤ nI i := by rw [hS']; exact nI_ge (by omega) (by omega)
    have hY0 : ¬ (nI r + 1) * span (nI a).toNatClampNeg ≤ nI (r * p + i) := by rw [e1]; exact nI_ge (by omega) (by omega)
    have hkk : (r * p + i + 1) * w ≤ 240 := Nat.le_trans (Nat.mul_le_mul_right w (by omega)) hk
    obtain ⟨v, vo, sX, sY⟩ := ra_step c hb l q span rule tol room c' hb' l' s' span rule tol room' m w (r * p + i) hw1 hw hkk hm
    have sX' : ∀ post : Int32 → Prop, post v → wpX_stepValue post (c, nI w, hb, l, q, span, rule, tol, room, m) (nI (r * p) + nI i) := by rw [nI_add]; exact sX
    by_cases hv : v = -100000
    · obtain ⟨x, xo, hX, hY⟩ := ih (i + 1) n xj ys lo hi en (by omega) (by omega) hK
      exact ⟨x, xo, fun post hp => ⟨va, br_f hX0 (sX' _ (br_t hv (nm_r (nI_1 i) (hX post hp))))⟩, fun post hp => ⟨va, br_f hY0 (sY _ (br_t hv (nm_r (nI_1 (r * p + i)) (hY post hp))))⟩⟩
    · have bv : ra_bd v 1 := vo.resolve_left hv
      by_cases n0 : n = 0
      · subst n0
        obtain ⟨x, xo, hX, hY⟩ := ih (i + 1) 1 v (ys + v) v v v (by omega) (by omega) (ra_K1 hK bv)
        exact ⟨x, xo, fun post hp => ⟨va, br_f hX0 (sX' _ (br_f hv (br_t rfl (nm_r (nI_1 0) (nm_r (nI_1 i) (hX post hp))))))⟩,
          fun post hp => ⟨va, br_f hY0 (sY _ (br_f hv (br_t rfl (ra_Y_m1 span rule tol c' hb' l' s' room' m _ _ _ _ _ _ _ (hY post hp)))))⟩⟩
      · have n1 : 0 < n := by omega
        have nz : ¬ nI n = 0 := nI_ne0 n1 (by omega)
        obtain ⟨x, xo, hX, hY⟩ := ih (i + 1) (n + 1) (ra_jn rl xj v) (ys + v) (ra_lo lo v) (ra_hi hi v) v (by omega) (by omega) (ra_Kn n1 (by omega) hK bv)
        have hJ : ∀ post : Int32 → Prop, post (ra_jn rl xj v) → wpX_joined post (rule (nI a).toNatClampNeg) xj v := by rw [hR']; exact fun _ => ra_X_jn hrl
        refine ⟨x, xo, fun post hp => ⟨va, br_f hX0 (sX' _ (br_f hv (br_f nz ⟨va, hJ _ (nm_r (nI_1 n) (nm_r (nI_1 i) (hX post hp)))⟩)))⟩,
          fun post hp => ⟨va, br_f hY0 (sY _ (br_f hv (br_f nz ?_)))⟩⟩
        have hY' := hY post hp
        unfold ra_lo at hY'
        by_cases hl : lo ≤ v
        · rw [if_pos hl] at hY'
          exact br_t hl (ra_Y_mn span rule tol c' hb' l' s' room' m _ _ _ _ _ _ _ _ _ n1 (by omega) hY')
        · rw [if_neg hl] at hY'
          exact br_f hl (ra_Y_mn span rule tol c' hb' l' s' room' m _ _ _ _ _ _ _ _ _ n1 (by omega) hY')
theorem ra_row (w a p rl r : Nat) (hw1 : 1 ≤ w) (hw : w ≤ 6) (ha : a < 2) (hp1 : 1 ≤ p) (hp4 : p ≤ 4) (hrl : rl < 4) (hS : span a = nI p) (hR : rule a = nI rl)
    (hk : (r * p + p) * w ≤ 240) (hm : ∀ i, ra_ok (m i)) : ∃ v, ra_ok v ∧
      (∀ post : Int32 → Prop, post v → wpX_rowValue post (c, nI w, hb, l, q, span, rule, tol, room, m) (nI a) (nI r)) ∧
      (∀ post : Int32 → Prop, post v → wpY_made post (c', nI w, hb', l', s', span, rule, tol, room', m) (nI a) (nI r)) := by
  obtain ⟨v, vo, hX, hY⟩ := ra_md c hb l q span rule tol room c' hb' l' s' room' m w a p rl r hw1 hw ha hp1 hp4 hrl hS hR hk hm p 0 0 0 0 0 0 0 (by omega) (by omega) (ra_K0 rl)
  have va : vp_in (nI a) 2 := vp_in_nI ha (by omega)
  have e : nI r * span (nI a).toNatClampNeg = nI (r * p) := by rw [nI_clamp (by omega), hS, pk_mul]
  exact ⟨v, vo, fun post hp => ⟨va, nm_r e ⟨p + 1, hX post hp⟩⟩, fun post hp => ⟨va, nm_r e ⟨p + 1, hY post hp⟩⟩⟩
end
