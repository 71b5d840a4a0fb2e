section
theorem pk_us {f : Nat → Int32} {k : Nat} {x : Int32} : upd f k x k = x := if_pos rfl
theorem pk_un {f : Nat → Int32} {k j : Nat} {x : Int32} (h : j ≠ k) : upd f k x j = f j := if_neg h
theorem pk_sub {a b : Nat} (h : b ≤ a) : nI a - nI b = nI (a - b) := by
  obtain ⟨c, rfl⟩ : ∃ c, a = c + b := ⟨a - b, by omega⟩
  rw [← nI_add, Int32.add_sub_cancel, Nat.add_sub_cancel]
theorem pk_mul (a b : Nat) : nI a * nI b = nI (a * b) := (Int32.ofNat_mul a b).symm
theorem pk_div {a d : Nat} (ha : a < 2 ^ 31) (h0 : 0 < d) (hd : d < 2 ^ 31) : nI a / nI d = nI (a / d) := by
  apply Int32.toInt_inj.mp
  rw [lg_idiv_nonneg (by rw [nI_toInt ha]; omega) (by rw [nI_toInt hd]; omega), nI_toInt ha, nI_toInt hd, nI_toInt (Nat.lt_of_le_of_lt (Nat.div_le_self a d) ha)]
  first | rfl | exact (Int.natCast_ediv _ _).symm
theorem pk_rem {a d : Nat} (ha : a < 2 ^ 31) (h0 : 0 < d) (hd : d < 2 ^ 31) : nI a - nI a / nI d * nI d = nI (a % d) := by
  rw [pk_div ha h0 hd, pk_mul, pk_sub (Nat.div_mul_le_self a d)]
  exact congrArg nI (by have := Nat.div_add_mod' a d; omega)
theorem pk_sub_toInt {a b : Nat} (ha : a < 2 ^ 30) (hb : b < 2 ^ 30) : (nI a - nI b).toInt = (a : Int) - b := by
  rw [Int32.toInt_sub, nI_toInt (by omega), nI_toInt (by omega)]
  exact Int.bmod_eq_of_le (by omega) (by omega)
theorem pk_sneg {a b : Nat} (hb : b < 2 ^ 30) (h : a < b) : nI a - nI b < 0 := by
  rw [Int32.lt_iff_toInt_lt, pk_sub_toInt (by omega) hb, show (0 : Int32).toInt = 0 from by decide]
  omega
theorem pk_ix (x : Int32) {n : Nat} (hn : n < 2 ^ 31) : x < 0 ∨ nI n ≤ x ∨ ∃ j : Nat, j < n ∧ x = nI j := by
  by_cases h : x < 0
  · exact Or.inl h
  · obtain ⟨j, hj, rfl⟩ := nI_of h
    by_cases h2 : j < n
    · exact Or.inr (Or.inr ⟨j, h2, rfl⟩)
    · exact Or.inr (Or.inl (nI_le (by omega) hj))
theorem pk_le {x y : Int32} {A B : Prop} (a b : Nat) (f : a ≤ b → A) (g : b < a → B) (hx : x = nI a := by rfl) (hy : y = nI b := by rfl) (ha : a < 2 ^ 31 := by omega) (hb : b < 2 ^ 31 := by omega) : (x ≤ y → A) ∧ (¬ x ≤ y → B) := by
  subst hx hy
  rw [nI_leI ha hb]
  exact ⟨f, fun z => g (by omega)⟩
theorem pk_lt {x y : Int32} {A B : Prop} (a b : Nat) (f : a < b → A) (g : b ≤ a → B) (hx : x = nI a := by rfl) (hy : y = nI b := by rfl) (ha : a < 2 ^ 31 := by omega) (hb : b < 2 ^ 31 := by omega) : (x < y → A) ∧ (¬ x < y → B) := by
  subst hx hy
  rw [nI_ltI ha hb]
  exact ⟨f, fun z => g (by omega)⟩
theorem pk_eq {x y : Int32} {A B : Prop} (a b : Nat) (f : a = b → A) (g : a ≠ b → B) (hx : x = nI a := by rfl) (hy : y = nI b := by rfl) (ha : a < 2 ^ 31 := by omega) (hb : b < 2 ^ 31 := by omega) : (x = y → A) ∧ (¬ x = y → B) := by
  subst hx hy
  rw [nI_eq ha hb]
  exact ⟨f, g⟩
theorem pk_in {x : Int32} (n N : Nat) (h : n < N) (hx : x = nI n := by rfl) (hN : N < 2 ^ 31 := by omega) : vp_in x N := by
  subst hx
  exact vp_in_nI h hN
theorem pk_cl {x : Int32} (n : Nat) (hx : x = nI n := by rfl) (h : n < 2 ^ 31 := by omega) : x.toNatClampNeg = n := by
  subst hx
  exact nI_clamp h
theorem pk_tn {n : Nat} (h : n < 2 ^ 32) : (nI n).toBitVec.toNat = n := Nat.mod_eq_of_lt h
theorem pk_and (x : Int32) {m : Int32} (k : Nat) (hm : m.toBitVec.toNat = 2 ^ k - 1) : x &&& m = nI (x.toBitVec.toNat % 2 ^ k) := by
  apply Int32.toBitVec_inj.mp
  apply BitVec.eq_of_toNat_eq
  rw [Int32.toBitVec_and, BitVec.toNat_and, hm, Nat.and_two_pow_sub_one_eq_mod]
  show _ = (BitVec.ofNat 32 _).toNat
  rw [BitVec.toNat_ofNat]
  exact (Nat.mod_eq_of_lt (Nat.lt_of_le_of_lt (Nat.mod_le _ _) x.toBitVec.isLt)).symm
theorem pk_andN {n : Nat} (h : n < 2 ^ 32) {m : Int32} (k : Nat) (hm : m.toBitVec.toNat = 2 ^ k - 1) : nI n &&& m = nI (n % 2 ^ k) := by
  rw [pk_and _ k hm, pk_tn h]
theorem pk_andE (x : Int32) {m : Int32} (k : Nat) (hm : m.toBitVec.toNat = 2 ^ k - 1) : ∃ j : Nat, j < 2 ^ k ∧ x &&& m = nI j := ⟨_, Nat.mod_lt _ (Nat.two_pow_pos k), pk_and x k hm⟩
theorem pk_shr (a s : Int32) (k : Nat) (hs : (s.toBitVec.smod 32).toNat = k) : (a >>> s).toInt = a.toInt >>> k := by
  show (a.toBitVec.sshiftRight (s.toBitVec.smod 32).toNat).toInt = _
  rw [hs, BitVec.toInt_sshiftRight]
  rfl
/-- a value that a moment, a step or a row may hold: UNKNOWN, or a number of at most 1000 either way -/
def ra_bd (z : Int32) (n : Nat) : Prop := -(1000 * (n : Int)) ≤ z.toInt ∧ z.toInt ≤ 1000 * (n : Int)
def ra_ok (z : Int32) : Prop := z = -100000 ∨ ra_bd z 1
theorem ra_bd0 : ra_bd 0 0 := by
  unfold ra_bd
  rw [show (0 : Int32).toInt = 0 from by decide]
  omega
theorem ra_bdN {d n : Nat} (h : d ≤ 1000 * n) (hn : n ≤ 1000) : ra_bd (nI d) n := by
  unfold ra_bd
  rw [nI_toInt (by omega)]
  omega
theorem ra_bd_add {x y : Int32} {n : Nat} (hn : n ≤ 1000) (hx : ra_bd x n) (hy : ra_bd y 1) : ra_bd (x + y) (n + 1) := by
  unfold ra_bd at *
  have e : (x + y).toInt = x.toInt + y.toInt := by
    rw [Int32.toInt_add]
    exact Int.bmod_eq_of_le (by omega) (by omega)
  rw [e]
  omega
/-- the quotient that is rounded towards minus infinity -/
def ra_fl (s : Int32) (n : Nat) : Int32 := if s / nI n * nI n ≤ s then s / nI n else s / nI n - 1
theorem ra_q {s : Int32} {n : Nat} (h0 : 0 < n) (hn : n ≤ 6) : (s / nI n).toInt = s.toInt.tdiv n := by
  rw [Int32.toInt_div_of_ne_right, nI_toInt (by omega)]
  intro h
  have h1 := nI_toInt (n := n) (by omega)
  rw [h, show (-1 : Int32).toInt = -1 from by decide] at h1
  omega
theorem ra_n6 {n : Nat} (h0 : 0 < n) (hn : n ≤ 6) : n = 1 ∨ n = 2 ∨ n = 3 ∨ n = 4 ∨ n = 5 ∨ n = 6 := by omega
theorem ra_qn {s : Int32} {n : Nat} (h0 : 0 < n) (hn : n ≤ 6) (hs : ra_bd s n) : (s / nI n * nI n).toInt = n * s.toInt.tdiv n := by
  unfold ra_bd at hs
  have a := Int.mul_tdiv_add_tmod s.toInt n
  have b := Int.tmod_lt_of_pos s.toInt (b := (n : Int)) (by omega)
  have c := Int.lt_tmod_of_pos s.toInt (b := (n : Int)) (by omega)
  rw [Int32.toInt_mul, ra_q h0 hn, nI_toInt (by omega), Int.mul_comm]
  exact Int.bmod_eq_of_le (by omega) (by omega)
theorem ra_fl_bd {s : Int32} {n : Nat} (h0 : 0 < n) (hn : n ≤ 6) (hs : ra_bd s n) : ra_bd (ra_fl s n) 1 := by
  have q1 := ra_q (s := s) h0 hn
  have q2 := ra_qn h0 hn hs
  have a := Int.mul_tdiv_add_tmod s.toInt n
  have b := Int.tmod_lt_of_pos s.toInt (b := (n : Int)) (by omega)
  have c := Int.lt_tmod_of_pos s.toInt (b := (n : Int)) (by omega)
  unfold ra_bd at *
  unfold ra_fl
  generalize hq : s.toInt.tdiv n = q at *
  generalize s.toInt.tmod n = t at *
  by_cases h : s / nI n * nI n ≤ s
  · rw [if_pos h, q1]
    rw [Int32.le_iff_toInt_le, q2] at h
    rcases ra_n6 h0 hn with rfl | rfl | rfl | rfl | rfl | rfl <;> omega
  · rw [if_neg h]
    rw [Int32.le_iff_toInt_le, q2] at h
    have hb : -1000 < q ∧ q ≤ 1000 := by
      rcases ra_n6 h0 hn with rfl | rfl | rfl | rfl | rfl | rfl <;> omega
    have e : (s / nI n - 1).toInt = q - 1 := by
      rw [Int32.toInt_sub, q1, show (1 : Int32).toInt = 1 from by decide]
      exact Int.bmod_eq_of_le (by omega) (by omega)
    rw [e]
    omega
theorem ra_fl_iff {s : Int32} {n : Nat} (h0 : 0 < n) (hn : n ≤ 6) (hs : ra_bd s n) : 0 ≤ s - s / nI n * nI n ↔ s / nI n * nI n ≤ s := by
  have q2 := ra_qn h0 hn hs
  have a := Int.mul_tdiv_add_tmod s.toInt n
  have b := Int.tmod_lt_of_pos s.toInt (b := (n : Int)) (by omega)
  have c := Int.lt_tmod_of_pos s.toInt (b := (n : Int)) (by omega)
  unfold ra_bd at hs
  have e : (s - s / nI n * nI n).toInt = s.toInt - n * s.toInt.tdiv n := by
    rw [Int32.toInt_sub, q2]
    exact Int.bmod_eq_of_le (by omega) (by omega)
  rw [Int32.le_iff_toInt_le, Int32.le_iff_toInt_le, e, q2, show (0 : Int32).toInt = 0 from by decide]
  omega
theorem ra_X_fl {post : Int32 → Prop} {s : Int32} {n : Nat} (h0 : 0 < n) (hn : n ≤ 6) (hp : post (ra_fl s n)) : wpX_roundedDown post s (nI n) := by
  refine ⟨nI_ne0 h0 (by omega), nm_e ?_⟩
  unfold ra_fl at hp
  by_cases h : s / nI n * nI n ≤ s
  · rw [if_pos h] at hp; exact br_t h hp
  · rw [if_neg h] at hp; exact br_f h hp
theorem ra_Y_fl {post : Int32 → Prop} {s : Int32} {n : Nat} (v : SY) (h0 : 0 < n) (hn : n ≤ 6) (hs : ra_bd s n) (hp : post (ra_fl s n)) : wpY_floor post v s (nI n) := by
  have hn0 : ¬ nI n ≤ 0 := nI_nle h0 (by omega)
  refine br_f hn0 ⟨nI_ne0 h0 (by omega), br_f hn0 ⟨nI_ne0 h0 (by omega), ?_⟩⟩
  unfold ra_fl at hp
  by_cases h : s / nI n * nI n ≤ s
  · rw [if_pos h] at hp; exact br_t ((ra_fl_iff h0 hn hs).mpr h) hp
  · rw [if_neg h] at hp; exact br_f (fun z => h ((ra_fl_iff h0 hn hs).mp z)) hp
/-- an archive's number, on the reference's side -/
theorem ra_arc {A B : Prop} {a : Nat} (ha : a < 2) (h : A) : (nI a = 0 → A) ∧ (¬ nI a = 0 → ((nI a = 1 → A) ∧ (¬ nI a = 1 → B))) := by
  refine ⟨fun _ => h, fun n0 => ⟨fun _ => h, fun n1 => ?_⟩⟩
  have hc : a = 0 ∨ a = 1 := by omega
  rcases hc with rfl | rfl
  · exact absurd rfl n0
  · exact absurd rfl n1
theorem ra_nar {A B : Prop} {x : Int32} (hx : x < 0 ∨ nI 2 ≤ x) (h : B) : (x = 0 → A) ∧ (¬ x = 0 → ((x = 1 → A) ∧ (¬ x = 1 → B))) := by
  refine ⟨fun e => ?_, fun _ => ⟨fun e => ?_, fun _ => h⟩⟩
  · subst e; exact absurd hx (by decide)
  · subst e; exact absurd hx (by decide)
theorem ra_X_ar {post : Int32 → Prop} {a : Nat} (ha : a < 2) (h : post 1) : wpX_isArchive post (nI a) :=
  br_f (nI_pos (by omega)) (br_f (nI_ge (b := 2) ha (by omega)) h)
theorem ra_X_na {post : Int32 → Prop} {x : Int32} (hx : x < 0 ∨ nI 2 ≤ x) (h : post 0) : wpX_isArchive post x := by
  by_cases h0 : x < 0
  · exact br_t h0 h
  · exact br_f h0 (br_t (hx.resolve_left h0) h)
end
section
section
variable (c hb l q : Int32) (span rule tol room : Nat → Int32) (c' hb' l' s' : Int32) (span' rule' bear' room' : Nat → Int32) (m : Nat → Int32)
theorem ra_st (w k : Nat) (hw1 : 1 ≤ w) (hw : w ≤ 6) (hk : (k + 1) * w ≤ 240) (hm : ∀ i, ra_ok (m i)) :
    ∀ d i n un : Nat, ∀ sum : Int32, i + d = w → n + un = i → ra_bd sum n → ∃ r, ra_ok r ∧
      (∀ post : Int32 → Prop, post r → wX_stepValue_17 post (nI (k * w + 1)) c (nI w) hb l q span rule tol room m (d + 1) sum (nI un) (nI i)) ∧
      (∀ post : Int32 → Prop, post r → wY_step_14 post (nI k) c' (nI w) hb' l' s' span' rule' bear' room' m (d + 1) sum (nI n) (nI (k * w + 1 + i))) := by
  have hkw : k * w + w ≤ 240 := by rw [Nat.succ_mul] at hk; exact hk
  have e1 : (nI k + 1) * nI w = nI (k * w + w) := by rw [nI_1, pk_mul, Nat.succ_mul]
  intro d
  induction d with
  | zero =>
    intro i n un sum hi hn hs
    have hiw : i = w := by omega
    subst hiw
    have hX0 : nI i ≤ nI i := nI_le (Nat.le_refl i) (by omega)
    have hY0 : ((nI k + 1) * nI i) < nI (k * i + 1 + i) := by rw [e1]; exact nI_lt (by omega) (by omega)
    have x2 : 2 * nI un = nI (2 * un) := pk_mul 2 un
    have y2 : 2 * (nI i - nI n) = nI (2 * (i - n)) := by rw [pk_sub (by omega)]; exact pk_mul 2 (i - n)
    by_cases hu : 2 * un ≤ i
    · have n0 : 0 < n := by omega
      have hX1 : 2 * nI un ≤ nI i := by rw [x2]; exact nI_le hu (by omega)
      have hY1 : ¬ nI i < 2 * (nI i - nI n) := by rw [y2]; exact nI_nlt (by omega) (by omega)
      have xd : nI i - nI un = nI n := by rw [pk_sub (by omega)]; exact congrArg nI (by omega)
      refine ⟨ra_fl sum n, Or.inr (ra_fl_bd n0 (by omega) hs), fun post hp => br_t hX0 (br_t hX1 ?_), fun post hp => br_t hY0 (br_f hY1 ?_)⟩
      · rw [xd]; exact ra_X_fl n0 (by omega) hp
      · exact ra_Y_fl _ n0 (by omega) hs hp
    · have hX1 : ¬ 2 * nI un ≤ nI i := by rw [x2]; exact nI_ge (by omega) (by omega)
      have hY1 : nI i < 2 * (nI i - nI n) := by rw [y2]; exact nI_lt (by omega) (by omega)
      exact ⟨-100000, Or.inl rfl, fun post hp => br_t hX0 (br_f hX1 hp), fun post hp => br_t hY0 (br_t hY1 hp)⟩
  | succ d ih =>
    intro i n un sum hi hn hs
    have hX0 : ¬ nI w ≤ nI i := nI_ge (by omega) (by omega)
    have hY0 : ¬ ((nI k + 1) * nI w) < nI (k * w + 1 + i) := by rw [e1]; exact nI_nlt (by omega) (by omega)
    have hY1 : ¬ 240 < nI (k * w + 1 + i) := nI_nlt (a := 240) (by omega) (by omega)
    have ex : (nI (k * w + 1) + nI i).toNatClampNeg = k * w + 1 + i := by rw [nI_add]; exact nI_clamp (by omega)
    have ey : (nI (k * w + 1 + i)).toNatClampNeg = k * w + 1 + i := nI_clamp (by omega)
    have vy : vp_in (nI (k * w + 1 + i)) 241 := vp_in_nI (by omega) (by omega)
    have vx : vp_in (nI (k * w + 1) + nI i) 241 := by rw [nI_add]; exact vy
    by_cases hy : m (k * w + 1 + i) = -100000
    · obtain ⟨r, ro, hX, hY⟩ := ih (i + 1) n (un + 1) sum (by omega) (by omega) hs
      refine ⟨r, ro, fun post hp => br_f hX0 ⟨vx, nm_r (congrArg m ex) (br_t hy (nm_r (nI_1 un) (nm_r (nI_1 i) (hX post hp))))⟩, fun post hp => br_f hY0 (br_f hY1 ⟨vy, br_t ((congrArg m ey).trans hy) (nm_r (nI_1 _) (hY post hp))⟩)⟩
    · have hb1 : ra_bd (m (k * w + 1 + i)) 1 := (hm _).resolve_left hy
      obtain ⟨r, ro, hX, hY⟩ := ih (i + 1) (n + 1) un (sum + m (k * w + 1 + i)) (by omega) (by omega) (ra_bd_add (by omega) hs hb1)
      have hy' : ¬ m (nI (k * w + 1 + i)).toNatClampNeg = -100000 := by rw [ey]; exact hy
      refine ⟨r, ro, fun post hp => br_f hX0 ⟨vx, nm_r (congrArg m ex) (br_f hy (nm_e (nm_r (nI_1 i) (hX post hp))))⟩, fun post hp => br_f hY0 (br_f hY1 ⟨vy, br_f hy' ⟨vy, nm_r (congrArg (fun z => sum + m z) ey) (nm_r (nI_1 n) (nm_r (nI_1 _) (hY post hp)))⟩⟩)⟩
theorem ra_step (w k : Nat) (hw1 : 1 ≤ w) (hw : w ≤ 6) (hk : (k + 1) * w ≤ 240) (hm : ∀ i, ra_ok (m i)) : ∃ r, ra_ok r ∧
      (∀ post : Int32 → Prop, post r → wpX_stepValue post (c, nI w, hb, l, q, span, rule, tol, room, m) (nI k)) ∧
      (∀ post : Int32 → Prop, post r → wpY_step post (c', nI w, hb', l', s', span', rule', bear', room', m) (nI k)) := by
  obtain ⟨r, ro, hX, hY⟩ := ra_st c hb l q span rule tol room c' hb' l' s' span' rule' bear' room' m w k hw1 hw hk hm w 0 0 0 0 (by omega) rfl ra_bd0
  have e : nI k * nI w + 1 = nI (k * w + 1) := by rw [pk_mul, nI_1]
  exact ⟨r, ro, fun post hp => nm_r e ⟨w + 1, hX post hp⟩, fun post hp => nm_r e ⟨w + 1, hY post hp⟩⟩
end
end
section
/-- a row's value by its rule, on X's side -/
def ra_jn (rl : Nat) (x v : Int32) : Int32 := if rl = 1 then (if x ≤ v then x else v) else if rl = 2 then (if v ≤ x then x else v) else if rl = 3 then v else x + v
def ra_lo (x v : Int32) : Int32 := if x ≤ v then x else v
def ra_hi (x v : Int32) : Int32 := if v ≤ x then x else v
theorem ra_lo_bd {x v : Int32} (hx : ra_bd x 1) (hv : ra_bd v 1) : ra_bd (ra_lo x v) 1 := by
  unfold ra_lo
  split <;> assumption
theorem ra_hi_bd {x v : Int32} (hx : ra_bd x 1) (hv : ra_bd v 1) : ra_bd (ra_hi x v) 1 := by
  unfold ra_hi
  split <;> assumption
theorem ra_X_jn {post : Int32 → Prop} {rl : Nat} {x v : Int32} (hr : rl < 4) (hp : post (ra_jn rl x v)) : wpX_joined post (nI rl) x v := by
  have hc : rl = 0 ∨ rl = 1 ∨ rl = 2 ∨ rl = 3 := by omega
  rcases hc with rfl | rfl | rfl | rfl
  · exact br_f (by decide) (br_f (by decide) (br_f (by decide) hp))
  · refine br_t rfl ?_
    replace hp : post (ra_lo x v) := hp
    unfold ra_lo at hp
    by_cases h : x ≤ v
    · rw [if_pos h] at hp; exact br_t h hp
    · rw [if_neg h] at hp; exact br_f h hp
  · refine br_f (by decide) (br_t rfl ?_)
    replace hp : post (ra_hi x v) := hp
    unfold ra_hi at hp
    by_cases h : v ≤ x
    · rw [if_pos h] at hp; exact br_t h hp
    · rw [if_neg h] at hp; exact br_f h hp
  · exact br_f (by decide) (br_f (by decide) (br_t rfl hp))
/-- what X's joint and Y's four results have to do with each other after n known steps -/
def ra_K (rl n : Nat) (xj ys lo hi en : Int32) : Prop := (n = 0 → ys = 0) ∧ ra_bd ys n ∧
  (0 < n → ra_bd lo 1 ∧ ra_bd hi 1 ∧ ra_bd en 1 ∧ (rl = 0 → xj = ys) ∧ (rl = 1 → xj = lo) ∧ (rl = 2 → xj = hi) ∧ (rl = 3 → xj = en))
theorem ra_K0 (rl : Nat) : ra_K rl 0 0 0 0 0 0 := ⟨fun _ => rfl, ra_bd0, fun h => absurd h (by decide)⟩
theorem ra_K1 {rl : Nat} {xj ys lo hi en v : Int32} (h : ra_K rl 0 xj ys lo hi en) (hv : ra_bd v 1) : ra_K rl 1 v (ys + v) v v v := by
  have e : ys = 0 := h.1 rfl
  subst e
  exact ⟨fun z => absurd z (by decide), ra_bd_add (by omega) h.2.1 hv, fun _ => ⟨hv, hv, hv, fun _ => (Int32.zero_add v).symm, fun _ => rfl, fun _ => rfl, fun _ => rfl⟩⟩
theorem ra_Kn {rl n : Nat} {xj ys lo hi en v : Int32} (n0 : 0 < n) (hn : n ≤ 4) (h : ra_K rl n xj ys lo hi en) (hv : ra_bd v 1) : ra_K rl (n + 1) (ra_jn rl xj v) (ys + v) (ra_lo lo v) (ra_hi hi v) v := by
  obtain ⟨h1, h2, h3⟩ := h
  obtain ⟨bl, bh, be, k0, k1, k2, k3⟩ := h3 n0
  refine ⟨fun z => absurd z (by omega), ra_bd_add (by omega) h2 hv, fun _ => ⟨ra_lo_bd bl hv, ra_hi_bd bh hv, hv, ?_, ?_, ?_, ?_⟩⟩
  · intro e; subst e; rw [k0 rfl]; rfl
  · intro e; subst e; rw [k1 rfl]; rfl
  · intro e; subst e; rw [k2 rfl]; rfl
  · intro e; subst e; rfl
section
variable (c hb l q : Int32) (span rule tol room : Nat → Int32) (c' hb' l' s' : Int32) (room' : Nat → Int32) (m : Nat → Int32)
/-- Y's three choices behind a known step -/
theorem ra_Y_m1 {post : Int32 → Prop} {J : Int32 → Int32 → Int32 → Int32 → Int32 → Int32 → Prop} (x1 x2 wd x4 x6 v : Int32) (e : Nat) (h : J (nI 1) (x4 + v) v v v (nI (e + 1))) :
    wY_made_65 post J x1 x2 (nI 0) x4 x6 (nI e) v c' wd hb' l' s' span rule tol room' m :=
  br_t rfl (nm_e (nm_r (nI_1 0) (nm_r (nI_1 e) h)))
theorem ra_Y_mn {post : Int32 → Prop} {J : Int32 → Int32 → Int32 → Int32 → Int32 → Int32 → Prop} (x1 x2 wd x4 x6 v z : Int32) (n e : Nat) (n0 : 0 < n) (hn : n < 10) (h : J (nI (n + 1)) (x4 + v) z (ra_hi x6 v) v (nI (e + 1))) :
    wY_made_72 post J x1 x2 (nI n) x4 x6 (nI e) v z c' wd hb' l' s' span rule tol room' m := by
  refine br_f (nI_ne0 n0 (by omega)) ?_
  unfold ra_hi at h
  by_cases hv : v ≤ x6
  · rw [if_pos hv] at h; exact br_t hv (nm_e (nm_r (nI_1 n) (nm_r (nI_1 e) h)))
  · rw [if_neg hv] at h; exact br_f hv (nm_e (nm_r (nI_1 n) (nm_r (nI_1 e) h)))
theorem ra_md (w a p rl r : Nat) (hw1 : 1 ≤ w) (hw : w ≤ 6) (ha : a < 2) (hp1 : 1 ≤ p) (hp4 : p ≤ 4) (hrl : rl < 4) (hS : span a = nI p) (hR : rule a = nI rl)
    (hk : (r * p + p) * w ≤ 240) (hm : ∀ i, ra_ok (m i)) :
    ∀ d i n : Nat, ∀ xj ys lo hi en : Int32, i + d = p → n ≤ i → ra_K rl n xj ys lo hi en → ∃ v, ra_ok v ∧
      (∀ post : Int32 → Prop, post v → wX_rowValue_18 post (nI a) (nI (r * p)) c (nI w) hb l q span rule tol room m (d + 1) xj (nI n) (nI i)) ∧
      (∀ post : Int32 → Prop, post v → wY_made_24 post (nI a) (nI r) c' (nI w) hb' l' s' span rule tol room' m (d + 1) (nI n) ys lo hi en (nI (r * p + i))) := by
  have ea : (nI a).toNatClampNeg = a := nI_clamp (by omega)
  have va : vp_in (nI a) 2 := vp_in_nI ha (by omega)
  have hS' : span (nI a).toNatClampNeg = nI p := by rw [ea]; exact hS
  have hR' : rule (nI a).toNatClampNeg = nI rl := by rw [ea]; exact hR
  have e1 : (nI r + 1) * span (nI a).toNatClampNeg = nI (r * p + p) := by rw [hS', nI_1, pk_mul, Nat.succ_mul]
  have hrp : r * p + p ≤ 240 := Nat.le_trans (Nat.le_mul_of_pos_right _ hw1) hk
  intro d
  induction d with
  | zero =>
    intro i n xj ys lo hi en hi' hn hK
    have hip : i = p := by omega
    subst hip
    have hX0 : span (nI a).toNatClampNeg ≤ nI i := by rw [hS']; exact nI_le (Nat.le_refl i) (by omega)
    have hY0 : (nI r + 1) * span (nI a).toNatClampNeg ≤ nI (r * i + i) := by rw [e1]; exact nI_le (Nat.le_refl _) (by omega)
    by_cases n0 : n = 0
    · subst n0
      exact ⟨-100000, Or.inl rfl, fun post hp => ⟨va, br_t hX0 (br_t rfl hp)⟩, fun post hp => ⟨va, br_t hY0 (br_t rfl hp)⟩⟩
    · have n1 : 0 < n := by omega
      have nz : ¬ nI n = 0 := nI_ne0 n1 (by omega)
      by_cases ht : (span (nI a).toNatClampNeg - nI n) ≤ tol (nI a).toNatClampNeg
      · obtain ⟨_, h2, h3⟩ := hK
        obtain ⟨bl, bh, be, k0, k1, k2, k3⟩ := h3 n1
        have hc : rl = 0 ∨ rl = 1 ∨ rl = 2 ∨ rl = 3 := by omega
        rcases hc with rfl | rfl | rfl | rfl
        · have exy : xj = ys := k0 rfl
          subst exy
          exact ⟨ra_fl xj n, Or.inr (ra_fl_bd n1 (by omega) h2), fun post hp => ⟨va, br_t hX0 (br_f nz ⟨va, va, br_t ht ⟨va, br_t hR' (ra_X_fl n1 (by omega) hp)⟩⟩)⟩,
            fun post hp => ⟨va, br_t hY0 (br_f nz ⟨va, va, br_t ht ⟨va, br_t hR' (ra_Y_fl _ n1 (by omega) h2 hp)⟩⟩)⟩⟩
        · have exy : xj = lo := k1 rfl
          subst exy
          have z0 : ¬ rule (nI a).toNatClampNeg = 0 := by rw [hR']; decide
          exact ⟨xj, Or.inr bl, fun post hp => ⟨va, br_t hX0 (br_f nz ⟨va, va, br_t ht ⟨va, br_f z0 hp⟩⟩)⟩,
            fun post hp => ⟨va, br_t hY0 (br_f nz ⟨va, va, br_t ht ⟨va, br_f z0 ⟨va, br_t hR' hp⟩⟩⟩)⟩⟩
        · have exy : xj = hi := k2 rfl
          subst exy
          have z0 : ¬ rule (nI a).toNatClampNeg = 0 := by rw [hR']; decide
          have z1 : ¬ rule (nI a).toNatClampNeg = 1 := by rw [hR']; decide
          exact ⟨xj, Or.inr bh, fun post hp => ⟨va, br_t hX0 (br_f nz ⟨va, va, br_t ht ⟨va, br_f z0 hp⟩⟩)⟩,
            fun post hp => ⟨va, br_t hY0 (br_f nz ⟨va, va, br_t ht ⟨va, br_f z0 ⟨va, br_f z1 ⟨va, br_t hR' hp⟩⟩⟩⟩)⟩⟩
        · have exy : xj = en := k3 rfl
          subst exy
          have z0 : ¬ rule (nI a).toNatClampNeg = 0 := by rw [hR']; decide
          have z1 : ¬ rule (nI a).toNatClampNeg = 1 := by rw [hR']; decide
          have z2 : ¬ rule (nI a).toNatClampNeg = 2 := by rw [hR']; decide
          exact ⟨xj, Or.inr be, fun post hp => ⟨va, br_t hX0 (br_f nz ⟨va, va, br_t ht ⟨va, br_f z0 hp⟩⟩)⟩,
            fun post hp => ⟨va, br_t hY0 (br_f nz ⟨va, va, br_t ht ⟨va, br_f z0 ⟨va, br_f z1 ⟨va, br_f z2 hp⟩⟩⟩⟩)⟩⟩
      · exact ⟨-100000, Or.inl rfl, fun post hp => ⟨va, br_t hX0 (br_f nz ⟨va, va, br_f ht hp⟩)⟩, fun post hp => ⟨va, br_t hY0 (br_f nz ⟨va, va, br_f ht hp⟩)⟩⟩
  | succ d ih =>
    intro i n xj ys lo hi en hi' hn hK
    have hX0 : ¬ span (nI a).toNatClampNeg ≤ nI i := by rw [hS']; exact nI_ge (by omega) (by omega)
    have hY0 : ¬ (nI r + 1) * span (nI a).toNatClampNeg ≤ nI (r * p + i) := by rw [e1]; exact nI_ge (by omega) (by omega)
    have hkk : (r * p + i + 1) * w ≤ 240 := Nat.le_trans (Nat.mul_le_mul_right w (by omega)) hk
    obtain ⟨v, vo, sX, sY⟩ := ra_step c hb l q span rule tol room c' hb' l' s' span rule tol room' m w (r * p + i) hw1 hw hkk hm
    have sX' : ∀ post : Int32 → Prop, post v → wpX_stepValue post (c, nI w, hb, l, q, span, rule, tol, room, m) (nI (r * p) + nI i) := by rw [nI_add]; exact sX
    by_cases hv : v = -100000
    · obtain ⟨x, xo, hX, hY⟩ := ih (i + 1) n xj ys lo hi en (by omega) (by omega) hK
      exact ⟨x, xo, fun post hp => ⟨va, br_f hX0 (sX' _ (br_t hv (nm_r (nI_1 i) (hX post hp))))⟩, fun post hp => ⟨va, br_f hY0 (sY _ (br_t hv (nm_r (nI_1 (r * p + i)) (hY post hp))))⟩⟩
    · have bv : ra_bd v 1 := vo.resolve_left hv
      by_cases n0 : n = 0
      · subst n0
        obtain ⟨x, xo, hX, hY⟩ := ih (i + 1) 1 v (ys + v) v v v (by omega) (by omega) (ra_K1 hK bv)
        exact ⟨x, xo, fun post hp => ⟨va, br_f hX0 (sX' _ (br_f hv (br_t rfl (nm_r (nI_1 0) (nm_r (nI_1 i) (hX post hp))))))⟩,
          fun post hp => ⟨va, br_f hY0 (sY _ (br_f hv (br_t rfl (ra_Y_m1 span rule tol c' hb' l' s' room' m _ _ _ _ _ _ _ (hY post hp)))))⟩⟩
      · have n1 : 0 < n := by omega
        have nz : ¬ nI n = 0 := nI_ne0 n1 (by omega)
        obtain ⟨x, xo, hX, hY⟩ := ih (i + 1) (n + 1) (ra_jn rl xj v) (ys + v) (ra_lo lo v) (ra_hi hi v) v (by omega) (by omega) (ra_Kn n1 (by omega) hK bv)
        have hJ : ∀ post : Int32 → Prop, post (ra_jn rl xj v) → wpX_joined post (rule (nI a).toNatClampNeg) xj v := by rw [hR']; exact fun _ => ra_X_jn hrl
        refine ⟨x, xo, fun post hp => ⟨va, br_f hX0 (sX' _ (br_f hv (br_f nz ⟨va, hJ _ (nm_r (nI_1 n) (nm_r (nI_1 i) (hX post hp)))⟩)))⟩,
          fun post hp => ⟨va, br_f hY0 (sY _ (br_f hv (br_f nz ?_)))⟩⟩
        have hY' := hY post hp
        unfold ra_lo at hY'
        by_cases hl : lo ≤ v
        · rw [if_pos hl] at hY'
          exact br_t hl (ra_Y_mn span rule tol c' hb' l' s' room' m _ _ _ _ _ _ _ _ _ n1 (by omega) hY')
        · rw [if_neg hl] at hY'
          exact br_f hl (ra_Y_mn span rule tol c' hb' l' s' room' m _ _ _ _ _ _ _ _ _ n1 (by omega) hY')
theorem ra_row (w a p rl r : Nat) (hw1 : 1 ≤ w) (hw : w ≤ 6) (ha : a < 2) (hp1 : 1 ≤ p) (hp4 : p ≤ 4) (hrl : rl < 4) (hS : span a = nI p) (hR : rule a = nI rl)
    (hk : (r * p + p) * w ≤ 240) (hm : ∀ i, ra_ok (m i)) : ∃ v, ra_ok v ∧
      (∀ post : Int32 → Prop, post v → wpX_rowValue post (c, nI w, hb, l, q, span, rule, tol, room, m) (nI a) (nI r)) ∧
      (∀ post : Int32 → Prop, post v → wpY_made post (c', nI w, hb', l', s', span, rule, tol, room', m) (nI a) (nI r)) := by
  obtain ⟨v, vo, hX, hY⟩ := ra_md c hb l q span rule tol room c' hb' l' s' room' m w a p rl r hw1 hw ha hp1 hp4 hrl hS hR hk hm p 0 0 0 0 0 0 0 (by omega) (by omega) (ra_K0 rl)
  have va : vp_in (nI a) 2 := vp_in_nI ha (by omega)
  have e : nI r * span (nI a).toNatClampNeg = nI (r * p) := by rw [nI_clamp (by omega), hS, pk_mul]
  exact ⟨v, vo, fun post hp => ⟨va, nm_r e ⟨p + 1, hX post hp⟩⟩, fun post hp => ⟨va, nm_r e ⟨p + 1, hY post hp⟩⟩⟩
end
end
section
/-- what the moments hold when an update has written those behind moment L, from the j-th on, d of them -/
def ra_fill (g : Nat → Int32) (L : Nat) : Nat → Nat → (Nat → Int32) → (Nat → Int32)
  | 0, _, m => m
  | d + 1, j, m => ra_fill g L d (j + 1) (upd m (L + j) (g j))
theorem ra_fill_ok (g : Nat → Int32) (L P : Nat) : ∀ d j : Nat, ∀ m : Nat → Int32, j + d = P + 1 → 1 ≤ j → (∀ i, 1 ≤ i → i ≤ P → ra_ok (g i)) → (∀ i, ra_ok (m i)) → ∀ i, ra_ok (ra_fill g L d j m i) := by
  intro d
  induction d with
  | zero => intro j m _ _ _ hm; exact hm
  | succ d ih =>
    intro j m hj h1 hg hm
    refine ih (j + 1) _ (by omega) (by omega) hg ?_
    intro i
    unfold upd
    split
    · exact hg j h1 (by omega)
    · exact hm i
def ra_sh (x : Int32) (P i : Nat) : Int32 := ((x * nI i) / nI P) - ((x * (nI i - 1)) / nI P)
def ra_g (c hb v x : Int32) (P i : Nat) : Int32 := if nI P ≤ hb then (if c = 0 then v else ra_sh x P i) else -100000
def ra_fit (c v : Int32) : Int32 := if c = 0 then (if v < -1000 then 0 else if 1000 < v then 0 else 1) else (if v < 0 then 0 else if 255 < v then 0 else 1)
theorem ra_sh_ok {d P i : Nat} (hd : d < 256) (hP : P ≤ 240) (h1 : 1 ≤ i) (hi : i ≤ P) : ra_ok (ra_sh (nI d) P i) := by
  have a1 : d * i ≤ 255 * 240 := Nat.mul_le_mul (by omega) (by omega)
  have a2 : d * (i - 1) ≤ 255 * 240 := Nat.mul_le_mul (by omega) (by omega)
  have b1 : d * i / P ≤ d := by
    have h := Nat.div_le_div_right (c := P) (Nat.mul_le_mul_left d hi)
    rw [Nat.mul_div_cancel d (by omega)] at h
    exact h
  have b2 : d * (i - 1) / P ≤ d * i / P := Nat.div_le_div_right (Nat.mul_le_mul_left d (by omega))
  have e : nI i - 1 = nI (i - 1) := pk_sub (b := 1) h1
  refine Or.inr ?_
  unfold ra_sh
  rw [e, pk_mul, pk_mul, pk_div (by omega) (by omega) (by omega), pk_div (by omega) (by omega) (by omega), pk_sub b2]
  exact ra_bdN (Nat.le_trans (Nat.le_trans (Nat.sub_le _ _) b1) (by omega)) (by omega)
theorem ra_turn {v q : Nat} (hv : v < 256) (hq : q < 256) : ∃ d, d < 256 ∧ ((nI v - nI q) + 256) - ((nI v - nI q) + 256) / 256 * 256 = nI d := by
  have e : (nI v - nI q) + 256 = nI (v + 256 - q) := by
    rw [← pk_sub (by omega : q ≤ v + 256), ← nI_add]
    have z : nI 256 = 256 := rfl
    rw [z]
    grind
  rw [e]
  exact ⟨_, Nat.mod_lt _ (by decide), pk_rem (d := 256) (by omega) (by decide) (by decide)⟩
section
variable (c wd hb q s : Int32) (span rule tol room : Nat → Int32)
theorem ra_X_f7 (post : SX → Prop) (l : Int32) (t L : Nat) (v : Int32) (ht : t ≤ 240) (g : Nat → Int32) : ∀ d j : Nat, ∀ m : Nat → Int32, L + j + d = t + 1 → (∀ i, j ≤ i → L + i ≤ t → g i = v) →
    post (c, wd, hb, l, q, span, rule, tol, room, ra_fill g L d j m) → wX_fillUpTo_7 post (nI t) v c wd hb l q (d + 1) (nI (L + j)) span rule tol room m := by
  intro d
  induction d with
  | zero =>
    intro j m hj _ hp
    exact br_t (nI_lt (by omega) (by omega)) hp
  | succ d ih =>
    intro j m hj hg hp
    have e : upd m (nI (L + j)).toNatClampNeg v = upd m (L + j) (g j) := by rw [nI_clamp (by omega), hg j (Nat.le_refl j) (by omega)]
    exact br_f (nI_nlt (by omega) (by omega)) ⟨vp_in_nI (by omega) (by omega), nm_r e (nm_r (nI_1 (L + j)) (ih (j + 1) _ (by omega) (fun i h1 h2 => hg i (by omega) h2) hp))⟩
theorem ra_X_f (post : SX → Prop) (t L : Nat) (v : Int32) (hL : L < t) (ht : t ≤ 240) (g : Nat → Int32) (m : Nat → Int32) (hg : ∀ i, 1 ≤ i → i ≤ t - L → g i = v)
    (hp : post (c, wd, hb, nI L, q, span, rule, tol, room, ra_fill g L (t - L) 1 m)) : wpX_fillUpTo post (c, wd, hb, nI L, q, span, rule, tol, room, m) (nI t) v :=
  nm_r (nI_1 L) ⟨t - L + 1, ra_X_f7 c wd hb q span rule tol room post (nI L) t L v ht g (t - L) 1 m (by omega) (fun i h1 h2 => hg i h1 (by omega)) hp⟩
theorem ra_X_s26 (post : SX → Prop) (L P : Nat) (x : Int32) (hL : L + P ≤ 240) (g : Nat → Int32) : ∀ d j : Nat, ∀ m : Nat → Int32, j + d = P + 1 → 1 ≤ j → (∀ i, j ≤ i → i ≤ P → g i = ra_sh x P i) →
    post (c, wd, hb, nI L, q, span, rule, tol, room, ra_fill g L d j m) → wX_spreadUpTo_26 post x (nI P) c wd hb (nI L) q (d + 1) (nI j) span rule tol room m := by
  intro d
  induction d with
  | zero =>
    intro j m hj _ _ hp
    exact br_t (nI_lt (by omega) (by omega)) hp
  | succ d ih =>
    intro j m hj h1 hg hp
    have pz : ¬ nI P = 0 := nI_ne0 (by omega) (by omega)
    have e : upd m (nI L + nI j).toNatClampNeg (((x * nI j) / nI P) - ((x * (nI j - 1)) / nI P)) = upd m (L + j) (g j) := by
      rw [nI_add, nI_clamp (by omega), hg j (Nat.le_refl j) (by omega)]; rfl
    have vi : vp_in (nI L + nI j) 241 := by rw [nI_add]; exact vp_in_nI (by omega) (by omega)
    exact br_f (nI_nlt (by omega) (by omega)) ⟨pz, pz, vi, nm_r e (nm_r (nI_1 j) (ih (j + 1) _ (by omega) (by omega) (fun i h1 h2 => hg i (by omega) h2) hp))⟩
theorem ra_X_s (post : SX → Prop) (t L : Nat) (v : Int32) (hL : L < t) (ht : t ≤ 240) (g : Nat → Int32) (m : Nat → Int32)
    (hg : ∀ i, 1 ≤ i → i ≤ t - L → g i = ra_sh (((v - q) + 256) - ((v - q) + 256) / 256 * 256) (t - L) i)
    (hp : post (c, wd, hb, nI L, q, span, rule, tol, room, ra_fill g L (t - L) 1 m)) : wpX_spreadUpTo post (c, wd, hb, nI L, q, span, rule, tol, room, m) (nI t) v :=
  ⟨by decide, nm_e (nm_r (pk_sub (by omega)) ⟨t - L + 1, ra_X_s26 c wd hb q span rule tol room post L (t - L) _ (by omega) g (t - L) 1 m (by omega) (by omega) hg hp⟩)⟩
theorem ra_X_fit (post : Int32 → Prop) (l : Int32) (m : Nat → Int32) (v : Int32) (hp : post (ra_fit c v)) : wpX_isInRange post (c, wd, hb, l, q, span, rule, tol, room, m) v := by
  unfold ra_fit at hp
  by_cases hc : c = 0
  · rw [if_pos hc] at hp
    refine br_t hc ?_
    by_cases h1 : v < -1000
    · rw [if_pos h1] at hp; exact br_t h1 hp
    · rw [if_neg h1] at hp
      by_cases h2 : 1000 < v
      · rw [if_pos h2] at hp; exact br_f h1 (br_t h2 hp)
      · rw [if_neg h2] at hp; exact br_f h1 (br_f h2 hp)
  · rw [if_neg hc] at hp
    refine br_f hc ?_
    have hi : 256 ≤ v ↔ 255 < v := by
      rw [Int32.le_iff_toInt_le, Int32.lt_iff_toInt_lt, show (256 : Int32).toInt = 256 from by decide, show (255 : Int32).toInt = 255 from by decide]
      omega
    by_cases h1 : v < 0
    · rw [if_pos h1] at hp; exact br_t h1 hp
    · rw [if_neg h1] at hp
      by_cases h2 : 255 < v
      · rw [if_pos h2] at hp; exact br_f h1 (br_t (hi.mpr h2) hp)
      · rw [if_neg h2] at hp; exact br_f h1 (br_f (fun z => h2 (hi.mp z)) hp)
theorem ra_Y_fit (post : Int32 → SY → Prop) (l : Int32) (m : Nat → Int32) (t v : Int32) (hp : wY_update_45 post t v (ra_fit c v) c wd hb l s span rule tol room m) : wpY_update post (c, wd, hb, l, s, span, rule, tol, room, m) t v := by
  unfold ra_fit at hp
  by_cases hc : c = 0
  · rw [if_pos hc] at hp
    refine br_t hc ?_
    by_cases h1 : v < -1000
    · rw [if_pos h1] at hp; exact br_t h1 hp
    · rw [if_neg h1] at hp
      by_cases h2 : 1000 < v
      · rw [if_pos h2] at hp; exact br_f h1 (br_t h2 hp)
      · rw [if_neg h2] at hp; exact br_f h1 (br_f h2 hp)
  · rw [if_neg hc] at hp
    refine br_f hc ?_
    by_cases h1 : v < 0
    · rw [if_pos h1] at hp; exact br_t h1 hp
    · rw [if_neg h1] at hp
      by_cases h2 : 255 < v
      · rw [if_pos h2] at hp; exact br_f h1 (br_t h2 hp)
      · rw [if_neg h2] at hp; exact br_f h1 (br_f h2 hp)
theorem ra_X_no (post : Int32 → SX → Prop) (l : Int32) (m : Nat → Int32) (t v : Int32) (h : t ≤ l ∨ 240 < t ∨ ra_fit c v = 0)
    (hp : post 0 (c, wd, hb, l, q, span, rule, tol, room, m)) : wpX_update post (c, wd, hb, l, q, span, rule, tol, room, m) t v := by
  by_cases h1 : t ≤ l
  · exact br_t h1 hp
  · by_cases h2 : 240 < t
    · exact br_f h1 (br_t h2 hp)
    · exact br_f h1 (br_f h2 (ra_X_fit c wd hb q span rule tol room _ l m v (br_t ((h.resolve_left h1).resolve_left h2) hp)))
theorem ra_Y_no (post : Int32 → SY → Prop) (l : Int32) (m : Nat → Int32) (t v : Int32) (h : t ≤ l ∨ 240 < t ∨ ra_fit c v = 0)
    (hp : post 0 (c, wd, hb, l, s, span, rule, tol, room, m)) : wpY_update post (c, wd, hb, l, s, span, rule, tol, room, m) t v := by
  refine ra_Y_fit c wd hb s span rule tol room post l m t v ?_
  by_cases h0 : t < 1
  · exact br_t h0 hp
  · by_cases h2 : 240 < t
    · exact br_f h0 (br_t h2 hp)
    · by_cases h1 : t ≤ l
      · exact br_f h0 (br_f h2 (br_t h1 hp))
      · exact br_f h0 (br_f h2 (br_f h1 (br_t ((h.resolve_left h1).resolve_left h2) hp)))
theorem ra_X_up (post : Int32 → SX → Prop) (t L : Nat) (v : Int32) (m : Nat → Int32) (hL : L < t) (ht : t ≤ 240) (hf : ¬ ra_fit c v = 0)
    (hp : post 1 (c, wd, hb, nI t, v, span, rule, tol, room, ra_fill (ra_g c hb v (((v - q) + 256) - ((v - q) + 256) / 256 * 256) (t - L)) L (t - L) 1 m)) :
    wpX_update post (c, wd, hb, nI L, q, span, rule, tol, room, m) (nI t) v := by
  refine br_f (nI_ge hL (by omega)) (br_f (nI_nlt (a := 240) ht (by omega)) (ra_X_fit c wd hb q span rule tol room _ (nI L) m v (br_f hf ?_)))
  have es : nI t - nI L = nI (t - L) := pk_sub (by omega)
  by_cases hP : nI (t - L) ≤ hb
  · refine br_t (by rw [es]; exact hP) ?_
    by_cases hc : c = 0
    · refine br_t hc (ra_X_f c wd hb q span rule tol room _ t L v hL ht _ m (fun i _ _ => ?_) hp)
      unfold ra_g
      rw [if_pos hP, if_pos hc]
    · refine br_f hc (ra_X_s c wd hb q span rule tol room _ t L v hL ht _ m (fun i _ _ => ?_) hp)
      unfold ra_g
      rw [if_pos hP, if_neg hc]
  · refine br_f (by rw [es]; exact hP) (ra_X_f c wd hb q span rule tol room _ t L (-100000) hL ht _ m (fun i _ _ => ?_) hp)
    unfold ra_g
    rw [if_neg hP]
theorem ra_Y_136 (post : Int32 → SY → Prop) (J : Int32 → (Nat → Int32) → (Nat → Int32) → (Nat → Int32) → (Nat → Int32) → (Nat → Int32) → Prop) (x1 x2 x4 x5 z : Int32) (L j : Nat) (m : Nat → Int32) (hj : L + j ≤ 240)
    (h : J (nI (j + 1)) span rule tol room (upd m (L + j) (if x4 ≤ hb then z else -100000))) : wY_update_136 post J x1 x2 x4 x5 (nI j) z c wd hb (nI L) s span rule tol room m := by
  have vi : vp_in (nI L + nI j) 241 := by rw [nI_add]; exact vp_in_nI (by omega) (by omega)
  have e : (nI L + nI j).toNatClampNeg = L + j := by rw [nI_add]; exact nI_clamp (by omega)
  by_cases hx : x4 ≤ hb
  · rw [if_pos hx] at h
    exact br_t hx ⟨vi, nm_r (congrArg (fun k => upd m k z) e) (nm_r (nI_1 j) h)⟩
  · rw [if_neg hx] at h
    exact br_f hx ⟨vi, nm_r (congrArg (fun k => upd m k (-100000)) e) (nm_r (nI_1 j) h)⟩
theorem ra_Y_99 (post : Int32 → SY → Prop) (t v x : Int32) (L P : Nat) (hL : L + P ≤ 240) : ∀ d j : Nat, ∀ m : Nat → Int32, j + d = P + 1 → 1 ≤ j →
    post 1 (c, wd, hb, t, (if c = 0 then 0 else v), span, rule, tol, room, ra_fill (ra_g c hb v x P) L d j m) → wY_update_99 post t v (nI P) x c wd hb (nI L) s (d + 1) (nI j) span rule tol room m := by
  intro d
  induction d with
  | zero =>
    intro j m hj _ hp
    refine br_t (nI_lt (by omega) (by omega)) ?_
    by_cases hc : c = 0
    · rw [if_pos hc] at hp; exact br_t hc hp
    · rw [if_neg hc] at hp; exact br_f hc hp
  | succ d ih =>
    intro j m hj h1 hp
    have h := ih (j + 1) _ (by omega) (by omega) hp
    refine br_f (nI_nlt (by omega) (by omega)) ?_
    have pz : ¬ nI P = 0 := nI_ne0 (by omega) (by omega)
    by_cases hc : c = 0
    · refine br_t hc (ra_Y_136 c wd hb s span rule tol room post _ t v (nI P) x v L j m (by omega) ?_)
      unfold ra_g at h
      rw [if_pos hc] at h
      exact h
    · refine br_f hc ⟨pz, pz, ra_Y_136 c wd hb s span rule tol room post _ t v (nI P) x _ L j m (by omega) ?_⟩
      unfold ra_g at h
      rw [if_neg hc] at h
      exact h
theorem ra_Y_up (post : Int32 → SY → Prop) (t L : Nat) (v : Int32) (m : Nat → Int32) (hL : L < t) (ht : t ≤ 240) (hf : ¬ ra_fit c v = 0)
    (hp : post 1 (c, wd, hb, nI t, (if c = 0 then 0 else v), span, rule, tol, room, ra_fill (ra_g c hb v (((v - s) + 256) - ((v - s) + 256) / 256 * 256) (t - L)) L (t - L) 1 m)) :
    wpY_update post (c, wd, hb, nI L, s, span, rule, tol, room, m) (nI t) v := by
  refine ra_Y_fit c wd hb s span rule tol room post (nI L) m (nI t) v ?_
  refine br_f (nI_nlt (b := 1) (by omega) (by omega)) (br_f (nI_nlt (a := 240) ht (by omega)) (br_f (nI_ge hL (by omega)) (br_f hf ?_)))
  exact nm_r (pk_sub (by omega)) ⟨by decide, nm_e ⟨t - L + 1, ra_Y_99 c wd hb s span rule tol room post (nI t) v _ L (t - L) (by omega) (t - L) 1 m (by omega) (by omega) hp⟩⟩
theorem ra_fit_bd {v : Int32} (hc : c = 0) (hf : ¬ ra_fit c v = 0) : ra_bd v 1 := by
  unfold ra_fit at hf
  rw [if_pos hc] at hf
  by_cases h1 : v < -1000
  · rw [if_pos h1] at hf; exact absurd rfl hf
  · by_cases h2 : 1000 < v
    · rw [if_neg h1, if_pos h2] at hf; exact absurd rfl hf
    · rw [Int32.lt_iff_toInt_lt, show (-1000 : Int32).toInt = -1000 from by decide] at h1
      rw [Int32.lt_iff_toInt_lt, show (1000 : Int32).toInt = 1000 from by decide] at h2
      unfold ra_bd
      omega
theorem ra_fit_n {v : Int32} (hc : ¬ c = 0) (hf : ¬ ra_fit c v = 0) : ∃ j, j < 256 ∧ v = nI j := by
  unfold ra_fit at hf
  rw [if_neg hc] at hf
  by_cases h1 : v < 0
  · rw [if_pos h1] at hf; exact absurd rfl hf
  · by_cases h2 : 255 < v
    · rw [if_neg h1, if_pos h2] at hf; exact absurd rfl hf
    · obtain ⟨j, hj, rfl⟩ := nI_of h1
      exact ⟨j, Nat.lt_of_not_le (fun z => h2 (nI_lt (a := 255) (by omega) hj)), rfl⟩
end
end
section
/-- what both states keep: the width w, the latest moment L, the wheel (a counter's), each archive's shape, the moments -/
def ra_I (c q s : Int32) (w L : Nat) (span rule room m : Nat → Int32) : Prop := (1 ≤ w ∧ w ≤ 6 ∧ L ≤ 240) ∧ (c = 0 ∨ (s = q ∧ ∃ j, j < 256 ∧ q = nI j)) ∧
  (∀ a, a < 2 → ∃ p rl rm, 1 ≤ p ∧ p ≤ 4 ∧ span a = nI p ∧ rl < 4 ∧ rule a = nI rl ∧ rm ≤ 8 ∧ room a = nI rm) ∧ (∀ i, ra_ok (m i))
/-- the two states are the same but for the wheel: the gauge's wheel in X holds the last value, in Y it holds 0; nobody reads it -/
def i_Rel (_ : Nat) (u : SX) (v : SY) : Prop := ∃ (c hb q s : Int32) (w L : Nat) (span rule tol room m : Nat → Int32),
  u = (c, nI w, hb, nI L, q, span, rule, tol, room, m) ∧ v = (c, nI w, hb, nI L, s, span, rule, tol, room, m) ∧ ra_I c q s w L span rule room m
theorem i_up {k : Nat} {u : SX} {v : SY} (h : i_Rel k u v) : i_Rel (k + 3) u v := h
theorem ra_cl {x : Int32} {M : Nat} {M' : Int32} (hM : M' = nI M) (h1 : 1 ≤ M) (hb : M < 1000) : ∃ w, 1 ≤ w ∧ w ≤ M ∧ (∀ post : Int32 → Prop, post (nI w) → wpX_clamped post x M') ∧
    (∀ A : Int32 → Prop, A (nI w) → ((1 ≤ x → ((x ≤ M' → A x) ∧ (¬ x ≤ M' → A M'))) ∧ (¬ 1 ≤ x → A 1))) := by
  subst hM
  by_cases h : 1 ≤ x
  · have h0 : ¬ x < 0 := Int32.not_lt.mpr (Int32.le_trans (by decide) h)
    obtain ⟨j, hj, rfl⟩ := nI_of h0
    have j1 : 1 ≤ j := Nat.le_of_not_lt (fun z => nI_ge (b := 1) z (by omega) h)
    by_cases h2 : j ≤ M
    · have h3 : nI j ≤ nI M := nI_le h2 (by omega)
      exact ⟨j, j1, h2, fun _ hp => br_t h (br_t h3 hp), fun _ hp => br_t h (br_t h3 hp)⟩
    · have h3 : ¬ nI j ≤ nI M := nI_ge (by omega) hj
      exact ⟨M, h1, Nat.le_refl M, fun _ hp => br_t h (br_f h3 hp), fun _ hp => br_t h (br_f h3 hp)⟩
  · exact ⟨1, Nat.le_refl 1, h1, fun _ hp => br_f h hp, fun _ hp => br_f h hp⟩
def ra_two (x : Int32) : Nat → Int32 := upd (upd (fun _ => 0) 0 x) 1 x
theorem ra_two_at {x : Int32} {a : Nat} (ha : a < 2) : ra_two x a = x := by
  have hc : a = 0 ∨ a = 1 := by omega
  rcases hc with rfl | rfl <;> rfl
theorem ra_two0 : ra_two 0 = fun _ => 0 := by
  funext i
  unfold ra_two upd
  split
  · rfl
  · split <;> rfl
theorem ra_X_i88 (post : SX → Prop) (c w hb : Int32) (h : post (c, w, hb, 0, 0, ra_two 1, fun _ => 0, fun _ => 0, ra_two 4, fun _ => 0)) :
    ∃ n, wX_init_88 post c w hb 0 0 n 0 (fun _ => 0) (fun _ => 0) (fun _ => 0) (fun _ => 0) (fun _ => 0) := by
  have h' : post (c, w, hb, 0, 0, ra_two 1, ra_two 0, ra_two 0, ra_two 4, fun _ => 0) := by rw [ra_two0]; exact h
  have v0 : vp_in 0 2 := vp_in_iff.mpr (by decide)
  have v1 : vp_in 1 2 := vp_in_iff.mpr (by decide)
  refine ⟨3, br_f (by decide) ⟨v0, nm_e ⟨v0, nm_e ⟨v0, nm_e ⟨v0, nm_e (nm_r (e' := 1) (by decide) ?_)⟩⟩⟩⟩⟩
  refine br_f (by decide) ⟨v1, nm_e ⟨v1, nm_e ⟨v1, nm_e ⟨v1, nm_e (nm_r (e' := 2) (by decide) ?_)⟩⟩⟩⟩
  exact br_t (by decide) h'
theorem ra_Y_i108 (post : SY → Prop) (c w hb : Int32) (h : post (c, w, hb, 0, 0, ra_two 1, fun _ => 0, fun _ => 0, ra_two 4, fun _ => 0)) :
    ∃ n, wY_init_108 post c w hb 0 0 n 0 (fun _ => 0) (fun _ => 0) (fun _ => 0) (fun _ => 0) (fun _ => 0) := by
  have v0 : vp_in 0 2 := vp_in_iff.mpr (by decide)
  have v1 : vp_in 1 2 := vp_in_iff.mpr (by decide)
  exact ⟨3, br_f (by decide) ⟨v0, nm_e ⟨v0, nm_e (nm_r (e' := 1) (by decide) (br_f (by decide) ⟨v1, nm_e ⟨v1, nm_e (nm_r (e' := 2) (by decide) (br_t (by decide) h))⟩⟩))⟩⟩⟩
theorem ra_rel0 (c : Int32) (hb : Int32) (w : Nat) (h1 : 1 ≤ w) (h6 : w ≤ 6) : i_Rel 3 (c, nI w, hb, 0, 0, ra_two 1, fun _ => 0, fun _ => 0, ra_two 4, fun _ => 0) (c, nI w, hb, 0, 0, ra_two 1, fun _ => 0, fun _ => 0, ra_two 4, fun _ => 0) :=
  ⟨c, hb, 0, 0, w, 0, ra_two 1, fun _ => 0, fun _ => 0, ra_two 4, fun _ => 0, rfl, rfl, ⟨h1, h6, by omega⟩, Or.inr ⟨rfl, 0, by omega, rfl⟩,
    fun a ha => ⟨1, 0, 4, by omega, by omega, ra_two_at ha, by omega, rfl, by omega, ra_two_at ha⟩, fun _ => Or.inr (ra_bdN (d := 0) (by omega) (by omega))⟩
theorem i_vc0 (k0 : Int32) (k1 : Int32) (k2 : Int32) : wpX_init (fun u => wpY_init (fun v => i_Rel 3 u v) k0 k1 k2) k0 k1 k2 := by
  obtain ⟨w, w1, w6, wX, wY⟩ := ra_cl (x := k1) (M := 6) (M' := 6) rfl (by omega) (by omega)
  obtain ⟨b, b1, b30, bX, bY⟩ := ra_cl (x := k2) (M := 30) (M' := 30) rfl (by omega) (by omega)
  have key : ∀ z : Int32, narrow .boolean (.int z) = .int z → fits .boolean (.int z) = true → (wpY_init (fun v => i_Rel 3 (z, nI w, nI b, 0, 0, ra_two 1, fun _ => 0, fun _ => 0, ra_two 4, fun _ => 0) v) k0 k1 k2) →
      wX_init_62 (fun u => wpY_init (fun v => i_Rel 3 u v) k0 k1 k2) k1 k2 z 0 0 0 0 0 (fun _ => 0) (fun _ => 0) (fun _ => 0) (fun _ => 0) (fun _ => 0) := by
    intro z h1 h2 h
    exact ⟨h1, h2, wX _ (bX _ (ra_X_i88 _ z (nI w) (nI b) h))⟩
  have kez : ∀ z : Int32, narrow .boolean (.int z) = .int z → fits .boolean (.int z) = true →
      wY_init_52 (fun v => i_Rel 3 (z, nI w, nI b, 0, 0, ra_two 1, fun _ => 0, fun _ => 0, ra_two 4, fun _ => 0) v) k1 k2 z 0 0 0 0 0 (fun _ => 0) (fun _ => 0) (fun _ => 0) (fun _ => 0) (fun _ => 0) := by
    intro z h1 h2
    refine ⟨h1, h2, wY (fun x => wY_init_77 (fun v => i_Rel 3 (z, nI w, nI b, 0, 0, ra_two 1, fun _ => 0, fun _ => 0, ra_two 4, fun _ => 0) v) k2 x z 0 0 0 0 (fun _ => 0) (fun _ => 0) (fun _ => 0) (fun _ => 0) (fun _ => 0)) ?_⟩
    exact bY (fun y => ∃ n, wY_init_108 (fun v => i_Rel 3 (z, nI w, nI b, 0, 0, ra_two 1, fun _ => 0, fun _ => 0, ra_two 4, fun _ => 0) v) z (nI w) y 0 0 n 0 (fun _ => 0) (fun _ => 0) (fun _ => 0) (fun _ => 0) (fun _ => 0)) (ra_Y_i108 _ z (nI w) (nI b) (ra_rel0 z (nI b) w w1 w6))
  by_cases hk : k0 < 1
  · exact br_t hk (key 0 rfl rfl (br_t hk (kez 0 rfl rfl)))
  · exact br_f hk (key 1 rfl rfl (br_f hk (kez 1 rfl rfl)))
end
section
theorem i_vc_update {k : Nat} {u : SX} {v : SY} (I : i_Rel k u v) (hk : k + 3 ≤ 1539) (v1 : Int32) (v2 : Int32) : wpX_update (fun r u' => wpY_update (fun r' v' => r' = r ∧ i_Rel (k + 3) u' v') v v1 v2) u v1 v2 := by
  obtain ⟨c, hb, q, s, w, L, span, rule, tol, room, m, rfl, rfl, ⟨w1, w6, hL⟩, hq, hA, hm⟩ := I
  by_cases hn : v1 ≤ nI L ∨ 240 < v1 ∨ ra_fit c v2 = 0
  · exact ra_X_no c _ hb q span rule tol room _ _ m v1 v2 hn (ra_Y_no c _ hb s span rule tol room _ _ m v1 v2 hn ⟨rfl, c, hb, q, s, w, L, span, rule, tol, room, m, rfl, rfl, ⟨w1, w6, hL⟩, hq, hA, hm⟩)
  · have hf : ¬ ra_fit c v2 = 0 := fun z => hn (Or.inr (Or.inr z))
    have h1 : ¬ v1 ≤ nI L := fun z => hn (Or.inl z)
    have h2 : ¬ 240 < v1 := fun z => hn (Or.inr (Or.inl z))
    have h0 : ¬ v1 < 0 := fun z => h1 (Int32.le_trans (Int32.le_of_lt z) (nI_pos' (by omega)))
    obtain ⟨t, ht31, rfl⟩ := nI_of h0
    have ht : t ≤ 240 := Nat.le_of_not_lt (fun z => h2 (nI_lt (a := 240) z ht31))
    have hLt : L < t := Nat.lt_of_not_le (fun z => h1 (nI_le z (by omega)))
    refine ra_X_up c _ hb q span rule tol room _ t L v2 m hLt ht hf (ra_Y_up c _ hb s span rule tol room _ t L v2 m hLt ht hf ⟨rfl, ?_⟩)
    by_cases hc : c = 0
    · subst hc
      have eg : ra_g 0 hb v2 (((v2 - s) + 256) - ((v2 - s) + 256) / 256 * 256) (t - L) = ra_g 0 hb v2 (((v2 - q) + 256) - ((v2 - q) + 256) / 256 * 256) (t - L) := by
        funext i
        unfold ra_g
        rw [if_pos rfl, if_pos rfl]
      rw [eg]
      refine ⟨0, hb, v2, _, w, t, span, rule, tol, room, _, rfl, rfl, ⟨w1, w6, ht⟩, Or.inl rfl, hA, ra_fill_ok _ L (t - L) (t - L) 1 m (by omega) (by omega) (fun i _ _ => ?_) hm⟩
      unfold ra_g
      by_cases hP : nI (t - L) ≤ hb
      · rw [if_pos hP, if_pos rfl]; exact Or.inr (ra_fit_bd 0 rfl hf)
      · rw [if_neg hP]; exact Or.inl rfl
    · obtain ⟨rfl, j, hj, rfl⟩ := hq.resolve_left hc
      obtain ⟨n, hn', rfl⟩ := ra_fit_n c hc hf
      obtain ⟨d, hd, ed⟩ := ra_turn hn' hj
      rw [ed]
      refine ⟨c, hb, nI n, _, w, t, span, rule, tol, room, _, rfl, rfl, ⟨w1, w6, ht⟩, Or.inr ⟨if_neg hc, n, hn', rfl⟩, hA, ra_fill_ok _ L (t - L) (t - L) 1 m (by omega) (by omega) (fun i i1 i2 => ?_) hm⟩
      unfold ra_g
      by_cases hP : nI (t - L) ≤ hb
      · rw [if_pos hP, if_neg hc]; exact ra_sh_ok hd (by omega) i1 i2
      · rw [if_neg hP]; exact Or.inl rfl
theorem i_vc_lastTime {k : Nat} {u : SX} {v : SY} (I : i_Rel k u v) (hk : k + 3 ≤ 1539) : wpX_lastTime (fun r => wpY_lastTime (fun r' => r' = r ∧ i_Rel (k + 3) u v) v) u := by
  have J := i_up I
  obtain ⟨c, hb, q, s, w, L, span, rule, tol, room, m, rfl, rfl, _⟩ := I
  exact ⟨rfl, J⟩
theorem i_vc_moment {k : Nat} {u : SX} {v : SY} (I : i_Rel k u v) (hk : k + 3 ≤ 1539) (v1 : Int32) : wpX_moment (fun r => wpY_moment (fun r' => r' = r ∧ i_Rel (k + 3) u v) v v1) u v1 := by
  have J := i_up I
  obtain ⟨c, hb, q, s, w, L, span, rule, tol, room, m, rfl, rfl, ⟨w1, w6, hL⟩, hq, hA, hm⟩ := I
  by_cases h1 : v1 < 1
  · exact br_t h1 (br_t h1 ⟨rfl, J⟩)
  · by_cases h2 : nI L < v1
    · exact br_f h1 (br_t h2 (br_f h1 (br_t h2 ⟨rfl, J⟩)))
    · by_cases h3 : nI L - v1 ≤ 30
      · have vi : vp_in v1 241 := by
          have h0 : ¬ v1 < 0 := fun z => h1 (Int32.lt_trans z (by decide))
          obtain ⟨j, hj, rfl⟩ := nI_of h0
          have : ¬ L < j := fun z => h2 (nI_lt z hj)
          exact vp_in_nI (by omega) (by omega)
        exact br_f h1 (br_f h2 (br_t h3 ⟨vi, br_f h1 (br_f h2 (br_t h3 ⟨vi, rfl, J⟩))⟩))
      · exact br_f h1 (br_f h2 (br_f h3 (br_f h1 (br_f h2 (br_f h3 ⟨rfl, J⟩)))))
theorem i_vc_steps {k : Nat} {u : SX} {v : SY} (I : i_Rel k u v) (hk : k + 3 ≤ 1539) : wpX_steps (fun r => wpY_steps (fun r' => r' = r ∧ i_Rel (k + 3) u v) v) u := by
  have J := i_up I
  obtain ⟨c, hb, q, s, w, L, span, rule, tol, room, m, rfl, rfl, ⟨w1, w6, hL⟩, _⟩ := I
  have wz : ¬ nI w = 0 := nI_ne0 w1 (by omega)
  exact ⟨wz, wz, rfl, J⟩
theorem i_vc_pending {k : Nat} {u : SX} {v : SY} (I : i_Rel k u v) (hk : k + 3 ≤ 1539) : wpX_pending (fun r => wpY_pending (fun r' => r' = r ∧ i_Rel (k + 3) u v) v) u := by
  have J := i_up I
  obtain ⟨c, hb, q, s, w, L, span, rule, tol, room, m, rfl, rfl, ⟨w1, w6, hL⟩, _⟩ := I
  have wz : ¬ nI w = 0 := nI_ne0 w1 (by omega)
  exact ⟨wz, wz, rfl, J⟩
theorem ra_ps (c c' wd hb hb' q s : Int32) (span rule tol room span' rule' tol' room' m : Nat → Int32) (L : Nat) (hL : L ≤ 240) : ∀ d i : Nat, ∀ sum : Int32, i + d = L + 1 → ∃ r,
    (∀ post : Int32 → Prop, post r → wX_pendingSum_14 post c wd hb (nI L) q span rule tol room m (d + 1) sum (nI i)) ∧
    (∀ post : Int32 → Prop, post r → wY_pendingSum_19 post c' wd hb' (nI L) s span' rule' tol' room' m (d + 1) sum (nI i)) := by
  intro d
  induction d with
  | zero =>
    intro i sum hi
    have h : nI L < nI i := nI_lt (by omega) (by omega)
    exact ⟨sum, fun _ hp => br_t h hp, fun _ hp => br_t h hp⟩
  | succ d ih =>
    intro i sum hi
    have h : ¬ nI L < nI i := nI_nlt (by omega) (by omega)
    have vi : vp_in (nI i) 241 := vp_in_nI (by omega) (by omega)
    by_cases hy : m (nI i).toNatClampNeg = -100000
    · obtain ⟨r, hX, hY⟩ := ih (i + 1) sum (by omega)
      exact ⟨r, fun post hp => br_f h ⟨vi, br_t hy (nm_r (nI_1 i) (hX post hp))⟩, fun post hp => br_f h ⟨vi, br_t hy (nm_r (Int32.add_zero sum) (nm_r (nI_1 i) (hY post hp)))⟩⟩
    · obtain ⟨r, hX, hY⟩ := ih (i + 1) (sum + m (nI i).toNatClampNeg) (by omega)
      exact ⟨r, fun post hp => br_f h ⟨vi, br_f hy ⟨vi, nm_e (nm_r (nI_1 i) (hX post hp))⟩⟩, fun post hp => br_f h ⟨vi, br_f hy ⟨vi, nm_e (nm_r (nI_1 i) (hY post hp))⟩⟩⟩
theorem i_vc_pendingSum {k : Nat} {u : SX} {v : SY} (I : i_Rel k u v) (hk : k + 3 ≤ 1539) : wpX_pendingSum (fun r => wpY_pendingSum (fun r' => r' = r ∧ i_Rel (k + 3) u v) v) u := by
  have J := i_up I
  obtain ⟨c, hb, q, s, w, L, span, rule, tol, room, m, rfl, rfl, ⟨w1, w6, hL⟩, _⟩ := I
  have wz : ¬ nI w = 0 := nI_ne0 w1 (by omega)
  have hmod : L % w < w := Nat.mod_lt _ w1
  have hmod2 : L % w ≤ L := Nat.mod_le _ _
  have e : (nI L - (nI L - nI L / nI w * nI w)) + 1 = nI (L - L % w + 1) := by rw [pk_rem (by omega) w1 (by omega), pk_sub hmod2, nI_1]
  obtain ⟨r, hX, hY⟩ := ra_ps c c (nI w) hb hb q s span rule tol room span rule tol room m L hL (L % w) (L - L % w + 1) 0 (by omega)
  exact ⟨wz, nm_r e ⟨L % w + 1, hX _ ⟨wz, nm_r e ⟨L % w + 1, hY _ ⟨rfl, J⟩⟩⟩⟩⟩
end
section
theorem ra_of3 {x : Int32} {M : Nat} {M' : Int32} (hM : M' = nI M) (hb : M < 1000) (h1 : ¬ x < 1) (h2 : ¬ M' < x) : ∃ p, 1 ≤ p ∧ p ≤ M ∧ x = nI p := by
  subst hM
  have h0 : ¬ x < 0 := fun z => h1 (Int32.lt_trans z (by decide))
  obtain ⟨j, hj, rfl⟩ := nI_of h0
  exact ⟨j, Nat.le_of_not_lt (fun z => h1 (nI_lt (b := 1) z (by omega))), Nat.le_of_not_lt (fun z => h2 (nI_lt z hj)), rfl⟩
theorem i_vc_shape {k : Nat} {u : SX} {v : SY} (I : i_Rel k u v) (hk : k + 3 ≤ 1539) (v1 : Int32) (v2 : Int32) : wpX_shape (fun r u' => wpY_shape (fun r' v' => r' = r ∧ i_Rel (k + 3) u' v') v v1 v2) u v1 v2 := by
  have J := i_up I
  obtain ⟨c, hb, q, s, w, L, span, rule, tol, room, m, rfl, rfl, ⟨w1, w6, hL⟩, hq, hA, hm⟩ := I
  rcases pk_ix v1 (n := 2) (by omega) with h | h | ⟨a, ha, rfl⟩
  · exact nm_e (nm_e (nm_e (nm_e (ra_X_na (Or.inl h) (br_t rfl (nm_e (nm_e (nm_e (nm_e (ra_nar (Or.inl h) ⟨rfl, J⟩))))))))))
  · exact nm_e (nm_e (nm_e (nm_e (ra_X_na (Or.inr h) (br_t rfl (nm_e (nm_e (nm_e (nm_e (ra_nar (Or.inr h) ⟨rfl, J⟩))))))))))
  · have va : vp_in (nI a) 2 := vp_in_nI ha (by omega)
    have ea : (nI a).toNatClampNeg = a := nI_clamp (by omega)
    obtain ⟨rl, hrl, erl⟩ := pk_andE (v2 >>> ((3 : Int32) &&& 31)) (m := 7) 3 (by decide)
    refine nm_e (nm_e (nm_e (nm_e (ra_X_ar ha (br_f (by decide) ?_)))))
    by_cases g1 : nI L ≤ 0
    · have g1' : ¬ 0 < nI L := Int32.not_lt.mpr g1
      by_cases g2 : v2 &&& 7 < 1
      · exact br_t g1 (br_t g2 (nm_e (nm_e (nm_e (nm_e (ra_arc ha (br_f g1' (br_t g2 ⟨rfl, J⟩))))))))
      · by_cases g3 : 4 < v2 &&& 7
        · exact br_t g1 (br_f g2 (br_t g3 (nm_e (nm_e (nm_e (nm_e (ra_arc ha (br_f g1' (br_f g2 (br_t g3 ⟨rfl, J⟩))))))))))
        · by_cases g4 : (v2 >>> ((3 : Int32) &&& 31)) &&& 7 ≤ 3
          · have g4' : ¬ 3 < (v2 >>> ((3 : Int32) &&& 31)) &&& 7 := Int32.not_lt.mpr g4
            by_cases g5 : 3 < (v2 >>> ((6 : Int32) &&& 31)) &&& 7
            · exact br_t g1 (br_f g2 (br_f g3 (br_t g4 (br_t g5 (nm_e (nm_e (nm_e (nm_e (ra_arc ha (br_f g1' (br_f g2 (br_f g3 (br_f g4' (br_t g5 ⟨rfl, J⟩))))))))))))))
            · by_cases g6 : v2 >>> ((9 : Int32) &&& 31) < 1
              · exact br_t g1 (br_f g2 (br_f g3 (br_t g4 (br_f g5 (br_t g6 (nm_e (nm_e (nm_e (nm_e (ra_arc ha (br_f g1' (br_f g2 (br_f g3 (br_f g4' (br_f g5 (br_t g6 ⟨rfl, J⟩))))))))))))))))
              · by_cases g7 : v2 >>> ((9 : Int32) &&& 31) ≤ 8
                · refine br_t g1 (br_f g2 (br_f g3 (br_t g4 (br_f g5 (br_f g6 (br_t g7 ⟨va, nm_e ⟨va, nm_e ⟨va, nm_e ⟨va, nm_e ?_⟩⟩⟩⟩))))))
                  refine nm_e (nm_e (nm_e (nm_e (ra_arc ha (br_f g1' (br_f g2 (br_f g3 (br_f g4' (br_f g5 (br_f g6 (br_t g7 ⟨va, nm_e ⟨va, nm_e ⟨va, nm_e ⟨va, nm_e ⟨rfl, ?_⟩⟩⟩⟩⟩)))))))))))
                  refine ⟨c, hb, q, s, w, L, _, _, _, _, m, rfl, rfl, ⟨w1, w6, hL⟩, hq, fun b hb2 => ?_, hm⟩
                  rw [ea]
                  by_cases hba : b = a
                  · subst hba
                    obtain ⟨p, p1, p4, ep⟩ := ra_of3 (M := 4) (M' := 4) rfl (by omega) g2 g3
                    obtain ⟨rm, rm1, rm8, erm⟩ := ra_of3 (M := 8) (M' := 8) rfl (by omega) g6 (Int32.not_lt.mpr g7)
                    rw [erl] at g4
                    have hrl4 : rl < 4 := Nat.lt_of_not_le (fun z => nI_ge (a := 3) (b := rl) (by omega) (by omega) g4)
                    exact ⟨p, rl, rm, p1, p4, pk_us.trans ep, hrl4, pk_us.trans erl, rm8, pk_us.trans erm⟩
                  · rw [pk_un hba, pk_un hba, pk_un hba]
                    exact hA b hb2
                · exact br_t g1 (br_f g2 (br_f g3 (br_t g4 (br_f g5 (br_f g6 (br_f g7 (nm_e (nm_e (nm_e (nm_e (ra_arc ha (br_f g1' (br_f g2 (br_f g3 (br_f g4' (br_f g5 (br_f g6 (br_f g7 ⟨rfl, J⟩))))))))))))))))))
          · have g4' : 3 < (v2 >>> ((3 : Int32) &&& 31)) &&& 7 := Int32.not_le.mp g4
            exact br_t g1 (br_f g2 (br_f g3 (br_f g4 (nm_e (nm_e (nm_e (nm_e (ra_arc ha (br_f g1' (br_f g2 (br_f g3 (br_t g4' ⟨rfl, J⟩))))))))))))
    · have g1' : 0 < nI L := Int32.not_le.mp g1
      exact br_f g1 (nm_e (nm_e (nm_e (nm_e (ra_arc ha (br_t g1' ⟨rfl, J⟩))))))
theorem i_vc_lastStep {k : Nat} {u : SX} {v : SY} (I : i_Rel k u v) (hk : k + 3 ≤ 1539) : wpX_lastStep (fun r => wpY_lastStep (fun r' => r' = r ∧ i_Rel (k + 3) u v) v) u := by
  have J := i_up I
  obtain ⟨c, hb, q, s, w, L, span, rule, tol, room, m, rfl, rfl, ⟨w1, w6, hL⟩, hq, hA, hm⟩ := I
  have wz : ¬ nI w = 0 := nI_ne0 w1 (by omega)
  have e : nI L / nI w = nI (L / w) := pk_div (by omega) w1 (by omega)
  have hle : L / w ≤ L := Nat.div_le_self _ _
  by_cases h0 : L / w = 0
  · have z : nI L / nI w = 0 := by rw [e, h0]; rfl
    exact ⟨wz, br_t z ⟨wz, br_t z ⟨rfl, J⟩⟩⟩
  · have hpos : 0 < L / w := Nat.pos_of_ne_zero h0
    have z : ¬ nI L / nI w = 0 := by rw [e]; exact nI_ne0 hpos (by omega)
    have e2 : nI L / nI w - 1 = nI (L / w - 1) := by rw [e]; exact pk_sub (b := 1) hpos
    have hkk : (L / w - 1 + 1) * w ≤ 240 := by
      rw [Nat.sub_add_cancel hpos]
      exact Nat.le_trans (Nat.div_mul_le_self L w) hL
    obtain ⟨r, ro, sX, sY⟩ := ra_step c hb (nI L) q span rule tol room c hb (nI L) s span rule tol room m w (L / w - 1) w1 w6 hkk hm
    rw [← e2] at sX sY
    exact ⟨wz, br_f z (sX _ ⟨wz, br_f z (sY _ ⟨rfl, J⟩)⟩)⟩
/-- what a valid archive's number gives -/
def ra_P (w L a p rl rm : Nat) (span rule room m : Nat → Int32) : Prop := (1 ≤ w ∧ w ≤ 6 ∧ L ≤ 240 ∧ a < 2 ∧ 1 ≤ p ∧ p ≤ 4 ∧ rl < 4 ∧ rm ≤ 8) ∧ span a = nI p ∧ rule a = nI rl ∧ room a = nI rm ∧ ∀ i, ra_ok (m i)
section
variable (c hb q s : Int32) (span rule tol room m : Nat → Int32) (w L a p rl rm : Nat)
theorem ra_N240 (H : ra_P w L a p rl rm span rule room m) : L / w / p ≤ 240 := by
  obtain ⟨⟨_, _, hL, _⟩, _⟩ := H
  exact Nat.le_trans (Nat.div_le_self _ _) (Nat.le_trans (Nat.div_le_self _ _) hL)
theorem ra_eN (H : ra_P w L a p rl rm span rule room m) : nI L / nI w / span (nI a).toNatClampNeg = nI (L / w / p) := by
  obtain ⟨⟨w1, w6, hL, ha, p1, p4, _, _⟩, hS, _⟩ := H
  have hle : L / w ≤ L := Nat.div_le_self _ _
  rw [nI_clamp (by omega), hS, pk_div (by omega) w1 (by omega), pk_div (by omega) p1 (by omega)]
theorem ra_X_cr {post : Int32 → Prop} (H : ra_P w L a p rl rm span rule room m) (hp : post (nI (L / w / p))) : wpX_completeRows post (c, nI w, hb, nI L, q, span, rule, tol, room, m) (nI a) := by
  have e := ra_eN span rule room m w L a p rl rm H
  obtain ⟨⟨w1, w6, hL, ha, p1, p4, _, _⟩, hS, _⟩ := H
  have sz : ¬ span (nI a).toNatClampNeg = 0 := by rw [nI_clamp (by omega), hS]; exact nI_ne0 p1 (by omega)
  exact ⟨nI_ne0 w1 (by omega), vp_in_nI ha (by omega), sz, (congrArg post e).mpr hp⟩
theorem ra_Y_rw {post : Int32 → Prop} (H : ra_P w L a p rl rm span rule room m) (hp : post (nI (L / w / p))) : wpY_rows post (c, nI w, hb, nI L, s, span, rule, tol, room, m) (nI a) := by
  have e := ra_eN span rule room m w L a p rl rm H
  obtain ⟨⟨w1, w6, hL, ha, p1, p4, _, _⟩, hS, _⟩ := H
  have sz : ¬ span (nI a).toNatClampNeg = 0 := by rw [nI_clamp (by omega), hS]; exact nI_ne0 p1 (by omega)
  exact ra_arc ha ⟨nI_ne0 w1 (by omega), vp_in_nI ha (by omega), sz, (congrArg post e).mpr hp⟩
theorem ra_X_fk {post : Int32 → Prop} (H : ra_P w L a p rl rm span rule room m) (hp : post (nI (L / w / p - rm))) : wpX_firstKeptRow post (c, nI w, hb, nI L, q, span, rule, tol, room, m) (nI a) := by
  have hN := ra_N240 span rule room m w L a p rl rm H
  unfold wpX_firstKeptRow
  dsimp only
  refine ra_X_cr c hb q span rule tol room m w L a p rl rm H ?_
  obtain ⟨⟨w1, w6, hL, ha, p1, p4, _, hrm⟩, _, _, hM, _⟩ := H
  have e : nI (L / w / p) - room (nI a).toNatClampNeg = nI (L / w / p) - nI rm := by rw [nI_clamp (by omega), hM]
  refine ⟨vp_in_nI ha (by omega), nm_r e ?_⟩
  by_cases h : rm ≤ L / w / p
  · rw [pk_sub h]
    exact br_t (nI_pos' (by omega)) hp
  · have hz : L / w / p - rm = 0 := by omega
    rw [hz] at hp
    exact br_f (fun z => Int32.not_lt.mpr z (pk_sneg (by omega) (by omega))) hp
theorem ra_rv (H : ra_P w L a p rl rm span rule room m) (r : Nat) (hr : r < L / w / p) : ∃ v, ra_ok v ∧
      (∀ post : Int32 → Prop, post v → wpX_rowValue post (c, nI w, hb, nI L, q, span, rule, tol, room, m) (nI a) (nI r)) ∧
      (∀ post : Int32 → Prop, post v → wpY_made post (c, nI w, hb, nI L, s, span, rule, tol, room, m) (nI a) (nI r)) := by
  obtain ⟨⟨w1, w6, hL, ha, p1, p4, hrl, hrm⟩, hS, hR, hM, hm⟩ := H
  have a1 : (r + 1) * p ≤ L / w := Nat.le_trans (Nat.mul_le_mul_right p hr) (Nat.div_mul_le_self _ _)
  have a2 : (r * p + p) * w ≤ 240 := by
    rw [← Nat.succ_mul]
    exact Nat.le_trans (Nat.mul_le_mul_right w a1) (Nat.le_trans (Nat.div_mul_le_self _ _) hL)
  exact ra_row c hb (nI L) q span rule tol room c hb (nI L) s room m w a p rl r w1 w6 ha p1 p4 hrl hS hR a2 hm
theorem ra_and1 (ha : a < 2) : nI a &&& 1 = nI a := by
  have hc : a = 0 ∨ a = 1 := by omega
  rcases hc with rfl | rfl <;> decide
theorem ra_Y_neg {post : Int32 → Prop} (H : ra_P w L a p rl rm span rule room m) (x : Int32) (hx : x < 0) (hp : post (-200000)) : wpY_row post (c, nI w, hb, nI L, s, span, rule, tol, room, m) (nI a) x :=
  ra_Y_rw c hb s span rule tol room m w L a p rl rm H (br_t hx hp)
theorem ra_Y_hi {post : Int32 → Prop} (H : ra_P w L a p rl rm span rule room m) (r : Nat) (hr : L / w / p ≤ r) (h31 : r < 2 ^ 31) (hp : post (-200000)) : wpY_row post (c, nI w, hb, nI L, s, span, rule, tol, room, m) (nI a) (nI r) :=
  ra_Y_rw c hb s span rule tol room m w L a p rl rm H (br_f (nI_pos h31) (br_t (nI_le hr h31) hp))
theorem ra_Y_old {post : Int32 → Prop} (H : ra_P w L a p rl rm span rule room m) (r : Nat) (hr : r < L / w / p - rm) (hp : post (-200000)) : wpY_row post (c, nI w, hb, nI L, s, span, rule, tol, room, m) (nI a) (nI r) := by
  have hN := ra_N240 span rule room m w L a p rl rm H
  refine ra_Y_rw c hb s span rule tol room m w L a p rl rm H (br_f (nI_pos (by omega)) (br_f (nI_ge (by omega) (by omega)) ?_))
  obtain ⟨⟨w1, w6, hL, ha, p1, p4, hrl, hrm⟩, hS, hR, hM, hm⟩ := H
  rw [ra_and1 a ha, nI_clamp (by omega), hM, pk_sub (by omega)]
  exact ⟨vp_in_nI ha (by omega), br_f (nI_ge hr (by omega)) hp⟩
theorem ra_Y_kept {post : Int32 → Prop} (H : ra_P w L a p rl rm span rule room m) (r : Nat) (h1 : L / w / p - rm ≤ r) (h2 : r < L / w / p) (hp : wpY_made post (c, nI w, hb, nI L, s, span, rule, tol, room, m) (nI a) (nI r)) : wpY_row post (c, nI w, hb, nI L, s, span, rule, tol, room, m) (nI a) (nI r) := by
  have hN := ra_N240 span rule room m w L a p rl rm H
  refine ra_Y_rw c hb s span rule tol room m w L a p rl rm H (br_f (nI_pos (by omega)) (br_f (nI_ge (by omega) (by omega)) ?_))
  obtain ⟨⟨w1, w6, hL, ha, p1, p4, hrl, hrm⟩, hS, hR, hM, hm⟩ := H
  rw [ra_and1 a ha, nI_clamp (by omega), hM]
  refine ⟨vp_in_nI ha (by omega), br_t ?_ hp⟩
  by_cases h : rm ≤ L / w / p
  · rw [pk_sub h]; exact nI_le h1 (by omega)
  · exact Int32.le_trans (Int32.le_of_lt (pk_sneg (by omega) (by omega))) (nI_pos' (by omega))
end
theorem ra_PI {c q s : Int32} {w L : Nat} {span rule room m : Nat → Int32} (I : ra_I c q s w L span rule room m) {a : Nat} (ha : a < 2) : ∃ p rl rm, ra_P w L a p rl rm span rule room m := by
  obtain ⟨⟨w1, w6, hL⟩, _, hA, hm⟩ := I
  obtain ⟨p, rl, rm, p1, p4, hS, hrl, hR, hrm, hM⟩ := hA a ha
  exact ⟨p, rl, rm, ⟨w1, w6, hL, ha, p1, p4, hrl, hrm⟩, hS, hR, hM, hm⟩
theorem i_vc_rows {k : Nat} {u : SX} {v : SY} (I : i_Rel k u v) (hk : k + 3 ≤ 1539) (v1 : Int32) : wpX_rows (fun r => wpY_rows (fun r' => r' = r ∧ i_Rel (k + 3) u v) v v1) u v1 := by
  have J := i_up I
  obtain ⟨c, hb, q, s, w, L, span, rule, tol, room, m, rfl, rfl, HI⟩ := I
  unfold wpX_rows
  dsimp only
  rcases pk_ix v1 (n := 2) (by omega) with h | h | ⟨a, ha, rfl⟩
  · exact ra_X_na (Or.inl h) (br_t rfl (ra_nar (Or.inl h) ⟨rfl, J⟩))
  · exact ra_X_na (Or.inr h) (br_t rfl (ra_nar (Or.inr h) ⟨rfl, J⟩))
  · obtain ⟨p, rl, rm, H⟩ := ra_PI HI ha
    exact ra_X_ar ha (br_f (by decide) (ra_X_cr c hb q span rule tol room m w L a p rl rm H (ra_Y_rw c hb s span rule tol room m w L a p rl rm H ⟨rfl, J⟩)))
theorem i_vc_row {k : Nat} {u : SX} {v : SY} (I : i_Rel k u v) (hk : k + 3 ≤ 1539) (v1 : Int32) (v2 : Int32) : wpX_row (fun r => wpY_row (fun r' => r' = r ∧ i_Rel (k + 3) u v) v v1 v2) u v1 v2 := by
  have J := i_up I
  obtain ⟨c, hb, q, s, w, L, span, rule, tol, room, m, rfl, rfl, HI⟩ := I
  have bad : (v1 < 0 ∨ nI 2 ≤ v1) → wpY_row (fun r' => r' = -200000 ∧ i_Rel (k + 3) (c, nI w, hb, nI L, q, span, rule, tol, room, m) (c, nI w, hb, nI L, s, span, rule, tol, room, m)) (c, nI w, hb, nI L, s, span, rule, tol, room, m) v1 v2 := by
    intro h
    refine ra_nar h ?_
    by_cases h0 : v2 < 0
    · exact br_t h0 ⟨rfl, J⟩
    · exact br_f h0 (br_t (Int32.not_lt.mp h0) ⟨rfl, J⟩)
  unfold wpX_row
  dsimp only
  rcases pk_ix v1 (n := 2) (by omega) with h | h | ⟨a, ha, rfl⟩
  · exact ra_X_na (Or.inl h) (br_t rfl (bad (Or.inl h)))
  · exact ra_X_na (Or.inr h) (br_t rfl (bad (Or.inr h)))
  · obtain ⟨p, rl, rm, H⟩ := ra_PI HI ha
    have hN := ra_N240 span rule room m w L a p rl rm H
    refine ra_X_ar ha (br_f (by decide) (ra_X_fk c hb q span rule tol room m w L a p rl rm H ?_))
    by_cases h0 : v2 < 0
    · exact br_t (Int32.lt_of_lt_of_le h0 (nI_pos' (by omega))) (ra_Y_neg c hb s span rule tol room m w L a p rl rm H v2 h0 ⟨rfl, J⟩)
    · obtain ⟨r, h31, rfl⟩ := nI_of h0
      by_cases h1 : r < L / w / p - rm
      · exact br_t (nI_lt h1 (by omega)) (ra_Y_old c hb s span rule tol room m w L a p rl rm H r h1 ⟨rfl, J⟩)
      · refine br_f (nI_nlt (by omega) (by omega)) (ra_X_cr c hb q span rule tol room m w L a p rl rm H ?_)
        by_cases h2 : r < L / w / p
        · obtain ⟨x, _, sX, sY⟩ := ra_rv c hb q s span rule tol room m w L a p rl rm H r h2
          exact br_t (nI_lt h2 (by omega)) (sX _ (ra_Y_kept c hb s span rule tol room m w L a p rl rm H r (by omega) h2 (sY _ ⟨rfl, J⟩)))
        · exact br_f (nI_nlt (by omega) (by omega)) (ra_Y_hi c hb s span rule tol room m w L a p rl rm H r (by omega) h31 ⟨rfl, J⟩)
end
section
theorem ra_ok_le {v : Int32} (ho : ra_ok v) : v ≤ -100000 ↔ v = -100000 := by
  constructor
  · intro h
    refine ho.resolve_right (fun b => ?_)
    unfold ra_bd at b
    rw [Int32.le_iff_toInt_le, show (-100000 : Int32).toInt = -100000 from by decide] at h
    omega
  · intro h
    subst h
    decide
section
variable (c hb q s : Int32) (span rule tol room m : Nat → Int32) (w L a p rl rm : Nat)
theorem ra_pk (H : ra_P w L a p rl rm span rule room m) : ∀ d i : Nat, ∀ best : Int32, i + d = L / w / p → L / w / p - rm ≤ i → ∃ r,
    (∀ post : Int32 → Prop, post r → wX_peak_26 post (nI a) (nI (L / w / p)) c (nI w) hb (nI L) q span rule tol room m (d + 1) best (nI i)) ∧
    (∀ post : Int32 → Prop, post r → wY_peak_24 post (nI a) (nI (L / w / p)) c (nI w) hb (nI L) s span rule tol room m (d + 1) best (nI i)) := by
  have hN := ra_N240 span rule room m w L a p rl rm H
  intro d
  induction d with
  | zero =>
    intro i best hi _
    have h : nI (L / w / p) ≤ nI i := nI_le (by omega) (by omega)
    exact ⟨best, fun _ hp => br_t h hp, fun _ hp => br_t h hp⟩
  | succ d ih =>
    intro i best hi hf
    have h : ¬ nI (L / w / p) ≤ nI i := nI_ge (by omega) (by omega)
    obtain ⟨x, _, sX, sY⟩ := ra_rv c hb q s span rule tol room m w L a p rl rm H i (by omega)
    by_cases hx : x ≤ best
    · obtain ⟨r, hX, hY⟩ := ih (i + 1) best (by omega) (by omega)
      exact ⟨r, fun post hp => br_f h (sX _ (br_t hx (nm_r (nI_1 i) (hX post hp)))),
        fun post hp => br_f h (ra_Y_kept c hb s span rule tol room m w L a p rl rm H i hf (by omega) (sY _ (br_t hx (nm_r (nI_1 i) (hY post hp)))))⟩
    · obtain ⟨r, hX, hY⟩ := ih (i + 1) x (by omega) (by omega)
      exact ⟨r, fun post hp => br_f h (sX _ (br_f hx (nm_r (nI_1 i) (hX post hp)))),
        fun post hp => br_f h (ra_Y_kept c hb s span rule tol room m w L a p rl rm H i hf (by omega) (sY _ (br_f hx (nm_r (nI_1 i) (hY post hp)))))⟩
theorem ra_pks (H : ra_P w L a p rl rm span rule room m) (post : Int32 → Prop) (n : Nat) (h : wY_peak_24 post (nI a) (nI (L / w / p)) c (nI w) hb (nI L) s span rule tol room m n (-100000) (nI (L / w / p - rm))) :
    ∀ d j : Nat, j + d = L / w / p - rm → wY_peak_24 post (nI a) (nI (L / w / p)) c (nI w) hb (nI L) s span rule tol room m (n + d) (-100000) (nI j) := by
  have hN := ra_N240 span rule room m w L a p rl rm H
  intro d
  induction d with
  | zero => intro j hj; rw [show j = L / w / p - rm from hj]; exact h
  | succ d ih =>
    intro j hj
    have g : ¬ nI (L / w / p) ≤ nI j := nI_ge (by omega) (by omega)
    exact br_f g (ra_Y_old c hb s span rule tol room m w L a p rl rm H j (by omega) (br_t (by decide) (nm_r (nI_1 j) (ih (j + 1) (by omega)))))
theorem ra_kn (H : ra_P w L a p rl rm span rule room m) : ∀ d i : Nat, ∀ best : Int32, i + d = L / w / p → L / w / p - rm ≤ i → ∃ r,
    (∀ post : Int32 → Prop, post r → wX_known_24 post (nI a) (nI (L / w / p)) c (nI w) hb (nI L) q span rule tol room m (d + 1) best (nI i)) ∧
    (∀ post : Int32 → Prop, post r → wY_known_11 post (nI a) (nI (L / w / p)) c (nI w) hb (nI L) s span rule tol room m (d + 1) best (nI i)) := by
  have hN := ra_N240 span rule room m w L a p rl rm H
  intro d
  induction d with
  | zero =>
    intro i best hi _
    have h : nI (L / w / p) ≤ nI i := nI_le (by omega) (by omega)
    exact ⟨best, fun _ hp => br_t h hp, fun _ hp => br_t h hp⟩
  | succ d ih =>
    intro i best hi hf
    have h : ¬ nI (L / w / p) ≤ nI i := nI_ge (by omega) (by omega)
    obtain ⟨x, xo, sX, sY⟩ := ra_rv c hb q s span rule tol room m w L a p rl rm H i (by omega)
    by_cases hx : x = -100000
    · have hy : x ≤ -100000 := (ra_ok_le xo).mpr hx
      obtain ⟨r, hX, hY⟩ := ih (i + 1) best (by omega) (by omega)
      exact ⟨r, fun post hp => br_f h (sX _ (br_t hx (nm_r (nI_1 i) (hX post hp)))),
        fun post hp => br_f h (ra_Y_kept c hb s span rule tol room m w L a p rl rm H i hf (by omega) (sY _ (br_t hy (nm_r (Int32.add_zero best) (nm_r (nI_1 i) (hY post hp))))))⟩
    · have hy : ¬ x ≤ -100000 := fun z => hx ((ra_ok_le xo).mp z)
      obtain ⟨r, hX, hY⟩ := ih (i + 1) (best + 1) (by omega) (by omega)
      exact ⟨r, fun post hp => br_f h (sX _ (br_f hx (nm_e (nm_r (nI_1 i) (hX post hp))))),
        fun post hp => br_f h (ra_Y_kept c hb s span rule tol room m w L a p rl rm H i hf (by omega) (sY _ (br_f hy (nm_e (nm_r (nI_1 i) (hY post hp))))))⟩
theorem ra_kns (H : ra_P w L a p rl rm span rule room m) (post : Int32 → Prop) (n : Nat) (h : wY_known_11 post (nI a) (nI (L / w / p)) c (nI w) hb (nI L) s span rule tol room m n 0 (nI (L / w / p - rm))) :
    ∀ d j : Nat, j + d = L / w / p - rm → wY_known_11 post (nI a) (nI (L / w / p)) c (nI w) hb (nI L) s span rule tol room m (n + d) 0 (nI j) := by
  have hN := ra_N240 span rule room m w L a p rl rm H
  intro d
  induction d with
  | zero => intro j hj; rw [show j = L / w / p - rm from hj]; exact h
  | succ d ih =>
    intro j hj
    have g : ¬ nI (L / w / p) ≤ nI j := nI_ge (by omega) (by omega)
    exact br_f g (ra_Y_old c hb s span rule tol room m w L a p rl rm H j (by omega) (br_t (by decide) (nm_r (Int32.add_zero 0) (nm_r (nI_1 j) (ih (j + 1) (by omega))))))
end
end
section
theorem i_vc_peak {k : Nat} {u : SX} {v : SY} (I : i_Rel k u v) (hk : k + 3 ≤ 1539) (v1 : Int32) : wpX_peak (fun r => wpY_peak (fun r' => r' = r ∧ i_Rel (k + 3) u v) v v1) u v1 := by
  have J := i_up I
  obtain ⟨c, hb, q, s, w, L, span, rule, tol, room, m, rfl, rfl, HI⟩ := I
  unfold wpX_peak
  dsimp only
  rcases pk_ix v1 (n := 2) (by omega) with h | h | ⟨a, ha, rfl⟩
  · exact ra_X_na (Or.inl h) (br_t rfl (ra_nar (Or.inl h) ⟨rfl, J⟩))
  · exact ra_X_na (Or.inr h) (br_t rfl (ra_nar (Or.inr h) ⟨rfl, J⟩))
  · obtain ⟨p, rl, rm, H⟩ := ra_PI HI ha
    obtain ⟨x, hX, hY⟩ := ra_pk c hb q s span rule tol room m w L a p rl rm H (L / w / p - (L / w / p - rm)) (L / w / p - rm) (-100000) (Nat.add_sub_of_le (Nat.sub_le _ _)) (Nat.le_refl _)
    refine ra_X_ar ha (br_f (by decide) (ra_X_cr c hb q span rule tol room m w L a p rl rm H (ra_X_fk c hb q span rule tol room m w L a p rl rm H ⟨_, hX _ ?_⟩)))
    refine ra_arc ha ?_
    unfold wY_peak_12
    exact ra_Y_rw c hb s span rule tol room m w L a p rl rm H ⟨_, ra_pks c hb s span rule tol room m w L a p rl rm H _ _ (hY _ ⟨rfl, J⟩) (L / w / p - rm) 0 (by omega)⟩
theorem i_vc_known {k : Nat} {u : SX} {v : SY} (I : i_Rel k u v) (hk : k + 3 ≤ 1539) (v1 : Int32) : wpX_known (fun r => wpY_known (fun r' => r' = r ∧ i_Rel (k + 3) u v) v v1) u v1 := by
  have J := i_up I
  obtain ⟨c, hb, q, s, w, L, span, rule, tol, room, m, rfl, rfl, HI⟩ := I
  unfold wpX_known wpY_known
  dsimp only
  rcases pk_ix v1 (n := 2) (by omega) with h | h | ⟨a, ha, rfl⟩
  · exact ra_X_na (Or.inl h) (br_t rfl (ra_nar (Or.inl h) ⟨1, br_t (by decide) ⟨rfl, J⟩⟩))
  · exact ra_X_na (Or.inr h) (br_t rfl (ra_nar (Or.inr h) ⟨1, br_t (by decide) ⟨rfl, J⟩⟩))
  · obtain ⟨p, rl, rm, H⟩ := ra_PI HI ha
    obtain ⟨x, hX, hY⟩ := ra_kn c hb q s span rule tol room m w L a p rl rm H (L / w / p - (L / w / p - rm)) (L / w / p - rm) 0 (Nat.add_sub_of_le (Nat.sub_le _ _)) (Nat.le_refl _)
    refine ra_X_ar ha (br_f (by decide) (ra_X_cr c hb q span rule tol room m w L a p rl rm H (ra_X_fk c hb q span rule tol room m w L a p rl rm H ⟨_, hX _ ?_⟩)))
    exact ra_Y_rw c hb s span rule tol room m w L a p rl rm H ⟨_, ra_kns c hb s span rule tol room m w L a p rl rm H _ _ (hY _ ⟨rfl, J⟩) (L / w / p - rm) 0 (by omega)⟩
end
