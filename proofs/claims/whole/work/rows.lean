section
theorem pk_us {f : Nat → Int32} {k : Nat} {x : Int32} : upd f k x k = x := if_pos rfl
theorem pk_un {f : Nat → Int32} {k j : Nat} {x : Int32} (h : j ≠ k) : upd f k x j = f j := if_neg h
theorem pk_sub {a b : Nat} (h : b ≤ a) : nI a - nI b = nI (a - b) := by
  obtain ⟨c, rfl⟩ : ∃ c, a = c + b := ⟨a - b, by omega⟩
  rw [← nI_add, Int32.add_sub_cancel, Nat.add_sub_cancel]
theorem pk_mul (a b : Nat) : nI a * nI b = nI (a * b) := (Int32.ofNat_mul a b).symm
theorem pk_div {a d : Nat} (ha : a < 2 ^ 31) (h0 : 0 < d) (hd : d < 2 ^ 31) : nI a / nI d = nI (a / d) := by
  apply Int32.toInt_inj.mp
  rw [lg_idiv_nonneg (by rw [nI_toInt ha]; omega) (by rw [nI_toInt hd]; omega), nI_toInt ha, nI_toInt hd, nI_toInt (Nat.lt_of_le_of_lt (Nat.div_le_self a d) ha)]
  first | rfl | exact (Int.natCast_ediv _ _).symm
theorem pk_rem {a d : Nat} (ha : a < 2 ^ 31) (h0 : 0 < d) (hd : d < 2 ^ 31) : nI a - nI a / nI d * nI d = nI (a % d) := by
  rw [pk_div ha h0 hd, pk_mul, pk_sub (Nat.div_mul_le_self a d)]
  exact congrArg nI (by have := Nat.div_add_mod' a d; omega)
theorem pk_sub_toInt {a b : Nat} (ha : a < 2 ^ 30) (hb : b < 2 ^ 30) : (nI a - nI b).toInt = (a : Int) - b := by
  rw [Int32.toInt_sub, nI_toInt (by omega), nI_toInt (by omega)]
  exact Int.bmod_eq_of_le (by omega) (by omega)
theorem pk_sneg {a b : Nat} (hb : b < 2 ^ 30) (h : a < b) : nI a - nI b < 0 := by
  rw [Int32.lt_iff_toInt_lt, pk_sub_toInt (by omega) hb, show (0 : Int32).toInt = 0 from by decide]
  omega
theorem pk_ix (x : Int32) {n : Nat} (hn : n < 2 ^ 31) : x < 0 ∨ nI n ≤ x ∨ ∃ j : Nat, j < n ∧ x = nI j := by
  by_cases h : x < 0
  · exact Or.inl h
  · obtain ⟨j, hj, rfl⟩ := nI_of h
    by_cases h2 : j < n
    · exact Or.inr (Or.inr ⟨j, h2, rfl⟩)
    · exact Or.inr (Or.inl (nI_le (by omega) hj))
theorem pk_le {x y : Int32} {A B : Prop} (a b : Nat) (f : a ≤ b → A) (g : b < a → B) (hx : x = nI a := by rfl) (hy : y = nI b := by rfl) (ha : a < 2 ^ 31 := by omega) (hb : b < 2 ^ 31 := by omega) : (x ≤ y → A) ∧ (¬ x ≤ y → B) := by
  subst hx hy
  rw [nI_leI ha hb]
  exact ⟨f, fun z => g (by omega)⟩
theorem pk_lt {x y : Int32} {A B : Prop} (a b : Nat) (f : a < b → A) (g : b ≤ a → B) (hx : x = nI a := by rfl) (hy : y = nI b := by rfl) (ha : a < 2 ^ 31 := by omega) (hb : b < 2 ^ 31 := by omega) : (x < y → A) ∧ (¬ x < y → B) := by
  subst hx hy
  rw [nI_ltI ha hb]
  exact ⟨f, fun z => g (by omega)⟩
theorem pk_eq {x y : Int32} {A B : Prop} (a b : Nat) (f : a = b → A) (g : a ≠ b → B) (hx : x = nI a := by rfl) (hy : y = nI b := by rfl) (ha : a < 2 ^ 31 := by omega) (hb : b < 2 ^ 31 := by omega) : (x = y → A) ∧ (¬ x = y → B) := by
  subst hx hy
  rw [nI_eq ha hb]
  exact ⟨f, g⟩
theorem pk_in {x : Int32} (n N : Nat) (h : n < N) (hx : x = nI n := by rfl) (hN : N < 2 ^ 31 := by omega) : vp_in x N := by
  subst hx
  exact vp_in_nI h hN
theorem pk_cl {x : Int32} (n : Nat) (hx : x = nI n := by rfl) (h : n < 2 ^ 31 := by omega) : x.toNatClampNeg = n := by
  subst hx
  exact nI_clamp h
theorem pk_tn {n : Nat} (h : n < 2 ^ 32) : (nI n).toBitVec.toNat = n := Nat.mod_eq_of_lt h
theorem pk_and (x : Int32) {m : Int32} (k : Nat) (hm : m.toBitVec.toNat = 2 ^ k - 1) : x &&& m = nI (x.toBitVec.toNat % 2 ^ k) := by
  apply Int32.toBitVec_inj.mp
  apply BitVec.eq_of_toNat_eq
  rw [Int32.toBitVec_and, BitVec.toNat_and, hm, Nat.and_two_pow_sub_one_eq_mod]
  show _ = (BitVec.ofNat 32 _).toNat
  rw [BitVec.toNat_ofNat]
  exact (Nat.mod_eq_of_lt (Nat.lt_of_le_of_lt (Nat.mod_le _ _) x.toBitVec.isLt)).symm
theorem pk_andN {n : Nat} (h : n < 2 ^ 32) {m : Int32} (k : Nat) (hm : m.toBitVec.toNat = 2 ^ k - 1) : nI n &&& m = nI (n % 2 ^ k) := by
  rw [pk_and _ k hm, pk_tn h]
theorem pk_andE (x : Int32) {m : Int32} (k : Nat) (hm : m.toBitVec.toNat = 2 ^ k - 1) : ∃ j : Nat, j < 2 ^ k ∧ x &&& m = nI j := ⟨_, Nat.mod_lt _ (Nat.two_pow_pos k), pk_and x k hm⟩
theorem pk_shr (a s : Int32) (k : Nat) (hs : (s.toBitVec.smod 32).toNat = k) : (a >>> s).toInt = a.toInt >>> k := by
  show (a.toBitVec.sshiftRight (s.toBitVec.smod 32).toNat).toInt = _
  rw [hs, BitVec.toInt_sshiftRight]
  rfl
/-- a value that a moment, a step or a row may hold: UNKNOWN, or a number of at most 1000 either way -/
def ra_bd (z : Int32) (n : Nat) : Prop := -(1000 * (n : Int)) ≤ z.toInt ∧ z.toInt ≤ 1000 * (n : Int)
def ra_ok (z : Int32) : Prop := z = -100000 ∨ ra_bd z 1
theorem ra_bd0 : ra_bd 0 0 := by
  unfold ra_bd
  rw [show (0 : Int32).toInt = 0 from by decide]
  omega
theorem ra_bdN {d n : Nat} (h : d ≤ 1000 * n) (hn : n ≤ 1000) : ra_bd (nI d) n := by
  unfold ra_bd
  rw [nI_toInt (by omega)]
  omega
theorem ra_bd_add {x y : Int32} {n : Nat} (hn : n ≤ 1000) (hx : ra_bd x n) (hy : ra_bd y 1) : ra_bd (x + y) (n + 1) := by
  unfold ra_bd at *
  have e : (x + y).toInt = x.toInt + y.toInt := by
    rw [Int32.toInt_add]
    exact Int.bmod_eq_of_le (by omega) (by omega)
  rw [e]
  omega
/-- the quotient that is rounded towards minus infinity -/
def ra_fl (s : Int32) (n : Nat) : Int32 := if s / nI n * nI n ≤ s then s / nI n else s / nI n - 1
theorem ra_q {s : Int32} {n : Nat} (h0 : 0 < n) (hn : n ≤ 6) : (s / nI n).toInt = s.toInt.tdiv n := by
  rw [Int32.toInt_div_of_ne_right, nI_toInt (by omega)]
  intro h
  have h1 := nI_toInt (n := n) (by omega)
  rw [h, show (-1 : Int32).toInt = -1 from by decide] at h1
  omega
theorem ra_n6 {n : Nat} (h0 : 0 < n) (hn : n ≤ 6) : n = 1 ∨ n = 2 ∨ n = 3 ∨ n = 4 ∨ n = 5 ∨ n = 6 := by omega
theorem ra_qn {s : Int32} {n : Nat} (h0 : 0 < n) (hn : n ≤ 6) (hs : ra_bd s n) : (s / nI n * nI n).toInt = n * s.toInt.tdiv n := by
  unfold ra_bd at hs
  have a := Int.mul_tdiv_add_tmod s.toInt n
  have b := Int.tmod_lt_of_pos s.toInt (b := (n : Int)) (by omega)
  have c := Int.lt_tmod_of_pos s.toInt (b := (n : Int)) (by omega)
  rw [Int32.toInt_mul, ra_q h0 hn, nI_toInt (by omega), Int.mul_comm]
  exact Int.bmod_eq_of_le (by omega) (by omega)
theorem ra_fl_bd {s : Int32} {n : Nat} (h0 : 0 < n) (hn : n ≤ 6) (hs : ra_bd s n) : ra_bd (ra_fl s n) 1 := by
  have q1 := ra_q (s := s) h0 hn
  have q2 := ra_qn h0 hn hs
  have a := Int.mul_tdiv_add_tmod s.toInt n
  have b := Int.tmod_lt_of_pos s.toInt (b := (n : Int)) (by omega)
  have c := Int.lt_tmod_of_pos s.toInt (b := (n : Int)) (by omega)
  unfold ra_bd at *
  unfold ra_fl
  generalize hq : s.toInt.tdiv n = q at *
  generalize s.toInt.tmod n = t at *
  by_cases h : s / nI n * nI n ≤ s
  · rw [if_pos h, q1]
    rw [Int32.le_iff_toInt_le, q2] at h
    rcases ra_n6 h0 hn with rfl | rfl | rfl | rfl | rfl | rfl <;> omega
  · rw [if_neg h]
    rw [Int32.le_iff_toInt_le, q2] at h
    have hb : -1000 < q ∧ q ≤ 1000 := by
      rcases ra_n6 h0 hn with rfl | rfl | rfl | rfl | rfl | rfl <;> omega
    have e : (s / nI n - 1).toInt = q - 1 := by
      rw [Int32.toInt_sub, q1, show (1 : Int32).toInt = 1 from by decide]
      exact Int.bmod_eq_of_le (by omega) (by omega)
    rw [e]
    omega
theorem ra_fl_iff {s : Int32} {n : Nat} (h0 : 0 < n) (hn : n ≤ 6) (hs : ra_bd s n) : 0 ≤ s - s / nI n * nI n ↔ s / nI n * nI n ≤ s := by
  have q2 := ra_qn h0 hn hs
  have a := Int.mul_tdiv_add_tmod s.toInt n
  have b := Int.tmod_lt_of_pos s.toInt (b := (n : Int)) (by omega)
  have c := Int.lt_tmod_of_pos s.toInt (b := (n : Int)) (by omega)
  unfold ra_bd at hs
  have e : (s - s / nI n * nI n).toInt = s.toInt - n * s.toInt.tdiv n := by
    rw [Int32.toInt_sub, q2]
    exact Int.bmod_eq_of_le (by omega) (by omega)
  rw [Int32.le_iff_toInt_le, Int32.le_iff_toInt_le, e, q2, show (0 : Int32).toInt = 0 from by decide]
  omega
theorem ra_X_fl {post : Int32 → Prop} {s : Int32} {n : Nat} (h0 : 0 < n) (hn : n ≤ 6) (hp : post (ra_fl s n)) : wpX_roundedDown post s (nI n) := by
  refine ⟨nI_ne0 h0 (by omega), nm_e ?_⟩
  unfold ra_fl at hp
  by_cases h : s / nI n * nI n ≤ s
  · rw [if_pos h] at hp; exact br_t h hp
  · rw [if_neg h] at hp; exact br_f h hp
theorem ra_Y_fl {post : Int32 → Prop} {s : Int32} {n : Nat} (v : SY) (h0 : 0 < n) (hn : n ≤ 6) (hs : ra_bd s n) (hp : post (ra_fl s n)) : wpY_floor post v s (nI n) := by
  have hn0 : ¬ nI n ≤ 0 := nI_nle h0 (by omega)
  refine br_f hn0 ⟨nI_ne0 h0 (by omega), br_f hn0 ⟨nI_ne0 h0 (by omega), ?_⟩⟩
  unfold ra_fl at hp
  by_cases h : s / nI n * nI n ≤ s
  · rw [if_pos h] at hp; exact br_t ((ra_fl_iff h0 hn hs).mpr h) hp
  · rw [if_neg h] at hp; exact br_f (fun z => h ((ra_fl_iff h0 hn hs).mp z)) hp
/-- an archive's number, on the reference's side -/
theorem ra_arc {A B : Prop} {a : Nat} (ha : a < 2) (h : A) : (nI a = 0 → A) ∧ (¬ nI a = 0 → ((nI a = 1 → A) ∧ (¬ nI a = 1 → B))) := by
  refine ⟨fun _ => h, fun n0 => ⟨fun _ => h, fun n1 => ?_⟩⟩
  have hc : a = 0 ∨ a = 1 := by omega
  rcases hc with rfl | rfl
  · exact absurd rfl n0
  · exact absurd rfl n1
theorem ra_nar {A B : Prop} {x : Int32} (hx : x < 0 ∨ nI 2 ≤ x) (h : B) : (x = 0 → A) ∧ (¬ x = 0 → ((x = 1 → A) ∧ (¬ x = 1 → B))) := by
  refine ⟨fun e => ?_, fun _ => ⟨fun e => ?_, fun _ => h⟩⟩
  · subst e; exact absurd hx (by decide)
  · subst e; exact absurd hx (by decide)
theorem ra_X_ar {post : Int32 → Prop} {a : Nat} (ha : a < 2) (h : post 1) : wpX_isArchive post (nI a) :=
  br_f (nI_pos (by omega)) (br_f (nI_ge (b := 2) ha (by omega)) h)
theorem ra_X_na {post : Int32 → Prop} {x : Int32} (hx : x < 0 ∨ nI 2 ≤ x) (h : post 0) : wpX_isArchive post x := by
  by_cases h0 : x < 0
  · exact br_t h0 h
  · exact br_f h0 (br_t (hx.resolve_left h0) h)
end
