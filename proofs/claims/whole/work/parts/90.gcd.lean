/-! greatest common divisors; find and says -/
theorem i64n_z {A : Nat} (h : A < 9223372036854775808) : (i64 (A : Int)).toInt = A := i64_z (by omega) (by omega)
theorem i64n_0 {A : Nat} (h : A < 9223372036854775808) : i64 (A : Int) = 0 ↔ A = 0 := by
  rw [eql_z, i64n_z h, show (0 : Int64).toInt = 0 from by decide]; omega
theorem rem_n {A B : Nat} (hA : A < 9223372036854775808) (hB : B < 9223372036854775808) : i64 (A : Int) - i64 (A : Int) / i64 (B : Int) * i64 (B : Int) = i64 ((A % B : Nat) : Int) := by
  apply eql_z.mpr
  have hm : A % B < 9223372036854775808 := Nat.lt_of_le_of_lt (Nat.mod_le A B) hA
  rw [Jvm.Kit.i64_rem_nonneg (by rw [i64n_z hA]; omega), i64n_z hA, i64n_z hB, i64n_z hm]
  rfl
theorem gcd_step (A B : Nat) : Nat.gcd A B = Nat.gcd B (A % B) := by
  rw [Nat.gcd_comm A B, Nat.gcd_rec B A, Nat.gcd_comm]
theorem mod_half {A B : Nat} (hB : B < A) (h0 : 0 < B) : 2 * (A % B) < A := by
  have h1 := Nat.mod_lt A h0
  have h2 := Nat.div_add_mod A B
  have h3 : 1 ≤ A / B := Nat.div_pos (by omega) h0
  have h4 : B * 1 ≤ B * (A / B) := Nat.mul_le_mul_left B h3
  omega
theorem mg_loop : ∀ (k n A B : Nat) (h : Hp), A < 9223372036854775808 → B < 9223372036854775808 → B < 2 ^ k → 2 * k + 1 ≤ n → iter (fun s : Int64 × Int64 => s_X10_gcd_l28 s.1 s.2 h) n (i64 (A : Int), i64 (B : Int)) = some (i64 ((Nat.gcd A B : Nat) : Int)) := by
  intro k
  induction k with
  | zero =>
    intro n A B h hA hB hk hn
    obtain ⟨n, rfl⟩ : ∃ n', n = n' + 1 := ⟨n - 1, by omega⟩
    have : B = 0 := by simp at hk; exact hk
    subst this
    unfold iter s_X10_gcd_l28
    rw [if_pos ((i64n_0 (by omega)).mpr rfl), Nat.gcd_zero_right]
  | succ k ih =>
    intro n A B h hA hB hk hn
    obtain ⟨n, rfl⟩ : ∃ n', n = n' + 1 + 1 := ⟨n - 2, by omega⟩
    by_cases c : B = 0
    · subst c
      unfold iter s_X10_gcd_l28
      rw [if_pos ((i64n_0 (by omega)).mpr rfl), Nat.gcd_zero_right]
    · have hm := Nat.mod_lt A (show 0 < B by omega)
      have e1 : s_X10_gcd_l28 (i64 (A : Int)) (i64 (B : Int)) h = some (.inl (i64 (B : Int), i64 ((A % B : Nat) : Int))) := by
        unfold s_X10_gcd_l28 nzJ
        rw [if_neg (fun q => c ((i64n_0 hB).mp q)), if_neg (fun q => c ((i64n_0 hB).mp q)), lt_red, rem_n hA hB]
      rw [gcd_step]
      rw [show iter (fun s : Int64 × Int64 => s_X10_gcd_l28 s.1 s.2 h) (n + 1 + 1) (i64 (A : Int), i64 (B : Int)) = iter (fun s : Int64 × Int64 => s_X10_gcd_l28 s.1 s.2 h) (n + 1) (i64 (B : Int), i64 ((A % B : Nat) : Int)) from by
        conv => lhs; unfold iter
        dsimp only
        rw [e1]]
      generalize hr : A % B = r at *
      by_cases d : r = 0
      · subst d
        unfold iter s_X10_gcd_l28
        rw [if_pos ((i64n_0 (by omega)).mpr rfl), Nat.gcd_zero_right]
      · have hm2 := Nat.mod_lt B (show 0 < r by omega)
        have e2 : s_X10_gcd_l28 (i64 (B : Int)) (i64 (r : Int)) h = some (.inl (i64 (r : Int), i64 ((B % r : Nat) : Int))) := by
          unfold s_X10_gcd_l28 nzJ
          rw [if_neg (fun q => d ((i64n_0 (by omega)).mp q)), if_neg (fun q => d ((i64n_0 (by omega)).mp q)), lt_red, rem_n hB (by omega)]
        rw [gcd_step]
        rw [show iter (fun s : Int64 × Int64 => s_X10_gcd_l28 s.1 s.2 h) (n + 1) (i64 (B : Int), i64 (r : Int)) = iter (fun s : Int64 × Int64 => s_X10_gcd_l28 s.1 s.2 h) n (i64 (r : Int), i64 ((B % r : Nat) : Int)) from by
          conv => lhs; unfold iter
          dsimp only
          rw [e2]]
        have hh := mod_half hm (by omega)
        exact ih n r (B % r) h (by omega) (by omega) (by rw [Nat.pow_succ] at hk; omega) (by omega)
theorem cd_loop : ∀ (k n i A B : Nat) (h : Hp), A < 9223372036854775808 → B < 9223372036854775808 → B < 2 ^ k → 2 * k + 1 ≤ n → i + 2 * k ≤ 98 → iter (fun s : Int64 × Int64 × Int32 => s_X9_commonDivisor_l15 s.1 s.2.1 s.2.2 h) n (i64 (A : Int), i64 (B : Int), nI i) = some (i64 ((Nat.gcd A B : Nat) : Int)) := by
  have l100 : ∀ i, i < 100 → nI i < (100 : Int32) := fun i hi => nI_ltn hi (by omega) (by decide)
  intro k
  induction k with
  | zero =>
    intro n i A B h hA hB hk hn hi
    obtain ⟨n, rfl⟩ : ∃ n', n = n' + 1 := ⟨n - 1, by omega⟩
    have : B = 0 := by simp at hk; exact hk
    subst this
    unfold iter s_X9_commonDivisor_l15
    rw [if_pos (l100 i (by omega)), if_pos ((i64n_0 (by omega)).mpr rfl), Nat.gcd_zero_right]
  | succ k ih =>
    intro n i A B h hA hB hk hn hi
    obtain ⟨n, rfl⟩ : ∃ n', n = n' + 1 + 1 := ⟨n - 2, by omega⟩
    by_cases c : B = 0
    · subst c
      unfold iter s_X9_commonDivisor_l15
      rw [if_pos (l100 i (by omega)), if_pos ((i64n_0 (by omega)).mpr rfl), Nat.gcd_zero_right]
    · have hm := Nat.mod_lt A (show 0 < B by omega)
      have e1 : s_X9_commonDivisor_l15 (i64 (A : Int)) (i64 (B : Int)) (nI i) h = some (.inl (i64 (B : Int), i64 ((A % B : Nat) : Int), nI (i + 1))) := by
        unfold s_X9_commonDivisor_l15 nzJ
        rw [if_pos (l100 i (by omega)), if_neg (fun q => c ((i64n_0 hB).mp q)), if_neg (fun q => c ((i64n_0 hB).mp q)), lt_red, lt_red, rem_n hA hB, nI_1]
      rw [gcd_step]
      rw [show iter (fun s : Int64 × Int64 × Int32 => s_X9_commonDivisor_l15 s.1 s.2.1 s.2.2 h) (n + 1 + 1) (i64 (A : Int), i64 (B : Int), nI i) = iter (fun s : Int64 × Int64 × Int32 => s_X9_commonDivisor_l15 s.1 s.2.1 s.2.2 h) (n + 1) (i64 (B : Int), i64 ((A % B : Nat) : Int), nI (i + 1)) from by
        conv => lhs; unfold iter
        dsimp only
        rw [e1]]
      generalize hr : A % B = r at *
      by_cases d : r = 0
      · subst d
        unfold iter s_X9_commonDivisor_l15
        rw [if_pos (l100 (i + 1) (by omega)), if_pos ((i64n_0 (by omega)).mpr rfl), Nat.gcd_zero_right]
      · have hm2 := Nat.mod_lt B (show 0 < r by omega)
        have e2 : s_X9_commonDivisor_l15 (i64 (B : Int)) (i64 (r : Int)) (nI (i + 1)) h = some (.inl (i64 (r : Int), i64 ((B % r : Nat) : Int), nI (i + 1 + 1))) := by
          unfold s_X9_commonDivisor_l15 nzJ
          rw [if_pos (l100 (i + 1) (by omega)), if_neg (fun q => d ((i64n_0 (by omega)).mp q)), if_neg (fun q => d ((i64n_0 (by omega)).mp q)), lt_red, lt_red, rem_n hB (by omega), nI_1]
        rw [gcd_step]
        rw [show iter (fun s : Int64 × Int64 × Int32 => s_X9_commonDivisor_l15 s.1 s.2.1 s.2.2 h) (n + 1) (i64 (B : Int), i64 (r : Int), nI (i + 1)) = iter (fun s : Int64 × Int64 × Int32 => s_X9_commonDivisor_l15 s.1 s.2.1 s.2.2 h) n (i64 (r : Int), i64 ((B % r : Nat) : Int), nI (i + 1 + 1)) from by
          conv => lhs; unfold iter
          dsimp only
          rw [e2]]
        have hh := mod_half hm (by omega)
        exact ih n (i + 1 + 1) r (B % r) h (by omega) (by omega) (by rw [Nat.pow_succ] at hk; omega) (by omega) (by omega)
theorem abs_z {x : Int64} (hx : -9223372036854775808 < x.toInt) (h : Hp) : s_J9_abs_067f4 x h = some (i64 (x.toInt.natAbs : Int)) := by
  have z0 : (0 : Int64).toInt = 0 := by decide
  unfold s_J9_abs_067f4
  by_cases c : x < (0 : Int64)
  · rw [if_pos c]
    have := ltl_z.mp c
    rw [z0] at this
    congr 1
    apply eql_z.mpr
    rw [negl_z hx, i64n_z (by have : -9223372036854775808 ≤ x.toInt := x.le_toInt; omega)]; omega
  · rw [if_neg c]
    have : ¬ x.toInt < 0 := fun q => c (ltl_z.mpr (by rw [z0]; exact q))
    congr 1
    apply eql_z.mpr
    rw [i64n_z (by have : x.toInt < 9223372036854775808 := x.toInt_lt; omega)]; omega
theorem cd_z {x y : Int64} (hx : -9223372036854775808 < x.toInt) (hy : -500000000000000 < y.toInt ∧ y.toInt < 500000000000000) (h : Hp) : s_X9_commonDivisor x y h = some (i64 ((Int.gcd x.toInt y.toInt : Nat) : Int)) := by
  unfold s_X9_commonDivisor
  have hx2 : x.toInt < 9223372036854775808 := x.toInt_lt
  rw [abs_z hx, bnd_s, abs_z (by omega), bnd_s, li0, cd_loop 49 FUEL 0 _ _ h (by omega) (by omega) (by omega) (by have := FUEL_ge; omega) (by omega), bnd_s]
  rfl
theorem mg_z {x y : Int64} (hx : -9223372036854775808 < x.toInt) (hy : -9223372036854775808 < y.toInt) (h : Hp) : s_X10_gcd x y h = some (i64 ((Int.gcd x.toInt y.toInt : Nat) : Int)) := by
  have z0 : (0 : Int64).toInt = 0 := by decide
  have hx2 : x.toInt < 9223372036854775808 := x.toInt_lt
  have hy2 : y.toInt < 9223372036854775808 := y.toInt_lt
  have ab : ∀ z : Int64, -9223372036854775808 < z.toInt → (if z < (0 : Int64) then -z else z) = i64 (z.toInt.natAbs : Int) := fun z hz => by
    have := abs_z hz h
    unfold s_J9_abs_067f4 at this
    by_cases c : z < (0 : Int64)
    · rw [if_pos c] at this ⊢; exact Option.some.inj this
    · rw [if_neg c] at this ⊢; exact Option.some.inj this
  have fin : ∀ u v : Int64, u = i64 (x.toInt.natAbs : Int) → v = i64 (y.toInt.natAbs : Int) → s_X10_gcd_b26 u v h = some (i64 ((Int.gcd x.toInt y.toInt : Nat) : Int)) := fun u v hu hv => by
    unfold s_X10_gcd_b26
    rw [hu, hv, mg_loop 63 FUEL _ _ h (by omega) (by omega) (by omega) (by have := FUEL_ge; omega), bnd_s]
    rfl
  have ax := ab x hx
  have ay := ab y hy
  unfold s_X10_gcd s_X10_gcd_b12
  by_cases c : x < (0 : Int64)
  · rw [if_pos c] at ax ⊢
    by_cases d : y < (0 : Int64)
    · rw [if_pos d] at ay ⊢; exact fin _ _ ax ay
    · rw [if_neg d] at ay ⊢; exact fin _ _ ax ay
  · rw [if_neg c] at ax ⊢
    by_cases d : y < (0 : Int64)
    · rw [if_pos d] at ay ⊢; exact fin _ _ ax ay
    · rw [if_neg d] at ay ⊢; exact fin _ _ ax ay
/-- in lowest terms -/
def rn (n d : Int) : Int := n / (Int.gcd n d : Int)
def rd (n d : Int) : Int := d / (Int.gcd n d : Int)
theorem gcd_pos {n d : Int} (hd : 0 < d) : 0 < (Int.gcd n d : Int) := by
  have : Int.gcd n d ≠ 0 := fun q => by
    have := (Int.gcd_eq_zero_iff.mp q).2
    omega
  omega
theorem gcd_le {n d : Int} (hd : 0 < d) : (Int.gcd n d : Int) ≤ d := Int.le_of_dvd hd (Int.gcd_dvd_right _ _)
theorem div_exact {x g : Int64} {n k : Int} (hx : x.toInt = n) (hg : g.toInt = k) (hk : 0 < k) (hd : k ∣ n) (hn : -9223372036854775808 < n) : (x / g).toInt = n / k := by
  rw [Jvm.Kit.i64_div (by omega), hx, hg, Int.tdiv_eq_ediv_of_dvd hd]
theorem find_z {h : Hp} {c : Nat} {x y : Int64} (hx : -9223372036854775808 < x.toInt) (hy : 0 < y.toInt ∧ y.toInt < 500000000000000) : s_X9_find c x y h = some (sJ (sJ h c 12 (i64 (rn x.toInt y.toInt))) c 13 (i64 (rd x.toInt y.toInt))) := by
  have z1 : (1 : Int64).toInt = 1 := by decide
  have hx2 : x.toInt < 9223372036854775808 := x.toInt_lt
  have gp := gcd_pos (n := x.toInt) hy.1
  have gl := gcd_le (n := x.toInt) hy.1
  have eg : (i64 ((Int.gcd x.toInt y.toInt : Nat) : Int)).toInt = (Int.gcd x.toInt y.toInt : Int) := i64_z (by omega) (by omega)
  have d1 : ((Int.gcd x.toInt y.toInt : Nat) : Int) ∣ x.toInt := Int.gcd_dvd_left _ _
  have d2 : ((Int.gcd x.toInt y.toInt : Nat) : Int) ∣ y.toInt := Int.gcd_dvd_right _ _
  unfold s_X9_find s_X9_find_b23 s_X9_find_b42
  rw [cd_z hx (by omega), bnd_s]
  have q1 := div_exact (x := x) rfl eg gp d1 hx
  have q2 := div_exact (x := y) rfl eg gp d2 (by omega)
  have r1 : (x / i64 ((Int.gcd x.toInt y.toInt : Nat) : Int)) = i64 (rn x.toInt y.toInt) := by
    rw [← i64_of (x / _), q1]; rfl
  have r2 : (y / i64 ((Int.gcd x.toInt y.toInt : Nat) : Int)) = i64 (rd x.toInt y.toInt) := by
    rw [← i64_of (y / _), q2]; rfl
  by_cases c1 : (1 : Int64) < i64 ((Int.gcd x.toInt y.toInt : Nat) : Int)
  · have n0 : ¬ i64 ((Int.gcd x.toInt y.toInt : Nat) : Int) = 0 := fun q => by
      have := eql_z.mp q
      rw [eg, show (0 : Int64).toInt = 0 from by decide] at this; omega
    unfold nzJ
    rw [if_pos c1, if_neg n0, lt_red, if_neg n0, lt_red, r1, if_pos c1, r2]
  · have : ¬ (1 : Int) < (Int.gcd x.toInt y.toInt : Int) := fun q => c1 (ltl_z.mpr (by rw [z1, eg]; exact q))
    have g1 : (Int.gcd x.toInt y.toInt : Int) = 1 := by omega
    have s1 : rn x.toInt y.toInt = x.toInt := by unfold rn; rw [g1, Int.ediv_one]
    have s2 : rd x.toInt y.toInt = y.toInt := by unfold rd; rw [g1, Int.ediv_one]
    rw [if_neg c1, lt_red, if_neg c1, lt_red, s1, s2, i64_of, i64_of]
theorem says_z {h : Hp} {c : Nat} {x y : Int64} (a : Int32) (hx : -9223372036854775808 < x.toInt) (hy : 0 < y.toInt) : s_X10_says c x y a h = some (a, sJ (sJ h c 34 (i64 (rn x.toInt y.toInt))) c 35 (i64 (rd x.toInt y.toInt))) := by
  have hx2 : x.toInt < 9223372036854775808 := x.toInt_lt
  have hy2 : y.toInt < 9223372036854775808 := y.toInt_lt
  have gp := gcd_pos (n := x.toInt) hy
  have gl := gcd_le (n := x.toInt) hy
  have eg : (i64 ((Int.gcd x.toInt y.toInt : Nat) : Int)).toInt = (Int.gcd x.toInt y.toInt : Int) := i64_z (by omega) (by omega)
  have d1 : ((Int.gcd x.toInt y.toInt : Nat) : Int) ∣ x.toInt := Int.gcd_dvd_left _ _
  have d2 : ((Int.gcd x.toInt y.toInt : Nat) : Int) ∣ y.toInt := Int.gcd_dvd_right _ _
  have q1 := div_exact (x := x) rfl eg gp d1 hx
  have q2 := div_exact (x := y) rfl eg gp d2 (by omega)
  have r1 : (x / i64 ((Int.gcd x.toInt y.toInt : Nat) : Int)) = i64 (rn x.toInt y.toInt) := by
    rw [← i64_of (x / _), q1]; rfl
  have r2 : (y / i64 ((Int.gcd x.toInt y.toInt : Nat) : Int)) = i64 (rd x.toInt y.toInt) := by
    rw [← i64_of (y / _), q2]; rfl
  have n0 : ¬ i64 ((Int.gcd x.toInt y.toInt : Nat) : Int) = 0 := fun q => by
    have := eql_z.mp q
    rw [eg, show (0 : Int64).toInt = 0 from by decide] at this; omega
  unfold s_X10_says nzJ
  rw [mg_z hx (by omega), bnd_s, if_neg n0, lt_red, if_neg n0, lt_red, r1, r2]
/-- one number, one pair in lowest terms -/
theorem red_one {n d n' d' : Int} (hd : 0 < d) (hd' : 0 < d') (he : n * d' = n' * d) : rn n d = rn n' d' ∧ rd n d = rd n' d' := by
  have gp := gcd_pos (n := n) hd
  have gp' := gcd_pos (n := n') hd'
  have e1 : n = rn n d * (Int.gcd n d : Int) := (Int.ediv_mul_cancel (Int.gcd_dvd_left _ _)).symm
  have e2 : d = rd n d * (Int.gcd n d : Int) := (Int.ediv_mul_cancel (Int.gcd_dvd_right _ _)).symm
  have e3 : n' = rn n' d' * (Int.gcd n' d' : Int) := (Int.ediv_mul_cancel (Int.gcd_dvd_left _ _)).symm
  have e4 : d' = rd n' d' * (Int.gcd n' d' : Int) := (Int.ediv_mul_cancel (Int.gcd_dvd_right _ _)).symm
  have c1 : Int.gcd (rn n d) (rd n d) = 1 := Int.gcd_ediv_gcd_ediv_gcd (by omega)
  have c2 : Int.gcd (rn n' d') (rd n' d') = 1 := Int.gcd_ediv_gcd_ediv_gcd (by omega)
  generalize rn n d = a at *
  generalize rd n d = b at *
  generalize rn n' d' = a' at *
  generalize rd n' d' = b' at *
  generalize (Int.gcd n d : Int) = g at *
  generalize (Int.gcd n' d' : Int) = g' at *
  have hb : 0 < b := by
    rcases Int.lt_trichotomy b 0 with q | q | q
    · have := Int.mul_neg_of_neg_of_pos q gp; omega
    · rw [q] at e2; omega
    · exact q
  have hb' : 0 < b' := by
    rcases Int.lt_trichotomy b' 0 with q | q | q
    · have := Int.mul_neg_of_neg_of_pos q gp'; omega
    · rw [q] at e4; omega
    · exact q
  have k : a * b' = a' * b := by
    have h0 : (a * b') * (g * g') = (a' * b) * (g * g') := by
      have : n * d' = (a * b') * (g * g') := by rw [e1, e4]; grind
      have : n' * d = (a' * b) * (g * g') := by rw [e3, e2]; grind
      omega
    have : g * g' ≠ 0 := by
      have := Int.mul_pos gp gp'; omega
    exact Int.eq_of_mul_eq_mul_right this h0
  have d1 : b ∣ b' := by
    have : b ∣ a * b' := ⟨a', by rw [k]; exact Int.mul_comm _ _⟩
    exact Int.natAbs_dvd_natAbs.mp (Nat.Coprime.dvd_of_dvd_mul_left (m := a.natAbs) ((Nat.gcd_comm _ _).trans c1) (by rw [← Int.natAbs_mul]; exact Int.natAbs_dvd_natAbs.mpr this))
  have d2 : b' ∣ b := by
    have : b' ∣ a' * b := ⟨a, by rw [← k]; exact Int.mul_comm _ _⟩
    exact Int.natAbs_dvd_natAbs.mp (Nat.Coprime.dvd_of_dvd_mul_left (m := a'.natAbs) ((Nat.gcd_comm _ _).trans c2) (by rw [← Int.natAbs_mul]; exact Int.natAbs_dvd_natAbs.mpr this))
  have eb : b = b' := Int.dvd_antisymm (by omega) (by omega) d1 d2
  subst eb
  exact ⟨Int.eq_of_mul_eq_mul_right (by omega) k, rfl⟩
