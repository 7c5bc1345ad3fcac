/-! ===== Int32 by its bits: bt x i ===== -/
def bt (x : Int32) (i : Nat) : Bool := x.toBitVec.getLsbD i
theorem b_ext {x y : Int32} (h : ∀ i, i < 32 → bt x i = bt y i) : x = y := Int32.toBitVec_inj.mp (BitVec.eq_of_getLsbD_eq (fun i hi => h i hi))
theorem b_or (x y : Int32) (i : Nat) : bt (x ||| y) i = (bt x i || bt y i) := by unfold bt; rw [Int32.toBitVec_or, BitVec.getLsbD_or]
theorem b_and (x y : Int32) (i : Nat) : bt (x &&& y) i = (bt x i && bt y i) := by unfold bt; rw [Int32.toBitVec_and, BitVec.getLsbD_and]
theorem b_xor (x y : Int32) (i : Nat) : bt (x ^^^ y) i = (bt x i ^^ bt y i) := by unfold bt; rw [Int32.toBitVec_xor, BitVec.getLsbD_xor]
theorem b_big {x : Int32} {i : Nat} (h : 32 ≤ i) : bt x i = false := BitVec.getLsbD_of_ge _ _ h
theorem b_255 (i : Nat) : bt 255 i = decide (i < 8) := by
  rcases Nat.lt_or_ge i 32 with h | h
  · exact (by decide +kernel : ∀ i, i < 32 → bt 255 i = decide (i < 8)) i h
  · rw [b_big h, decide_eq_false (by omega)]
theorem b_65535 (i : Nat) : bt 65535 i = decide (i < 16) := by
  rcases Nat.lt_or_ge i 32 with h | h
  · exact (by decide +kernel : ∀ i, i < 32 → bt 65535 i = decide (i < 16)) i h
  · rw [b_big h, decide_eq_false (by omega)]
theorem b_m1 : ∀ i, i < 32 → bt (-1) i = true := by decide +kernel
theorem b_0 (i : Nat) : bt 0 i = false := BitVec.getLsbD_zero
theorem s_l : ∀ n, n < 32 → ((nI n &&& 31).toBitVec.smod 32).toNat = n := by decide +kernel
theorem s_u : ∀ n, n < 32 → (((nI n).toUInt32 &&& Int32.toUInt32 31).toBitVec % 32).toNat = n := by decide +kernel
theorem b_shl (n : Nat) (hn : n < 32) (x : Int32) {i : Nat} (hi : i < 32) : bt (x <<< (nI n &&& 31)) i = (decide (n ≤ i) && bt x (i - n)) := by
  unfold bt
  rw [Int32.toBitVec_shiftLeft]
  show (x.toBitVec <<< ((nI n &&& 31).toBitVec.smod 32).toNat).getLsbD i = _
  rw [s_l n hn, BitVec.getLsbD_shiftLeft]
  rcases Nat.lt_or_ge i n with h | h
  · simp [h, Nat.not_le.mpr h]
  · simp [hi, h, Nat.not_lt.mpr h]
theorem b_ushr (n : Nat) (hn : n < 32) (x : Int32) (i : Nat) : bt ((x.toUInt32 >>> ((nI n).toUInt32 &&& Int32.toUInt32 31)).toInt32) i = bt x (n + i) := by
  show (x.toUInt32 >>> ((nI n).toUInt32 &&& Int32.toUInt32 31)).toBitVec.getLsbD i = x.toUInt32.toBitVec.getLsbD (n + i)
  rw [UInt32.toBitVec_shiftRight]
  show (x.toUInt32.toBitVec >>> (((nI n).toUInt32 &&& Int32.toUInt32 31).toBitVec % 32).toNat).getLsbD i = _
  rw [s_u n hn, BitVec.getLsbD_ushiftRight]
theorem b_sshr (n : Nat) (hn : n < 32) (x : Int32) {i : Nat} (hi : i < 32) : bt (x >>> (nI n &&& 31)) i = if n + i < 32 then bt x (n + i) else bt x 31 := by
  unfold bt
  rw [Int32.toBitVec_shiftRight]
  show (x.toBitVec.sshiftRight ((nI n &&& 31).toBitVec.smod 32).toNat).getLsbD i = _
  rw [s_l n hn, BitVec.getLsbD_sshiftRight, BitVec.msb_eq_getLsbD_last]
  simp [hi]

/-! numbers: whole numbers behind ints and longs -/
abbrev i32 (z : Int) : Int32 := Int32.ofInt z
abbrev i64 (z : Int) : Int64 := Int64.ofInt z
theorem i32_of (x : Int32) : i32 x.toInt = x := by
  apply Int32.toInt_inj.mp
  exact Int32.toInt_ofInt_of_le x.le_toInt x.toInt_lt
theorem i64_of (x : Int64) : i64 x.toInt = x := by
  apply Int64.toInt_inj.mp
  exact Int64.toInt_ofInt_of_le x.le_toInt x.toInt_lt
theorem i32_z {z : Int} (h1 : -2147483648 ≤ z) (h2 : z < 2147483648) : (i32 z).toInt = z := Int32.toInt_ofInt_of_le h1 h2
theorem i64_z {z : Int} (h1 : -9223372036854775808 ≤ z) (h2 : z < 9223372036854775808) : (i64 z).toInt = z := Int64.toInt_ofInt_of_le h1 h2
theorem i32_add (a b : Int) : i32 a + i32 b = i32 (a + b) := (Int32.ofInt_add a b).symm
theorem i32_sub (a b : Int) : i32 a - i32 b = i32 (a - b) := (Int32.ofInt_sub a b).symm
theorem i32_mul (a b : Int) : i32 a * i32 b = i32 (a * b) := (Int32.ofInt_mul a b).symm
theorem i32_neg (a : Int) : - i32 a = i32 (- a) := (Int32.ofInt_neg a).symm
theorem i64_add (a b : Int) : i64 a + i64 b = i64 (a + b) := (Int64.ofInt_add a b).symm
theorem i64_sub (a b : Int) : i64 a - i64 b = i64 (a - b) := (Int64.ofInt_sub a b).symm
theorem i64_mul (a b : Int) : i64 a * i64 b = i64 (a * b) := (Int64.ofInt_mul a b).symm
theorem i64_neg (a : Int) : - i64 a = i64 (- a) := (Int64.ofInt_neg a).symm
theorem add_z {x y : Int32} (h1 : -2147483648 ≤ x.toInt + y.toInt) (h2 : x.toInt + y.toInt < 2147483648) : (x + y).toInt = x.toInt + y.toInt := by
  have := i32_z h1 h2
  rwa [← i32_add, i32_of, i32_of] at this
theorem sub_z {x y : Int32} (h1 : -2147483648 ≤ x.toInt - y.toInt) (h2 : x.toInt - y.toInt < 2147483648) : (x - y).toInt = x.toInt - y.toInt := by
  have := i32_z h1 h2
  rwa [← i32_sub, i32_of, i32_of] at this
theorem mul_z {x y : Int32} (h1 : -2147483648 ≤ x.toInt * y.toInt) (h2 : x.toInt * y.toInt < 2147483648) : (x * y).toInt = x.toInt * y.toInt := by
  have := i32_z h1 h2
  rwa [← i32_mul, i32_of, i32_of] at this
theorem neg_z {x : Int32} (h2 : -2147483648 < x.toInt) : (- x).toInt = - x.toInt := by
  have h3 := x.toInt_lt
  have h4 : x.toInt < 2147483648 := h3
  have := i32_z (z := - x.toInt) (by omega) (by omega)
  rwa [← i32_neg, i32_of] at this
theorem addl_z {x y : Int64} (h1 : -9223372036854775808 ≤ x.toInt + y.toInt) (h2 : x.toInt + y.toInt < 9223372036854775808) : (x + y).toInt = x.toInt + y.toInt := by
  have := i64_z h1 h2
  rwa [← i64_add, i64_of, i64_of] at this
theorem subl_z {x y : Int64} (h1 : -9223372036854775808 ≤ x.toInt - y.toInt) (h2 : x.toInt - y.toInt < 9223372036854775808) : (x - y).toInt = x.toInt - y.toInt := by
  have := i64_z h1 h2
  rwa [← i64_sub, i64_of, i64_of] at this
theorem mull_z {x y : Int64} (h1 : -9223372036854775808 ≤ x.toInt * y.toInt) (h2 : x.toInt * y.toInt < 9223372036854775808) : (x * y).toInt = x.toInt * y.toInt := by
  have := i64_z h1 h2
  rwa [← i64_mul, i64_of, i64_of] at this
theorem negl_z {x : Int64} (h2 : -9223372036854775808 < x.toInt) : (- x).toInt = - x.toInt := by
  have h4 : x.toInt < 9223372036854775808 := x.toInt_lt
  have := i64_z (z := - x.toInt) (by omega) (by omega)
  rwa [← i64_neg, i64_of] at this
theorem lt_z {x y : Int32} : x < y ↔ x.toInt < y.toInt := Int32.lt_iff_toInt_lt
theorem le_z {x y : Int32} : x ≤ y ↔ x.toInt ≤ y.toInt := Int32.le_iff_toInt_le
theorem eq_z {x y : Int32} : x = y ↔ x.toInt = y.toInt := Int32.toInt_inj.symm
theorem ltl_z {x y : Int64} : x < y ↔ x.toInt < y.toInt := Int64.lt_iff_toInt_lt
theorem lel_z {x y : Int64} : x ≤ y ↔ x.toInt ≤ y.toInt := Int64.le_iff_toInt_le
theorem eql_z {x y : Int64} : x = y ↔ x.toInt = y.toInt := Int64.toInt_inj.symm
theorem tl_z (x : Int32) : x.toInt64.toInt = x.toInt := Int32.toInt_toInt64 x
theorem nI_i32 (n : Nat) : nI n = i32 (n : Int) := Int32.ofInt_eq_ofNat.symm
theorem nI_z {n : Nat} (h : n < 2147483648) : (nI n).toInt = (n : Int) := nI_toInt h
theorem clamp_z (x : Int32) : x.toNatClampNeg = x.toInt.toNat := rfl
/-- a place within -/
theorem inr_z {x : Int32} {n : Nat} (h1 : 0 ≤ x.toInt) (h2 : x.toInt < n) : ¬ (x < 0 ∨ n ≤ x.toNatClampNeg) := by
  rw [lt_z, clamp_z]
  have : (0 : Int32).toInt = 0 := rfl
  omega
theorem of_nat {x : Int32} {n : Nat} (h : x.toInt = n) : x = nI n := by
  have h2 := x.toInt_lt
  apply Int32.toInt_inj.mp
  rw [nI_z (by have : x.toInt < 2147483648 := h2; omega), h]
theorem ldI_z {β : Type} {h : Hp} {c n : Nat} {i : Int32} {k : Int32 → Option β} {j : Nat} (hj : i.toInt = j) (hn : j < n) : ldI h c n i k = k (h.1 c j) := by
  have e : i.toNatClampNeg = j := by rw [clamp_z, hj]; rfl
  unfold ldI
  rw [if_pos (inr_z (by omega) (by omega)), e]
theorem ldJ_z {β : Type} {h : Hp} {c n : Nat} {i : Int32} {k : Int64 → Option β} {j : Nat} (hj : i.toInt = j) (hn : j < n) : ldJ h c n i k = k (h.2 c j) := by
  have e : i.toNatClampNeg = j := by rw [clamp_z, hj]; rfl
  unfold ldJ
  rw [if_pos (inr_z (by omega) (by omega)), e]
theorem stI_z {β : Type} {h : Hp} {c n : Nat} {i v : Int32} {k : Hp → Option β} {j : Nat} (hj : i.toInt = j) (hn : j < n) : stI h c n i v k = k (sI h c j v) := by
  have e : i.toNatClampNeg = j := by rw [clamp_z, hj]; rfl
  unfold stI
  rw [if_pos (inr_z (by omega) (by omega)), e]
theorem stJ_z {β : Type} {h : Hp} {c n : Nat} {i : Int32} {v : Int64} {k : Hp → Option β} {j : Nat} (hj : i.toInt = j) (hn : j < n) : stJ h c n i v k = k (sJ h c j v) := by
  have e : i.toNatClampNeg = j := by rw [clamp_z, hj]; rfl
  unfold stJ
  rw [if_pos (inr_z (by omega) (by omega)), e]
/-! the heap behind a store -/
theorem sI_same (h : Hp) (c k : Nat) (v : Int32) : (sI h c k v).1 c k = v := by simp [sI]
theorem sI_cell {h : Hp} {c k c' : Nat} {v : Int32} (e : c' ≠ c) : (sI h c k v).1 c' = h.1 c' := by funext j; simp [sI, e]
theorem sI_ne {h : Hp} {c k c' k' : Nat} {v : Int32} (e : k' ≠ k) : (sI h c k v).1 c' k' = h.1 c' k' := by simp [sI, e]
theorem sI_J (h : Hp) (c k : Nat) (v : Int32) : (sI h c k v).2 = h.2 := rfl
theorem sJ_same (h : Hp) (c k : Nat) (v : Int64) : (sJ h c k v).2 c k = v := by simp [sJ]
theorem sJ_cell {h : Hp} {c k c' : Nat} {v : Int64} (e : c' ≠ c) : (sJ h c k v).2 c' = h.2 c' := by funext j; simp [sJ, e]
theorem sJ_ne {h : Hp} {c k c' k' : Nat} {v : Int64} (e : k' ≠ k) : (sJ h c k v).2 c' k' = h.2 c' k' := by simp [sJ, e]
theorem sJ_I (h : Hp) (c k : Nat) (v : Int64) : (sJ h c k v).1 = h.1 := rfl
/-- the two heaps differ at these cells alone -/
def Fr (S : List Nat) (h h' : Hp) : Prop := ∀ c, c ∉ S → h'.1 c = h.1 c ∧ h'.2 c = h.2 c
theorem Fr.rf {S : List Nat} {h : Hp} : Fr S h h := fun _ _ => ⟨rfl, rfl⟩
theorem Fr.tr {S : List Nat} {h h1 h2 : Hp} (a : Fr S h h1) (b : Fr S h1 h2) : Fr S h h2 := fun c hc => ⟨(b c hc).1.trans (a c hc).1, (b c hc).2.trans (a c hc).2⟩
theorem Fr.wid {S S' : List Nat} {h h1 : Hp} (a : Fr S h h1) (hs : ∀ c ∈ S, c ∈ S') : Fr S' h h1 := fun c hc => a c (fun q => hc (hs c q))
theorem Fr.sI {S : List Nat} {h : Hp} {c k : Nat} {v : Int32} (hc : c ∈ S) : Fr S h (sI h c k v) := fun c' hc' => ⟨sI_cell (fun e => hc' (e ▸ hc)), rfl⟩
theorem Fr.sJ {S : List Nat} {h : Hp} {c k : Nat} {v : Int64} (hc : c ∈ S) : Fr S h (sJ h c k v) := fun c' hc' => ⟨rfl, sJ_cell (fun e => hc' (e ▸ hc))⟩
/-! loops -/
theorem iter_run {σ ρ : Type} {f : σ → Option (σ ⊕ ρ)} (Iv : σ → Prop) (μ : σ → Nat) (Po : ρ → Prop) (step : ∀ s, Iv s → (∃ s', f s = some (.inl s') ∧ Iv s' ∧ μ s' < μ s) ∨ (∃ r, f s = some (.inr r) ∧ Po r)) : ∀ (n : Nat) (s : σ), Iv s → μ s < n → ∃ r, iter f n s = some r ∧ Po r := by
  intro n
  induction n with
  | zero => intro s _ h; omega
  | succ n ih =>
    intro s hs hm
    unfold iter
    rcases step s hs with ⟨s', e, i1, i2⟩ | ⟨r, e, i1⟩
    · rw [e]; exact ih s' i1 (by omega)
    · rw [e]; exact ⟨r, rfl, i1⟩
theorem iter_fuel {σ ρ : Type} {f : σ → Option (σ ⊕ ρ)} (Iv : σ → Prop) (μ : σ → Nat) (Po : ρ → Prop) (step : ∀ s, Iv s → (∃ s', f s = some (.inl s') ∧ Iv s' ∧ μ s' < μ s) ∨ (∃ r, f s = some (.inr r) ∧ Po r)) (s : σ) (h : Iv s) (hm : μ s < 1000000000) : ∃ r, iter f FUEL s = some r ∧ Po r := iter_run Iv μ Po step FUEL s h (Nat.lt_of_lt_of_le hm FUEL_ge)
