/-! Clashes: its list holds just the clashes among the first rows; within -/
theorem sm_bd {T : List Nat} {f : Nat → Int} {B : Int} (h : ∀ i ∈ T, -B ≤ f i ∧ f i ≤ B) : -(T.length * B : Int) ≤ sm T f ∧ sm T f ≤ T.length * B := by
  induction T with
  | nil => simp [sm]
  | cons a T ih =>
    have h1 := h a (by simp)
    have h2 := ih (fun i hi => h i (List.mem_cons_of_mem _ hi))
    simp only [sm, List.length_cons]
    have : ((T.length + 1 : Nat) : Int) * B = T.length * B + B := by rw [Int.natCast_add]; grind
    rw [this]
    omega
def qc (x : Nat) : Nat := ((List.range x).filter (fun o => decide (1 ≤ o) && decide ((bl o 12).length ≤ 3))).length
theorem qc_succ (x : Nat) : qc (x + 1) = qc x + (if 1 ≤ x ∧ (bl x 12).length ≤ 3 then 1 else 0) := by
  unfold qc
  rw [List.range_succ, List.filter_append, List.length_append]
  congr 1
  by_cases h : 1 ≤ x ∧ (bl x 12).length ≤ 3
  · rw [if_pos h]; simp [h.1, h.2]
  · rw [if_neg h]
    by_cases h1 : 1 ≤ x
    · have h2 : ¬ (bl x 12).length ≤ 3 := fun q => h ⟨h1, q⟩
      simp [h1, h2]
    · simp [h1]
def BB : Nat → Nat
  | 0 => 0
  | N + 1 => BB N + qc (2 ^ N)
set_option maxRecDepth 100000 in
theorem BB_le : ∀ N, N ≤ 12 → BB N ≤ 781 := by decide +kernel
def ClashInv (h : Hp) (L N nv : Nat) (Y : Sys) (n s : Nat → Nat) : Prop := (∀ k, k ≤ N → h.1 (L + 10) k = nI (n k) ∧ n k ≤ BB k ∧ n k ≤ n N) ∧ (∀ i, i < n N → h.1 (L + 9) i = nI (s i)) ∧ ∀ k, k ≤ N → ∀ b, (b < 2 ^ k ∧ Cls Y nv b) ↔ ∃ i, i < n k ∧ s i = b
theorem sub0 {b : Nat} (x : Int32) : (nI b &&& (x ^^^ (-1 : Int32))) = 0 ↔ ∀ j, j < 32 → b.testBit j = true → bt x j = true := by
  constructor
  · intro h j hj hb
    have h1 : bt (nI b &&& (x ^^^ (-1 : Int32))) j = false := by rw [h]; exact b_0 j
    rw [b_and, b_xor, b_m1 j hj, bt_nI b j hj, hb] at h1
    simpa using h1
  · intro h
    apply b_ext
    intro j hj
    rw [b_and, b_xor, b_m1 j hj, bt_nI b j hj, b_0]
    cases hb : b.testBit j
    · simp
    · simp [h j hj hb]
theorem within_z {h : Hp} {L N nv : Nat} {Y : Sys} {n s : Nat → Nat} (hN : h.1 (L + 2) 4 = nI N) (h12 : N ≤ 12) (hC : ClashInv h L N nv Y n s) (x : Int32) : ∃ r, s_X1_within L x h = some r ∧ ((r = 1 ∧ ∃ i, i < n N ∧ ∀ j, j < 32 → (s i).testBit j = true → bt x j = true) ∨ (r = 0 ∧ ∀ i, i < n N → ¬ ∀ j, j < 32 → (s i).testBit j = true → bt x j = true)) := by
  obtain ⟨c1, c2, c3⟩ := hC
  have hn := c1 N (Nat.le_refl _)
  have h781 := BB_le N h12
  unfold s_X1_within s_X1_size
  rw [hN, ldI_n (by omega) (by omega), hn.1]
  obtain ⟨e, he, hp⟩ := iter_fuel (f := fun z : Int32 => s_X1_within_l7 L x (nI (n N)) z h) (fun z => ∃ i, z = nI i ∧ i ≤ n N ∧ ∀ k, k < i → ¬ ∀ j, j < 32 → (s k).testBit j = true → bt x j = true) (fun z => n N - z.toNatClampNeg) (fun e => (e = .inr 1 ∧ ∃ i, i < n N ∧ ∀ j, j < 32 → (s i).testBit j = true → bt x j = true) ∨ (e = .inl () ∧ ∀ i, i < n N → ¬ ∀ j, j < 32 → (s i).testBit j = true → bt x j = true)) (by
    rintro z ⟨i, rfl, hi, hz⟩
    unfold s_X1_within_l7
    by_cases q : i < n N
    · rw [if_pos (nI_lt q (by omega)), ldI_n (by omega) (by omega), c2 i q]
      by_cases w : ∀ j, j < 32 → (s i).testBit j = true → bt x j = true
      · rw [if_pos ((sub0 x).mpr w)]
        exact Or.inr ⟨_, rfl, Or.inl ⟨rfl, i, q, w⟩⟩
      · rw [if_neg (fun z => w ((sub0 x).mp z)), lt_red, nI_1]
        refine Or.inl ⟨_, rfl, ⟨i + 1, rfl, by omega, fun k hk => ?_⟩, by rw [nI_clamp (by omega), nI_clamp (by omega)]; omega⟩
        rcases Nat.lt_or_ge k i with z | z
        · exact hz k z
        · rw [show k = i by omega]; exact w
    · rw [if_neg (nI_nlt (by omega) (by omega))]
      exact Or.inr ⟨_, rfl, Or.inr ⟨rfl, fun k hk => hz k (by omega)⟩⟩) (nI 0) ⟨0, rfl, by omega, fun k hk => by omega⟩ (by rw [nI_clamp (by omega)]; omega)
  show ∃ r, (iter _ FUEL (0 : Int32)).bind _ = some r ∧ _
  rw [li0, he]
  rcases hp with ⟨rfl, q⟩ | ⟨rfl, q⟩
  · exact ⟨1, rfl, Or.inl ⟨rfl, q⟩⟩
  · exact ⟨_, rfl, Or.inr ⟨rfl, q⟩⟩
/-- within: whether no point satisfies the rows of a set -/
theorem within_sat {h : Hp} {L N nv : Nat} {Y : Sys} {n s : Nat → Nat} (hN : h.1 (L + 2) 4 = nI N) (h12 : N ≤ 12) (hC : ClashInv h L N nv Y n s) (h1 : 1 ≤ nv) (h3 : nv ≤ 3) (hF : FormsWF Y.1 N nv) (hse : ∀ i, i < N → Y.2.2.1 i = true → Y.2.2.2 i = false) (x : Int32) : ∃ r, s_X1_within L x h = some r ∧ ((r = 1 ∧ ¬ Sat Y ((List.range N).filter (bt x))) ∨ (r = 0 ∧ Sat Y ((List.range N).filter (bt x)))) := by
  obtain ⟨r, e, hr⟩ := within_z hN h12 hC x
  have key := unsat_bits h12 h1 h3 hF hse (bt x)
  refine ⟨r, e, ?_⟩
  have c3 := hC.2.2 N (Nat.le_refl _)
  have hbits : ∀ b, b < 2 ^ N → ∀ i, b.testBit i = true → i < 32 := fun b hb i hi => by
    rcases Nat.lt_or_ge i 32 with q | q
    · exact q
    · have := Nat.testBit_lt_two_pow (Nat.lt_of_lt_of_le hb (Nat.pow_le_pow_right (by omega) (by omega : N ≤ i)))
      rw [this] at hi; cases hi
  rcases hr with ⟨rfl, i, hi, q⟩ | ⟨rfl, q⟩
  · obtain ⟨b1, b2⟩ := (c3 (s i)).mpr ⟨i, hi, rfl⟩
    exact Or.inl ⟨rfl, key.mpr ⟨s i, b1, b2, fun j hj => q j (hbits _ b1 j hj) hj⟩⟩
  · refine Or.inr ⟨rfl, ?_⟩
    by_cases w : Sat Y ((List.range N).filter (bt x))
    · exact w
    · obtain ⟨b, b1, b2, b3⟩ := key.mp w
      obtain ⟨i, hi, rfl⟩ := (c3 b).mp ⟨b1, b2⟩
      exact absurd (fun j _ hj => b3 j hj) (q i hi)
theorem contradicts_z {h : Hp} {C : Nat} {S : Int} {st : Bool} (h1 : h.2 C 4 = i64 S) (h2 : h.1 C 5 = bI st) (b1 : -9223372036854775808 ≤ S) (b2 : S < 9223372036854775808) : ∃ r, s_X0_contradicts C h = some r ∧ ((r = 1 ∧ (S < 0 ∨ S = 0 ∧ st = true)) ∨ (r = 0 ∧ ¬ (S < 0 ∨ S = 0 ∧ st = true))) := by
  unfold s_X0_contradicts
  rw [h1, h2]
  have e1 : i64 S < 0 ↔ S < 0 := by rw [ltl_z, i64_z b1 b2]; rfl
  have e2 : i64 S = 0 ↔ S = 0 := by rw [eql_z, i64_z b1 b2]; rfl
  by_cases c1 : S < 0
  · rw [if_pos (e1.mpr c1)]; exact ⟨1, rfl, Or.inl ⟨rfl, Or.inl c1⟩⟩
  · rw [if_neg (fun q => c1 (e1.mp q))]
    by_cases c2 : S = 0
    · rw [if_pos (e2.mpr c2)]
      cases st
      · exact ⟨0, rfl, Or.inr ⟨rfl, by simp; omega⟩⟩
      · exact ⟨1, rfl, Or.inl ⟨rfl, Or.inr ⟨c2, rfl⟩⟩⟩
    · rw [if_neg (fun q => c2 (e2.mp q))]
      exact ⟨0, rfl, Or.inr ⟨rfl, by omega⟩⟩
theorem nI_or (a b : Nat) : nI a ||| nI b = nI (a ||| b) := by
  apply b_ext
  intro i hi
  rw [b_or, bt_nI a i hi, bt_nI b i hi, bt_nI _ i hi, Nat.testBit_or]
theorem bl_top {N o : Nat} (ho : o < 2 ^ N) : bl (2 ^ N + o) (N + 1) = bl o N ++ [N] := by
  have e : 2 ^ N + o = 2 ^ N ||| o := by
    have := Nat.two_pow_add_eq_or_of_lt ho 1
    rwa [Nat.mul_one] at this
  have tb : ∀ i, (2 ^ N + o).testBit i = (decide (N = i) || o.testBit i) := fun i => by rw [e, Nat.testBit_or, Nat.testBit_two_pow]
  rw [bl_succ, tb N]
  simp only [decide_true, Bool.true_or, if_true]
  congr 1
  unfold bl
  apply List.filter_congr
  intro x hx
  have := List.mem_range.mp hx
  rw [tb x]
  simp
  omega
