/-! a smallest certificate has one dependence alone -/
theorem argmin (P : Nat → Prop) (a b : Nat → Int) : ∀ T : List Nat, (∀ i ∈ T, P i → 0 < b i) → (∃ i ∈ T, P i) → ∃ j ∈ T, P j ∧ ∀ k ∈ T, P k → a j * b k ≤ a k * b j
  | [], _, h => by obtain ⟨i, hi, _⟩ := h; simp at hi
  | t :: T, hb, h => by
    by_cases ht : ∃ i ∈ T, P i
    · obtain ⟨j, hj, pj, h1⟩ := argmin P a b T (fun i hi => hb i (List.mem_cons_of_mem _ hi)) ht
      by_cases pt : P t
      · by_cases c : a t * b j ≤ a j * b t
        · refine ⟨t, by simp, pt, fun k hk pk => ?_⟩
          rcases List.mem_cons.mp hk with rfl | hk
          · exact Int.le_refl _
          · have q := h1 k hk pk
            have bj := hb j (List.mem_cons_of_mem _ hj) pj
            have bk := hb k (List.mem_cons_of_mem _ hk) pk
            have bt := hb t (by simp) pt
            have e1 := Int.mul_le_mul_of_nonneg_right c (Int.le_of_lt bk)
            have e2 := Int.mul_le_mul_of_nonneg_right q (Int.le_of_lt bt)
            refine Int.le_of_mul_le_mul_left (a := b j) ?_ bj
            grind
        · refine ⟨j, List.mem_cons_of_mem _ hj, pj, fun k hk pk => ?_⟩
          rcases List.mem_cons.mp hk with rfl | hk
          · omega
          · exact h1 k hk pk
      · refine ⟨j, List.mem_cons_of_mem _ hj, pj, fun k hk pk => ?_⟩
        rcases List.mem_cons.mp hk with rfl | hk
        · exact absurd pk pt
        · exact h1 k hk pk
    · obtain ⟨i, hi, pi⟩ := h
      rcases List.mem_cons.mp hi with rfl | hi
      · refine ⟨i, by simp, pi, fun k hk pk => ?_⟩
        rcases List.mem_cons.mp hk with rfl | hk
        · exact Int.le_refl _
        · exact absurd ⟨k, hk, pk⟩ ht
      · exact absurd ⟨i, hi, pi⟩ ht
/-- a dependence of the rows of T -/
def Dep (Y : Sys) (T : List Nat) (n : Nat → Int) : Prop := ∀ v, v < 3 → sm T (fun i => n i * Y.1 i v) = 0
theorem Dep.lin {Y : Sys} {T : List Nat} {m n : Nat → Int} (a b : Int) (h1 : Dep Y T m) (h2 : Dep Y T n) : Dep Y T (fun i => a * m i + b * n i) := fun v hv => by
  rw [sm_lin, h1 v hv, h2 v hv]; simp
theorem redA {Y : Sys} {T : List Nat} {m n : Nat → Int} (hm : Cert Y T m) (hpos : ∀ i ∈ T, Y.2.2.2 i = false → 0 < m i) (hn : Dep Y T n) (hs : 0 ≤ sm T (fun i => n i * Y.2.1 i)) (hex : ∃ j ∈ T, Y.2.2.2 j = false ∧ 0 < n j) (hz : ∃ i ∈ T, n i = 0) : ∃ m', Cert Y T m' ∧ ∃ i ∈ T, m' i = 0 := by
  obtain ⟨j, hj, ⟨ej, nj⟩, hmin⟩ := argmin (fun i => Y.2.2.2 i = false ∧ 0 < n i) m n T (fun i _ h => h.2) (by
    obtain ⟨j, hj, h⟩ := hex
    exact ⟨j, hj, h⟩)
  have mj := hpos j hj ej
  obtain ⟨c1, c2, c3⟩ := hm
  have hd : Dep Y T (fun i => n j * m i + (- m j) * n i) := Dep.lin _ _ c2 hn
  have hnn : ∀ k ∈ T, Y.2.2.2 k = false → 0 ≤ n j * m k + (- m j) * n k := fun k hk ek => by
    by_cases q : 0 < n k
    · have := hmin k hk ⟨ek, q⟩
      grind
    · have a1 := Int.mul_nonneg (Int.le_of_lt nj) (Int.le_of_lt (hpos k hk ek))
      have a2 := Int.mul_nonneg (Int.le_of_lt mj) (by omega : 0 ≤ - n k)
      grind
  have hsum : sm T (fun i => (n j * m i + (- m j) * n i) * Y.2.1 i) = n j * sm T (fun i => m i * Y.2.1 i) + (- m j) * sm T (fun i => n i * Y.2.1 i) := sm_lin _ _ _ _ _ _
  have b1 : n j * sm T (fun i => m i * Y.2.1 i) ≤ 0 := by
    have : sm T (fun i => m i * Y.2.1 i) ≤ 0 := by rcases c3 with q | ⟨q, -⟩ <;> omega
    have := Int.mul_nonneg (Int.le_of_lt nj) (by omega : 0 ≤ - sm T (fun i => m i * Y.2.1 i))
    grind
  have b2 : 0 ≤ m j * sm T (fun i => n i * Y.2.1 i) := Int.mul_nonneg (Int.le_of_lt mj) hs
  have hjz : n j * m j + (- m j) * n j = 0 := by grind
  by_cases hlt : sm T (fun i => (n j * m i + (- m j) * n i) * Y.2.1 i) < 0
  · exact ⟨_, ⟨hnn, hd, Or.inl hlt⟩, j, hj, hjz⟩
  · have hz0 : sm T (fun i => (n j * m i + (- m j) * n i) * Y.2.1 i) = 0 := by rw [hsum] at hlt ⊢; grind
    have hm0 : sm T (fun i => m i * Y.2.1 i) = 0 := by
      have : n j * sm T (fun i => m i * Y.2.1 i) = 0 := by rw [hsum] at hz0; grind
      rcases Int.mul_eq_zero.mp this with q | q
      · omega
      · exact q
    have hn0 : sm T (fun i => n i * Y.2.1 i) = 0 := by
      have : m j * sm T (fun i => n i * Y.2.1 i) = 0 := by rw [hsum, hm0] at hz0; grind
      rcases Int.mul_eq_zero.mp this with q | q
      · omega
      · exact q
    by_cases hst : ∃ i ∈ T, Y.2.2.1 i = true ∧ Y.2.2.2 i = false ∧ n j * m i + (- m j) * n i ≠ 0
    · exact ⟨_, ⟨hnn, hd, Or.inr ⟨hz0, hst⟩⟩, j, hj, hjz⟩
    · obtain ⟨k, hk, sk, ek, mk⟩ : ∃ i ∈ T, Y.2.2.1 i = true ∧ Y.2.2.2 i = false ∧ m i ≠ 0 := by
        rcases c3 with q | ⟨-, q⟩
        · omega
        · exact q
      have hkk : n j * m k + (- m j) * n k = 0 := by
        by_cases q : n j * m k + (- m j) * n k = 0
        · exact q
        · exact absurd ⟨k, hk, sk, ek, q⟩ hst
      have nk : 0 < n k := by
        have p1 := Int.mul_pos nj (hpos k hk ek)
        have p2 : 0 < m j * n k := by grind
        exact Int.pos_of_mul_pos_right p2 mj
      by_cases hall : ∀ i ∈ T, Y.2.2.2 i = false → 0 ≤ n i
      · obtain ⟨i0, hi0, z0⟩ := hz
        exact ⟨n, ⟨hall, hn, Or.inr ⟨hn0, k, hk, sk, ek, by omega⟩⟩, i0, hi0, z0⟩
      · obtain ⟨j', hj', ⟨ej', nj'⟩, hmin'⟩ := argmin (fun i => Y.2.2.2 i = false ∧ n i < 0) m (fun i => - n i) T (fun i _ h => by have := h.2; (try dsimp only); omega) (by
          by_cases q : ∃ i ∈ T, Y.2.2.2 i = false ∧ n i < 0
          · exact q
          · exact absurd (fun i hi ei => by
              by_cases z : 0 ≤ n i
              · exact z
              · exact absurd ⟨i, hi, ei, by omega⟩ q) hall)
        have mj' := hpos j' hj' ej'
        refine ⟨fun i => (- n j') * m i + m j' * n i, ⟨fun i hi ei => ?_, Dep.lin _ _ c2 hn, Or.inr ⟨?_, k, hk, sk, ek, ?_⟩⟩, j', hj', ?_⟩
        · dsimp only
          by_cases q : n i < 0
          · have := hmin' i hi ⟨ei, q⟩
            grind
          · have a1 := Int.mul_nonneg (by omega : 0 ≤ - n j') (Int.le_of_lt (hpos i hi ei))
            have a2 := Int.mul_nonneg (Int.le_of_lt mj') (by omega : 0 ≤ n i)
            omega
        · rw [sm_lin, hm0, hn0]; simp
        · dsimp only
          have a1 := Int.mul_pos (by omega : 0 < - n j') (hpos k hk ek)
          have a2 := Int.mul_pos mj' nk
          omega
        · (try dsimp only); grind
theorem redB {Y : Sys} {T : List Nat} {m n : Nat → Int} (hm : Cert Y T m) (hpos : ∀ i ∈ T, Y.2.2.2 i = false → 0 < m i) (hn : Dep Y T n) (hs : 0 ≤ sm T (fun i => n i * Y.2.1 i)) (hnz : ∃ j ∈ T, n j ≠ 0) (hz : ∃ i ∈ T, n i = 0) : ∃ m', Cert Y T m' ∧ ∃ i ∈ T, m' i = 0 := by
  by_cases h1 : ∃ j ∈ T, Y.2.2.2 j = false ∧ 0 < n j
  · exact redA hm hpos hn hs h1 hz
  · have hle : ∀ i ∈ T, Y.2.2.2 i = false → n i ≤ 0 := fun i hi ei => by
      by_cases q : n i ≤ 0
      · exact q
      · exact absurd ⟨i, hi, ei, by omega⟩ h1
    have hneg : Dep Y T (fun i => (-1) * n i) := fun v hv => by
      have : sm T (fun i => (-1) * n i * Y.1 i v) = (-1) * sm T (fun i => n i * Y.1 i v) := by
        rw [← sm_mul]; exact sm_congr (fun i _ => by grind)
      rw [this, hn v hv]; simp
    have hsn : sm T (fun i => (-1) * n i * Y.2.1 i) = - sm T (fun i => n i * Y.2.1 i) := by
      have : sm T (fun i => (-1) * n i * Y.2.1 i) = (-1) * sm T (fun i => n i * Y.2.1 i) := by
        rw [← sm_mul]; exact sm_congr (fun i _ => by grind)
      rw [this]; omega
    by_cases hgt : 0 < sm T (fun i => n i * Y.2.1 i)
    · obtain ⟨i0, hi0, z0⟩ := hz
      refine ⟨fun i => (-1) * n i, ⟨fun i hi ei => by have := hle i hi ei; (try dsimp only); omega, hneg, Or.inl ?_⟩, i0, hi0, by (try dsimp only); omega⟩
      rw [hsn]; omega
    · by_cases h2 : ∃ j ∈ T, Y.2.2.2 j = false ∧ n j < 0
      · obtain ⟨j, hj, ej, nj⟩ := h2
        obtain ⟨i0, hi0, z0⟩ := hz
        exact redA hm hpos hneg (by rw [hsn]; omega) ⟨j, hj, ej, by (try dsimp only); omega⟩ ⟨i0, hi0, by (try dsimp only); omega⟩
      · have h0 : ∀ i ∈ T, Y.2.2.2 i = false → n i = 0 := fun i hi ei => by
          by_cases q : n i = 0
          · exact q
          · exact absurd ⟨i, hi, ei, by have := hle i hi ei; omega⟩ h2
        obtain ⟨k, hk, nk⟩ := hnz
        obtain ⟨c1, c2, c3⟩ := hm
        have hsq : 0 < n k * n k := by
          rcases Int.lt_or_lt_of_ne nk with q | q
          · have := Int.mul_pos_of_neg_of_neg q q; exact this
          · exact Int.mul_pos q q
        refine ⟨fun i => (n k * n k) * m i + (- (m k * n k)) * n i, ⟨fun i hi ei => ?_, Dep.lin _ _ c2 hn, ?_⟩, k, hk, by (try dsimp only); grind⟩
        · dsimp only
          rw [h0 i hi ei]
          have := Int.mul_nonneg (Int.le_of_lt hsq) (c1 i hi ei)
          omega
        · have hs0 : sm T (fun i => n i * Y.2.1 i) = 0 := by omega
          rw [sm_lin, hs0]
          rcases c3 with q | ⟨q, i, hi, si, ei, mi⟩
          · left
            have := Int.mul_pos hsq (by omega : 0 < - sm T (fun i => m i * Y.2.1 i))
            grind
          · right
            refine ⟨by rw [q]; simp, i, hi, si, ei, ?_⟩
            dsimp only
            rw [h0 i hi ei]
            have := Int.mul_ne_zero (by omega : n k * n k ≠ 0) mi
            omega
theorem red {Y : Sys} {T : List Nat} {m n : Nat → Int} (hm : Cert Y T m) (hfull : ∀ i ∈ T, m i ≠ 0) (hn : Dep Y T n) (hnz : ∃ j ∈ T, n j ≠ 0) (hz : ∃ i ∈ T, n i = 0) : ∃ m', Cert Y T m' ∧ ∃ i ∈ T, m' i = 0 := by
  have hpos : ∀ i ∈ T, Y.2.2.2 i = false → 0 < m i := fun i hi ei => by
    have := hm.1 i hi ei
    have := hfull i hi
    omega
  by_cases hs : 0 ≤ sm T (fun i => n i * Y.2.1 i)
  · exact redB hm hpos hn hs hnz hz
  · have hsn : ∀ g : Nat → Int, sm T (fun i => (-1) * n i * g i) = (-1) * sm T (fun i => n i * g i) := fun g => by
      rw [← sm_mul]; exact sm_congr (fun i _ => by grind)
    refine redB (n := fun i => (-1) * n i) hm hpos (fun v hv => by rw [hsn (fun i => Y.1 i v), hn v hv]; simp) (by rw [hsn]; omega) ?_ ?_
    · obtain ⟨j, hj, h⟩ := hnz
      exact ⟨j, hj, by (try dsimp only); omega⟩
    · obtain ⟨j, hj, h⟩ := hz
      exact ⟨j, hj, by (try dsimp only); omega⟩
theorem sm_filter (T : List Nat) (m f : Nat → Int) : sm (T.filter (fun i => decide (m i ≠ 0))) (fun i => m i * f i) = sm T (fun i => m i * f i) := by
  induction T with
  | nil => rfl
  | cons a T ih =>
    by_cases h : m a = 0
    · rw [List.filter_cons_of_neg (by simp [h]), ih]; simp [sm, h]
    · rw [List.filter_cons_of_pos (by simp [h])]; simp only [sm, ih]
theorem cert_filter {Y : Sys} {T : List Nat} {m : Nat → Int} (h : Cert Y T m) : Cert Y (T.filter (fun i => decide (m i ≠ 0))) m := by
  obtain ⟨c1, c2, c3⟩ := h
  refine ⟨fun i hi => c1 i (List.mem_filter.mp hi).1, fun v hv => by rw [sm_filter]; exact c2 v hv, ?_⟩
  rw [sm_filter]
  rcases c3 with q | ⟨q, i, hi, s1, s2, s3⟩
  · exact Or.inl q
  · exact Or.inr ⟨q, i, List.mem_filter.mpr ⟨hi, by simpa using s3⟩, s1, s2, s3⟩
/-- of the rows that no point satisfies there are some with a certificate whose rows have no dependence but its multiples -/
theorem minimal {Y : Sys} : ∀ (k : Nat) (T : List Nat), T.length ≤ k → (∃ m, Cert Y T m) → ∃ (T0 : List Nat) (m : Nat → Int), List.Sublist T0 T ∧ Cert Y T0 m ∧ (∀ i ∈ T0, m i ≠ 0) ∧ ∀ n, Dep Y T0 n → (∃ i ∈ T0, n i = 0) → ∀ i ∈ T0, n i = 0 := by
  intro k
  induction k with
  | zero =>
    intro T hT ⟨m, h⟩
    have : T = [] := List.length_eq_zero_iff.mp (by omega)
    subst this
    rcases h.2.2 with q | ⟨q, i, hi, _⟩
    · simp [sm] at q
    · simp at hi
  | succ k ih =>
    intro T hT ⟨m, h⟩
    by_cases hf : ∀ i ∈ T, m i ≠ 0
    · by_cases hd : ∀ n, Dep Y T n → (∃ i ∈ T, n i = 0) → ∀ i ∈ T, n i = 0
      · exact ⟨T, m, List.Sublist.refl _, h, hf, hd⟩
      · obtain ⟨n, hn, hz, hnz⟩ : ∃ n, Dep Y T n ∧ (∃ i ∈ T, n i = 0) ∧ ∃ i ∈ T, n i ≠ 0 := by
          by_cases q : ∃ n, Dep Y T n ∧ (∃ i ∈ T, n i = 0) ∧ ∃ i ∈ T, n i ≠ 0
          · exact q
          · refine absurd (fun n h1 h2 i hi => ?_) hd
            by_cases z : n i = 0
            · exact z
            · exact absurd ⟨n, h1, h2, i, hi, z⟩ q
        obtain ⟨m', h', i, hi, z⟩ := red h hf hn hnz hz
        have hlt : (T.filter (fun i => decide (m' i ≠ 0))).length < T.length := List.length_filter_lt_length_iff_exists.mpr ⟨i, hi, by simp [z]⟩
        obtain ⟨T0, m0, h1, h2⟩ := ih _ (by omega) ⟨m', cert_filter h'⟩
        exact ⟨T0, m0, h1.trans List.filter_sublist, h2⟩
    · obtain ⟨i, hi, z⟩ : ∃ i ∈ T, m i = 0 := by
        by_cases q : ∃ i ∈ T, m i = 0
        · exact q
        · exact absurd (fun i hi z => q ⟨i, hi, z⟩) hf
      have hlt : (T.filter (fun i => decide (m i ≠ 0))).length < T.length := List.length_filter_lt_length_iff_exists.mpr ⟨i, hi, by simp [z]⟩
      obtain ⟨T0, m0, h1, h2⟩ := ih _ (by omega) ⟨m, cert_filter h⟩
      exact ⟨T0, m0, h1.trans List.filter_sublist, h2⟩
