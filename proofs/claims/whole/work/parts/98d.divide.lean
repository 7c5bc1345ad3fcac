/-! shares: product, shares, signs, division -/
theorem prod_z {h : Hp} {A : Nat → Nat → Int} {r : Nat} (hT : Tb h A (r + 1)) (h84 : ∀ j, j < r → h.1 84 j = nI j) (h84r : h.1 84 r = -9) (a3 : Int32) : iter (fun s : Int64 × Int32 => s_X10_setShares_l114 66 a3 s.1 s.2 h) FUEL ((1 : Int64), (0 : Int32)) = some (i64 (pr A r)) := by
  have hn := hT.2.1
  obtain ⟨e, he, hp⟩ := iter_fuel (f := fun s : Int64 × Int32 => s_X10_setShares_l114 66 a3 s.1 s.2 h)
    (fun z => ∃ j, z = (i64 (pr A (min j r)), nI j) ∧ j ≤ r + 1)
    (fun z => 20 - z.2.toNatClampNeg)
    (fun e => e = i64 (pr A r)) (by
    rintro z ⟨j, rfl, hj⟩
    dsimp only
    unfold s_X10_setShares_l114 s_X10_setShares_b159
    rw [hT.1, show (66 + 18 : Nat) = 84 from rfl, show (66 + 16 : Nat) = 82 from rfl]
    by_cases q : j < r + 1
    · have mu : 20 - (nI (j + 1)).toNatClampNeg < 20 - (nI j).toNatClampNeg := by rw [nI_clamp (by omega), nI_clamp (by omega)]; omega
      rw [if_pos (nI_lt q (by omega)), ldI_n (by omega) (by omega), ldI_n (by omega) (by omega)]
      by_cases c : j < r
      · rw [h84 j c, if_neg (by
          intro y
          have := eq_z.mp y
          rw [nI_z (by omega), show (-9 : Int32).toInt = -9 from by decide] at this
          omega), ix10, ldJ_n (by omega) (by omega), hT.2.2 j j (by omega) (by omega), lt_red, lt_red, nI_1, i64_mul]
        refine Or.inl ⟨_, rfl, ⟨j + 1, ?_, by omega⟩, mu⟩
        rw [show min j r = j by omega, show min (j + 1) r = j + 1 by omega]; rfl
      · have : j = r := by omega
        subst this
        rw [h84r, if_pos rfl, lt_red, lt_red, nI_1]
        refine Or.inl ⟨_, rfl, ⟨j + 1, ?_, by omega⟩, mu⟩
        rw [show min j j = j by omega, show min (j + 1) j = j by omega, show (1 : Int64) = i64 1 from by decide, i64_mul, Int.mul_one]
    · rw [if_neg (nI_nlt (by omega) (by omega))]
      exact Or.inr ⟨_, rfl, by rw [show min j r = r by omega]⟩)
    (i64 (pr A (min 0 r)), nI 0) ⟨0, rfl, by omega⟩ (by dsimp only; rw [nI_clamp (by omega)]; omega)
  rw [show ((1 : Int64), (0 : Int32)) = (i64 (pr A (min 0 r)), nI 0) from by rw [show min 0 r = 0 by omega]; rfl, he, hp]
theorem gf_le {f : Nat → Int} {B : Int} (hB : 0 ≤ B) : ∀ {n : Nat}, (∀ i, i < n → -B ≤ f i ∧ f i ≤ B) → ((gf f n : Nat) : Int) ≤ B
  | 0, _ => by unfold gf; omega
  | n + 1, h => by
    have ih := gf_le hB (n := n) (fun i hi => h i (by omega))
    have hn := h n (by omega)
    unfold gf
    rcases Nat.eq_zero_or_pos (f n).natAbs with q | q
    · rw [q, Nat.gcd_zero_right]; exact ih
    · have : Nat.gcd (gf f n) (f n).natAbs ≤ (f n).natAbs := Nat.gcd_le_right _ q
      omega
set_option maxHeartbeats 1000000 in
theorem shares_z {h : Hp} {A : Nat → Nat → Int} {r : Nat} (hr : 1 ≤ r) (hD : Diag A r) (hB : Bnd A (r + 1) (bq r)) (hT : Tb h A (r + 1)) (h84 : ∀ j, j < r → h.1 84 j = nI j) (h84r : h.1 84 r = -9) : ∃ h', iter (fun s : Int64 × Int32 × Hp => s_X10_setShares_l174 66 (nI r) (i64 (pr A r)) s.1 s.2.1 s.2.2) FUEL ((0 : Int64), (0 : Int32), h) = some (i64 ((gf (shr2 A r) (r + 1) : Nat) : Int), h') ∧ Fr [83] h h' ∧ ∀ j, j < r + 1 → h'.2 83 j = i64 (shr2 A r j) := by
  have hn := hT.2.1
  have hr3 : r ≤ 3 := by omega
  obtain ⟨e, he, hp⟩ := iter_fuel (f := fun s : Int64 × Int32 × Hp => s_X10_setShares_l174 66 (nI r) (i64 (pr A r)) s.1 s.2.1 s.2.2)
    (fun z => ∃ (j : Nat) (H : Hp), z = (i64 ((gf (shr2 A r) j : Nat) : Int), nI j, H) ∧ j ≤ r + 1 ∧ Fr [83] h H ∧ ∀ i, i < j → H.2 83 i = i64 (shr2 A r i))
    (fun z => 20 - z.2.1.toNatClampNeg)
    (fun e => e.1 = i64 ((gf (shr2 A r) (r + 1) : Nat) : Int) ∧ Fr [83] h e.2 ∧ ∀ i, i < r + 1 → e.2.2 83 i = i64 (shr2 A r i)) (by
    rintro z ⟨j, H, rfl, hj, hF, hS⟩
    dsimp only
    unfold s_X10_setShares_l174 s_X10_setShares_b246
    rw [(hF 66 (by simp)).1, hT.1, show (66 + 18 : Nat) = 84 from rfl, show (66 + 16 : Nat) = 82 from rfl, show (66 + 17 : Nat) = 83 from rfl]
    by_cases q : j < r + 1
    · have mu : 20 - (nI (j + 1)).toNatClampNeg < 20 - (nI j).toNatClampNeg := by rw [nI_clamp (by omega), nI_clamp (by omega)]; omega
      have gl := gf_le (f := shr2 A r) (B := 2200000000000) (by omega) (n := j) (fun i hi => shr_bd hr hr3 hD hB (by omega))
      have sb := shr_bd hr hr3 hD hB q
      have goOn : ∀ v : Int64, v = i64 (shr2 A r j) → ∃ s', (stJ H 83 10 (nI j) v fun h18 => ldJ h18 83 10 (nI j) fun x19 => (s_X10_gcd (i64 ((gf (shr2 A r) j : Nat) : Int)) x19 h18).bind fun y20 => lt (nI j + (1 : Int32)) fun v8_21 => some (.inl (y20, v8_21, h18) : (Int64 × Int32 × Hp) ⊕ (Int64 × Hp))) = some (.inl s') ∧ (∃ (j : Nat) (H : Hp), s' = (i64 ((gf (shr2 A r) j : Nat) : Int), nI j, H) ∧ j ≤ r + 1 ∧ Fr [83] h H ∧ ∀ i, i < j → H.2 83 i = i64 (shr2 A r i)) ∧ 20 - s'.2.1.toNatClampNeg < 20 - (nI j).toNatClampNeg := fun v hv => by
        have eg : (i64 ((gf (shr2 A r) j : Nat) : Int)).toInt = ((gf (shr2 A r) j : Nat) : Int) := i64_z (by omega) (by omega)
        have es : (i64 (shr2 A r j)).toInt = shr2 A r j := i64_z (by omega) (by omega)
        rw [hv, stJ_n (by omega) (by omega), ldJ_n (by omega) (by omega), sJ_same, mg_z (by rw [eg]; omega) (by rw [es]; omega), bnd_s, lt_red, nI_1, eg, es]
        refine ⟨_, rfl, ⟨j + 1, sJ H 83 j (i64 (shr2 A r j)), ?_, by omega, hF.tr (Fr.sJ (by simp)), fun i hi => ?_⟩, mu⟩
        · have : Int.gcd ((gf (shr2 A r) j : Nat) : Int) (shr2 A r j) = gf (shr2 A r) (j + 1) := by
            conv => rhs; unfold gf
            unfold Int.gcd
            rw [Int.natAbs_natCast]
          rw [this]
        · by_cases w : i = j
          · subst w; rw [sJ_same]
          · rw [sJ_ne w]; exact hS i (by omega)
      rw [if_pos (nI_lt q (by omega)), ldI_n (by omega) (by omega), ldI_n (by omega) (by omega), (hF 84 (by simp)).1]
      by_cases c : j < r
      · rw [h84 j c, if_neg (by
          intro y
          have := eq_z.mp y
          rw [nI_z (by omega), show (-9 : Int32).toInt = -9 from by decide] at this
          omega), ix10, ldJ_n (by omega) (by omega), ldI_n (by omega) (by omega), (hF 84 (by simp)).1, h84 j c, ix10, ldJ_n (by omega) (by omega), (hF 82 (by simp)).2, hT.2.2 j r (by omega) (by omega), hT.2.2 j j (by omega) (by omega)]
        obtain ⟨p1, p2, p3⟩ := pr_div hr hr3 hD hB c
        have d0 := (hD j c).1
        have bj := hB j j (by omega) (by omega)
        have bql := bq_le r j
        have e0 : ¬ i64 (A j j) = 0 := fun y => d0 ((i64_0 (by omega) (by omega)).mp y)
        have ed : i64 (pr A r) / i64 (A j j) = i64 (pr A r / A j j) := by
          have e1 : (i64 (pr A r)).toInt = pr A r := i64_z (by omega) (by omega)
          have e2 : (i64 (A j j)).toInt = A j j := i64_z (by omega) (by omega)
          rw [← i64_of (i64 (pr A r) / i64 (A j j)), Jvm.Kit.i64_div (by rw [e1]; omega), e1, e2, Int.tdiv_eq_ediv_of_dvd ⟨_, p1.symm⟩]
        unfold nzJ
        rw [if_neg e0]
        refine Or.inl (goOn _ ?_)
        rw [ed, i64_neg, i64_mul]
        unfold shr2
        rw [if_pos c]
      · have : j = r := by omega
        subst this
        rw [h84r, if_pos rfl]
        refine Or.inl (goOn _ ?_)
        unfold shr2
        rw [if_neg (by omega)]
    · rw [if_neg (nI_nlt (by omega) (by omega))]
      have : j = r + 1 := by omega
      subst this
      exact Or.inr ⟨_, rfl, rfl, hF, hS⟩)
    (i64 ((gf (shr2 A r) 0 : Nat) : Int), nI 0, h) ⟨0, h, rfl, by omega, Fr.rf, fun i hi => by omega⟩ (by dsimp only; rw [nI_clamp (by omega)]; omega)
  obtain ⟨a1, a2, a3⟩ := hp
  refine ⟨e.2, ?_, a2, a3⟩
  rw [show ((0 : Int64), (0 : Int32), h) = (i64 ((gf (shr2 A r) 0 : Nat) : Int), nI 0, h) from rfl, he, ← a1]
/-- the signs that are due -/
theorem turnsRight_z {h : Hp} {nq m n : Nat} {T : List Nat} {x : Nat → Int} (hM : MB h 66 nq m) (h29 : h.1 66 29 = nI n) (hn : n ≤ 4) (hTl : T.length = n) (hTm : ∀ i ∈ T, i < m) (h81 : ∀ c, c < n → h.1 81 c = nI (T.getD c 0)) (h83 : ∀ c, c < n → h.2 83 c = i64 (x c)) (hx : ∀ c, c < n → -2200000000000 ≤ x c ∧ x c ≤ 2200000000000) : ∃ b : Bool, s_X10_turnsRight 66 h = some (bI b) ∧ ((∃ j, j < n ∧ mS h 66 (T.getD j 0) ≠ 4 ∧ (b = true ↔ 0 < x j)) ∨ ((∀ j, j < n → mS h 66 (T.getD j 0) = 4) ∧ (b = true ↔ rs (fun j => x j * mD h 66 (T.getD j 0)) n < 0))) := by
  have hm := hM.2.1
  have z0 : (0 : Int64).toInt = 0 := by decide
  have hTj : ∀ j, j < n → T.getD j 0 < m := fun j hj => by
    rw [List.getD_eq_getElem?_getD, List.getElem?_eq_getElem (by omega)]
    exact hTm _ (List.getElem_mem _)
  have rb : ∀ k, k ≤ n → -(k * 110000000000000) ≤ rs (fun j => x j * mD h 66 (T.getD j 0)) k ∧ rs (fun j => x j * mD h 66 (T.getD j 0)) k ≤ k * 110000000000000 := by
    intro k
    induction k with
    | zero => intro _; simp [rs]
    | succ k ih =>
      intro hk
      have := ih (by omega)
      have hxk := hx k (by omega)
      have hdk := (hM.2.2.2 _ (hTj k (by omega))).2.2
      have := mulb (A := 2200000000000) (B := 50) hxk.1 hxk.2 hdk.1 hdk.2
      unfold rs
      push_cast
      omega
  unfold s_X10_turnsRight
  obtain ⟨e, he, hp⟩ := iter_fuel (f := fun s : Int64 × Int32 => s_X10_turnsRight_l4 66 s.1 s.2 h)
    (fun z => ∃ j, z = (i64 (rs (fun j => x j * mD h 66 (T.getD j 0)) j), nI j) ∧ j ≤ n ∧ ∀ i, i < j → mS h 66 (T.getD i 0) = 4)
    (fun z => 20 - z.2.toNatClampNeg)
    (fun e => (e = .inl (i64 (rs (fun j => x j * mD h 66 (T.getD j 0)) n)) ∧ ∀ i, i < n → mS h 66 (T.getD i 0) = 4) ∨ (∃ (b : Bool) (j : Nat), e = .inr (bI b) ∧ j < n ∧ mS h 66 (T.getD j 0) ≠ 4 ∧ (b = true ↔ 0 < x j))) (by
    rintro z ⟨j, rfl, hj, h4⟩
    dsimp only
    unfold s_X10_turnsRight_l4
    rw [h29]
    by_cases q : j < n
    · have ht := hTj j q
      obtain ⟨⟨w1, w2⟩, ⟨w3, w4⟩, w5⟩ := hM.2.2.2 _ ht
      have w3' : h.1 68 (3 * T.getD j 0 + 1) = nI (mS h 66 (T.getD j 0)) := w3
      have w5' : h.1 68 (3 * T.getD j 0 + 2) = i32 (mD h 66 (T.getD j 0)) := (i32_of _).symm
      rw [if_pos (nI_lt q (by omega)), show (66 + 15 : Nat) = 81 from rfl, show (66 + 2 : Nat) = 68 from rfl, show (66 + 17 : Nat) = 83 from rfl, ldI_n (by omega) (by omega), h81 j q, show (3 : Int32) * nI (T.getD j 0) = nI (3 * T.getD j 0) from by rw [li3, nI_mul], show nI (3 * T.getD j 0) + 1 = nI (3 * T.getD j 0 + 1) from nI_1 _, show nI (3 * T.getD j 0) + 2 = nI (3 * T.getD j 0 + 2) from by rw [li2, nI_add], ldI_n (by omega) (by omega), ldJ_n (by omega) (by omega), ldI_n (by omega) (by omega), w3', w5', h83 j q]
      by_cases c : mS h 66 (T.getD j 0) = 4
      · rw [if_pos (by rw [c]; rfl), lt_red, lt_red, nI_1]
        have el : (i32 (mD h 66 (T.getD j 0))).toInt64 = i64 (mD h 66 (T.getD j 0)) := by
          apply eql_z.mpr
          rw [tl_z, i32_z (by omega) (by omega), i64_z (by omega) (by omega)]
        rw [el, i64_mul, i64_add]
        refine Or.inl ⟨_, rfl, ⟨j + 1, rfl, by omega, fun i hi => ?_⟩, by rw [nI_clamp (by omega), nI_clamp (by omega)]; omega⟩
        rcases (show i < j ∨ i = j by omega) with y | rfl
        · exact h4 i y
        · exact c
      · rw [if_neg (by rw [li4, nI_eq (by omega) (by omega)]; exact c)]
        have hxj := hx j q
        have ex : (i64 (x j)).toInt = x j := i64_z (by omega) (by omega)
        rw [ldJ_n (by omega) (by omega), h83 j q]
        by_cases d : 0 < x j
        · rw [if_pos (show (0 : Int64) < i64 (x j) from ltl_z.mpr (by rw [z0, ex]; exact d))]
          exact Or.inr ⟨_, rfl, Or.inr ⟨true, j, rfl, q, c, fun _ => d, fun _ => rfl⟩⟩
        · rw [if_neg (show ¬ (0 : Int64) < i64 (x j) from fun y => d (by have := ltl_z.mp y; rw [z0, ex] at this; exact this))]
          exact Or.inr ⟨_, rfl, Or.inr ⟨false, j, rfl, q, c, (fun y => nomatch y), fun y => absurd y d⟩⟩
    · rw [if_neg (nI_nlt (by omega) (by omega))]
      have : j = n := by omega
      subst this
      exact Or.inr ⟨_, rfl, Or.inl ⟨rfl, h4⟩⟩)
    (i64 (rs (fun j => x j * mD h 66 (T.getD j 0)) 0), nI 0) ⟨0, rfl, by omega, fun i hi => by omega⟩ (by dsimp only; rw [nI_clamp (by omega)]; omega)
  rw [show ((0 : Int64), (0 : Int32)) = (i64 (rs (fun j => x j * mD h 66 (T.getD j 0)) 0), nI 0) from rfl, he, bnd_s]
  rcases hp with ⟨rfl, q⟩ | ⟨b, j, rfl, q1, q2, q3⟩
  · have := rb n (Nat.le_refl _)
    have en : (i64 (rs (fun j => x j * mD h 66 (T.getD j 0)) n)).toInt = rs (fun j => x j * mD h 66 (T.getD j 0)) n := i64_z (by omega) (by omega)
    show ∃ b : Bool, (if i64 (rs (fun j => x j * mD h 66 (T.getD j 0)) n) < (0 : Int64) then some (1 : Int32) else some (0 : Int32)) = some (bI b) ∧ _
    by_cases d : rs (fun j => x j * mD h 66 (T.getD j 0)) n < 0
    · rw [if_pos (ltl_z.mpr (by rw [z0, en]; exact d))]
      exact ⟨true, rfl, Or.inr ⟨q, fun _ => d, fun _ => rfl⟩⟩
    · rw [if_neg (fun y => d (by have := ltl_z.mp y; rw [z0, en] at this; exact this))]
      exact ⟨false, rfl, Or.inr ⟨q, (fun y => nomatch y), fun y => absurd y d⟩⟩
  · exact ⟨b, rfl, Or.inl ⟨j, q1, q2, q3⟩⟩
theorem divs_z {h : Hp} {n : Nat} {x : Nat → Int} {c : Int} (h29 : h.1 66 29 = nI n) (hn : n ≤ 4) (h83 : ∀ j, j < n → h.2 83 j = i64 (x j)) (hx : ∀ j, j < n → -2200000000000 ≤ x j ∧ x j ≤ 2200000000000) (hc0 : c ≠ 0) (hc : -2200000000000 ≤ c ∧ c ≤ 2200000000000) (hd : ∀ j, j < n → c ∣ x j) : ∃ h', s_X10_setShares_b282 66 (i64 c) h = some h' ∧ Fr [83] h h' ∧ ∀ j, j < n → h'.2 83 j = i64 (x j / c) := by
  unfold s_X10_setShares_b282
  obtain ⟨e, he, hp⟩ := iter_fuel (f := fun s : Int32 × Hp => s_X10_setShares_l287 66 (i64 c) s.1 s.2)
    (fun z => ∃ (j : Nat) (H : Hp), z = (nI j, H) ∧ j ≤ n ∧ Fr [83] h H ∧ ∀ i, i < n → H.2 83 i = i64 (if i < j then x i / c else x i))
    (fun z => 20 - z.1.toNatClampNeg)
    (fun e => Fr [83] h e ∧ ∀ j, j < n → e.2 83 j = i64 (x j / c)) (by
    rintro z ⟨j, H, rfl, hj, hF, hS⟩
    dsimp only
    unfold s_X10_setShares_l287 nzJ
    rw [(hF 66 (by simp)).1, h29]
    by_cases q : j < n
    · have e1 : (i64 (x j)).toInt = x j := i64_z (by have := hx j q; omega) (by have := hx j q; omega)
      have e2 : (i64 c).toInt = c := i64_z (by omega) (by omega)
      have ed : i64 (x j) / i64 c = i64 (x j / c) := by
        rw [← i64_of (i64 (x j) / i64 c), Jvm.Kit.i64_div (by rw [e1]; have := hx j q; omega), e1, e2, Int.tdiv_eq_ediv_of_dvd (hd j q)]
      rw [if_pos (nI_lt q (by omega)), show (66 + 17 : Nat) = 83 from rfl, ldJ_n (by omega) (by omega), if_neg (fun y => hc0 ((i64_0 (by omega) (by omega)).mp y)), stJ_n (by omega) (by omega), lt_red, nI_1, hS j q, if_neg (by omega), ed]
      refine Or.inl ⟨_, rfl, ⟨j + 1, _, rfl, by omega, hF.tr (Fr.sJ (by simp)), fun i hi => ?_⟩, by rw [nI_clamp (by omega), nI_clamp (by omega)]; omega⟩
      by_cases w : i = j
      · subst w; rw [sJ_same, if_pos (by omega)]
      · rw [sJ_ne w, hS i hi]
        by_cases w2 : i < j
        · rw [if_pos w2, if_pos (by omega)]
        · rw [if_neg w2, if_neg (by omega)]
    · rw [if_neg (nI_nlt (by omega) (by omega))]
      refine Or.inr ⟨_, rfl, hF, fun i hi => ?_⟩
      rw [hS i hi, if_pos (by omega)])
    (nI 0, h) ⟨0, h, rfl, by omega, Fr.rf, fun i hi => by rw [if_neg (by omega)]; exact h83 i hi⟩ (by dsimp only; rw [nI_clamp (by omega)]; omega)
  rw [li0, he, bnd_s]
  exact ⟨e, rfl, hp⟩
/-- the class's factor without common divisors -/
theorem reduced_z {h : Hp} {C k : Nat} {T : List Nat} {g : Nat → Int} (h3 : h.1 C 3 = nI T.length) (hl : T.length ≤ 4) (hT : ∀ i ∈ T, i < 12) (hk : k < 12) (hm : ∀ p, p < T.length → h.1 (C + 6) p = nI (T.getD p 0) ∧ h.1 (C + 7) p = i32 (g (T.getD p 0))) (hg : ∀ i ∈ T, (-162 ≤ g i ∧ g i ≤ 162) ∧ g i ≠ 0) (hne : 1 ≤ T.length) : s_X0_reducedFactor C (nI k) h = some (i64 (if k ∈ T then g k / ((gf (fun p => g (T.getD p 0)) T.length : Nat) : Int) else 0)) := by
  have hgd : ∀ p, (hp : p < T.length) → T.getD p 0 ∈ T := fun p hp => by
    rw [List.getD_eq_getElem?_getD, List.getElem?_eq_getElem hp]; exact List.getElem_mem _
  have gl : ∀ n, n ≤ T.length → ((gf (fun p => g (T.getD p 0)) n : Nat) : Int) ≤ 162 := fun n hn => gf_le (by omega) (fun i hi => (hg _ (hgd i (by omega))).1)
  have gp : 0 < gf (fun p => g (T.getD p 0)) T.length := gf_pos (i := 0) (by omega) (hg _ (hgd 0 (by omega))).2
  unfold s_X0_reducedFactor
  obtain ⟨e, he, hp⟩ := iter_fuel (f := fun s : Int64 × Int32 => s_X0_reducedFactor_l5 C (nI k) s.1 s.2 h)
    (fun z => ∃ j, z = (i64 ((gf (fun p => g (T.getD p 0)) j : Nat) : Int), nI j) ∧ j ≤ T.length)
    (fun z => 20 - z.2.toNatClampNeg)
    (fun e => e = i64 ((gf (fun p => g (T.getD p 0)) T.length : Nat) : Int)) (by
    rintro z ⟨j, rfl, hj⟩
    dsimp only
    unfold s_X0_reducedFactor_l5
    rw [h3]
    by_cases q : j < T.length
    · have hb := (hg _ (hgd j q)).1
      have e1 : (i64 ((gf (fun p => g (T.getD p 0)) j : Nat) : Int)).toInt = ((gf (fun p => g (T.getD p 0)) j : Nat) : Int) := i64_z (by omega) (by have := gl j (by omega); omega)
      have e2 : (i32 (g (T.getD j 0))).toInt64.toInt = g (T.getD j 0) := i32_tl (by omega) (by omega)
      rw [if_pos (nI_lt q (by omega)), ldI_n (by omega) (by omega), (hm j q).2, cd_z (by rw [e1]; omega) (by rw [e2]; omega), bnd_s, lt_red, nI_1, e1, e2]
      refine Or.inl ⟨_, rfl, ⟨j + 1, ?_, by omega⟩, by rw [nI_clamp (by omega), nI_clamp (by omega)]; omega⟩
      have : Int.gcd ((gf (fun p => g (T.getD p 0)) j : Nat) : Int) (g (T.getD j 0)) = gf (fun p => g (T.getD p 0)) (j + 1) := by
        conv => rhs; unfold gf
        unfold Int.gcd
        rw [Int.natAbs_natCast]
      rw [this]
    · rw [if_neg (nI_nlt (by omega) (by omega))]
      have : j = T.length := by omega
      subst this
      exact Or.inr ⟨_, rfl, rfl⟩)
    (i64 ((gf (fun p => g (T.getD p 0)) 0 : Nat) : Int), nI 0) ⟨0, rfl, by omega⟩ (by dsimp only; rw [nI_clamp (by omega)]; omega)
  subst hp
  have gl2 := gl T.length (Nat.le_refl _)
  have eG : (i64 ((gf (fun p => g (T.getD p 0)) T.length : Nat) : Int)).toInt = ((gf (fun p => g (T.getD p 0)) T.length : Nat) : Int) := i64_z (by omega) (by omega)
  rw [show ((0 : Int64), (0 : Int32)) = (i64 ((gf (fun p => g (T.getD p 0)) 0 : Nat) : Int), nI 0) from rfl, he, bnd_s, if_pos (show (0 : Int64) < i64 ((gf (fun p => g (T.getD p 0)) T.length : Nat) : Int) from ltl_z.mpr (by rw [eG, show (0 : Int64).toInt = 0 from by decide]; omega)), factorOf_z h3 hl hT hk hm, bnd_s]
  unfold nzJ
  rw [if_neg (fun y => by
    have := eql_z.mp y
    rw [eG, show (0 : Int64).toInt = 0 from by decide] at this; omega)]
  congr 1
  by_cases c : k ∈ T
  · rw [if_pos c, if_pos c]
    have hb := (hg k c).1
    have e2 : (i32 (g k)).toInt64.toInt = g k := i32_tl (by omega) (by omega)
    have hd : ((gf (fun p => g (T.getD p 0)) T.length : Nat) : Int) ∣ g k := by
      obtain ⟨p, hp, e⟩ := List.getElem_of_mem c
      have := gf_dvd (f := fun p => g (T.getD p 0)) hp
      rw [show T.getD p 0 = k from by rw [List.getD_eq_getElem?_getD, List.getElem?_eq_getElem hp]; exact e] at this
      exact this
    rw [← i64_of ((i32 (g k)).toInt64 / _), Jvm.Kit.i64_div (by rw [e2]; omega), e2, eG, Int.tdiv_eq_ediv_of_dvd hd]
  · rw [if_neg c, if_neg c]
    rw [← i64_of ((0 : Int32).toInt64 / _), Jvm.Kit.i64_div (by rw [show (0 : Int32).toInt64.toInt = 0 from by decide]; omega), show (0 : Int32).toInt64.toInt = 0 from by decide, Int.zero_tdiv]
