/-! the model's corners: against, comesCorner -/
def ML (H : Hp) (L : List P3) : Prop := H.1 66 39 = nI L.length ∧ L.length ≤ 120 ∧ L.Pairwise ltp ∧ ∀ k (hk : k < L.length), QB (H.2 87 (4 * k)) (H.2 87 (4 * k + 1)) (H.2 87 (4 * k + 2)) (H.2 87 (4 * k + 3)) ∧ L[k] = q4 (H.2 87 (4 * k)) (H.2 87 (4 * k + 1)) (H.2 87 (4 * k + 2)) (H.2 87 (4 * k + 3))
def MNew (H : Hp) (p : P3) : Prop := QB (H.2 88 0) (H.2 88 1) (H.2 88 2) (H.2 88 3) ∧ p = q4 (H.2 88 0) (H.2 88 1) (H.2 88 2) (H.2 88 3)
theorem ix4 (k : Nat) : (4 : Int32) * nI k = nI (4 * k) := by rw [li4, nI_mul]
theorem against_z {H : Hp} {L : List P3} {p : P3} (hC : ML H L) (hN : MNew H p) {k : Nat} (hk : k < L.length) : ∃ r, s_X10_against 66 (nI (4 * k)) H = some r ∧ cmp3 p L[k] r := by
  have z0l : (0 : Int64).toInt = 0 := by decide
  obtain ⟨c1, c2, c3, c4⟩ := hC
  obtain ⟨qb, ql⟩ := c4 k hk
  obtain ⟨n1, n2⟩ := hN
  obtain ⟨a0, a1, a2, a3⟩ := qb
  obtain ⟨b0, b1, b2, b3⟩ := n1
  have a3' : -1000000 ≤ (H.2 87 (4 * k + 3)).toInt ∧ (H.2 87 (4 * k + 3)).toInt ≤ 1000000 := by omega
  have b3' : -1000000 ≤ (H.2 88 3).toInt ∧ (H.2 88 3).toInt ≤ 1000000 := by omega
  rw [ql, n2]
  unfold q4 cmp3
  rw [ltp_mk b3.1 a3.1, ltp_mk a3.1 b3.1, eq3_mk b3.1 a3.1]
  unfold s_X10_against
  have step : ∀ v, v < 3 → (∀ u w : Int64, u = H.2 88 v → w = H.2 87 (4 * k + v) → (-1000000 ≤ u.toInt ∧ u.toInt ≤ 1000000) → (-1000000 ≤ w.toInt ∧ w.toInt ≤ 1000000) → ∃ r : Int32, ((r = -1 ∧ u.toInt * (H.2 87 (4 * k + 3)).toInt < w.toInt * (H.2 88 3).toInt) ∨ (r = 0 ∧ u.toInt * (H.2 87 (4 * k + 3)).toInt = w.toInt * (H.2 88 3).toInt) ∨ (r = 1 ∧ w.toInt * (H.2 88 3).toInt < u.toInt * (H.2 87 (4 * k + 3)).toInt)) ∧ s_X10_against_l2 66 (nI (4 * k)) (nI v) H = if r = 0 then some (.inl (nI (v + 1))) else some (.inr (.inr r))) := fun v hv u w hu hw bu bw => by
    have m1 := mulm bu a3'
    have m2 := mulm bw b3'
    have ef : (u * H.2 87 (4 * k + 3) - w * H.2 88 3).toInt = u.toInt * (H.2 87 (4 * k + 3)).toInt - w.toInt * (H.2 88 3).toInt := by
      rw [subl_z (by rw [m1.1, m2.1]; omega) (by rw [m1.1, m2.1]; omega), m1.1, m2.1]
    unfold s_X10_against_l2
    rw [if_pos (nI_ltn hv (by omega) (by decide)), show (66 + 22 : Nat) = 88 from rfl, show (66 + 21 : Nat) = 87 from rfl, ldJ_n (by omega) (by omega), show nI (4 * k) + 3 = nI (4 * k + 3) from by rw [li3, nI_add], ldJ_n (by omega) (by omega), nI_add, ldJ_n (by omega) (by omega), li3, ldJ_n (by omega) (by omega), lt_red, ← hu, ← hw, lt_red, nI_1]
    generalize u * H.2 87 (4 * k + 3) - w * H.2 88 3 = f at *
    by_cases c : f.toInt = 0
    · refine ⟨0, Or.inr (Or.inl ⟨rfl, by omega⟩), ?_⟩
      rw [if_pos (show f = (0 : Int64) from eql_z.mpr (by rw [z0l]; exact c)), if_pos rfl]
    · rw [if_neg (show ¬ f = (0 : Int64) from fun y => c (by have := eql_z.mp y; rw [z0l] at this; exact this))]
      by_cases d : f.toInt < 0
      · refine ⟨-1, Or.inl ⟨rfl, by omega⟩, ?_⟩
        rw [if_pos (show f < (0 : Int64) from ltl_z.mpr (by rw [z0l]; exact d)), if_neg (by decide)]
      · refine ⟨1, Or.inr (Or.inr ⟨rfl, by omega⟩), ?_⟩
        rw [if_neg (show ¬ f < (0 : Int64) from fun y => d (by have := ltl_z.mp y; rw [z0l] at this; exact this)), if_neg (by decide)]
  obtain ⟨r0, s0, e0⟩ := step 0 (by omega) _ _ rfl rfl b0 a0
  obtain ⟨r1, s1, e1⟩ := step 1 (by omega) _ _ rfl rfl b1 a1
  obtain ⟨r2, s2, e2⟩ := step 2 (by omega) _ _ rfl rfl b2 a2
  obtain ⟨e, he, hp⟩ := iter_fuel (f := fun s : Int32 => s_X10_against_l2 66 (nI (4 * k)) s H)
    (fun z => z = nI 0 ∨ (z = nI 1 ∧ r0 = 0) ∨ (z = nI 2 ∧ r0 = 0 ∧ r1 = 0) ∨ (z = nI 3 ∧ r0 = 0 ∧ r1 = 0 ∧ r2 = 0))
    (fun z => 20 - z.toNatClampNeg)
    (fun e => (e = .inl () ∧ r0 = 0 ∧ r1 = 0 ∧ r2 = 0) ∨ (∃ r, e = .inr r ∧ ((r = r0 ∧ r0 ≠ 0) ∨ (r = r1 ∧ r0 = 0 ∧ r1 ≠ 0) ∨ (r = r2 ∧ r0 = 0 ∧ r1 = 0 ∧ r2 ≠ 0)))) (by
    rintro z (rfl | ⟨rfl, z0⟩ | ⟨rfl, z0, z1⟩ | ⟨rfl, z0, z1, z2⟩)
    · rw [e0]
      by_cases c : r0 = 0
      · rw [if_pos c]; exact Or.inl ⟨_, rfl, Or.inr (Or.inl ⟨rfl, c⟩), by decide⟩
      · rw [if_neg c]; exact Or.inr ⟨_, rfl, Or.inr ⟨r0, rfl, Or.inl ⟨rfl, c⟩⟩⟩
    · rw [e1]
      by_cases c : r1 = 0
      · rw [if_pos c]; exact Or.inl ⟨_, rfl, Or.inr (Or.inr (Or.inl ⟨rfl, z0, c⟩)), by decide⟩
      · rw [if_neg c]; exact Or.inr ⟨_, rfl, Or.inr ⟨r1, rfl, Or.inr (Or.inl ⟨rfl, z0, c⟩)⟩⟩
    · rw [e2]
      by_cases c : r2 = 0
      · rw [if_pos c]; exact Or.inl ⟨_, rfl, Or.inr (Or.inr (Or.inr ⟨rfl, z0, z1, c⟩)), by decide⟩
      · rw [if_neg c]; exact Or.inr ⟨_, rfl, Or.inr ⟨r2, rfl, Or.inr (Or.inr ⟨rfl, z0, z1, c⟩)⟩⟩
    · unfold s_X10_against_l2
      rw [if_neg (nI_nltn (by decide))]
      exact Or.inr ⟨_, rfl, Or.inl ⟨rfl, z0, z1, z2⟩⟩)
    (nI 0) (Or.inl rfl) (by decide)
  rw [li0, he, bnd_s]
  have nz : ∀ {r : Int32} {P Q R : Prop}, ((r = -1 ∧ P) ∨ (r = 0 ∧ Q) ∨ (r = 1 ∧ R)) → r = 0 → Q := fun h hz => by
    rcases h with ⟨h, -⟩ | ⟨-, h⟩ | ⟨h, -⟩
    · rw [hz] at h; exact absurd h (by decide)
    · exact h
    · rw [hz] at h; exact absurd h (by decide)
  rcases hp with ⟨rfl, z0, z1, z2⟩ | ⟨r, rfl, ⟨rfl, z⟩ | ⟨rfl, z0, z⟩ | ⟨rfl, z0, z1, z⟩⟩
  · exact ⟨0, rfl, Or.inr (Or.inl ⟨rfl, nz s0 z0, nz s1 z1, nz s2 z2⟩)⟩
  · refine ⟨r, rfl, ?_⟩
    rcases s0 with ⟨y, w⟩ | ⟨y, w⟩ | ⟨y, w⟩
    · exact Or.inl ⟨y, Or.inl w⟩
    · exact absurd y z
    · exact Or.inr (Or.inr ⟨y, Or.inl w⟩)
  · refine ⟨r, rfl, ?_⟩
    have q0 := nz s0 z0
    rcases s1 with ⟨y, w⟩ | ⟨y, w⟩ | ⟨y, w⟩
    · exact Or.inl ⟨y, Or.inr ⟨q0, Or.inl w⟩⟩
    · exact absurd y z
    · exact Or.inr (Or.inr ⟨y, Or.inr ⟨q0.symm, Or.inl w⟩⟩)
  · refine ⟨r, rfl, ?_⟩
    have q0 := nz s0 z0
    have q1 := nz s1 z1
    rcases s2 with ⟨y, w⟩ | ⟨y, w⟩ | ⟨y, w⟩
    · exact Or.inl ⟨y, Or.inr ⟨q0, Or.inr ⟨q1, w⟩⟩⟩
    · exact absurd y z
    · exact Or.inr (Or.inr ⟨y, Or.inr ⟨q0.symm, Or.inr ⟨q1.symm, w⟩⟩⟩)
theorem mshift_z {H : Hp} {n q : Nat} (h0 : n < 120) (hq : q ≤ n) : ∃ H', iter (fun s : Int32 × Hp => s_X10_comesCorner_l54 66 (nI q) s.1 s.2) FUEL (nI (4 * n) - 1, H) = some H' ∧ Fr [87] H H' ∧ (∀ j, j < 4 * q → H'.2 87 j = H.2 87 j) ∧ ∀ j, 4 * q + 4 ≤ j → j < 4 * n + 4 → H'.2 87 j = H.2 87 (j - 4) := by
  obtain ⟨e, he, hp⟩ := iter_fuel (f := fun s : Int32 × Hp => s_X10_comesCorner_l54 66 (nI q) s.1 s.2)
    (fun z => ∃ (i : Nat) (G : Hp), z = (nI i - 1, G) ∧ 4 * q ≤ i ∧ i ≤ 4 * n ∧ Fr [87] H G ∧ (∀ j, j < i → G.2 87 j = H.2 87 j) ∧ ∀ j, i + 4 ≤ j → j < 4 * n + 4 → G.2 87 j = H.2 87 (j - 4))
    (fun z => (z.1.toInt + 1).toNat)
    (fun G => Fr [87] H G ∧ (∀ j, j < 4 * q → G.2 87 j = H.2 87 j) ∧ ∀ j, 4 * q + 4 ≤ j → j < 4 * n + 4 → G.2 87 j = H.2 87 (j - 4)) (by
    rintro z ⟨i, G, rfl, h1, h2, hF, hA, hB⟩
    dsimp only
    unfold s_X10_comesCorner_l54
    rw [ix4]
    by_cases c : 4 * q < i
    · obtain ⟨i', rfl⟩ : ∃ i', i = i' + 1 := ⟨i - 1, by omega⟩
      have s1 := sub1_z (k := i') (by omega)
      have s2 := sub1_z (k := i' + 1) (by omega)
      rw [nI_sub1] at s2
      rw [nI_sub1, if_neg (by rw [nI_le_iff (by omega) (by omega)]; omega), show (66 + 21 : Nat) = 87 from rfl, ldJ_n (by omega) (by omega), li4, nI_add, stJ_n (by omega) (by omega), lt_red, nI_back]
      refine Or.inl ⟨_, rfl, ⟨i', _, rfl, by omega, by omega, hF.tr (Fr.sJ (by simp)), fun j hj => ?_, fun j hj1 hj2 => ?_⟩, by dsimp only; rw [s1, s2]; omega⟩
      · rw [sJ_ne (by omega)]; exact hA j (by omega)
      · by_cases w : j = i' + 4
        · subst w; rw [sJ_same, hA i' (by omega)]; congr 1
        · rw [sJ_ne w]; exact hB j (by omega) hj2
    · have : i = 4 * q := by omega
      subst this
      have : nI (4 * q) - 1 < nI (4 * q) := by
        rw [lt_z, sub_z (by rw [nI_z (by omega), show (1 : Int32).toInt = 1 from by decide]; omega) (by rw [nI_z (by omega), show (1 : Int32).toInt = 1 from by decide]; omega), show (1 : Int32).toInt = 1 from by decide]; omega
      rw [if_pos this]
      exact Or.inr ⟨_, rfl, hF, hA, hB⟩)
    (nI (4 * n) - 1, H) ⟨4 * n, H, rfl, by omega, Nat.le_refl _, Fr.rf, fun _ _ => rfl, fun j h1 h2 => by omega⟩ (by dsimp only; rw [sub1_z (by omega)]; omega)
  exact ⟨e, he, hp⟩
set_option maxHeartbeats 1000000 in
theorem comesCorner_z {H : Hp} {L : List P3} {p : P3} (hC : ML H L) (hN : MNew H p) (h120 : L.length < 120) : ∃ H' L', s_X10_comesCorner 66 H = some H' ∧ ML H' L' ∧ (∀ x, x ∈ L' ↔ x ∈ L ∨ x = p) ∧ L'.length ≤ L.length + 1 ∧ Fr [66, 87] H H' ∧ FrK 66 [39] H H' := by
  have hC0 := hC
  obtain ⟨c1, c2, c3, c4⟩ := hC
  unfold s_X10_comesCorner
  obtain ⟨e, he, hp⟩ := iter_fuel (f := fun s : Int32 => s_X10_comesCorner_l2 66 s H)
    (fun z => ∃ q, z = nI q ∧ q ≤ L.length ∧ ∀ k (hk : k < L.length), k < q → ltp L[k] p)
    (fun z => 200 - z.toNatClampNeg)
    (fun e => ∃ q, e = nI q ∧ q ≤ L.length ∧ (∀ k (hk : k < L.length), k < q → ltp L[k] p) ∧ (∀ (hk : q < L.length), ¬ ltp L[q] p)) (by
    rintro z ⟨q, rfl, h1, h2⟩
    unfold s_X10_comesCorner_l2
    rw [c1, ix4]
    by_cases c : q < L.length
    · obtain ⟨r, er, hr⟩ := against_z hC0 hN (k := q) c
      have cz := cmp_z hr
      rw [if_pos (nI_lt c (by omega)), er, bnd_s]
      by_cases d : 0 < r
      · rw [if_pos d, lt_red, nI_1]
        refine Or.inl ⟨_, rfl, ⟨q + 1, rfl, by omega, fun k hk hkq => ?_⟩, by rw [nI_clamp (by omega), nI_clamp (by omega)]; omega⟩
        rcases (show k < q ∨ k = q by omega) with y | y
        · exact h2 k hk y
        · subst y; exact cz.2.2.mp d
      · rw [if_neg d]
        exact Or.inr ⟨_, rfl, q, rfl, h1, h2, fun hk y => d (cz.2.2.mpr y)⟩
    · rw [if_neg (nI_nlt (by omega) (by omega))]
      exact Or.inr ⟨_, rfl, q, rfl, h1, h2, fun hk => absurd hk c⟩)
    (nI 0) ⟨0, rfl, by omega, fun k hk h => by omega⟩ (by rw [nI_clamp (by omega)]; omega)
  obtain ⟨q, rfl, hq1, hq2, hq3⟩ := hp
  rw [li0, he, bnd_s, c1, ix4]
  have room : (∀ k (hk : k < L.length), q ≤ k → ltp p L[k]) → ∃ H' L', s_X10_comesCorner_b45 66 (nI q) H = some H' ∧ ML H' L' ∧ (∀ x, x ∈ L' ↔ x ∈ L ∨ x = p) ∧ L'.length ≤ L.length + 1 ∧ Fr [66, 87] H H' ∧ FrK 66 [39] H H' := fun hhigh => by
    unfold s_X10_comesCorner_b45
    obtain ⟨H1, s1, sF, sA, sB⟩ := mshift_z (H := H) h120 hq1
    rw [lt_red, c1, ix4, s1, bnd_s]
    obtain ⟨H2, e2, f2⟩ : ∃ H2, iter (fun s : Int32 × Hp => s_X10_comesCorner_l83 66 (nI q) s.1 s.2) FUEL ((0 : Int32), H1) = some H2 ∧ Fr [87] H1 H2 ∧ ∀ j, H2.2 87 j = if 4 * q ≤ j ∧ j < 4 * q + 4 then H1.2 88 (j - 4 * q) else H1.2 87 j := by
      obtain ⟨e, he, hp⟩ := iter_fuel (f := fun s : Int32 × Hp => s_X10_comesCorner_l83 66 (nI q) s.1 s.2)
        (fun z => ∃ (v : Nat) (G : Hp), z = (nI v, G) ∧ v ≤ 4 ∧ Fr [87] H1 G ∧ ∀ j, G.2 87 j = if 4 * q ≤ j ∧ j < 4 * q + v then H1.2 88 (j - 4 * q) else H1.2 87 j)
        (fun z => 20 - z.1.toNatClampNeg)
        (fun G => Fr [87] H1 G ∧ ∀ j, G.2 87 j = if 4 * q ≤ j ∧ j < 4 * q + 4 then H1.2 88 (j - 4 * q) else H1.2 87 j) (by
        rintro z ⟨v, G, rfl, hv, hF, h87⟩
        dsimp only
        unfold s_X10_comesCorner_l83
        by_cases y : v < 4
        · rw [if_pos (nI_ltn y (by omega) (by decide)), show (66 + 22 : Nat) = 88 from rfl, show (66 + 21 : Nat) = 87 from rfl, ldJ_n (by omega) (by omega), ix4, nI_add, stJ_n (by omega) (by omega), lt_red, nI_1, (hF 88 (by simp)).2]
          refine Or.inl ⟨_, rfl, ⟨v + 1, _, rfl, by omega, hF.tr (Fr.sJ (by simp)), fun j => ?_⟩, by rw [nI_clamp (by omega), nI_clamp (by omega)]; omega⟩
          by_cases w : j = 4 * q + v
          · subst w; rw [sJ_same, if_pos (by omega), show 4 * q + v - 4 * q = v by omega]
          · rw [sJ_ne w, h87]
            by_cases w2 : 4 * q ≤ j ∧ j < 4 * q + v
            · rw [if_pos w2, if_pos (by omega)]
            · rw [if_neg w2, if_neg (by omega)]
        · have : v = 4 := by omega
          subst this
          rw [if_neg (nI_nltn (by decide))]
          exact Or.inr ⟨_, rfl, hF, h87⟩)
        (nI 0, H1) ⟨0, H1, rfl, by omega, Fr.rf, fun j => by rw [if_neg (by omega)]⟩ (by dsimp only; rw [nI_clamp (by omega)]; omega)
      exact ⟨e, by rw [li0]; exact he, hp⟩
    obtain ⟨f2, h87⟩ := f2
    have e39 : H2.1 66 39 = nI L.length := by rw [(f2 66 (by simp)).1, (sF 66 (by simp)).1]; exact c1
    have e88 : H1.2 88 = H.2 88 := (sF 88 (by simp)).2
    rw [e2, bnd_s, lt_red, e39, nI_1]
    have F2 : Fr [66, 87] H H2 := (sF.wid (by simp)).tr (f2.wid (by simp))
    refine ⟨_, L.take q ++ p :: L.drop q, rfl, ⟨?_, ?_, ins_sorted c3 hq1 hq2 hhigh, fun k hk => ?_⟩, fun x => ins_mem, by rw [ins_len hq1]; omega, F2.tr (Fr.sI (by simp)), fun k hk => ?_⟩
    · rw [sI_same, ins_len hq1]
    · rw [ins_len hq1]; omega
    · rw [sI_J]
      have hk2 : k < L.length + 1 := by rw [ins_len hq1] at hk; exact hk
      obtain ⟨g1, g2, g3⟩ := ins_get (p := p) hq1 k hk
      rcases Nat.lt_trichotomy k q with y | y | y
      · rw [h87, if_neg (by omega), h87, if_neg (by omega), h87, if_neg (by omega), h87, if_neg (by omega), sA _ (by omega), sA _ (by omega), sA _ (by omega), sA _ (by omega), g1 y]
        exact c4 k (by omega)
      · subst y
        rw [h87, if_pos (by omega), h87, if_pos (by omega), h87, if_pos (by omega), h87, if_pos (by omega), g2 rfl, show 4 * k - 4 * k = 0 by omega, show 4 * k + 1 - 4 * k = 1 by omega, show 4 * k + 2 - 4 * k = 2 by omega, show 4 * k + 3 - 4 * k = 3 by omega, e88]
        exact hN
      · rw [h87, if_neg (by omega), h87, if_neg (by omega), h87, if_neg (by omega), h87, if_neg (by omega), sB _ (by omega) (by omega), sB _ (by omega) (by omega), sB _ (by omega) (by omega), sB _ (by omega) (by omega), g3 y, show 4 * k - 4 = 4 * (k - 1) by omega, show 4 * k + 1 - 4 = 4 * (k - 1) + 1 by omega, show 4 * k + 2 - 4 = 4 * (k - 1) + 2 by omega, show 4 * k + 3 - 4 = 4 * (k - 1) + 3 by omega]
        exact c4 (k - 1) (by omega)
    · simp at hk
      rw [sI_ne hk, sI_J, (f2 66 (by simp)).1, (f2 66 (by simp)).2, (sF 66 (by simp)).1, (sF 66 (by simp)).2]
      exact ⟨rfl, rfl⟩
  by_cases c : q < L.length
  · rw [if_pos (nI_lt c (by omega))]
    obtain ⟨r, er, hr⟩ := against_z hC0 hN (k := q) c
    have cz := cmp_z hr
    rw [er, bnd_s, ← li0]
    have hnl := hq3 c
    by_cases d : r = 0
    · rw [if_pos d]
      have ep := cz.2.1.mp d
      refine ⟨H, L, rfl, hC0, fun x => ⟨fun h => Or.inl h, fun h => ?_⟩, by omega, Fr.rf, FrK.rf⟩
      rcases h with h | h
      · exact h
      · rw [h, ep]; exact List.getElem_mem _
    · rw [if_neg d]
      have lt2 : ltp p L[q] := by
        rcases ltp_tri p L[q] with y | y | y
        · exact y
        · exact absurd (cz.2.1.mpr y) d
        · exact absurd y hnl
      refine room (fun k hk hkq => ?_)
      rcases (show k = q ∨ q < k by omega) with y | y
      · subst y; exact lt2
      · exact ltp_tr lt2 (sorted_get c3 c hk y)
  · rw [if_neg (nI_nlt (by omega) (by omega))]
    exact room (fun k hk h => by omega)
