/-! a chosen number goes into the rows -/
theorem settle_loop {G : Hp} {N v : Nat} {tm un : Int} (hv : v < 3) (hN : N ≤ 12) (h4 : G.1 44 4 = nI N) (hA : ∀ i, i < N → -3 ≤ rF G 44 i v ∧ rF G 44 i v ≤ 3) : ∃ e, iter (fun s : Int32 × Hp => s_X8_settle_l76 42 (nI v) (i64 tm) (i64 un) s.1 s.2) FUEL ((0 : Int32), G) = some e ∧ Fr [45, 46] G e ∧ (∀ j, j < N → ∀ w, w < 3 → rF e 44 j w = if w = v then 0 else rF G 44 j w) ∧ ∀ j, j < N → e.2 46 j = i64 ((G.2 46 j).toInt * tm - rF G 44 j v * un) := by
  obtain ⟨e, he, hp⟩ := iter_fuel (f := fun s : Int32 × Hp => s_X8_settle_l76 42 (nI v) (i64 tm) (i64 un) s.1 s.2)
    (fun z => ∃ (i : Nat) (H : Hp), z = (nI i, H) ∧ i ≤ N ∧ Fr [45, 46] G H ∧ (∀ j, j < N → ∀ w, w < 3 → rF H 44 j w = if j < i ∧ w = v then 0 else rF G 44 j w) ∧ ∀ j, j < N → H.2 46 j = if j < i then i64 ((G.2 46 j).toInt * tm - rF G 44 j v * un) else G.2 46 j)
    (fun z => N - z.1.toNatClampNeg)
    (fun e => Fr [45, 46] G e ∧ (∀ j, j < N → ∀ w, w < 3 → rF e 44 j w = if w = v then 0 else rF G 44 j w) ∧ ∀ j, j < N → e.2 46 j = i64 ((G.2 46 j).toInt * tm - rF G 44 j v * un)) (by
    rintro z ⟨i, H, rfl, hi, hF, hr, hd⟩
    dsimp only
    unfold s_X8_settle_l76
    simp only [show (42 + 2 : Nat) = 44 from rfl, show (44 + 2 : Nat) = 46 from rfl, show (44 + 1 : Nat) = 45 from rfl]
    have h4' : H.1 44 4 = nI N := by rw [(hF 44 (by simp)).1]; exact h4
    rw [h4']
    by_cases q : i < N
    · have ri := hr i q v hv
      rw [if_neg (by omega)] at ri
      have di := hd i q
      rw [if_neg (by omega)] at di
      have bi := hA i q
      have ev : H.2 46 i * i64 tm - (i32 (rF H 44 i v)).toInt64 * i64 un = i64 ((G.2 46 i).toInt * tm - rF G 44 i v * un) := by
        rw [tl64, i32_z (by omega) (by omega), ri, di, ← i64_sub, ← i64_mul, ← i64_mul, i64_of]
      rw [if_pos (nI_lt q (by omega)), ldJ_n (by omega) (by omega), entry_z h4' hN q hv, bnd_s, stJ_n (by omega) (by omega), ev, ix3, stI_n (by omega) (by omega), lt_red, nI_1]
      refine Or.inl ⟨_, rfl, ⟨i + 1, _, rfl, by omega, hF.tr ((Fr.sJ (by simp)).tr (Fr.sI (by simp))), fun j hj w hw => ?_, fun j hj => ?_⟩, by rw [nI_clamp (by omega), nI_clamp (by omega)]; omega⟩
      · unfold rF
        show ((sI _ 45 (3 * i + v) 0).1 45 (3 * j + w)).toInt = if j < i + 1 ∧ w = v then 0 else (G.1 45 (3 * j + w)).toInt
        by_cases y : j = i ∧ w = v
        · rw [y.1, y.2, sI_same, if_pos ⟨by omega, rfl⟩]; decide
        · rw [sI_ne (by omega), sJ_I]
          have := hr j hj w hw
          unfold rF at this
          show (H.1 45 (3 * j + w)).toInt = _
          have t2 : (H.1 45 (3 * j + w)).toInt = if j < i ∧ w = v then 0 else (G.1 45 (3 * j + w)).toInt := this
          rw [t2]
          by_cases y2 : j < i ∧ w = v
          · rw [if_pos y2, if_pos ⟨by omega, y2.2⟩]
          · rw [if_neg y2, if_neg (fun y3 => by
              by_cases y4 : j = i
              · exact y ⟨y4, y3.2⟩
              · exact y2 ⟨by omega, y3.2⟩)]
      · rw [sI_J]
        by_cases y : j = i
        · rw [y, sJ_same, if_pos (by omega)]
        · rw [sJ_ne y, hd j hj]
          by_cases y2 : j < i
          · rw [if_pos y2, if_pos (by omega)]
          · rw [if_neg y2, if_neg (by omega)]
    · rw [if_neg (nI_nlt (by omega) (by omega))]
      have : i = N := by omega
      subst this
      refine Or.inr ⟨_, rfl, hF, fun j hj w hw => ?_, fun j hj => ?_⟩
      · rw [hr j hj w hw]
        by_cases y : w = v
        · rw [if_pos ⟨hj, y⟩, if_pos y]
        · rw [if_neg (fun z => y z.2), if_neg y]
      · rw [hd j hj, if_pos hj])
    (nI 0, G) ⟨0, G, rfl, by omega, Fr.rf, fun j hj w hw => by rw [if_neg (by omega)], fun j hj => by rw [if_neg (by omega)]⟩ (by dsimp only; rw [nI_clamp (by omega)]; omega)
  rw [li0]
  exact ⟨e, he, hp⟩
theorem settle_z {G : Hp} {N v : Nat} {Y : Sys} {c D P Q CB QB PB D' : Int} {X : Nat → Rat} (hv : v < 3) (hR : Rst G N Y v c X D) (hD0 : 0 ≤ D) (h53 : G.2 53 v = i64 P) (h54 : G.2 54 v = i64 Q) (hc : 0 < c ∧ c ≤ CB) (hQ : 0 < Q ∧ Q ≤ QB) (hP : -PB ≤ P ∧ P ≤ PB) (hX : X v = frc P Q) (hD : D * QB + 3 * (PB * CB) ≤ D') (hD' : D' ≤ 4000000000000000000) (hCQ : CB * QB ≤ 4000000000000000000) (hQB : QB ≤ 100000000000000) (hCB : CB ≤ 100000000000000) : ∃ (G' : Hp) (c' : Int), s_X8_settle 42 (nI v) G = some G' ∧ Fr [42, 45, 46] G G' ∧ (0 < c' ∧ c' ≤ CB * QB) ∧ Rst G' N Y (v + 1) c' X D' := by
  obtain ⟨hW, hr, h2⟩ := hR
  have ec : (i64 c).toInt = c := i64_z (by omega) (by omega)
  have eQ : (i64 Q).toInt = Q := i64_z (by omega) (by omega)
  have hg : s_X9_commonDivisor (i64 c) (i64 Q) G = some (i64 ((Int.gcd c Q : Nat) : Int)) := by
    rw [cd_z (by rw [ec]; omega) (by rw [eQ]; omega), ec, eQ]
  have gp := gcd_pos (n := c) hQ.1
  have gl := gcd_le (n := c) hQ.1
  have d1 : ((Int.gcd c Q : Nat) : Int) ∣ c := Int.gcd_dvd_left _ _
  have d2 : ((Int.gcd c Q : Nat) : Int) ∣ Q := Int.gcd_dvd_right _ _
  generalize ((Int.gcd c Q : Nat) : Int) = g at *
  obtain ⟨u, hu⟩ := d1
  obtain ⟨tm, ht⟩ := d2
  have up : 0 < u := pos_l gp (by rw [Int.mul_comm, ← hu]; exact hc.1)
  have tp : 0 < tm := pos_l gp (by rw [Int.mul_comm, ← ht]; exact hQ.1)
  have ul : u ≤ c := by
    have := Int.mul_le_mul_of_nonneg_right (show 1 ≤ g by omega) (Int.le_of_lt up)
    rw [← hu, Int.one_mul] at this; exact this
  have tl : tm ≤ Q := by
    have := Int.mul_le_mul_of_nonneg_right (show 1 ≤ g by omega) (Int.le_of_lt tp)
    rw [← ht, Int.one_mul] at this; exact this
  have ctm : c * tm = u * Q := by rw [hu, ht]; grind
  have cq : c * tm ≤ CB * QB := by
    have a := Int.mul_le_mul_of_nonneg_right hc.2 (Int.le_of_lt tp)
    have b := Int.mul_le_mul_of_nonneg_left (show tm ≤ QB by omega) (show 0 ≤ CB by omega)
    omega
  have cp := Int.mul_pos hc.1 tp
  have eg : (i64 g).toInt = g := i64_z (by omega) (by omega)
  have g0 : ¬ i64 g = 0 := fun z => by
    have := eql_z.mp z
    rw [eg, show (0 : Int64).toInt = 0 from by decide] at this; omega
  have Q0 : ¬ i64 Q = 0 := fun z => by
    have := eql_z.mp z
    rw [eQ, show (0 : Int64).toInt = 0 from by decide] at this; omega
  have gpos : (0 : Int64) < i64 g := ltl_z.mpr (by rw [eg, show (0 : Int64).toInt = 0 from by decide]; exact gp)
  have Qpos : (0 : Int64) < i64 Q := ltl_z.mpr (by rw [eQ, show (0 : Int64).toInt = 0 from by decide]; exact hQ.1)
  have q1 : i64 Q / i64 g = i64 tm := by
    rw [← i64_of (i64 Q / i64 g), div_exact eQ eg gp ⟨tm, ht⟩ (by omega), ht, Int.mul_ediv_cancel_left _ (by omega)]
  have ecq : (i64 (c * tm)).toInt = c * tm := i64_z (by omega) (by omega)
  have q2 : i64 (c * tm) / i64 Q = i64 u := by
    rw [← i64_of (i64 (c * tm) / i64 Q), div_exact ecq eQ hQ.1 ⟨u, by rw [ctm, Int.mul_comm]⟩ (by omega), ctm, Int.mul_ediv_cancel _ (by omega)]
  have pu := mulb (A := PB) (B := CB) (a := P) (b := u) hP.1 hP.2 (by omega) (by omega)
  generalize gG : sJ G 42 2 (i64 (c * tm)) = G1
  have F1 : Fr [42] G G1 := by rw [← gG]; exact Fr.sJ (by simp)
  have e1 : G1.2 42 2 = i64 (c * tm) := by rw [← gG, sJ_same]
  have rG : ∀ i w, rF G1 44 i w = rF G 44 i w := fun i w => by
    unfold rF
    show (G1.1 45 _).toInt = (G.1 45 _).toInt
    rw [(F1 45 (by simp)).1]
  have av : ∀ i, i < N → rF G 44 i v = Y.1 i v := fun i hi => by
    rw [(hr i hi).1 v hv, if_neg (by omega)]
  have bA : ∀ i, i < N → -3 ≤ rF G 44 i v ∧ rF G 44 i v ≤ 3 := fun i hi => hW.2.2.1 i hi v hv
  obtain ⟨e, he, eF, er, ed⟩ := settle_loop (G := G1) (N := N) (v := v) (tm := tm) (un := P * u) hv hW.2.1 (by rw [(F1 44 (by simp)).1]; exact hW.1) (fun i hi => by rw [rG]; exact bA i hi)
  have F2 : Fr [42, 45, 46] G e := (F1.wid (by simp)).tr (eF.wid (by simp))
  have val : ∀ i, i < N → (e.2 46 i).toInt = (G.2 46 i).toInt * tm - rF G 44 i v * (P * u) ∧ -D' ≤ (e.2 46 i).toInt ∧ (e.2 46 i).toInt ≤ D' := fun i hi => by
    have b := (hW.2.2.2 i hi).2.2.2
    have b1 : -D ≤ (G.2 46 i).toInt := b.1
    have b2 : (G.2 46 i).toInt ≤ D := b.2
    have a := bA i hi
    have m1 := mulb (A := D) (B := QB) (a := (G.2 46 i).toInt) (b := tm) b1 b2 (by omega) (by omega)
    have m2 := mulb (A := 3) (B := PB * CB) (a := rF G 44 i v) (b := P * u) a.1 a.2 pu.1 pu.2
    have : (e.2 46 i).toInt = (G.2 46 i).toInt * tm - rF G 44 i v * (P * u) := by
      rw [ed i hi, rG, (F1 46 (by simp)).2]
      exact i64_z (by omega) (by omega)
    rw [this]
    exact ⟨rfl, by omega, by omega⟩
  refine ⟨e, c * tm, ?_, F2, ⟨cp, cq⟩, ⟨?_, hW.2.1, fun i hi w hw => ?_, fun i hi => ?_⟩, fun i hi => ⟨fun w hw => ?_, ?_, ?_, ?_⟩, ?_⟩
  · unfold s_X8_settle nzJ
    simp only [show (42 + 12 : Nat) = 54 from rfl, show (42 + 11 : Nat) = 53 from rfl]
    rw [ldJ_n (by omega) (by omega), h54, h2, hg, bnd_s, if_pos gpos, ldJ_n (by omega) (by omega), h54, if_pos Qpos, ldJ_n (by omega) (by omega), h54, if_neg g0, lt_red, q1, lt_red, i64_mul, gG, ldJ_n (by omega) (by omega), (F1 53 (by simp)).2, h53, ldJ_n (by omega) (by omega), (F1 54 (by simp)).2, h54, if_neg Q0, lt_red, e1, q2, i64_mul, he, bnd_s]
  · rw [(F2 44 (by simp)).1]; exact hW.1
  · have := hW.2.2.1 i hi w hw
    rw [er i hi w hw]
    by_cases y : w = v
    · rw [if_pos y]; omega
    · rw [if_neg y, rG]; exact this
  · obtain ⟨w1, w2, w3, -⟩ := hW.2.2.2 i hi
    refine ⟨?_, ?_, ?_, (val i hi).2.1, (val i hi).2.2⟩
    · show e.1 47 i = 0 ∨ e.1 47 i = 1
      rw [(F2 47 (by simp)).1]; exact w1
    · show e.1 48 i = 0 ∨ e.1 48 i = 1
      rw [(F2 48 (by simp)).1]; exact w2
    · show e.1 47 i = 1 → e.1 48 i = 0
      rw [(F2 47 (by simp)).1, (F2 48 (by simp)).1]; exact w3
  · rw [er i hi w hw]
    by_cases y : w = v
    · rw [if_pos y, if_pos (by omega)]
    · rw [if_neg y, rG, (hr i hi).1 w hw]
      by_cases y2 : w < v
      · rw [if_pos y2, if_pos (by omega)]
      · rw [if_neg y2, if_neg (by omega)]
  · rw [(val i hi).1, av i hi]
    have o := (hr i hi).2.1
    have qx : (Q : Rat) * X v = (P : Rat) := by rw [hX]; exact frc_m hQ.1
    have cu : (c : Rat) * (tm : Rat) = (u : Rat) * (Q : Rat) := by exact_mod_cast ctm
    push_cast
    rw [o]
    show (c : Rat) * ((Y.2.1 i : Rat) - prt (Y.1 i) X v) * (tm : Rat) - (Y.1 i v : Rat) * ((P : Rat) * (u : Rat)) = (c : Rat) * (tm : Rat) * ((Y.2.1 i : Rat) - (prt (Y.1 i) X v + (Y.1 i v : Rat) * X v))
    rw [← qx, cu]
    have : (c : Rat) * ((Y.2.1 i : Rat) - prt (Y.1 i) X v) * (tm : Rat) = ((c : Rat) * (tm : Rat)) * ((Y.2.1 i : Rat) - prt (Y.1 i) X v) := by grind
    rw [this, cu]; grind
  · rw [(F2 47 (by simp)).1]; exact (hr i hi).2.2.1
  · rw [(F2 48 (by simp)).1]; exact (hr i hi).2.2.2
  · rw [(eF 42 (by simp)).2]; exact e1
