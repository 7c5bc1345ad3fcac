/-! the model's sample, put together -/
def tri {α : Type} (a b c : α) : Nat → α := fun v => if v = 0 then a else if v = 1 then b else c
def SBd (P Q : Nat → Int) : Prop := (0 < Q 0 ∧ Q 0 ≤ 324 ∧ -22248 ≤ P 0 ∧ P 0 ≤ 22248) ∧ (0 < Q 1 ∧ Q 1 ≤ 11664 ∧ -995346 ≤ P 1 ∧ P 1 ≤ 995346) ∧ (0 < Q 2 ∧ Q 2 ≤ 22674816 ∧ -4000000000 ≤ P 2 ∧ P 2 ≤ 4000000000)
abbrev smc : List Nat := 85 :: 86 :: scr 66
theorem mHd_iff {h : Hp} {nq m : Nat} (hM : MB h 66 nq m) (p : Nat → Rat) : mHold h 66 (aI m) m p ↔ HdF m (mS h 66) (fF h) (mD h 66) p := by
  have hm := hM.2.1
  rw [mHold_iff hM]
  constructor
  · intro z k hk; exact z k hk (aI_set hm.1 hk)
  · intro z k hk _; exact z k hk
theorem stage1_z {β : Type} {h : Hp} {nq m : Nat} (hM : MB h 66 nq m) {P0 Q0 : Int} (e85 : h.2 85 0 = i64 P0) (hP : -22248 ≤ P0 ∧ P0 ≤ 22248) (hQ : 0 < Q0 ∧ Q0 ≤ 324) (hS : ∃ p, HdF m (mS h 66) (fF h) (mD h 66) p ∧ p 0 = frc P0 Q0) (K : Hp → Option β) : ∃ (p1 q1 : Int) (h3 : Hp), ((iter (fun s : Int32 × Hp => s_X10_setSample_l41 66 (i64 Q0) s.1 s.2) FUEL ((0 : Int32), sI h 66 9 (0 : Int32))).bind fun e14 => (s_X10_sees 66 e14).bind fun y15 => (s_X10_setSimplest 66 (1 : Int32) (i64 Q0) y15).bind K) = K h3 ∧ Fr smc h h3 ∧ FrK 66 scrK h h3 ∧ (∀ v, v ≠ 1 → h3.2 85 v = h.2 85 v ∧ h3.2 86 v = h.2 86 v) ∧ (h3.2 85 1 = i64 p1 ∧ h3.2 86 1 = i64 q1) ∧ (0 < q1 ∧ q1 ≤ 11664 ∧ -995346 ≤ p1 ∧ p1 ≤ 995346) ∧ ∀ x : Nat → Rat, x 0 = frc P0 Q0 → Simp (SS (HdF m (mS h 66) (fF h) (mD h 66)) 1 x) p1 q1 := by
  obtain ⟨e, he, f1, k1, l1⟩ := loop1_z hM e85 hP hQ
  have hs : ∀ k, k < m → mS h 66 k ≤ 4 := fun k hk => (hM.2.2.2 k hk).2.1.2
  have hbL := rwl_bd (m := m) (s := mS h 66) (F := fun k => F1r (mK h 66 (mG h 66 k))) (d := fun k => Q0 * mD h 66 k - mK h 66 (mG h 66 k) 0 * P0) (A := 3) (D := 82944) (fun k hk v hv => by
    have a2 := (hM.2.2.2 k hk).1.2
    rcases (show v = 0 ∨ v = 1 ∨ v = 2 by omega) with rfl | rfl | rfl
    · exact hM.2.2.1 _ 1 a2 (by omega)
    · exact hM.2.2.1 _ 2 a2 (by omega)
    · show (-3 : Int) ≤ 0 ∧ (0 : Int) ≤ 3; omega) (fun k hk => by
    have a2 := (hM.2.2.2 k hk).1.2
    have a5 := (hM.2.2.2 k hk).2.2
    have k0 := hM.2.2.1 _ 0 a2 (by omega)
    have m1 := mulb (A := 324) (B := 50) (a := Q0) (b := mD h 66 k) (by omega) (by omega) (by omega) (by omega)
    have m2 := mulb (A := 3) (B := 22248) (a := mK h 66 (mG h 66 k) 0) (b := P0) (by omega) (by omega) (by omega) (by omega)
    show -82944 ≤ Q0 * mD h 66 k - mK h 66 (mG h 66 k) 0 * P0 ∧ Q0 * mD h 66 k - mK h 66 (mG h 66 k) 0 * P0 ≤ 82944
    omega)
  have hz := rwl_zero (m := m) (s := mS h 66) (F := fun k => F1r (mK h 66 (mG h 66 k))) (d := fun k => Q0 * mD h 66 k - mK h 66 (mG h 66 k) 0 * P0) (v := 2) (fun k => rfl)
  obtain ⟨h2, e2, f2, k2, w2, t2, n2⟩ := sees_1 (D := 82944) (by omega) l1 hbL hz
  have hS1 : ∀ x : Nat → Rat, x 0 = frc P0 Q0 → ∀ t, inI h2 66 ((Q0 : Rat) * t) ↔ SS (HdF m (mS h 66) (fF h) (mD h 66)) 1 x t := fun x hx t => in_1 hs hQ.1 t2 hx t
  have hne : ∃ t, inI h2 66 t := by
    obtain ⟨p, hp, h0⟩ := hS
    exact ⟨(Q0 : Rat) * p 1, (hS1 (fun _ => frc P0 Q0) rfl (p 1)).mpr ⟨p, hp, fun w hw => by rw [show w = 0 by omega]; exact h0, rfl⟩⟩
  obtain ⟨p1, q1, s0, s1, s2, s3⟩ := stage_z (H := h2) (c := Q0) (v := 1) (by omega) w2 (n2.mpr hne) hne hQ.1 (by omega) (by omega) (by omega) (by omega) (hS1 (fun _ => frc P0 Q0) rfl)
  have F12 : Fr (scr 66) h h2 := (f1.wid (by simp [scr])).tr (f2.wid (by simp [scr]))
  have K12 : FrK 66 scrK h h2 := (k1.wid (by simp [scrK])).tr (k2.wid (by simp [scrK]))
  refine ⟨p1, q1, sJ (sJ h2 85 1 (i64 p1)) 86 1 (i64 q1), ?_, (F12.wid (by simp [smc])).tr ((Fr.sJ (by simp [smc])).tr (Fr.sJ (by simp [smc]))), K12.tr (fun k _ => ⟨rfl, by rw [sJ_cell (by omega), sJ_cell (by omega)]⟩), fun v hv => ⟨?_, ?_⟩, ⟨?_, ?_⟩, ⟨s1.1, by omega, by omega, by omega⟩, fun x hx => ?_⟩
  · have s0' : s_X10_setSimplest 66 (1 : Int32) (i64 Q0) h2 = some (sJ (sJ h2 85 1 (i64 p1)) 86 1 (i64 q1)) := by rw [li1]; exact s0
    rw [he, bnd_s, e2, bnd_s, s0', bnd_s]
  · rw [sJ_cell (by omega), sJ_ne hv, (F12 85 (by simp [scr])).2]
  · rw [sJ_ne hv, sJ_cell (by omega), (F12 86 (by simp [scr])).2]
  · rw [sJ_cell (by omega), sJ_same]
  · rw [sJ_same]
  · exact simp_congr (fun t => SS.cg (fun w hw => by rw [show w = 0 by omega, hx]) t) s1
theorem stage2_z {β : Type} {h : Hp} {nq m : Nat} (hM : MB h 66 nq m) {P0 Q0 P1 Q1 : Int} (e85 : h.2 85 0 = i64 P0) (e851 : h.2 85 1 = i64 P1) (hP : -22248 ≤ P0 ∧ P0 ≤ 22248) (hQ : 0 < Q0 ∧ Q0 ≤ 324) (hP1 : -995346 ≤ P1 ∧ P1 ≤ 995346) (hQ1 : 0 < Q1 ∧ Q1 ≤ 11664) (hS : ∃ p, HdF m (mS h 66) (fF h) (mD h 66) p ∧ p 0 = frc P0 Q0 ∧ p 1 = frc P1 Q1) (K : Hp → Option β) : ∃ (p2 q2 : Int) (h3 : Hp), ((iter (fun s : Int32 × Hp => s_X10_setSample_l152 66 (i64 Q0) (i64 Q1) s.1 s.2) FUEL ((0 : Int32), sI h 66 9 (0 : Int32))).bind fun e30 => (s_X10_sees 66 e30).bind fun y31 => (s_X10_setSimplest 66 (2 : Int32) (i64 Q0 * i64 Q1) y31).bind K) = K h3 ∧ Fr smc h h3 ∧ FrK 66 scrK h h3 ∧ (∀ v, v ≠ 2 → h3.2 85 v = h.2 85 v ∧ h3.2 86 v = h.2 86 v) ∧ (h3.2 85 2 = i64 p2 ∧ h3.2 86 2 = i64 q2) ∧ (0 < q2 ∧ q2 ≤ 22674816 ∧ -4000000000 ≤ p2 ∧ p2 ≤ 4000000000) ∧ ∀ x : Nat → Rat, x 0 = frc P0 Q0 → x 1 = frc P1 Q1 → Simp (SS (HdF m (mS h 66) (fF h) (mD h 66)) 2 x) p2 q2 := by
  obtain ⟨e, he, f1, k1, l1⟩ := loop2_z hM e85 e851 hP hQ hP1 hQ1
  have hs : ∀ k, k < m → mS h 66 k ≤ 4 := fun k hk => (hM.2.2.2 k hk).2.1.2
  have n1 := mulb (A := 324) (B := 11664) (a := Q0) (b := Q1) (by omega) (by omega) (by omega) (by omega)
  have n0 := Int.mul_pos hQ.1 hQ1.1
  have hbL := rwl_bd (m := m) (s := mS h 66) (F := fun k => F2r (mK h 66 (mG h 66 k))) (d := fun k => Q0 * Q1 * mD h 66 k - mK h 66 (mG h 66 k) 0 * P0 * Q1 - mK h 66 (mG h 66 k) 1 * P1 * Q0) (A := 3) (D := 1934935128) (fun k hk v hv => by
    have a2 := (hM.2.2.2 k hk).1.2
    rcases (show v = 0 ∨ v = 1 ∨ v = 2 by omega) with rfl | rfl | rfl
    · exact hM.2.2.1 _ 2 a2 (by omega)
    · show (-3 : Int) ≤ 0 ∧ (0 : Int) ≤ 3; omega
    · show (-3 : Int) ≤ 0 ∧ (0 : Int) ≤ 3; omega) (fun k hk => by
    have a2 := (hM.2.2.2 k hk).1.2
    have a5 := (hM.2.2.2 k hk).2.2
    have k0 := hM.2.2.1 _ 0 a2 (by omega)
    have k1 := hM.2.2.1 _ 1 a2 (by omega)
    have m1 := mulb (A := 324 * 11664) (B := 50) (a := Q0 * Q1) (b := mD h 66 k) (by omega) (by omega) (by omega) (by omega)
    have n2 := mulb (A := 3) (B := 22248) (a := mK h 66 (mG h 66 k) 0) (b := P0) (by omega) (by omega) (by omega) (by omega)
    have m2 := mulb (A := 3 * 22248) (B := 11664) (a := mK h 66 (mG h 66 k) 0 * P0) (b := Q1) (by omega) (by omega) (by omega) (by omega)
    have n3 := mulb (A := 3) (B := 995346) (a := mK h 66 (mG h 66 k) 1) (b := P1) (by omega) (by omega) (by omega) (by omega)
    have m3 := mulb (A := 3 * 995346) (B := 324) (a := mK h 66 (mG h 66 k) 1 * P1) (b := Q0) (by omega) (by omega) (by omega) (by omega)
    show -1934935128 ≤ Q0 * Q1 * mD h 66 k - mK h 66 (mG h 66 k) 0 * P0 * Q1 - mK h 66 (mG h 66 k) 1 * P1 * Q0 ∧ Q0 * Q1 * mD h 66 k - mK h 66 (mG h 66 k) 0 * P0 * Q1 - mK h 66 (mG h 66 k) 1 * P1 * Q0 ≤ 1934935128
    omega)
  have hz := rwl_zero (m := m) (s := mS h 66) (F := fun k => F2r (mK h 66 (mG h 66 k))) (d := fun k => Q0 * Q1 * mD h 66 k - mK h 66 (mG h 66 k) 0 * P0 * Q1 - mK h 66 (mG h 66 k) 1 * P1 * Q0) (v := 2) (fun k => rfl)
  have hz1 := rwl_zero (m := m) (s := mS h 66) (F := fun k => F2r (mK h 66 (mG h 66 k))) (d := fun k => Q0 * Q1 * mD h 66 k - mK h 66 (mG h 66 k) 0 * P0 * Q1 - mK h 66 (mG h 66 k) 1 * P1 * Q0) (v := 1) (fun k => rfl)
  obtain ⟨h2, e2, f2, k2, w2, t2, n2⟩ := sees_2 (D := 1934935128) (by omega) l1 hbL hz hz1
  have hS1 : ∀ x : Nat → Rat, x 0 = frc P0 Q0 → x 1 = frc P1 Q1 → ∀ t, inI h2 66 (((Q0 * Q1 : Int) : Rat) * t) ↔ SS (HdF m (mS h 66) (fF h) (mD h 66)) 2 x t := fun x hx hx1 t => in_2 hs hQ.1 hQ1.1 t2 hx hx1 t
  have hne : ∃ t, inI h2 66 t := by
    obtain ⟨p, hp, h0, h1⟩ := hS
    refine ⟨((Q0 * Q1 : Int) : Rat) * p 2, (hS1 (tri (frc P0 Q0) (frc P1 Q1) 0) rfl rfl (p 2)).mpr ⟨p, hp, fun w hw => ?_, rfl⟩⟩
    rcases (show w = 0 ∨ w = 1 by omega) with rfl | rfl
    · exact h0
    · exact h1
  obtain ⟨p2, q2, s0, s1, s2, s3⟩ := stage_z (H := h2) (c := Q0 * Q1) (v := 2) (by omega) w2 (n2.mpr hne) hne n0 (by omega) (by omega) (by omega) (by omega) (hS1 (tri (frc P0 Q0) (frc P1 Q1) 0) rfl rfl)
  have F12 : Fr (scr 66) h h2 := (f1.wid (by simp [scr])).tr (f2.wid (by simp [scr]))
  have K12 : FrK 66 scrK h h2 := (k1.wid (by simp [scrK])).tr (k2.wid (by simp [scrK]))
  refine ⟨p2, q2, sJ (sJ h2 85 2 (i64 p2)) 86 2 (i64 q2), ?_, (F12.wid (by simp [smc])).tr ((Fr.sJ (by simp [smc])).tr (Fr.sJ (by simp [smc]))), K12.tr (fun k _ => ⟨rfl, by rw [sJ_cell (by omega), sJ_cell (by omega)]⟩), fun v hv => ⟨?_, ?_⟩, ⟨?_, ?_⟩, ⟨s1.1, by omega, by omega, by omega⟩, fun x hx hx1 => ?_⟩
  · have s0' : s_X10_setSimplest 66 (2 : Int32) (i64 Q0 * i64 Q1) h2 = some (sJ (sJ h2 85 2 (i64 p2)) 86 2 (i64 q2)) := by rw [li2, i64_mul]; exact s0
    rw [he, bnd_s, e2, bnd_s, s0', bnd_s]
  · rw [sJ_cell (by omega), sJ_ne hv, (F12 85 (by simp [scr])).2]
  · rw [sJ_ne hv, sJ_cell (by omega), (F12 86 (by simp [scr])).2]
  · rw [sJ_cell (by omega), sJ_same]
  · rw [sJ_same]
  · refine simp_congr (fun t => SS.cg (fun w hw => ?_) t) s1
    rcases (show w = 0 ∨ w = 1 by omega) with rfl | rfl
    · rw [hx]; rfl
    · rw [hx1]; rfl
theorem setSample_no {h : Hp} {nq m : Nat} (hM : MB h 66 nq m) (hno : ¬ ∃ p, HdF m (mS h 66) (fF h) (mD h 66) p) : ∃ h' : Hp, s_X10_setSample 66 h = some (0, h') ∧ Fr smc h h' ∧ FrK 66 scrK h h' := by
  obtain ⟨b, h1, c1, c2, c3, c4, c5, c6, c7⟩ := canBe_w hM (aI m)
  have b0 : b = false := by
    cases b
    · rfl
    · obtain ⟨p, hp⟩ := c4.mp rfl
      exact absurd ⟨p, (mHd_iff hM p).mp hp⟩ hno
  subst b0
  refine ⟨h1, ?_, c2.wid (by simp [smc]), c3⟩
  unfold s_X10_setSample
  rw [allB_z hM.1, bnd_s, c1, bnd_s, if_pos (show bI false = 0 from rfl)]
set_option maxHeartbeats 1000000 in
theorem setSample_z {h : Hp} {nq m nv : Nat} (hM : MB h 66 nq m) (e0 : h.1 66 0 = nI nv) (hn1 : 1 ≤ nv) (hn3 : nv ≤ 3) (hsat : ∃ p, HdF m (mS h 66) (fF h) (mD h 66) p) (hw : ∃ p q : Int, 0 < q ∧ q ≤ 324 ∧ SS (HdF m (mS h 66) (fF h) (mD h 66)) 0 (fun _ => 0) (frc p q)) : ∃ (P Q : Nat → Int) (h' : Hp), s_X10_setSample 66 h = some (1, h') ∧ Fr smc h h' ∧ FrK 66 scrK h h' ∧ Samp (HdF m (mS h 66) (fF h) (mD h 66)) nv P Q ∧ SBd P Q ∧ (∀ v, v < 3 → nv ≤ v → P v = 0 ∧ Q v = 1) ∧ ∀ v, v < nv → h'.2 85 v = i64 (P v) ∧ h'.2 86 v = i64 (Q v) := by
  obtain ⟨b, h1, c1, c2, c3, c4, c5, c6, c7⟩ := canBe_w hM (aI m)
  have b1 : b = true := by
    obtain ⟨p, hp⟩ := hsat
    exact c4.mpr ⟨p, (mHd_iff hM p).mpr hp⟩
  subst b1
  generalize gHd : HdF m (mS h 66) (fF h) (mD h 66) = Hd at *
  have hS0 : ∀ x : Nat → Rat, ∀ t, inI h1 66 (((1 : Int) : Rat) * t) ↔ SS Hd 0 x t := fun x t => by
    rw [show ((1 : Int) : Rat) * t = t by push_cast; grind, c7]
    constructor
    · rintro ⟨p, hp, ht⟩; exact ⟨p, by rw [← gHd]; exact (mHd_iff hM p).mp hp, fun w hw => by omega, ht⟩
    · rintro ⟨p, hp, -, ht⟩; exact ⟨p, (mHd_iff hM p).mpr (by rw [gHd]; exact hp), ht⟩
  have hne : ∃ t, inI h1 66 t := by
    obtain ⟨p, hp⟩ := hsat
    exact ⟨p 0, (c7 _).mpr ⟨p, (mHd_iff hM p).mpr (by rw [gHd]; exact hp), rfl⟩⟩
  obtain ⟨p0, q0, s0, s1, s2, s3⟩ := stage_z (H := h1) (c := 1) (v := 0) (by omega) c6 (c5.mp rfl) hne (by omega) (by omega) (by omega) (by omega) (by omega) (hS0 (fun _ => 0))
  have q324 : q0 ≤ 324 := by
    obtain ⟨p, q, w1, w2, w3⟩ := hw
    have := s1.2.2.1 p q w1 w3
    omega
  have s0' : s_X10_setSimplest 66 (0 : Int32) (1 : Int64) h1 = some (sJ (sJ h1 85 0 (i64 p0)) 86 0 (i64 q0)) := by
    rw [li0, show (1 : Int64) = i64 1 from by decide]; exact s0
  generalize gh2 : sJ (sJ h1 85 0 (i64 p0)) 86 0 (i64 q0) = h2 at *
  have F2 : Fr smc h h2 := (c2.wid (by simp [smc])).tr (by rw [← gh2]; exact (Fr.sJ (by simp [smc])).tr (Fr.sJ (by simp [smc])))
  have K2 : FrK 66 scrK h h2 := c3.tr (fun k _ => by rw [← gh2]; exact ⟨rfl, by rw [sJ_cell (by omega), sJ_cell (by omega)]⟩)
  have e85 : h2.2 85 0 = i64 p0 := by rw [← gh2, sJ_cell (by omega), sJ_same]
  have e86 : h2.2 86 0 = i64 q0 := by rw [← gh2, sJ_same]
  obtain ⟨hM2, g1, g2, g3, g4⟩ := hM.fr F2 K2 (by simp [scrK, iks]) (by simp [smc, scr]) (by simp [smc, scr])
  have en2 : h2.1 66 0 = nI nv := by rw [(K2 0 (by simp [scrK, iks])).1]; exact e0
  have gH2 : HdF m (mS h2 66) (fF h2) (mD h2 66) = Hd := by
    rw [← gHd]
    show HdF m (mS h2 66) (fun i => mK h2 66 (mG h2 66 i)) (mD h2 66) = HdF m (mS h 66) (fun i => mK h 66 (mG h 66 i)) (mD h 66)
    rw [g1, g2, g3, g4]
  have hP0 : -22248 ≤ p0 ∧ p0 ≤ 22248 := by omega
  have hQ0 : 0 < q0 ∧ q0 ≤ 324 := ⟨s1.1, q324⟩
  have S0 : ∀ x : Nat → Rat, Simp (SS Hd 0 x) p0 q0 := fun x => simp_congr (fun t => SS.cg (fun w hw => by omega) t) s1
  unfold s_X10_setSample
  rw [allB_z hM.1, bnd_s, c1, bnd_s, if_neg (show ¬ bI true = 0 from by decide)]
  dsimp only
  rw [s0', bnd_s, en2]
  rcases (show nv = 1 ∨ nv = 2 ∨ nv = 3 by omega) with rfl | rfl | rfl
  · rw [if_neg (by decide)]
    unfold s_X10_setSample_b122
    rw [en2, if_neg (by decide)]
    refine ⟨tri p0 0 0, tri q0 1 1, h2, rfl, F2, K2, fun v hv => ?_, ⟨⟨hQ0.1, hQ0.2, hP0.1, hP0.2⟩, by show (0 : Int) < 1 ∧ (1 : Int) ≤ 11664 ∧ (-995346 : Int) ≤ 0 ∧ (0 : Int) ≤ 995346; omega, by show (0 : Int) < 1 ∧ (1 : Int) ≤ 22674816 ∧ (-4000000000 : Int) ≤ 0 ∧ (0 : Int) ≤ 4000000000; omega⟩, fun v hv hn => ?_, fun v hv => ?_⟩
    · rw [show v = 0 by omega]; exact S0 _
    · rcases (show v = 1 ∨ v = 2 by omega) with rfl | rfl <;> exact ⟨rfl, rfl⟩
    · rw [show v = 0 by omega]; exact ⟨e85, e86⟩
  · obtain ⟨p1, q1, h3, t1, F3, K3, t2, ⟨t3, t4⟩, t5, t6⟩ := stage1_z hM2 e85 hP0 hQ0 (by
      obtain ⟨p, w1, -, w3⟩ := (S0 (fun _ => 0)).2.1
      exact ⟨p, by rw [gH2]; exact w1, w3⟩) (fun y => s_X10_setSample_b122 66 y)
    rw [gH2] at t6
    have ex : (sI h2 66 9 (0 : Int32)).2 (66 + 20) 0 = i64 q0 := e86
    rw [if_pos (by decide), lt_red, ldJ_z (j := 0) (by decide) (by omega), ex, t1]
    unfold s_X10_setSample_b122
    rw [(K3 0 (by simp [scrK, iks])).1, en2, if_neg (by decide)]
    refine ⟨tri p0 p1 0, tri q0 q1 1, h3, rfl, F2.tr F3, K2.tr K3, fun v hv => ?_, ⟨⟨hQ0.1, hQ0.2, hP0.1, hP0.2⟩, t5, by show (0 : Int) < 1 ∧ (1 : Int) ≤ 22674816 ∧ (-4000000000 : Int) ≤ 0 ∧ (0 : Int) ≤ 4000000000; omega⟩, fun v hv hn => ?_, fun v hv => ?_⟩
    · rcases (show v = 0 ∨ v = 1 by omega) with rfl | rfl
      · exact S0 _
      · exact t6 _ rfl
    · rw [show v = 2 by omega]; exact ⟨rfl, rfl⟩
    · rcases (show v = 0 ∨ v = 1 by omega) with rfl | rfl
      · rw [(t2 0 (by omega)).1, (t2 0 (by omega)).2]; exact ⟨e85, e86⟩
      · exact ⟨t3, t4⟩
  · obtain ⟨p1, q1, h3, t1, F3, K3, t2, ⟨t3, t4⟩, t5, t6⟩ := stage1_z hM2 e85 hP0 hQ0 (by
      obtain ⟨p, w1, -, w3⟩ := (S0 (fun _ => 0)).2.1
      exact ⟨p, by rw [gH2]; exact w1, w3⟩) (fun y => s_X10_setSample_b122 66 y)
    rw [gH2] at t6
    have ex : (sI h2 66 9 (0 : Int32)).2 (66 + 20) 0 = i64 q0 := e86
    rw [if_pos (by decide), lt_red, ldJ_z (j := 0) (by decide) (by omega), ex, t1]
    obtain ⟨hM3, r1, r2, r3, r4⟩ := hM2.fr F3 K3 (by simp [scrK, iks]) (by simp [smc, scr]) (by simp [smc, scr])
    have gH3 : HdF m (mS h3 66) (fF h3) (mD h3 66) = Hd := by
      rw [← gH2]
      show HdF m (mS h3 66) (fun i => mK h3 66 (mG h3 66 i)) (mD h3 66) = HdF m (mS h2 66) (fun i => mK h2 66 (mG h2 66 i)) (mD h2 66)
      rw [r1, r2, r3, r4]
    obtain ⟨p2, q2, h4, u1, F4, K4, u2, ⟨u3, u4⟩, u5, u6⟩ := stage2_z hM3 ((t2 0 (by omega)).1.trans e85) t3 hP0 hQ0 ⟨t5.2.2.1, t5.2.2.2⟩ ⟨t5.1, t5.2.1⟩ (by
      obtain ⟨p, w1, w2, w3⟩ := (t6 (fun _ => frc p0 q0) rfl).2.1
      exact ⟨p, by rw [gH3]; exact w1, w2 0 (by omega), w3⟩) (fun y => some ((1 : Int32), y))
    rw [gH3] at u6
    have ey : (sI h3 66 9 (0 : Int32)).2 (66 + 20) 0 = i64 q0 := (t2 0 (by omega)).2.trans e86
    have ez : (sI h3 66 9 (0 : Int32)).2 (66 + 20) 1 = i64 q1 := t4
    unfold s_X10_setSample_b122
    rw [(K3 0 (by simp [scrK, iks])).1, en2, if_pos (by decide), lt_red, ldJ_z (j := 0) (by decide) (by omega), ldJ_z (j := 1) (by decide) (by omega), ey, ez, u1]
    refine ⟨tri p0 p1 p2, tri q0 q1 q2, h4, rfl, F2.tr (F3.tr F4), K2.tr (K3.tr K4), fun v hv => ?_, ⟨⟨hQ0.1, hQ0.2, hP0.1, hP0.2⟩, t5, u5⟩, fun v hv hn => by omega, fun v hv => ?_⟩
    · rcases (show v = 0 ∨ v = 1 ∨ v = 2 by omega) with rfl | rfl | rfl
      · exact S0 _
      · exact t6 _ rfl
      · exact u6 _ rfl rfl
    · rcases (show v = 0 ∨ v = 1 ∨ v = 2 by omega) with rfl | rfl | rfl
      · rw [(u2 0 (by omega)).1, (u2 0 (by omega)).2, (t2 0 (by omega)).1, (t2 0 (by omega)).2]; exact ⟨e85, e86⟩
      · rw [(u2 1 (by omega)).1, (u2 1 (by omega)).2]; exact ⟨t3, t4⟩
      · exact ⟨u3, u4⟩
