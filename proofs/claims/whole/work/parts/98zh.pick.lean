/-! the class's choice between two limits -/
theorem limI_frc {G : Hp} {L : Nat} {p q : Int} (hq : 0 < q) : LimI G L (frc p q) ↔ (G.1 L 0 = 1 → (G.2 L 2).toInt * p < (G.2 L 1).toInt * q ∨ ((G.2 L 2).toInt * p = (G.2 L 1).toInt * q ∧ decide (G.1 L 3 = 1) = false)) := by
  unfold LimI
  have := ups_frc (d := (G.2 L 2).toInt) (e := (G.2 L 1).toInt) (c := 1) (p := p) (o := decide (G.1 L 3 = 1)) hq
  rw [show ((1 : Int) : Rat) * frc p q = frc p q by push_cast; grind, Int.one_mul] at this
  rw [this]
def Rz (G : Hp) (L : Nat) : Prop := G.1 L 0 = 1 → 0 < (G.2 L 1).toInt ∨ ((G.2 L 1).toInt = 0 ∧ G.1 L 3 = 0)
theorem rz_0 {G : Hp} {L : Nat} {B T : Int} (hL : LimV G L B T) : Rz G L ↔ LimI G L 0 := by
  have := limI_frc (G := G) (L := L) (p := 0) (q := 1) (by omega)
  rw [frc_0] at this
  rw [this]
  unfold Rz
  rw [Int.mul_zero, Int.mul_one]
  have k : decide (G.1 L 3 = 1) = false ↔ G.1 L 3 = 0 := dec_of hL.2.2.2
  rw [k]
  constructor
  · intro h e
    rcases h e with w | ⟨w, w2⟩
    · exact Or.inl w
    · exact Or.inr ⟨w.symm, w2⟩
  · intro h e
    rcases h e with w | ⟨w, w2⟩
    · exact Or.inl w
    · exact Or.inr ⟨w.symm, w2⟩
theorem reach_y {G : Hp} {L : Nat} (h : Rz G L) {B T : Int} (hL : LimV G L B T) : s_X8_reachesZero L G = some 1 := by
  have z0 : (0 : Int64).toInt = 0 := by decide
  unfold s_X8_reachesZero
  rcases hL.1 with e | e
  · rw [if_pos e]
  · rw [if_neg (by rw [e]; decide)]
    rcases h e with w | ⟨w, w2⟩
    · rw [if_pos (ltl_z.mpr (by rw [z0]; exact w))]
    · rw [if_neg (fun q => by have := ltl_z.mp q; rw [z0] at this; omega), if_pos (eql_z.mpr (by rw [z0]; exact w)), if_pos w2]
theorem reach_n {G : Hp} {L : Nat} (h : ¬ Rz G L) {B T : Int} (hL : LimV G L B T) : s_X8_reachesZero L G = some 0 ∧ G.1 L 0 = 1 ∧ ((G.2 L 1).toInt < 0 ∨ ((G.2 L 1).toInt = 0 ∧ G.1 L 3 = 1)) := by
  have z0 : (0 : Int64).toInt = 0 := by decide
  unfold s_X8_reachesZero
  rcases hL.1 with e | e
  · exact absurd (fun q => by rw [e] at q; cases q) h
  · rw [if_neg (by rw [e]; decide)]
    have h1 : ¬ 0 < (G.2 L 1).toInt := fun q => h (fun _ => Or.inl q)
    rw [if_neg (fun q => h1 (by have := ltl_z.mp q; rw [z0] at this; exact this))]
    by_cases c : (G.2 L 1).toInt = 0
    · have o : G.1 L 3 = 1 := by
        rcases hL.2.2.2 with w | w
        · exact absurd (fun _ => Or.inr ⟨c, w⟩) h
        · exact w
      rw [if_pos (eql_z.mpr (by rw [z0]; exact c)), if_neg (by rw [o]; decide)]
      exact ⟨rfl, e, Or.inr ⟨c, o⟩⟩
    · rw [if_neg (fun q => c (by have := eql_z.mp q; rw [z0] at this; exact this))]
      exact ⟨rfl, e, Or.inl (by omega)⟩
theorem bI_of {x : Int32} (h : x = 0 ∨ x = 1) : x = bI (decide (x = 1)) := by rcases h with h | h <;> subst h <;> rfl
/-- the descent finds the simplest fraction of a set of numbers above 0 -/
theorem descend_z {G : Hp} {L1 L2 : Nat} {S : Rat → Prop} {P Q : Int} (hC : Cvx S) (h1 : LimV G L1 612220032 2000000000000) (h2 : LimV G L2 612220032 2000000000000) (hS : ∀ p q : Int, 0 < q → (S (frc p q) ↔ LimI G L1 (frc (-p) q) ∧ LimI G L2 (frc p q))) (he : G.1 L1 0 = 1) (hneg : (G.2 L1 1).toInt < 0 ∨ ((G.2 L1 1).toInt = 0 ∧ G.1 L1 3 = 1)) (hs : Simp S P Q) (hP : -4000000000 ≤ P ∧ P ≤ 4000000000) (hQ : Q ≤ 22674816) : s_X8_descend 42 L1 L2 G = some (sJ (sJ G 42 5 (i64 P)) 42 6 (i64 Q)) := by
  obtain ⟨a0, ⟨a1, a2⟩, ⟨a3, a4⟩, a5⟩ := h1
  obtain ⟨b0, ⟨b1, b2⟩, ⟨b3, b4⟩, b5⟩ := h2
  have hin : ∀ p q : Int, 0 < q → (S (frc p q) ↔ inJ (-(G.2 L1 1).toInt) (G.2 L1 2).toInt (decide (G.1 L1 3 = 1)) (decide (G.1 L2 0 = 1)) (G.2 L2 1).toInt (G.2 L2 2).toInt (decide (G.1 L2 3 = 1)) p q) := fun p q hq => by
    rw [hS p q hq, limI_frc hq, limI_frc hq]
    unfold inJ
    rw [Int.neg_mul, Int.mul_neg, Int.mul_comm (G.2 L1 2).toInt p, Int.mul_comm (G.2 L2 2).toInt p]
    constructor
    · rintro ⟨u, w⟩
      refine ⟨?_, fun z => w (of_decide_eq_true z)⟩
      rcases u he with y | ⟨y, z⟩
      · left; omega
      · right; exact ⟨by omega, z⟩
    · rintro ⟨u, w⟩
      refine ⟨fun _ => ?_, fun z => w (decide_eq_true z)⟩
      rcases u with y | ⟨y, z⟩
      · left; omega
      · right; exact ⟨by omega, z⟩
  have h0 : -(G.2 L1 1).toInt = 0 → decide (G.1 L1 3 = 1) = true := fun z => by
    rcases hneg with w | ⟨-, w⟩
    · omega
    · exact decide_eq_true w
  have posn : ∀ p q : Int, 0 < q → inJ (-(G.2 L1 1).toInt) (G.2 L1 2).toInt (decide (G.1 L1 3 = 1)) (decide (G.1 L2 0 = 1)) (G.2 L2 1).toInt (G.2 L2 2).toInt (decide (G.1 L2 3 = 1)) p q → 0 < p := fun p q hq hj => by
    have := inJ_pos (k := 0) a1 hq (by rcases hneg with w | ⟨w, -⟩ <;> omega) (fun z => h0 (by omega)) hj
    omega
  have hJ := (hin P Q hs.1).mp hs.2.1
  have hP0 := posn P Q hs.1 hJ
  have pq : 2 * (P * Q) < 2 ^ 58 := by
    have := mulb (A := 4000000000) (B := 22674816) (a := P) (b := Q) (by omega) (by omega) (by have := hs.1; omega) (by omega)
    have e : (2 : Int) ^ 58 = 288230376151711744 := by decide
    omega
  obtain ⟨P', Q', hst, hit⟩ := desc_loop (c0 := 42) (c1 := L1) (c2 := L2) (A := 4000000000) (B := 612220032) (T := 2000000000000) (by omega) (by omega) (by omega) (by omega) G 58 FUEL 0 (-(G.2 L1 1).toInt) (G.2 L1 2).toInt (G.2 L2 1).toInt (G.2 L2 2).toInt 1 0 0 1 P Q 2 (decide (G.1 L1 3 = 1)) (decide (G.1 L2 0 = 1)) (decide (G.1 L2 3 = 1)) (by rcases hneg with w | ⟨w, -⟩ <;> omega) ⟨a1, a2⟩ h0 ⟨b3, b4⟩ ⟨by omega, b2⟩ (fun _ => b1) ⟨hP0, by omega⟩ ⟨hs.1, by omega⟩ hJ (Or.inr rfl) pq (fun z => by omega) (by omega) (by have := FUEL_ge; omega)
  have hsi : Simp S P' Q' := by
    have pp := posn P' Q' hst.1 hst.2.1
    refine ⟨hst.1, (hin P' Q' hst.1).mpr hst.2.1, fun p' q' w1 w2 => (hst.2.2 p' q' w1 ((hin p' q' w1).mp w2)).1, fun p' w2 => ?_⟩
    have := (hst.2.2 p' Q' hst.1 ((hin p' Q' hst.1).mp w2)).2
    omega
  obtain ⟨eP, eQ⟩ := simp_one hC hs hsi
  subst eP eQ
  unfold s_X8_descend
  simp only [lt_red]
  have k1 : -(G.2 L1 1) = i64 (-(G.2 L1 1).toInt) := by rw [← i64_neg, i64_of]
  have k2 : G.2 L1 2 = i64 (G.2 L1 2).toInt := (i64_of _).symm
  have k3 : G.1 L1 3 = bI (decide (G.1 L1 3 = 1)) := bI_of a5
  have k4 : G.2 L2 1 = i64 (G.2 L2 1).toInt := (i64_of _).symm
  have k5 : G.2 L2 2 = i64 (G.2 L2 2).toInt := (i64_of _).symm
  have k6 : G.1 L2 3 = bI (decide (G.1 L2 3 = 1)) := bI_of b5
  have k7 : G.1 L2 0 = bI (decide (G.1 L2 0 = 1)) := bI_of b0
  have hit2 : iter (dlf 42 L1 L2) FUEL (-(G.2 L1 1), G.2 L1 2, G.1 L1 3, G.2 L2 1, G.2 L2 2, G.1 L2 3, G.1 L2 0, (1 : Int64), (0 : Int64), (0 : Int64), (1 : Int64), (0 : Int32), G) = some (.inr (sJ (sJ G 42 5 (i64 P)) 42 6 (i64 Q))) := by
    rw [show (1 : Int) * P + 0 * Q = P by omega, show (0 : Int) * P + 1 * Q = Q by omega] at hit
    rw [← hit, ← k1, ← k2, ← k3, ← k4, ← k5, ← k6, ← k7]
    rfl
  have hit3 := hit2
  unfold dlf at hit3
  rw [hit3, bnd_s]
  rfl
/-- the number that the class picks is the simplest -/
theorem pick_c {G : Hp} {N v : Nat} {Y : Sys} {X : Nat → Rat} {P Q : Int} (h1 : LimV G 51 612220032 2000000000000) (h2 : LimV G 52 612220032 2000000000000) (t1 : ∀ t, LimI G 51 t ↔ ∃ p, HdY N Y p ∧ (∀ w, w < v → p w = X w) ∧ t ≤ ((1 : Int) : Rat) * p v) (t2 : ∀ t, LimI G 52 t ↔ ∃ p, HdY N Y p ∧ (∀ w, w < v → p w = X w) ∧ t ≤ ((-1 : Int) : Rat) * p v) (hs : Simp (SS (HdY N Y) v X) P Q) (hP : -4000000000 ≤ P ∧ P ≤ 4000000000) (hQ : Q ≤ 22674816) (e5 : G.2 42 5 = 0) (e6 : G.2 42 6 = 1) : ∃ G', s_X8_pick 42 G = some G' ∧ Fr [42] G G' ∧ G'.2 42 5 = i64 P ∧ G'.2 42 6 = i64 Q ∧ (∀ k, k ≠ 5 → k ≠ 6 → G'.2 42 k = G.2 42 k) ∧ G'.1 = G.1 := by
  have hC := ss_cvx N Y v X
  have hSS : ∀ t, SS (HdY N Y) v X t ↔ LimI G 51 t ∧ LimI G 52 (-t) := fun t => by
    rw [t1, t2]
    constructor
    · rintro ⟨p, p1, p2, p3⟩
      exact ⟨⟨p, p1, p2, by push_cast; grind⟩, ⟨p, p1, p2, by push_cast; grind⟩⟩
    · rintro ⟨⟨p, p1, p2, p3⟩, ⟨q, q1, q2, q3⟩⟩
      push_cast at p3 q3
      exact ss_mid ⟨p, p1, p2, by grind⟩ ⟨q, q1, q2, by grind⟩
  have st : ∀ (H : Hp) (x y : Int64), Fr [42] H (sJ (sJ H 42 5 x) 42 6 y) ∧ (sJ (sJ H 42 5 x) 42 6 y).2 42 5 = x ∧ (sJ (sJ H 42 5 x) 42 6 y).2 42 6 = y ∧ (∀ k, k ≠ 5 → k ≠ 6 → (sJ (sJ H 42 5 x) 42 6 y).2 42 k = H.2 42 k) ∧ (sJ (sJ H 42 5 x) 42 6 y).1 = H.1 := fun H x y => ⟨(Fr.sJ (by simp)).tr (Fr.sJ (by simp)), by rw [sJ_ne (by omega), sJ_same], by rw [sJ_same], fun k a b => by rw [sJ_ne b, sJ_ne a], rfl⟩
  unfold s_X8_pick s_X8_pick_b21
  simp only [show (42 + 9 : Nat) = 51 from rfl, show (42 + 10 : Nat) = 52 from rfl]
  by_cases z1 : Rz G 51
  · rw [reach_y z1 h1, bnd_s, if_neg (by decide)]
    by_cases z2 : Rz G 52
    · rw [reach_y z2 h2, bnd_s, if_neg (by decide)]
      have s0 : SS (HdY N Y) v X 0 := (hSS 0).mpr ⟨(rz_0 h1).mp z1, by rw [show -(0 : Rat) = 0 by decide]; exact (rz_0 h2).mp z2⟩
      have s01 : Simp (SS (HdY N Y) v X) 0 1 := ⟨by omega, by rw [frc_0]; exact s0, fun p' q' a b => by omega, fun p' a => by simp⟩
      obtain ⟨eP, eQ⟩ := simp_one hC hs s01
      subst eP eQ
      exact ⟨G, rfl, Fr.rf, by rw [e5]; decide, by rw [e6]; decide, fun _ _ _ => rfl, rfl⟩
    · obtain ⟨r1, r2, r3⟩ := reach_n z2 h2
      have D := descend_z (L1 := 52) (L2 := 51) hC h2 h1 (fun p q hq => by rw [hSS, frc_neg]; exact And.comm) r2 r3 hs hP hQ
      rw [r1, bnd_s, if_pos rfl, bnd_s, if_neg (by decide), D, bnd_s]
      obtain ⟨u1, u2, u3, u4, u5⟩ := st G (i64 P) (i64 Q)
      exact ⟨_, rfl, u1, u2, u3, u4, u5⟩
  · obtain ⟨r1, r2, r3⟩ := reach_n z1 h1
    have hC' : Cvx (fun t => SS (HdY N Y) v X (-t)) := fun a b c ha hc l1 l2 => hC (-c) (-b) (-a) hc ha (by grind) (by grind)
    have hs' : Simp (fun t => SS (HdY N Y) v X (-t)) (-P) Q := by
      refine simp_neg (S := fun t => SS (HdY N Y) v X (-t)) (simp_congr (fun t => ?_) hs)
      rw [Rat.neg_neg]
    have D := descend_z (L1 := 51) (L2 := 52) (S := fun t => SS (HdY N Y) v X (-t)) hC' h1 h2 (fun p q hq => by
      show SS (HdY N Y) v X (-(frc p q)) ↔ _
      rw [hSS, frc_neg, Rat.neg_neg]) r2 r3 hs' (by omega) hQ
    rw [r1, bnd_s, if_pos rfl, bnd_s, if_pos rfl, D, bnd_s, lt_red]
    obtain ⟨u1, u2, u3, u4, u5⟩ := st G (i64 (-P)) (i64 Q)
    generalize sJ (sJ G 42 5 (i64 (-P))) 42 6 (i64 Q) = H at *
    refine ⟨_, rfl, u1.tr (Fr.sJ (by simp)), ?_, ?_, fun k a b => ?_, u5⟩
    · rw [sJ_same, u2, i64_neg, Int.neg_neg]
    · rw [sJ_ne (by omega)]; exact u3
    · rw [sJ_ne a]; exact u4 k a b
