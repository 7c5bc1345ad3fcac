/-! Limit.lowerTo, Circuit.factorOf, Limit.seek -/
def limO (h : Hp) (L : Nat) : End := if h.1 L 0 = 1 then some (((h.2 L 1).toInt : Rat) / ((h.2 L 2).toInt : Rat), decide (h.1 L 3 = 1)) else none
def LimW (h : Hp) (L : Nat) (B : Int) : Prop := (h.1 L 0 = 0 ∨ h.1 L 0 = 1) ∧ (0 < (h.2 L 2).toInt ∧ (h.2 L 2).toInt ≤ 162) ∧ (-B ≤ (h.2 L 1).toInt ∧ (h.2 L 1).toInt ≤ B) ∧ (h.1 L 3 = 0 ∨ h.1 L 3 = 1)
theorem iv_lim {h : Hp} {L : Nat} {B : Int} (hL : LimW h L B) (t : Rat) : IV none (limO h L) t ↔ (h.1 L 0 = 1 → UpS (h.2 L 2).toInt (h.2 L 1).toInt (decide (h.1 L 3 = 1)) t) := by
  unfold IV limO
  rcases hL.1 with q | q
  · rw [q]; simp
  · rw [if_pos q]
    constructor
    · rintro ⟨-, z⟩ -
      exact (ups_upB hL.2.1.1).mpr (z _ rfl)
    · intro z
      refine ⟨fun x hx => (by cases hx), fun x hx => ?_⟩
      cases hx
      exact (ups_upB hL.2.1.1).mp (z q)
theorem lower_put {h : Hp} {L : Nat} {B : Int} {x y : Int64} (hx : -B ≤ x.toInt ∧ x.toInt ≤ B) (hy : 0 < y.toInt ∧ y.toInt ≤ 162) (o : Bool) : ∃ h', s_X4_lowerTo_b68 L x y (bI o) h = some h' ∧ Fr [L] h h' ∧ FrK L [0, 1, 2, 3] h h' ∧ LimW h' L B ∧ h'.1 L 0 = 1 ∧ ∀ t, IV none (limO h' L) t ↔ UpS y.toInt x.toInt o t := by
  unfold s_X4_lowerTo_b68
  rw [ckB_b, lt_red, lt_red, lt_red, lt_red]
  generalize gH : sJ (sJ (sI (sI h L 3 (bI o)) L 0 1) L 1 x) L 2 y = H
  have p0 : H.1 L 0 = 1 := by rw [← gH, sJ_I, sJ_I, sI_same]
  have p1 : H.2 L 1 = x := by rw [← gH, sJ_ne (by omega), sJ_same]
  have p2 : H.2 L 2 = y := by rw [← gH, sJ_same]
  have p3 : H.1 L 3 = bI o := by rw [← gH, sJ_I, sJ_I, sI_ne (by omega), sI_same]
  have hL : LimW H L B := ⟨Or.inr p0, by rw [p2]; exact hy, by rw [p1]; exact hx, by rw [p3]; exact bI_01 o⟩
  refine ⟨H, rfl, by rw [← gH]; exact ((Fr.sI (by simp)).tr (Fr.sI (by simp))).tr ((Fr.sJ (by simp)).tr (Fr.sJ (by simp))), fun k hk => ?_, hL, p0, fun t => ?_⟩
  · simp at hk
    obtain ⟨k0, k1, k2, k3⟩ := hk
    rw [← gH]
    exact ⟨by rw [sJ_I, sJ_I, sI_ne k0, sI_ne k3], by rw [sJ_ne k2, sJ_ne k1]; rfl⟩
  · rw [iv_lim hL, p0, p1, p2, p3]
    have : decide (bI o = 1) = o := by cases o <;> rfl
    rw [this]
    exact ⟨fun z => z rfl, fun z _ => z⟩
theorem lowerTo_z {h : Hp} {L : Nat} {B : Int} (hB : B ≤ 10000000000000000) (hL : LimW h L B) {x y : Int64} (hx : -B ≤ x.toInt ∧ x.toInt ≤ B) (hy : 0 < y.toInt ∧ y.toInt ≤ 162) (s : Bool) : ∃ h', s_X4_lowerTo L x y (bI s) h = some h' ∧ Fr [L] h h' ∧ FrK L [0, 1, 2, 3] h h' ∧ LimW h' L B ∧ h'.1 L 0 = 1 ∧ ∀ t, IV none (limO h' L) t ↔ IV none (limO h L) t ∧ UpS y.toInt x.toInt s t := by
  have z0 : (0 : Int64).toInt = 0 := by decide
  obtain ⟨l0, l1, l2, l3⟩ := hL
  have m1 := mulb (A := B) (B := 162) (a := x.toInt) (b := (h.2 L 2).toInt) (by omega) (by omega) (by omega) (by omega)
  have m2 := mulb (A := B) (B := 162) (a := (h.2 L 1).toInt) (b := y.toInt) (by omega) (by omega) (by omega) (by omega)
  have e1 : (x * h.2 L 2).toInt = x.toInt * (h.2 L 2).toInt := mull_z (by omega) (by omega)
  have e2 : (h.2 L 1 * y).toInt = (h.2 L 1).toInt * y.toInt := mull_z (by omega) (by omega)
  have e3 : (x * h.2 L 2 - h.2 L 1 * y).toInt = x.toInt * (h.2 L 2).toInt - (h.2 L 1).toInt * y.toInt := by rw [subl_z (by rw [e1, e2]; omega) (by rw [e1, e2]; omega), e1, e2]
  have hb : ∀ o : Bool, s_X4_lowerTo_b67 L x y h = s_X4_lowerTo_b68 L x y (bI false) h ∧ s_X4_lowerTo_b63 L x y h = s_X4_lowerTo_b68 L x y (bI true) h := fun o => ⟨rfl, rfl⟩
  unfold s_X4_lowerTo
  rw [lt_red, if_pos (show (0 : Int64) < y from ltl_z.mpr (by rw [z0]; exact hy.1))]
  generalize hv : x * h.2 L 2 - h.2 L 1 * y = v at *
  unfold s_X4_lowerTo_b36
  rcases l0 with q | q
  · rw [if_pos q, if_pos q]
    have fin : ∃ h', s_X4_lowerTo_b68 L x y (bI s) h = some h' ∧ Fr [L] h h' ∧ FrK L [0, 1, 2, 3] h h' ∧ LimW h' L B ∧ h'.1 L 0 = 1 ∧ ∀ t, IV none (limO h' L) t ↔ IV none (limO h L) t ∧ UpS y.toInt x.toInt s t := by
      obtain ⟨h', a1, a2, a3, a4, a5, a6⟩ := lower_put (h := h) (L := L) hx hy s
      refine ⟨h', a1, a2, a3, a4, a5, fun t => ?_⟩
      rw [a6, iv_lim ⟨Or.inl q, l1, l2, l3⟩, q]
      exact ⟨fun z => ⟨fun w => absurd w (by decide), z⟩, fun z => z.2⟩
    cases s
    · rw [if_pos (by decide)]; exact fin
    · rw [if_neg (by decide)]; exact fin
  · have hW : LimW h L B := ⟨Or.inr q, l1, l2, l3⟩
    have old : ∀ t, IV none (limO h L) t ↔ UpS (h.2 L 2).toInt (h.2 L 1).toInt (decide (h.1 L 3 = 1)) t := fun t => by
      rw [iv_lim hW, q]; exact ⟨fun z => z rfl, fun z _ => z⟩
    rw [if_neg (show ¬ h.1 L 0 = 0 from by rw [q]; decide)]
    by_cases c : 0 < v.toInt
    · rw [if_pos (show (0 : Int64) < v from ltl_z.mpr (by rw [z0]; exact c))]
      refine ⟨h, rfl, Fr.rf, FrK.rf, hW, q, fun t => ?_⟩
      rw [old]
      exact ⟨fun z => ⟨z, ups_lt l1.1 hy.1 (by omega) z⟩, fun z => z.1⟩
    · rw [if_neg (show ¬ (0 : Int64) < v from fun z => c (by have := ltl_z.mp z; rw [z0] at this; exact this)), if_neg (show ¬ h.1 L 0 = 0 from by rw [q]; decide)]
      by_cases d : v.toInt = 0
      · rw [if_pos (show v = (0 : Int64) from eql_z.mpr (by rw [z0]; exact d))]
        have fin : ∃ h', s_X4_lowerTo_b68 L x y (bI (s || decide (h.1 L 3 = 1))) h = some h' ∧ Fr [L] h h' ∧ FrK L [0, 1, 2, 3] h h' ∧ LimW h' L B ∧ h'.1 L 0 = 1 ∧ ∀ t, IV none (limO h' L) t ↔ IV none (limO h L) t ∧ UpS y.toInt x.toInt s t := by
          obtain ⟨h', a1, a2, a3, a4, a5, a6⟩ := lower_put (h := h) (L := L) hx hy (s || decide (h.1 L 3 = 1))
          refine ⟨h', a1, a2, a3, a4, a5, fun t => ?_⟩
          rw [a6, old, ups_eq (a := (h.2 L 2).toInt) (d := (h.2 L 1).toInt) (s := decide (h.1 L 3 = 1)) l1.1 hy.1 (by omega)]
          exact ⟨fun z => ⟨z.2, z.1⟩, fun z => ⟨z.2, z.1⟩⟩
        cases s
        · rw [if_pos (by decide)]
          rcases l3 with o | o
          · rw [if_pos o]; rw [o] at fin; exact fin
          · rw [if_neg (by rw [o]; decide)]; rw [o] at fin; exact fin
        · rw [if_neg (by decide)]; exact fin
      · rw [if_neg (show ¬ v = (0 : Int64) from fun z => d (by have := eql_z.mp z; rw [z0] at this; exact this))]
        have fin : ∃ h', s_X4_lowerTo_b68 L x y (bI s) h = some h' ∧ Fr [L] h h' ∧ FrK L [0, 1, 2, 3] h h' ∧ LimW h' L B ∧ h'.1 L 0 = 1 ∧ ∀ t, IV none (limO h' L) t ↔ IV none (limO h L) t ∧ UpS y.toInt x.toInt s t := by
          obtain ⟨h', a1, a2, a3, a4, a5, a6⟩ := lower_put (h := h) (L := L) hx hy s
          refine ⟨h', a1, a2, a3, a4, a5, fun t => ?_⟩
          rw [a6, old]
          exact ⟨fun z => ⟨ups_lt hy.1 l1.1 (by omega) z, z⟩, fun z => z.2⟩
        cases s
        · rw [if_pos (by decide)]; exact fin
        · rw [if_neg (by decide)]; exact fin
theorem lowerTo_no {h : Hp} {L : Nat} {x y : Int64} (hy : y.toInt ≤ 0) (s : Int32) : s_X4_lowerTo L x y s h = some h := by
  have z0 : (0 : Int64).toInt = 0 := by decide
  unfold s_X4_lowerTo
  rw [lt_red, if_neg (show ¬ (0 : Int64) < y from fun q => by have := ltl_z.mp q; rw [z0] at this; omega)]
theorem factorOf_z {h : Hp} {C r : Nat} {T : List Nat} {g : Nat → Int} (h3 : h.1 C 3 = nI T.length) (hl : T.length ≤ 4) (hT : ∀ i ∈ T, i < 12) (hr : r < 12) (hm : ∀ p, p < T.length → h.1 (C + 6) p = nI (T.getD p 0) ∧ h.1 (C + 7) p = i32 (g (T.getD p 0))) : s_X0_factorOf C (nI r) h = some (if r ∈ T then i32 (g r) else 0) := by
  have hgd : ∀ p, (hp : p < T.length) → T.getD p 0 = T[p] := fun p hp => by rw [List.getD_eq_getElem?_getD, List.getElem?_eq_getElem hp]; rfl
  unfold s_X0_factorOf
  obtain ⟨e, he, hp⟩ := iter_fuel (f := fun z : Int32 => s_X0_factorOf_l2 C (nI r) z h)
    (fun z => ∃ j, z = nI j ∧ j ≤ T.length ∧ ∀ p, p < j → T.getD p 0 ≠ r)
    (fun z => 20 - z.toNatClampNeg)
    (fun e => (e = .inl () ∧ r ∉ T) ∨ (e = .inr (i32 (g r)) ∧ r ∈ T)) (by
    rintro z ⟨j, rfl, hj, hz⟩
    unfold s_X0_factorOf_l2
    rw [h3]
    by_cases q : j < T.length
    · obtain ⟨m1, m2⟩ := hm j q
      have ht := hT _ (List.getElem_mem q)
      rw [if_pos (nI_lt q (by omega)), ldI_n (by omega) (by omega), m1, ldI_n (by omega) (by omega), m2]
      by_cases c : T.getD j 0 = r
      · rw [if_pos (by rw [c])]
        refine Or.inr ⟨_, rfl, Or.inr ⟨by rw [c], ?_⟩⟩
        rw [← c, hgd j q]; exact List.getElem_mem q
      · rw [if_neg (by rw [nI_eq (by rw [hgd j q]; omega) (by omega)]; exact c), lt_red, nI_1]
        refine Or.inl ⟨_, rfl, ⟨j + 1, rfl, by omega, fun p hp => ?_⟩, by rw [nI_clamp (by omega), nI_clamp (by omega)]; omega⟩
        rcases Nat.lt_or_ge p j with y | y
        · exact hz p y
        · rw [show p = j by omega]; exact c
    · rw [if_neg (nI_nlt (by omega) (by omega))]
      refine Or.inr ⟨_, rfl, Or.inl ⟨rfl, fun hmem => ?_⟩⟩
      obtain ⟨p, hp, e⟩ := List.getElem_of_mem hmem
      exact hz p (by omega) (by rw [hgd p hp]; exact e))
    (nI 0) ⟨0, rfl, by omega, fun p hp => by omega⟩ (by omega)
  rw [li0, he, bnd_s]
  rcases hp with ⟨rfl, q⟩ | ⟨rfl, q⟩
  · rw [if_neg q]; rfl
  · rw [if_pos q]; rfl
