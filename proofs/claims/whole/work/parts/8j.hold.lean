/-! Rows.hold: whether a point satisfies the rows -/
def rz (s : Nat) (u w : Int) : Bool := if s = 0 then decide (u ≤ w) else if s = 1 then decide (u < w) else if s = 2 then decide (w ≤ u) else if s = 3 then decide (w < u) else decide (u = w)
def clo (cl : Bool) (s : Nat) : Nat := if cl = true then (if s = 1 then 0 else if s = 3 then 2 else s) else s
def ldot (F : Nat → Int) (a b c : Int) : Int := F 0 * a + F 1 * b + F 2 * c
def hBl (N : Nat) (F : Nat → Nat → Int) (s : Nat → Nat) (d : Nat → Int) (cl : Bool) (a b c t : Int) : Bool := (List.range N).all (fun i => rz (clo cl (s i)) (ldot (F i) a b c) (d i * t))
theorem all_split {N : Nat} {P : Nat → Bool} : (List.range N).all P = true ↔ ∀ i, i < N → P i = true := by
  rw [List.all_eq_true]
  exact ⟨fun h i hi => h i (List.mem_range.mpr hi), fun h i hi => h i (List.mem_range.mp hi)⟩
theorem holdrow {st eq : Int32} {s : Nat} {cl : Bool} {L W : Int64} {u w : Int} {β : Type} (hs : s ≤ 4) (e1 : st = if s = 1 ∨ s = 3 then 1 else 0) (e2 : eq = if s = 4 then 1 else 0) (hL : L.toInt = tz s * u) (hW : W.toInt = tz s * w) (x y : Option β) : (if W < L then x else (if L < W then (if eq = 0 then (if L = W then (if st = 0 then y else (if bI cl = 0 then x else y)) else y) else x) else (if L = W then (if st = 0 then y else (if bI cl = 0 then x else y)) else y))) = if rz (clo cl s) u w = true then y else x := by
  have d1 : W < L ↔ tz s * w < tz s * u := by rw [ltl_z, hL, hW]
  have d2 : L < W ↔ tz s * u < tz s * w := by rw [ltl_z, hL, hW]
  have d3 : L = W ↔ tz s * u = tz s * w := by rw [eql_z, hL, hW]
  simp only [d1, d2, d3]
  subst e1 e2
  rcases (show s = 0 ∨ s = 1 ∨ s = 2 ∨ s = 3 ∨ s = 4 by omega) with rfl | rfl | rfl | rfl | rfl <;> cases cl <;> simp [tz, rz, clo, bI] <;> (repeat' split) <;> first | rfl | omega
theorem lin3l {x0 x1 x2 : Int32} {a b c : Int64} {F : Nat → Int} {z : Int} (hz : z = 1 ∨ z = -1) (h0 : x0.toInt = z * F 0) (h1 : x1.toInt = z * F 1) (h2 : x2.toInt = z * F 2) (hF : ∀ v, v < 3 → -3 ≤ F v ∧ F v ≤ 3) {B : Int} (hB : B ≤ 100000000000000000) (ha : -B ≤ a.toInt ∧ a.toInt ≤ B) (hb : -B ≤ b.toInt ∧ b.toInt ≤ B) (hc : -B ≤ c.toInt ∧ c.toInt ≤ B) : ((x0.toInt64 * a + x1.toInt64 * b) + x2.toInt64 * c).toInt = z * ldot F a.toInt b.toInt c.toInt := by
  have f0 := hF 0 (by omega)
  have f1 := hF 1 (by omega)
  have f2 := hF 2 (by omega)
  have g0 : -3 ≤ z * F 0 ∧ z * F 0 ≤ 3 := by rcases hz with e | e <;> rw [e] <;> omega
  have g1 : -3 ≤ z * F 1 ∧ z * F 1 ≤ 3 := by rcases hz with e | e <;> rw [e] <;> omega
  have g2 : -3 ≤ z * F 2 ∧ z * F 2 ≤ 3 := by rcases hz with e | e <;> rw [e] <;> omega
  have m0 := mulb (A := 3) (B := B) g0.1 g0.2 ha.1 ha.2
  have m1 := mulb (A := 3) (B := B) g1.1 g1.2 hb.1 hb.2
  have m2 := mulb (A := 3) (B := B) g2.1 g2.2 hc.1 hc.2
  have e0 : (x0.toInt64 * a).toInt = z * F 0 * a.toInt := by rw [mull_z (by rw [tl_z, h0]; omega) (by rw [tl_z, h0]; omega), tl_z, h0]
  have e1 : (x1.toInt64 * b).toInt = z * F 1 * b.toInt := by rw [mull_z (by rw [tl_z, h1]; omega) (by rw [tl_z, h1]; omega), tl_z, h1]
  have e2 : (x2.toInt64 * c).toInt = z * F 2 * c.toInt := by rw [mull_z (by rw [tl_z, h2]; omega) (by rw [tl_z, h2]; omega), tl_z, h2]
  have e3 : (x0.toInt64 * a + x1.toInt64 * b).toInt = z * F 0 * a.toInt + z * F 1 * b.toInt := by rw [addl_z (by rw [e0, e1]; omega) (by rw [e0, e1]; omega), e0, e1]
  rw [addl_z (by rw [e3, e2]; omega) (by rw [e3, e2]; omega), e3, e2]
  unfold ldot
  grind
theorem hold_z {h : Hp} {R nv N : Nat} {F : Nat → Nat → Int} {s : Nat → Nat} {d : Nat → Int} (h4 : h.1 R 4 = nI N) (h12 : N ≤ 12) (hr : ∀ i, i < N → RowAt h R i (F i) (s i) (d i)) (hw : RW nv N F s d) {a b c t : Int64} {B : Int} (hB : B ≤ 100000000000000000) (ha : -B ≤ a.toInt ∧ a.toInt ≤ B) (hb : -B ≤ b.toInt ∧ b.toInt ≤ B) (hc : -B ≤ c.toInt ∧ c.toInt ≤ B) (ht : -B ≤ t.toInt ∧ t.toInt ≤ B) (cl : Bool) : s_X7_hold R a b c t (bI cl) h = some (bI (hBl N F s d cl a.toInt b.toInt c.toInt t.toInt)) := by
  unfold s_X7_hold
  obtain ⟨e, he, hp⟩ := iter_fuel (f := fun z : Int32 => s_X7_hold_l3 R a b c t (bI cl) z h)
    (fun z => ∃ j, z = nI j ∧ j ≤ N ∧ ∀ i, i < j → rz (clo cl (s i)) (ldot (F i) a.toInt b.toInt c.toInt) (d i * t.toInt) = true)
    (fun z => 20 - z.toNatClampNeg)
    (fun e => (e = .inl () ∧ hBl N F s d cl a.toInt b.toInt c.toInt t.toInt = true) ∨ (e = .inr 0 ∧ hBl N F s d cl a.toInt b.toInt c.toInt t.toInt = false)) (by
    rintro z ⟨j, rfl, hj, hz⟩
    unfold s_X7_hold_l3 s_X7_hold_b95 s_X7_hold_b120
    rw [h4]
    by_cases q : j < N
    · obtain ⟨r1, r2, r3, r4⟩ := hr j q
      obtain ⟨w1, w2, w3, w4, w5⟩ := hw j q
      rw [if_pos (nI_lt q (by omega)), lt_red, ix30, ldI_n (by omega) (by omega), show nI (3 * j) + 1 = nI (3 * j + 1) from nI_1 _, ldI_n (by omega) (by omega), show nI (3 * j) + 2 = nI (3 * j + 2) from by rw [li2, nI_add], ldI_n (by omega) (by omega), lt_red, ldJ_n (by omega) (by omega), lt_red, ldI_n (by omega) (by omega), ldI_n (by omega) (by omega), lt_red, nI_1]
      have eL := lin3l (x0 := h.1 (R + 1) (3 * j)) (x1 := h.1 (R + 1) (3 * j + 1)) (x2 := h.1 (R + 1) (3 * j + 2)) (a := a) (b := b) (c := c) (tz_pm (s j)) (r1 0 (by omega)) (r1 1 (by omega)) (r1 2 (by omega)) w3 hB ha hb hc
      have mt := mulb (A := 50) (B := B) (tz_bd (s := s j) w2).1 (tz_bd (s := s j) w2).2 ht.1 ht.2
      have eW : (h.2 (R + 2) j * t).toInt = tz (s j) * (d j * t.toInt) := by
        rw [mull_z (by rw [r2]; omega) (by rw [r2]; omega), r2, Int.mul_assoc]
      have hrow := holdrow (cl := cl) w1 r3 r4 eL eW (some (.inr (.inr (0 : Int32))) : Option (Int32 ⊕ (Unit ⊕ Int32))) (some (.inl (nI (j + 1))))
      rw [hrow]
      cases hb : rz (clo cl (s j)) (ldot (F j) a.toInt b.toInt c.toInt) (d j * t.toInt)
      · rw [if_neg (by decide)]
        refine Or.inr ⟨_, rfl, Or.inr ⟨rfl, ?_⟩⟩
        cases hh : hBl N F s d cl a.toInt b.toInt c.toInt t.toInt
        · rfl
        · have := all_split.mp hh j q
          rw [hb] at this; cases this
      · rw [if_pos rfl]
        refine Or.inl ⟨_, rfl, ⟨j + 1, rfl, by omega, fun i hi => ?_⟩, by rw [nI_clamp (by omega), nI_clamp (by omega)]; omega⟩
        rcases Nat.lt_or_ge i j with y | y
        · exact hz i y
        · rw [show i = j by omega]; exact hb
    · rw [if_neg (nI_nlt (by omega) (by omega))]
      exact Or.inr ⟨_, rfl, Or.inl ⟨rfl, all_split.mpr (fun i hi => hz i (by omega))⟩⟩)
    (nI 0) ⟨0, rfl, by omega, fun i hi => by omega⟩ (by omega)
  rw [li0, he, bnd_s]
  rcases hp with ⟨rfl, q⟩ | ⟨rfl, q⟩
  · rw [q]; rfl
  · rw [q]; rfl
