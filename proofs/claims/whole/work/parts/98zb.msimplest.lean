/-! the model's search for the simplest fraction -/
theorem i64_eq {x y : Int} (hx : -4000000000000000000 ≤ x ∧ x ≤ 4000000000000000000) (hy : -4000000000000000000 ≤ y ∧ y ≤ 4000000000000000000) : i64 x = i64 y ↔ x = y := by
  constructor
  · intro h
    have := congrArg Int64.toInt h
    rw [i64_z (by omega) (by omega), i64_z (by omega) (by omega)] at this
    exact this
  · rintro rfl; rfl
theorem i64_lt {x y : Int} (hx : -4000000000000000000 ≤ x ∧ x ≤ 4000000000000000000) (hy : -4000000000000000000 ≤ y ∧ y ≤ 4000000000000000000) : i64 x < i64 y ↔ x < y := by
  rw [ltl_z, i64_z (by omega) (by omega), i64_z (by omega) (by omega)]
theorem ceil_bd {X d : Int} (hd : 0 < d) : X ≤ -((-X) / d) * d ∧ -((-X) / d) * d < X + d := by
  have a := Int.mul_ediv_add_emod (-X) d
  have b := Int.emod_nonneg (-X) (show d ≠ 0 by omega)
  have c := Int.emod_lt_of_pos (-X) hd
  rw [Int.neg_mul, Int.mul_comm]
  omega
theorem floor_bd {X d : Int} (hd : 0 < d) : X / d * d ≤ X ∧ X < X / d * d + d := by
  have a := Int.mul_ediv_add_emod X d
  have b := Int.emod_nonneg X (show d ≠ 0 by omega)
  have c := Int.emod_lt_of_pos X hd
  rw [Int.mul_comm]
  omega
theorem self_le_mul {a d : Int} (hd : 0 < d) : (0 ≤ a → a ≤ a * d) ∧ (a ≤ 0 → a * d ≤ a) := by
  constructor
  · intro h
    have := Int.mul_le_mul_of_nonneg_left (show 1 ≤ d by omega) h
    omega
  · intro h
    have := Int.mul_le_mul_of_nonneg_left (show 1 ≤ d by omega) (show 0 ≤ -a by omega)
    rw [Int.neg_mul, Int.neg_mul] at this
    omega
theorem plo_bd {X d : Int} {o : Bool} (hd : 0 < d) {M : Int} (hX : -M ≤ X ∧ X ≤ M) : -M - d ≤ plo X d o ∧ plo X d o ≤ M + d + 1 := by
  obtain ⟨a, b⟩ := ceil_bd (X := X) hd
  obtain ⟨c1, c2⟩ := self_le_mul (a := -((-X) / d)) hd
  have : -M - d ≤ -((-X) / d) ∧ -((-X) / d) ≤ M + d := by
    by_cases z : 0 ≤ -((-X) / d)
    · have := c1 z; omega
    · have := c2 (by omega); omega
  unfold plo
  split <;> omega
theorem phi_bd {X d : Int} {o : Bool} (hd : 0 < d) {M : Int} (hX : -M ≤ X ∧ X ≤ M) : -M - d - 1 ≤ phi X d o ∧ phi X d o ≤ M + d := by
  obtain ⟨a, b⟩ := floor_bd (X := X) hd
  obtain ⟨c1, c2⟩ := self_le_mul (a := X / d) hd
  have : -M - d ≤ X / d ∧ X / d ≤ M + d := by
    by_cases z : 0 ≤ X / d
    · have := c1 z; omega
    · have := c2 (by omega); omega
  unfold phi
  split <;> omega
/-- what the search may count on -/
def SmpW (BA BE : Int) (H : Hp) (c : Int) : Prop := WFI BA BE H 66 ∧ H.1 66 28 = 0 ∧ 0 < c ∧ 0 ≤ BE ∧ BE * 100000000 ≤ 1000000000000000000 ∧ BA * c ≤ 1000000000000000000
def loP (H : Hp) (c k : Int) : Int := if H.1 66 20 = 1 then plo ((H.2 66 21).toInt * k) ((H.2 66 22).toInt * c) (decide (H.1 66 23 = 1)) else 0
def hiP (H : Hp) (c k : Int) : Int := if H.1 66 24 = 1 then phi ((H.2 66 25).toInt * k) ((H.2 66 26).toInt * c) (decide (H.1 66 27 = 1)) else 0
theorem end_bd {BA BE n d c k : Int} (hc : 0 < c) (h0 : 0 ≤ BE) (h1 : BE * 100000000 ≤ 1000000000000000000) (h2 : BA * c ≤ 1000000000000000000) (hk : 0 < k ∧ k ≤ 100000000) (hd : 0 < d ∧ d ≤ BA) (hn : -BE ≤ n ∧ n ≤ BE) : (-1000000000000000000 ≤ n * k ∧ n * k ≤ 1000000000000000000) ∧ 0 < d * c ∧ d * c ≤ 1000000000000000000 := by
  have a := mulb hn.1 hn.2 (show -100000000 ≤ k by omega) hk.2
  have b := Int.mul_pos hd.1 hc
  have e := Int.mul_le_mul_of_nonneg_right hd.2 (Int.le_of_lt hc)
  refine ⟨⟨by omega, by omega⟩, b, by omega⟩
theorem lo_z {BA BE : Int} {H : Hp} {c k : Int} {v : Int32} (hW : SmpW BA BE H c) (hk : 0 < k ∧ k < 100000000) : s_X10_setSimplest_l3 66 v (i64 c) (i64 k) H = s_X10_setSimplest_b82 66 v (i64 c) (i64 k) (i64 (loP H c k)) 0 H := by
  obtain ⟨w1, w2, w3, w4, w5, w6⟩ := hW
  unfold s_X10_setSimplest_l3 s_X10_setSimplest_b78 s_X10_setSimplest_b79 loP
  rw [if_pos (show i64 k < (100000000 : Int64) from (i64_lt (y := 100000000) (by omega) (by omega)).mpr hk.2)]
  rcases w1.1 with e | ⟨e, d1, d2, n1, n2, o⟩
  · rw [if_pos e, if_neg (by rw [e]; decide)]; rfl
  · rw [if_neg (by rw [e]; decide), if_pos e]
    obtain ⟨b1, b2, b3⟩ := end_bd w3 w4 w5 w6 ⟨hk.1, by omega⟩ ⟨d1, d2⟩ ⟨n1, n2⟩
    generalize gn : H.2 66 21 = N at *
    generalize gd : H.2 66 22 = Dn at *
    have eN : N = i64 N.toInt := (i64_of N).symm
    have eD : Dn = i64 Dn.toInt := (i64_of Dn).symm
    generalize N.toInt = n at *
    generalize Dn.toInt = d at *
    subst eN eD
    have e1 : -(i64 n) * i64 k = i64 (-(n * k)) := by rw [i64_neg, i64_mul, Int.neg_mul]
    have e2 : i64 d * i64 c = i64 (d * c) := i64_mul _ _
    rw [e1, e2, floorOf_z (i64_z (by omega) (by omega)) (i64_z (by omega) (by omega)) b2 (by omega) (by omega), bnd_s, lt_red, i64_neg]
    obtain ⟨c1, c2⟩ := ceil_bd (X := n * k) b2
    have eqv : (i64 (-(-(n * k) / (d * c))) * i64 c * i64 d = i64 n * i64 k) ↔ -(-(n * k) / (d * c)) * (d * c) = n * k := by
      rw [i64_mul, i64_mul, i64_mul, show -(-(n * k) / (d * c)) * c * d = -(-(n * k) / (d * c)) * (d * c) by grind]
      exact i64_eq ⟨by omega, by omega⟩ ⟨by omega, by omega⟩
    simp only [lt_red]
    rcases o with o | o
    · rw [if_pos o, show decide (H.1 66 23 = 1) = false from by rw [o]; decide]
      unfold plo
      rw [if_neg (by simp), Int.add_zero, show (0 : Int64) = i64 0 from by decide, i64_add, Int.add_zero]
    · rw [if_neg (by rw [o]; decide), show decide (H.1 66 23 = 1) = true from by rw [o]; decide]
      unfold plo
      by_cases z : -(-(n * k) / (d * c)) * (d * c) = n * k
      · rw [if_pos (eqv.mpr z), if_pos ⟨rfl, z⟩, show (1 : Int64) = i64 1 from by decide, i64_add]
      · rw [if_neg (fun q => z (eqv.mp q)), if_neg (fun q => z q.2), Int.add_zero]
        rw [show i64 (-(-(n * k) / (d * c))) + 0 = i64 (-(-(n * k) / (d * c))) from by rw [show (0 : Int64) = i64 0 from by decide, i64_add, Int.add_zero]]
theorem hi_z {BA BE : Int} {H : Hp} {c k : Int} {v : Int32} {a6 : Int64} (hW : SmpW BA BE H c) (hk : 0 < k ∧ k < 100000000) : s_X10_setSimplest_b82 66 v (i64 c) (i64 k) a6 0 H = s_X10_setSimplest_b144 66 v (i64 c) (i64 k) a6 (i64 (hiP H c k)) H := by
  obtain ⟨w1, w2, w3, w4, w5, w6⟩ := hW
  unfold s_X10_setSimplest_b82 s_X10_setSimplest_b140 s_X10_setSimplest_b141 hiP
  rcases w1.2.1 with e | ⟨e, d1, d2, n1, n2, o⟩
  · rw [if_pos e, if_neg (by rw [e]; decide)]; rfl
  · rw [if_neg (by rw [e]; decide), if_pos e]
    obtain ⟨b1, b2, b3⟩ := end_bd w3 w4 w5 w6 ⟨hk.1, by omega⟩ ⟨d1, d2⟩ ⟨n1, n2⟩
    generalize gn : H.2 66 25 = N at *
    generalize gd : H.2 66 26 = Dn at *
    have eN : N = i64 N.toInt := (i64_of N).symm
    have eD : Dn = i64 Dn.toInt := (i64_of Dn).symm
    generalize N.toInt = n at *
    generalize Dn.toInt = d at *
    subst eN eD
    have e1 : i64 n * i64 k = i64 (n * k) := i64_mul _ _
    have e2 : i64 d * i64 c = i64 (d * c) := i64_mul _ _
    rw [e1, e2, floorOf_z (i64_z (by omega) (by omega)) (i64_z (by omega) (by omega)) b2 (by omega) (by omega), bnd_s]
    obtain ⟨c1, c2⟩ := floor_bd (X := n * k) b2
    have eqv : (i64 (n * k / (d * c)) * i64 c * i64 d = i64 (n * k)) ↔ n * k / (d * c) * (d * c) = n * k := by
      rw [i64_mul, i64_mul, show n * k / (d * c) * c * d = n * k / (d * c) * (d * c) by grind]
      exact i64_eq ⟨by omega, by omega⟩ ⟨by omega, by omega⟩
    simp only [lt_red]
    rcases o with o | o
    · rw [if_pos o, show decide (H.1 66 27 = 1) = false from by rw [o]; decide]
      unfold phi
      rw [if_neg (by simp), Int.sub_zero, show (0 : Int64) = i64 0 from by decide, i64_sub, Int.sub_zero]
    · rw [if_neg (by rw [o]; decide), show decide (H.1 66 27 = 1) = true from by rw [o]; decide]
      unfold phi
      by_cases z : n * k / (d * c) * (d * c) = n * k
      · rw [if_pos (eqv.mpr z), if_pos ⟨rfl, z⟩, show (1 : Int64) = i64 1 from by decide, i64_sub]
      · rw [if_neg (fun q => z (eqv.mp q)), if_neg (fun q => z q.2), Int.sub_zero]
        rw [show i64 (n * k / (d * c)) - 0 = i64 (n * k / (d * c)) from by rw [show (0 : Int64) = i64 0 from by decide, i64_sub, Int.sub_zero]]
theorem lohi_bd {BA BE : Int} {H : Hp} {c k : Int} (hW : SmpW BA BE H c) (hk : 0 < k ∧ k < 100000000) : (-3000000000000000000 ≤ loP H c k ∧ loP H c k ≤ 3000000000000000000) ∧ (-3000000000000000000 ≤ hiP H c k ∧ hiP H c k ≤ 3000000000000000000) := by
  obtain ⟨w1, w2, w3, w4, w5, w6⟩ := hW
  unfold loP hiP
  constructor
  · rcases w1.1 with e | ⟨e, d1, d2, n1, n2, o⟩
    · rw [if_neg (by rw [e]; decide)]; omega
    · rw [if_pos e]
      obtain ⟨b1, b2, b3⟩ := end_bd w3 w4 w5 w6 ⟨hk.1, by omega⟩ ⟨d1, d2⟩ ⟨n1, n2⟩
      have := plo_bd (o := decide (H.1 66 23 = 1)) b2 b1
      omega
  · rcases w1.2.1 with e | ⟨e, d1, d2, n1, n2, o⟩
    · rw [if_neg (by rw [e]; decide)]; omega
    · rw [if_pos e]
      obtain ⟨b1, b2, b3⟩ := end_bd w3 w4 w5 w6 ⟨hk.1, by omega⟩ ⟨d1, d2⟩ ⟨n1, n2⟩
      have := phi_bd (o := decide (H.1 66 27 = 1)) b2 b1
      omega
def pkP (H : Hp) (lo hi : Int) : Int := if H.1 66 20 = 1 ∧ 0 < lo then lo else if H.1 66 24 = 1 ∧ hi < 0 then hi else 0
theorem pick_z {BA BE : Int} {H : Hp} {c k lo hi : Int} {v : Nat} (hv : v < 3) (hI : WFI BA BE H 66) (hl : -3000000000000000000 ≤ lo ∧ lo ≤ 3000000000000000000) (hh : -3000000000000000000 ≤ hi ∧ hi ≤ 3000000000000000000) : s_X10_setSimplest_b144 66 (nI v) (i64 c) (i64 k) (i64 lo) (i64 hi) H = if H.1 66 20 = 1 ∧ H.1 66 24 = 1 ∧ hi < lo then some (.inl (i64 (k + 1), H)) else some (.inr (.inr (sJ (sJ H 85 v (i64 (pkP H lo hi))) 86 v (i64 k)))) := by
  have f20 : H.1 66 20 = 0 ∨ H.1 66 20 = 1 := by rcases hI.1 with e | e; · exact Or.inl e
                                                 · exact Or.inr e.1
  have f24 : H.1 66 24 = 0 ∨ H.1 66 24 = 1 := by rcases hI.2.1 with e | e; · exact Or.inl e
                                                 · exact Or.inr e.1
  have i0 : ∀ x : Int, -3000000000000000000 ≤ x ∧ x ≤ 3000000000000000000 → ((0 : Int64) < i64 x ↔ 0 < x) := fun x hx => i64_lt (x := 0) (by omega) (by omega)
  have i0' : ∀ x : Int, -3000000000000000000 ≤ x ∧ x ≤ 3000000000000000000 → (i64 x < (0 : Int64) ↔ x < 0) := fun x hx => i64_lt (y := 0) (by omega) (by omega)
  have b222 : ∀ x : Int64, s_X10_setSimplest_b222 66 (nI v) (i64 c) (i64 k) x (nI v) H = some (.inr (.inr (sJ (sJ H 85 v x) 86 v (i64 k)))) := fun x => by
    unfold s_X10_setSimplest_b222
    rw [stJ_n hv (by omega), stJ_n hv (by omega)]
  have b202 : s_X10_setSimplest_b202 66 (nI v) (i64 c) (i64 k) (i64 hi) (nI v) H = some (.inr (.inr (sJ (sJ H 85 v (i64 (if H.1 66 24 = 1 ∧ hi < 0 then hi else 0))) 86 v (i64 k)))) := by
    unfold s_X10_setSimplest_b202 s_X10_setSimplest_b221
    rcases f24 with e | e
    · rw [if_pos e, b222, if_neg (by rw [e]; intro w; exact absurd w.1 (by decide))]; rfl
    · rw [if_neg (by rw [e]; decide)]
      by_cases z : hi < 0
      · rw [if_pos ((i0' hi hh).mpr z), b222, if_pos ⟨e, z⟩]
      · rw [if_neg (fun w => z ((i0' hi hh).mp w)), b222, if_neg (fun w => z w.2)]; rfl
  have b171 : s_X10_setSimplest_b171 66 (nI v) (i64 c) (i64 k) (i64 lo) (i64 hi) 1 H = some (.inr (.inr (sJ (sJ H 85 v (i64 (pkP H lo hi))) 86 v (i64 k)))) := by
    unfold s_X10_setSimplest_b171 pkP
    rw [if_neg (by decide)]
    rcases f20 with e | e
    · rw [if_pos e, b202, if_neg (show ¬ (H.1 66 20 = 1 ∧ 0 < lo) by rw [e]; intro w; exact absurd w.1 (by decide))]
    · rw [if_neg (by rw [e]; decide)]
      by_cases z : 0 < lo
      · rw [if_pos ((i0 lo hl).mpr z), b222, if_pos (show H.1 66 20 = 1 ∧ 0 < lo from ⟨e, z⟩)]
      · rw [if_neg (fun w => z ((i0 lo hl).mp w)), b202, if_neg (show ¬ (H.1 66 20 = 1 ∧ 0 < lo) from fun w => z w.2)]
  unfold s_X10_setSimplest_b144 s_X10_setSimplest_b166
  rw [b171]
  rcases f20 with e | e
  · rw [if_pos e, if_neg (show ¬ (H.1 66 20 = 1 ∧ H.1 66 24 = 1 ∧ hi < lo) by rw [e]; intro w; exact absurd w.1 (by decide))]
  · rw [if_neg (by rw [e]; decide)]
    rcases f24 with e' | e'
    · rw [if_pos e', if_neg (show ¬ (H.1 66 20 = 1 ∧ H.1 66 24 = 1 ∧ hi < lo) by rw [e']; intro w; exact absurd w.2.1 (by decide))]
    · rw [if_neg (by rw [e']; decide)]
      by_cases z : hi < lo
      · rw [if_pos ((i64_lt (by omega) (by omega)).mpr z), if_pos ⟨e, e', z⟩]
        unfold s_X10_setSimplest_b171
        rw [if_pos rfl, lt_red, show (1 : Int64) = i64 1 from by decide, i64_add]
      · rw [if_neg (fun w => z ((i64_lt (by omega) (by omega)).mp w)), if_neg (fun w => z w.2.2)]
/-- the search finds it -/
theorem setSimplest_z {BA BE : Int} {H : Hp} {c : Int} {v : Nat} (hv : v < 3) (hW : SmpW BA BE H c) {pw qw : Int} (hq : 0 < qw ∧ qw < 100000000) (hw : inI H 66 ((c : Rat) * frc pw qw)) : ∃ p q : Int, s_X10_setSimplest 66 (nI v) (i64 c) H = some (sJ (sJ H 85 v (i64 p)) 86 v (i64 q)) ∧ Simp (fun t => inI H 66 ((c : Rat) * t)) p q := by
  have step : ∀ z : Int64 × Hp, (∃ k : Int, z = (i64 k, H) ∧ 0 < k ∧ k ≤ qw ∧ ∀ p' q' : Int, 0 < q' → q' < k → ¬ inI H 66 ((c : Rat) * frc p' q')) → (∃ s', s_X10_setSimplest_l3 66 (nI v) (i64 c) z.1 z.2 = some (.inl s') ∧ (∃ k : Int, s' = (i64 k, H) ∧ 0 < k ∧ k ≤ qw ∧ ∀ p' q' : Int, 0 < q' → q' < k → ¬ inI H 66 ((c : Rat) * frc p' q')) ∧ 100000000 - s'.1.toInt.toNat < 100000000 - z.1.toInt.toNat) ∨ (∃ r, s_X10_setSimplest_l3 66 (nI v) (i64 c) z.1 z.2 = some (.inr r) ∧ ∃ p q : Int, r = .inr (sJ (sJ H 85 v (i64 p)) 86 v (i64 q)) ∧ Simp (fun t => inI H 66 ((c : Rat) * t)) p q) := by
      intro z hz
      obtain ⟨k, rfl, k0, k1, k2⟩ := hz
      dsimp only
      have hk : 0 < k ∧ k < 100000000 := ⟨k0, by omega⟩
      obtain ⟨l1, l2⟩ := lohi_bd hW hk
      rw [lo_z hW hk, hi_z hW hk, pick_z hv hW.1 l1 l2]
      have inn : ∀ p : Int, inI H 66 ((c : Rat) * frc p k) ↔ (H.1 66 20 = 1 → loP H c k ≤ p) ∧ (H.1 66 24 = 1 → p ≤ hiP H c k) := fun p => by
        rw [in_frc hW.1 hW.2.1 hW.2.2.1 k0]
        unfold loP hiP
        constructor
        · rintro ⟨a, b⟩
          exact ⟨fun w => by rw [if_pos w]; exact a w, fun w => by rw [if_pos w]; exact b w⟩
        · rintro ⟨a, b⟩
          exact ⟨fun w => by have := a w; rw [if_pos w] at this; exact this, fun w => by have := b w; rw [if_pos w] at this; exact this⟩
      generalize loP H c k = lo at *
      generalize hiP H c k = hi at *
      by_cases z : H.1 66 20 = 1 ∧ H.1 66 24 = 1 ∧ hi < lo
      · rw [if_pos z]
        have nk : ∀ p' : Int, ¬ inI H 66 ((c : Rat) * frc p' k) := fun p' w => by
          have := (inn p').mp w
          have a := this.1 z.1
          have b := this.2 z.2.1
          omega
        have kq : k ≠ qw := fun w => by
          subst w
          exact nk pw hw
        refine Or.inl ⟨_, rfl, ⟨k + 1, rfl, by omega, by omega, fun p' q' h1 h2 => ?_⟩, ?_⟩
        · rcases (show q' < k ∨ q' = k by omega) with y | rfl
          · exact k2 p' q' h1 y
          · exact nk p'
        · dsimp only
          rw [i64_z (by omega) (by omega), i64_z (by omega) (by omega)]
          omega
      · rw [if_neg z]
        refine Or.inr ⟨_, rfl, pkP H lo hi, k, rfl, k0, ?_, fun p' q' h1 h2 => ?_, fun p' h2 => ?_⟩
        · refine (inn _).mpr ?_
          unfold pkP
          by_cases a : H.1 66 20 = 1 ∧ 0 < lo
          · rw [if_pos a]
            refine ⟨fun _ => Int.le_refl _, fun w => ?_⟩
            by_cases y : hi < lo
            · exact absurd ⟨a.1, w, y⟩ z
            · omega
          · rw [if_neg a]
            by_cases b : H.1 66 24 = 1 ∧ hi < 0
            · rw [if_pos b]
              refine ⟨fun w => ?_, fun _ => Int.le_refl _⟩
              by_cases y : hi < lo
              · exact absurd ⟨w, b.1, y⟩ z
              · omega
            · rw [if_neg b]
              refine ⟨fun w => ?_, fun w => ?_⟩
              · by_cases y : 0 < lo
                · exact absurd ⟨w, y⟩ a
                · omega
              · by_cases y : hi < 0
                · exact absurd ⟨w, y⟩ b
                · omega
        · by_cases y : q' < k
          · exact absurd h2 (k2 p' q' h1 y)
          · omega
        · have := (inn p').mp h2
          unfold pkP
          by_cases a : H.1 66 20 = 1 ∧ 0 < lo
          · rw [if_pos a]
            have := this.1 a.1
            omega
          · rw [if_neg a]
            by_cases b : H.1 66 24 = 1 ∧ hi < 0
            · rw [if_pos b]
              have := this.2 b.1
              omega
            · rw [if_neg b]; simp
  obtain ⟨e, he, hp⟩ := iter_fuel (f := fun s : Int64 × Hp => s_X10_setSimplest_l3 66 (nI v) (i64 c) s.1 s.2) _ (fun z => 100000000 - z.1.toInt.toNat) _ step ((1 : Int64), H) ⟨1, rfl, by omega, by omega, fun p' q' h1 h2 => by omega⟩ (by dsimp only; omega)
  obtain ⟨p, q, rfl, hs⟩ := hp
  refine ⟨p, q, ?_, hs⟩
  unfold s_X10_setSimplest
  rw [he, bnd_s]
  rfl
