/-! relief: the ends -/
theorem lin_mix (f : Nat → Int) (p q : Nat → Rat) (c : Rat) : lin f (fun v => p v + c * (q v - p v)) = lin f p + c * (lin f q - lin f p) := by unfold lin; grind
theorem hold_mix {Y : Sys} {i : Nat} {p q : Nat → Rat} {c : Rat} (h0 : 0 ≤ c) (h1 : c ≤ 1) (hp : hold Y i p) (hq : hold Y i q) : hold Y i (fun v => p v + c * (q v - p v)) := by
  unfold hold at *
  rw [lin_mix]
  generalize lin (Y.1 i) p = a at *
  generalize lin (Y.1 i) q = b at *
  generalize ((Y.2.1 i : Int) : Rat) = d at *
  by_cases e : Y.2.2.2 i = true
  · rw [if_pos e] at *; rw [hp, hq]; grind
  · rw [if_neg e] at *
    by_cases s : Y.2.2.1 i = true
    · rw [if_pos s] at *
      have x1 := Rat.mul_nonneg h0 (show 0 ≤ d - b by grind)
      have x2 := Rat.mul_nonneg (show 0 ≤ 1 - c by grind) (show 0 ≤ d - a by grind)
      by_cases z : c = 0
      · rw [z]; grind
      · have x3 := Rat.mul_pos (show 0 < c by grind) (show 0 < d - b by grind)
        grind
    · rw [if_neg s] at *
      have x1 := Rat.mul_nonneg h0 (show 0 ≤ d - b by grind)
      have x2 := Rat.mul_nonneg (show 0 ≤ 1 - c by grind) (show 0 ≤ d - a by grind)
      grind
def RelaxH (Y : Sys) (k : Nat) (s : Rat) (p : Nat → Rat) : Prop := ∀ σ : Int, (σ = 1 ∨ σ = -1) → (Y.2.2.2 k = true ∨ σ = 1) → (if Y.2.2.1 k = true then (σ : Rat) * lin (Y.1 k) p < (σ : Rat) * (Y.2.1 k : Rat) + s else (σ : Rat) * lin (Y.1 k) p ≤ (σ : Rat) * (Y.2.1 k : Rat) + s)
theorem relax_iff {Y : Sys} {k M nv : Nat} (h1 : 1 ≤ nv) (h3 : nv ≤ 3) (hF : FormsWF Y.1 M nv) (hse : ∀ i, i < M → Y.2.2.1 i = true → Y.2.2.2 i = false) (hk : k < M) (hoth : ∃ q, ∀ i, i < M → i ≠ k → hold Y i q) {s : Rat} (hs0 : 0 ≤ s) : (∃ p, (∀ i, i < M → i ≠ k → hold Y i p) ∧ RelaxH Y k s p) ↔ ∀ T, List.Sublist T (List.range M) → T.length ≤ nv + 1 → k ∈ T → Clash Y T → ∀ g, circ Y T = some g → UpS ((g k).natAbs : Int) (sm T (fun i => g i * Y.2.1 i)) (T.any Y.2.2.1) (-s) := by
  constructor
  · rintro ⟨p, hp, hr⟩ T hT - hkT - g hg
    exact rx_sound hse hp hr hT hkT hg
  · intro h
    obtain ⟨u, w, hw, hs⟩ := rat_frac s
    have hu : 0 ≤ u := by
      have w1 : (0 : Rat) < (w : Rat) := by exact_mod_cast hw
      have := Rat.mul_nonneg (Rat.le_of_lt w1) hs0
      rw [hs] at this
      exact_mod_cast this
    have sat : ∀ σ : Int, (σ = 1 ∨ σ = -1) → (Y.2.2.2 k = true ∨ σ = 1) → Sat (rx Y k σ u w) (List.range M) := fun σ hσ hes => by
      by_cases c : Sat (rx Y k σ u w) (List.range M)
      · exact c
      · exfalso
        obtain ⟨T, t1, t2, t3, t4, g, t5, t6⟩ := rx_clash h1 h3 hw hu hs hσ hes hF hse hoth c
        exact t6 (h T t1 t2 t3 t4 g t5)
    obtain ⟨p, hp1, hp2⟩ := (sat_rx hw hs hk).mp (sat 1 (Or.inl rfl) (Or.inr rfl))
    cases he : Y.2.2.2 k
    · refine ⟨p, hp1, fun σ hσ hes => ?_⟩
      rcases hes with e | e
      · rw [he] at e; cases e
      · subst e; exact hp2
    · have hst : Y.2.2.1 k = false := by
        cases hs2 : Y.2.2.1 k
        · rfl
        · have := hse k hk hs2; rw [he] at this; cases this
      obtain ⟨q, hq1, hq2⟩ := (sat_rx hw hs hk).mp (sat (-1) (Or.inr rfl) (Or.inl he))
      rw [hst, if_neg (by decide)] at hp2 hq2
      push_cast at hp2 hq2
      have goal : ∀ r : Nat → Rat, lin (Y.1 k) r ≤ (Y.2.1 k : Rat) + s → (Y.2.1 k : Rat) - s ≤ lin (Y.1 k) r → RelaxH Y k s r := fun r r1 r2 σ hσ _ => by
        rw [hst, if_neg (by decide)]
        rcases hσ with e | e
        · subst e; push_cast; grind
        · subst e; push_cast; grind
      by_cases c1 : (Y.2.1 k : Rat) - s ≤ lin (Y.1 k) p
      · exact ⟨p, hp1, goal p (by grind) c1⟩
      · by_cases c2 : lin (Y.1 k) q ≤ (Y.2.1 k : Rat) + s
        · exact ⟨q, hq1, goal q c2 (by grind)⟩
        · generalize hl1 : lin (Y.1 k) p = l1 at *
          generalize hl2 : lin (Y.1 k) q = l2 at *
          generalize hd : ((Y.2.1 k : Int) : Rat) = d at *
          have hpos : 0 < l2 - l1 := by grind
          have hc : (d - s - l1) / (l2 - l1) * (l2 - l1) = d - s - l1 := Rat.div_mul_cancel (by grind)
          generalize (d - s - l1) / (l2 - l1) = c at *
          have c0 : 0 ≤ c := by
            by_cases z : 0 ≤ c
            · exact z
            · have := Rat.mul_pos (show 0 < -c by grind) hpos; grind
          have c1 : c ≤ 1 := by
            by_cases z : c ≤ 1
            · exact z
            · have := Rat.mul_pos (show 0 < c - 1 by grind) hpos; grind
          refine ⟨fun v => p v + c * (q v - p v), fun i hi hik => hold_mix c0 c1 (hp1 i hi hik) (hq1 i hi hik), goal _ ?_ ?_⟩
          · rw [lin_mix, hl1, hl2]; grind
          · rw [lin_mix, hl1, hl2]; grind
/-! over an interval -/
theorem iv_lo {L H : End} (hne : ∃ t, IV L H t) (c : Rat) : (∃ v, IV L H v ∧ v ≤ c) ↔ ∀ x, L = some x → upB (x.1, x.2 || false) (-c) := by
  have hne2 : ∃ t, IV H L t := by
    obtain ⟨t, ht⟩ := hne
    exact ⟨-t, IV.sw.mpr ht⟩
  have := iv_dom hne2 (-c)
  constructor
  · rintro ⟨v, w1, w2⟩ x hx
    rw [Bool.or_false]
    exact (this.mp ⟨-v, IV.sw.mpr w1, by grind⟩).2 x hx
  · intro h
    obtain ⟨s, w1, w2⟩ := this.mpr ⟨fun x hx => (by cases hx), fun x hx => by have := h x hx; rw [Bool.or_false] at this; exact this⟩
    exact ⟨-s, IV.sw.mpr w1, by grind⟩
theorem iv_los {L H : End} (hne : ∃ t, IV L H t) (c : Rat) : (∃ v, IV L H v ∧ v < c) ↔ ∀ x, L = some x → upB (x.1, x.2 || true) (-c) := by
  constructor
  · rintro ⟨v, w1, w2⟩ x hx
    rw [Bool.or_true]
    left
    rcases w1.1 x hx with z | ⟨z, -⟩ <;> grind
  · intro h
    obtain ⟨t0, l0, h0⟩ := hne
    by_cases z : t0 < c
    · exact ⟨t0, ⟨l0, h0⟩, z⟩
    · cases L with
      | none => exact ⟨c - 1, ⟨fun x hx => (by cases hx), fun x hx => upB_mono (h0 x hx) (by grind)⟩, by grind⟩
      | some x =>
        have hx := h x rfl
        rw [Bool.or_true] at hx
        have hx : -c < x.1 := by
          rcases hx with y | ⟨-, y⟩
          · exact y
          · cases y
        exact ⟨(c - x.1) / 2, ⟨fun y hy => by cases hy; exact Or.inl (by grind), fun y hy => upB_mono (h0 y hy) (by grind)⟩, by grind⟩
theorem iv_lo2 {L H : End} (hne : ∃ t, IV L H t) (c : Rat) (less : Bool) : (∃ v, IV L H v ∧ (if less = true then v < c else v ≤ c)) ↔ ∀ x, L = some x → upB (x.1, x.2 || less) (-c) := by
  cases less
  · simp only [Bool.false_eq_true, if_false]; exact iv_lo hne c
  · simp only [if_true]; exact iv_los hne c
theorem iv_hi2 {L H : End} (hne : ∃ t, IV L H t) (c : Rat) (more : Bool) : (∃ v, IV L H v ∧ (if more = true then c < v else c ≤ v)) ↔ ∀ x, H = some x → upB (x.1, x.2 || more) c := by
  have hne2 : ∃ t, IV H L t := by
    obtain ⟨t, ht⟩ := hne
    exact ⟨-t, IV.sw.mpr ht⟩
  have := iv_lo2 hne2 (-c) more
  rw [show - -c = c by grind] at this
  rw [← this]
  constructor
  · rintro ⟨v, w1, w2⟩
    refine ⟨-v, IV.sw.mpr w1, ?_⟩
    cases more
    · simp at w2 ⊢; grind
    · simp at w2 ⊢; grind
  · rintro ⟨v, w1, w2⟩
    refine ⟨-v, IV.sw.mpr w1, ?_⟩
    cases more
    · simp at w2 ⊢; grind
    · simp at w2 ⊢; grind
theorem iv_both {L H : End} (hne : ∃ t, IV L H t) {a b : Rat} (hab : a ≤ b) : (∃ v, IV L H v ∧ v ≤ b ∧ a ≤ v) ↔ (∀ x, L = some x → upB (x.1, x.2 || false) (-b)) ∧ (∀ x, H = some x → upB (x.1, x.2 || false) a) := by
  constructor
  · rintro ⟨v, w1, w2, w3⟩
    exact ⟨(iv_lo hne b).mp ⟨v, w1, w2⟩, fun x hx => by rw [Bool.or_false]; exact upB_mono (w1.2 x hx) w3⟩
  · rintro ⟨h1, h2⟩
    obtain ⟨t0, l0, h0⟩ := hne
    by_cases c1 : t0 < a
    · exact ⟨a, ⟨fun x hx => upB_mono (l0 x hx) (by grind), fun x hx => by have := h2 x hx; rw [Bool.or_false] at this; exact this⟩, hab, by grind⟩
    · by_cases c2 : b < t0
      · exact ⟨b, ⟨fun x hx => by have := h1 x hx; rw [Bool.or_false] at this; exact this, fun x hx => upB_mono (h0 x hx) (by grind)⟩, by grind, hab⟩
      · exact ⟨t0, ⟨l0, h0⟩, by grind, by grind⟩
/-! the model's answers -/
def LacP (H4 : Hp) (res : Option (Int32 × Hp)) (P : Rat → Prop) : Prop := ∃ (x' y' : Int64) (o : Bool), res = (s_X10_says 66 x' y' (if o = true then 0 else 1) H4).bind (fun y => some (y.1, y.2)) ∧ 0 < y'.toInt ∧ (0 ≤ x'.toInt ∧ x'.toInt ≤ 1000000000) ∧ ∀ t, IV none (some (((-x'.toInt : Int) : Rat) / (y'.toInt : Rat), o)) t ↔ P t
theorem iv_some {q : Rat × Bool} {t : Rat} : IV none (some q) t ↔ upB q t := ⟨fun h => h.2 q rfl, fun h => ⟨fun x hx => (by cases hx), fun x hx => by cases hx; exact h⟩⟩
theorem bind_pair {β : Type} (r : Option (Int32 × β)) : (r.bind fun y => some (y.1, y.2)) = r := by cases r <;> rfl
theorem lacksLow_z {H4 : Hp} (w4 : WFI 839808 6998400 H4 66) {d : Int} (hd : -50 ≤ d ∧ d ≤ 50) (less : Bool) : LacP H4 (s_X10_lacksLow 66 (i32 d) (bI less) H4) (fun t => t ≤ 0 ∧ ∀ x, lowO H4 66 = some x → upB (x.1, x.2 || less) (t - d)) := by
  have z0 : (0 : Int64).toInt = 0 := by decide
  have z1 : (1 : Int64).toInt = 1 := by decide
  have triv : (∀ t : Rat, t ≤ 0 → ∀ x, lowO H4 66 = some x → upB (x.1, x.2 || less) (t - d)) → LacP H4 ((s_X10_says 66 0 1 1 H4).bind fun y1 => some (y1.1, y1.2)) (fun t => t ≤ 0 ∧ ∀ x, lowO H4 66 = some x → upB (x.1, x.2 || less) (t - d)) := fun h => by
    refine ⟨0, 1, false, rfl, by rw [z1]; decide, by rw [z0]; decide, fun t => ?_⟩
    rw [iv_some, z0, z1, ← ups_upB (by decide)]
    unfold UpS
    push_cast
    constructor
    · intro q
      have ht : t ≤ 0 := by rcases q with q | ⟨q, -⟩ <;> grind
      exact ⟨ht, h t ht⟩
    · rintro ⟨q, -⟩
      by_cases c : t < 0
      · exact Or.inl (by grind)
      · exact Or.inr ⟨by grind, rfl⟩
  unfold s_X10_lacksLow s_X10_lacksLow_b25
  rcases w4.1 with q | ⟨q, q1, q2, q3, q4, q5⟩
  · rw [if_pos q, if_pos (by decide)]
    refine triv (fun t _ x hx => ?_)
    unfold lowO at hx
    rw [if_neg (by rw [q]; decide)] at hx
    cases hx
  · have ew : (i32 d).toInt64.toInt = d := by rw [tl_z]; exact i32_z (by omega) (by omega)
    have m1 := mulb (A := 50) (B := 839808) (a := d) (b := (H4.2 66 22).toInt) (by omega) (by omega) (by omega) (by omega)
    have e1 : ((i32 d).toInt64 * H4.2 66 22).toInt = d * (H4.2 66 22).toInt := by rw [mull_z (by rw [ew]; omega) (by rw [ew]; omega), ew]
    have e2 : (H4.2 66 21 - (i32 d).toInt64 * H4.2 66 22).toInt = (H4.2 66 21).toInt - d * (H4.2 66 22).toInt := by rw [subl_z (by rw [e1]; omega) (by rw [e1]; omega), e1]
    have hO : lowO H4 66 = some (((-(H4.2 66 21).toInt : Int) : Rat) / ((H4.2 66 22).toInt : Rat), decide (H4.1 66 23 = 1)) := if_pos q
    have l1 : (0 : Rat) < ((H4.2 66 22).toInt : Rat) := by exact_mod_cast q1
    have side : ∀ (t : Rat) (o : Bool), upB (((-(H4.2 66 21).toInt : Int) : Rat) / ((H4.2 66 22).toInt : Rat), o) (t - d) ↔ UpS (H4.2 66 22).toInt (-((H4.2 66 21).toInt - d * (H4.2 66 22).toInt)) o t := fun t o => by
      rw [← ups_upB q1]
      unfold UpS
      push_cast
      constructor
      · rintro (z | ⟨z, z2⟩)
        · exact Or.inl (by grind)
        · exact Or.inr ⟨by grind, z2⟩
      · rintro (z | ⟨z, z2⟩)
        · exact Or.inl (by grind)
        · exact Or.inr ⟨by grind, z2⟩
    rw [if_neg (by rw [q]; decide)]
    generalize H4.2 66 21 - (i32 d).toInt64 * H4.2 66 22 = v at *
    rw [← e2] at side
    by_cases c : v.toInt < 0
    · rw [if_pos (show v < (0 : Int64) from ltl_z.mpr (by rw [z0]; exact c))]
      refine triv (fun t ht x hx => ?_)
      rw [hO] at hx
      cases hx
      rw [side]
      left
      have c2 : (0 : Rat) < ((-v.toInt : Int) : Rat) := by exact_mod_cast (show (0 : Int) < -v.toInt by omega)
      have := Rat.mul_nonneg (Rat.le_of_lt l1) (show 0 ≤ -t by grind)
      grind
    · rw [if_neg (show ¬ v < (0 : Int64) from fun z => c (by have := ltl_z.mp z; rw [z0] at this; exact this))]
      have fin : LacP H4 ((s_X10_says 66 v (H4.2 66 22) (if (decide (H4.1 66 23 = 1) || less) = true then 0 else 1) H4).bind fun y2 => some (y2.1, y2.2)) (fun t => t ≤ 0 ∧ ∀ x, lowO H4 66 = some x → upB (x.1, x.2 || less) (t - d)) := by
        refine ⟨v, H4.2 66 22, decide (H4.1 66 23 = 1) || less, rfl, q1, by omega, fun t => ?_⟩
        rw [iv_some, ← ups_upB q1, hO]
        constructor
        · intro z
          refine ⟨?_, fun x hx => by cases hx; rw [side]; exact z⟩
          have c2 : ((-v.toInt : Int) : Rat) ≤ 0 := by exact_mod_cast (show -v.toInt ≤ (0 : Int) by omega)
          by_cases y : t ≤ 0
          · exact y
          · have := Rat.mul_pos l1 (show 0 < t by grind)
            rcases z with z | ⟨z, -⟩ <;> grind
        · rintro ⟨-, z⟩
          have := z _ rfl
          rw [side] at this
          exact this
      unfold s_X10_lacksLow_b57 s_X10_lacksLow_b62
      cases less
      · rw [if_pos (by decide)]
        rcases q5 with o | o
        · rw [if_pos o]; rw [o] at fin; exact fin
        · rw [if_neg (by rw [o]; decide)]; rw [o] at fin; exact fin
      · rw [if_neg (by decide)]
        rw [Bool.or_true] at fin; exact fin
theorem lacksHigh_z {H4 : Hp} (w4 : WFI 839808 6998400 H4 66) {d : Int} (hd : -50 ≤ d ∧ d ≤ 50) (less : Bool) : LacP H4 (s_X10_lacksHigh 66 (i32 d) (bI less) H4) (fun t => t ≤ 0 ∧ ∀ x, highO H4 66 = some x → upB (x.1, x.2 || less) (d + t)) := by
  have z0 : (0 : Int64).toInt = 0 := by decide
  have z1 : (1 : Int64).toInt = 1 := by decide
  have triv : (∀ t : Rat, t ≤ 0 → ∀ x, highO H4 66 = some x → upB (x.1, x.2 || less) (d + t)) → LacP H4 ((s_X10_says 66 0 1 1 H4).bind fun y1 => some (y1.1, y1.2)) (fun t => t ≤ 0 ∧ ∀ x, highO H4 66 = some x → upB (x.1, x.2 || less) (d + t)) := fun h => by
    refine ⟨0, 1, false, rfl, by rw [z1]; decide, by rw [z0]; decide, fun t => ?_⟩
    rw [iv_some, z0, z1, ← ups_upB (by decide)]
    unfold UpS
    push_cast
    constructor
    · intro q
      have ht : t ≤ 0 := by rcases q with q | ⟨q, -⟩ <;> grind
      exact ⟨ht, h t ht⟩
    · rintro ⟨q, -⟩
      by_cases c : t < 0
      · exact Or.inl (by grind)
      · exact Or.inr ⟨by grind, rfl⟩
  unfold s_X10_lacksHigh s_X10_lacksHigh_b25
  rcases w4.2.1 with q | ⟨q, q1, q2, q3, q4, q5⟩
  · rw [if_pos q, if_pos (by decide)]
    refine triv (fun t _ x hx => ?_)
    unfold highO at hx
    rw [if_neg (by rw [q]; decide)] at hx
    cases hx
  · have ew : (i32 d).toInt64.toInt = d := by rw [tl_z]; exact i32_z (by omega) (by omega)
    have m1 := mulb (A := 50) (B := 839808) (a := d) (b := (H4.2 66 26).toInt) (by omega) (by omega) (by omega) (by omega)
    have e1 : ((i32 d).toInt64 * H4.2 66 26).toInt = d * (H4.2 66 26).toInt := by rw [mull_z (by rw [ew]; omega) (by rw [ew]; omega), ew]
    have e2 : ((i32 d).toInt64 * H4.2 66 26 - H4.2 66 25).toInt = d * (H4.2 66 26).toInt - (H4.2 66 25).toInt := by rw [subl_z (by rw [e1]; omega) (by rw [e1]; omega), e1]
    have hO : highO H4 66 = some (((H4.2 66 25).toInt : Rat) / ((H4.2 66 26).toInt : Rat), decide (H4.1 66 27 = 1)) := if_pos q
    have l1 : (0 : Rat) < ((H4.2 66 26).toInt : Rat) := by exact_mod_cast q1
    have side : ∀ (t : Rat) (o : Bool), upB (((H4.2 66 25).toInt : Rat) / ((H4.2 66 26).toInt : Rat), o) (d + t) ↔ UpS (H4.2 66 26).toInt (-(d * (H4.2 66 26).toInt - (H4.2 66 25).toInt)) o t := fun t o => by
      rw [← ups_upB q1]
      unfold UpS
      push_cast
      constructor
      · rintro (z | ⟨z, z2⟩)
        · exact Or.inl (by grind)
        · exact Or.inr ⟨by grind, z2⟩
      · rintro (z | ⟨z, z2⟩)
        · exact Or.inl (by grind)
        · exact Or.inr ⟨by grind, z2⟩
    rw [if_neg (by rw [q]; decide)]
    generalize (i32 d).toInt64 * H4.2 66 26 - H4.2 66 25 = v at *
    rw [← e2] at side
    by_cases c : v.toInt < 0
    · rw [if_pos (show v < (0 : Int64) from ltl_z.mpr (by rw [z0]; exact c))]
      refine triv (fun t ht x hx => ?_)
      rw [hO] at hx
      cases hx
      rw [side]
      left
      have c2 : (0 : Rat) < ((-v.toInt : Int) : Rat) := by exact_mod_cast (show (0 : Int) < -v.toInt by omega)
      have := Rat.mul_nonneg (Rat.le_of_lt l1) (show 0 ≤ -t by grind)
      grind
    · rw [if_neg (show ¬ v < (0 : Int64) from fun z => c (by have := ltl_z.mp z; rw [z0] at this; exact this))]
      have fin : LacP H4 ((s_X10_says 66 v (H4.2 66 26) (if (decide (H4.1 66 27 = 1) || less) = true then 0 else 1) H4).bind fun y2 => some (y2.1, y2.2)) (fun t => t ≤ 0 ∧ ∀ x, highO H4 66 = some x → upB (x.1, x.2 || less) (d + t)) := by
        refine ⟨v, H4.2 66 26, decide (H4.1 66 27 = 1) || less, rfl, q1, by omega, fun t => ?_⟩
        rw [iv_some, ← ups_upB q1, hO]
        constructor
        · intro z
          refine ⟨?_, fun x hx => by cases hx; rw [side]; exact z⟩
          have c2 : ((-v.toInt : Int) : Rat) ≤ 0 := by exact_mod_cast (show -v.toInt ≤ (0 : Int) by omega)
          by_cases y : t ≤ 0
          · exact y
          · have := Rat.mul_pos l1 (show 0 < t by grind)
            rcases z with z | ⟨z, -⟩ <;> grind
        · rintro ⟨-, z⟩
          have := z _ rfl
          rw [side] at this
          exact this
      unfold s_X10_lacksHigh_b57 s_X10_lacksHigh_b62
      cases less
      · rw [if_pos (by decide)]
        rcases q5 with o | o
        · rw [if_pos o]; rw [o] at fin; exact fin
        · rw [if_neg (by rw [o]; decide)]; rw [o] at fin; exact fin
      · rw [if_neg (by decide)]
        rw [Bool.or_true] at fin; exact fin
theorem lacksBoth_z {H4 : Hp} (w4 : WFI 839808 6998400 H4 66) (hne : ∃ t, IV (lowO H4 66) (highO H4 66) t) {d : Int} (hd : -50 ≤ d ∧ d ≤ 50) : LacP H4 (s_X10_lacksBoth 66 (i32 d) H4) (fun t => t ≤ 0 ∧ (∀ x, lowO H4 66 = some x → upB (x.1, x.2 || false) (t - d)) ∧ ∀ x, highO H4 66 = some x → upB (x.1, x.2 || false) (d + t)) := by
  have z0 : (0 : Int64).toInt = 0 := by decide
  unfold s_X10_lacksBoth s_X10_lacksBoth_b31
  have high : (∀ t : Rat, t ≤ 0 → ∀ x, lowO H4 66 = some x → upB (x.1, x.2 || false) (t - d)) → LacP H4 ((s_X10_lacksHigh 66 (i32 d) 0 H4).bind fun y1 => some (y1.1, y1.2)) (fun t => t ≤ 0 ∧ (∀ x, lowO H4 66 = some x → upB (x.1, x.2 || false) (t - d)) ∧ ∀ x, highO H4 66 = some x → upB (x.1, x.2 || false) (d + t)) := fun h => by
    obtain ⟨x', y', o, e, a1, a2, a3⟩ := lacksHigh_z w4 hd false
    refine ⟨x', y', o, by rw [bind_pair]; exact e, a1, a2, fun t => ?_⟩
    rw [a3 t]
    exact ⟨fun z => ⟨z.1, h t z.1, z.2⟩, fun z => ⟨z.1, z.2.2⟩⟩
  rcases w4.1 with q | ⟨q, q1, q2, q3, q4, q5⟩
  · rw [if_pos q]
    refine high (fun t _ x hx => ?_)
    unfold lowO at hx
    rw [if_neg (by rw [q]; decide)] at hx
    cases hx
  · have ew : (i32 d).toInt64.toInt = d := by rw [tl_z]; exact i32_z (by omega) (by omega)
    have m1 := mulb (A := 50) (B := 839808) (a := d) (b := (H4.2 66 22).toInt) (by omega) (by omega) (by omega) (by omega)
    have e1 : ((i32 d).toInt64 * H4.2 66 22).toInt = d * (H4.2 66 22).toInt := by rw [mull_z (by rw [ew]; omega) (by rw [ew]; omega), ew]
    have e2 : (H4.2 66 21 - (i32 d).toInt64 * H4.2 66 22).toInt = (H4.2 66 21).toInt - d * (H4.2 66 22).toInt := by rw [subl_z (by rw [e1]; omega) (by rw [e1]; omega), e1]
    have hO : lowO H4 66 = some (((-(H4.2 66 21).toInt : Int) : Rat) / ((H4.2 66 22).toInt : Rat), decide (H4.1 66 23 = 1)) := if_pos q
    have l1 : (0 : Rat) < ((H4.2 66 22).toInt : Rat) := by exact_mod_cast q1
    rw [if_neg (by rw [q]; decide)]
    by_cases c : (H4.2 66 21 - (i32 d).toInt64 * H4.2 66 22).toInt < 0
    · rw [if_pos (show (H4.2 66 21 - (i32 d).toInt64 * H4.2 66 22) < (0 : Int64) from ltl_z.mpr (by rw [z0]; exact c))]
      refine high (fun t ht x hx => ?_)
      rw [hO] at hx
      cases hx
      rw [← ups_upB q1]
      left
      rw [e2] at c
      have c2 : ((H4.2 66 21).toInt : Rat) < (d : Rat) * ((H4.2 66 22).toInt : Rat) := by exact_mod_cast (show (H4.2 66 21).toInt < d * (H4.2 66 22).toInt by omega)
      have := Rat.mul_nonneg (Rat.le_of_lt l1) (show 0 ≤ -t by grind)
      push_cast
      grind
    · rw [if_neg (show ¬ (H4.2 66 21 - (i32 d).toInt64 * H4.2 66 22) < (0 : Int64) from fun z => c (by have := ltl_z.mp z; rw [z0] at this; exact this))]
      obtain ⟨x', y', o, e, a1, a2, a3⟩ := lacksLow_z w4 hd false
      refine ⟨x', y', o, by rw [bind_pair]; exact e, a1, a2, fun t => ?_⟩
      rw [a3 t]
      refine ⟨fun z => ⟨z.1, z.2, fun x hx => ?_⟩, fun z => ⟨z.1, z.2.1⟩⟩
      obtain ⟨v0, w1, w2⟩ := hne
      rw [Bool.or_false]
      refine upB_mono (w2 x hx) ?_
      have l0 := w1 _ hO
      rw [← ups_upB q1] at l0
      rw [e2] at c
      have c2 : (d : Rat) * ((H4.2 66 22).toInt : Rat) ≤ ((H4.2 66 21).toInt : Rat) := by exact_mod_cast (show d * (H4.2 66 22).toInt ≤ (H4.2 66 21).toInt by omega)
      have l2 : ((H4.2 66 22).toInt : Rat) * (d : Rat) ≤ ((H4.2 66 22).toInt : Rat) * v0 := by
        rcases l0 with y | ⟨y, -⟩
        · push_cast at y; grind
        · push_cast at y; grind
      have l3 : (d : Rat) ≤ v0 := by
        by_cases y : (d : Rat) ≤ v0
        · exact y
        · have := Rat.mul_pos l1 (show 0 < (d : Rat) - v0 by grind); grind
      have := z.1
      grind
