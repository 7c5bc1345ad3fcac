/-! the simplest fraction of a convex set -/
def frc (p q : Int) : Rat := (p : Rat) / (q : Rat)
def Simp (S : Rat → Prop) (p q : Int) : Prop := 0 < q ∧ S (frc p q) ∧ (∀ p' q' : Int, 0 < q' → S (frc p' q') → q ≤ q') ∧ ∀ p' : Int, S (frc p' q) → p.natAbs ≤ p'.natAbs
def Cvx (S : Rat → Prop) : Prop := ∀ a b c, S a → S c → a ≤ b → b ≤ c → S b
theorem frc_lt {a b c d : Int} (hb : 0 < b) (hd : 0 < d) : frc a b < frc c d ↔ a * d < c * b := frac_lt hb hd
theorem frc_eq {a b c d : Int} (hb : 0 < b) (hd : 0 < d) : frc a b = frc c d ↔ a * d = c * b := frac_eq2 hb hd
theorem frc_le {a b c d : Int} (hb : 0 < b) (hd : 0 < d) : frc a b ≤ frc c d ↔ a * d ≤ c * b := by
  have := frc_lt hd hb (a := c) (c := a)
  constructor
  · intro h
    by_cases q : c * b < a * d
    · have := this.mpr q; grind
    · omega
  · intro h
    by_cases q : frc c d < frc a b
    · have := this.mp q; omega
    · grind
theorem frc_0 (q : Int) : frc 0 q = 0 := by unfold frc; rw [Rat.intCast_zero, Rat.div_def, Rat.zero_mul]
theorem simp_z {S : Rat → Prop} {p q : Int} (h : Simp S p q) (h0 : S 0) : p = 0 := by
  have := h.2.2.2 0 (by rw [frc_0]; exact h0)
  omega
theorem frc_neg (p q : Int) : frc (-p) q = - frc p q := by
  unfold frc; push_cast; rw [Rat.div_def, Rat.div_def]; grind
theorem frc_sg {p q : Int} (hq : 0 < q) : (0 ≤ frc p q ↔ 0 ≤ p) ∧ (frc p q ≤ 0 ↔ p ≤ 0) := by
  have a := frc_le (a := 0) (b := q) (c := p) (d := q) hq hq
  have b := frc_le (a := p) (b := q) (c := 0) (d := q) hq hq
  rw [frc_0] at a b
  rw [Int.zero_mul] at a b
  constructor
  · rw [a]
    constructor
    · intro h
      by_cases z : 0 ≤ p
      · exact z
      · have := Int.mul_pos (show 0 < -p by omega) hq
        rw [Int.neg_mul] at this; omega
    · intro h; exact Int.mul_nonneg h (Int.le_of_lt hq)
  · rw [b]
    constructor
    · intro h
      by_cases z : p ≤ 0
      · exact z
      · have := Int.mul_pos (show 0 < p by omega) hq; omega
    · intro h
      have := Int.mul_nonneg (show 0 ≤ -p by omega) (Int.le_of_lt hq)
      rw [Int.neg_mul] at this; omega
/-- one and the same -/
theorem simp_one {S : Rat → Prop} (hC : Cvx S) {p q p' q' : Int} (h : Simp S p q) (h' : Simp S p' q') : p = p' ∧ q = q' := by
  have e : q = q' := by
    have a := h.2.2.1 p' q' h'.1 h'.2.1
    have b := h'.2.2.1 p q h.1 h.2.1
    omega
  subst e
  refine ⟨?_, rfl⟩
  have a := h.2.2.2 p' h'.2.1
  have b := h'.2.2.2 p h.2.1
  by_cases z : p = p'
  · exact z
  · exfalso
    have hs : S 0 := by
      rcases (show (0 ≤ p ∧ p' ≤ 0) ∨ (p ≤ 0 ∧ 0 ≤ p') by omega) with w | w
      · exact hC _ _ _ h'.2.1 h.2.1 ((frc_sg h.1).2.mpr w.2) ((frc_sg h.1).1.mpr w.1)
      · exact hC _ _ _ h.2.1 h'.2.1 ((frc_sg h.1).2.mpr w.1) ((frc_sg h.1).1.mpr w.2)
    have := simp_z h hs
    have := simp_z h' hs
    omega
/-- its top is smallest too -/
theorem simp_num {S : Rat → Prop} (hC : Cvx S) {p q p' q' : Int} (h : Simp S p q) (hq' : 0 < q') (h' : S (frc p' q')) : p.natAbs ≤ p'.natAbs := by
  by_cases z : p.natAbs ≤ p'.natAbs
  · exact z
  · exfalso
    have hqq := h.2.2.1 p' q' hq' h'
    have hq := h.1
    by_cases s0 : S 0
    · have := simp_z h s0; omega
    rcases (show 0 < p ∨ p < 0 by omega) with w | w
    · have p1 : 0 < p' := by
        by_cases y : 0 < p'
        · exact y
        · exact absurd (hC _ 0 _ h' h.2.1 ((frc_sg hq').2.mpr (by omega)) ((frc_sg hq).1.mpr (by omega))) s0
      have m : S (frc (p - 1) q) := by
        refine hC _ _ _ h' h.2.1 ((frc_le hq' hq).mpr ?_) ((frc_le hq hq).mpr ?_)
        · have a1 : p' * q ≤ (p - 1) * q := Int.mul_le_mul_of_nonneg_right (by omega) (by omega)
          have a2 : (p - 1) * q ≤ (p - 1) * q' := Int.mul_le_mul_of_nonneg_left hqq (by omega)
          omega
        · exact Int.mul_le_mul_of_nonneg_right (by omega) (by omega)
      have := h.2.2.2 _ m
      omega
    · have p1 : p' < 0 := by
        by_cases y : p' < 0
        · exact y
        · exact absurd (hC _ 0 _ h.2.1 h' ((frc_sg hq).2.mpr (by omega)) ((frc_sg hq').1.mpr (by omega))) s0
      have m : S (frc (p + 1) q) := by
        refine hC _ _ _ h.2.1 h' ((frc_le hq hq).mpr ?_) ((frc_le hq hq').mpr ?_)
        · exact Int.mul_le_mul_of_nonneg_right (by omega) (by omega)
        · have a1 : (-p') * q ≤ (-(p + 1)) * q := Int.mul_le_mul_of_nonneg_right (by omega) (by omega)
          have a2 : (-(p + 1)) * q ≤ (-(p + 1)) * q' := Int.mul_le_mul_of_nonneg_left hqq (by omega)
          rw [Int.neg_mul] at a1 a2
          rw [Int.neg_mul] at a1 a2
          omega
      have := h.2.2.2 _ m
      omega
theorem simp_congr {S S' : Rat → Prop} (e : ∀ t, S t ↔ S' t) {p q : Int} (h : Simp S p q) : Simp S' p q := ⟨h.1, (e _).mp h.2.1, fun a b c d => h.2.2.1 a b c ((e _).mpr d), fun a d => h.2.2.2 a ((e _).mpr d)⟩
/-- mirrored -/
theorem simp_neg {S : Rat → Prop} {p q : Int} (h : Simp (fun t => S (-t)) p q) : Simp S (-p) q := by
  obtain ⟨a, b, c, d⟩ := h
  refine ⟨a, by rw [frc_neg]; exact b, fun p' q' h1 h2 => c (-p') q' h1 ?_, fun p' h2 => ?_⟩
  · show S (- frc (-p') q')
    rw [frc_neg, Rat.neg_neg]; exact h2
  · have := d (-p') (by show S (- frc (-p') q); rw [frc_neg, Rat.neg_neg]; exact h2)
    omega
/-- an interval whose ends are fractions of bounded size holds a fraction of bounded size -/
def EB (A B : Int) (e : End) : Prop := ∀ x, e = some x → ∃ n d : Int, 0 < d ∧ d ≤ B ∧ -A ≤ n ∧ n ≤ A ∧ x.1 = frc n d
theorem wit_z {A B : Int} {L H : End} (hL : EB A B L) (hH : EB A B H) (hA : 0 ≤ A) (hB : 1 ≤ B) (hne : ∃ t, IV L H t) : ∃ p q : Int, 0 < q ∧ q ≤ 2 * B ∧ (p.natAbs : Int) ≤ 2 * A + B ∧ IV L H (frc p q) := by
  obtain ⟨t, ht⟩ := hne
  cases L with
  | none =>
    cases H with
    | none => exact ⟨0, 1, by omega, by omega, by simp; omega, ⟨fun x hx => (by cases hx), fun x hx => (by cases hx)⟩⟩
    | some y =>
      obtain ⟨n, d, d0, d1, n0, n1, e⟩ := hH y rfl
      refine ⟨n - d, d, d0, by omega, by omega, fun x hx => (by cases hx), fun x hx => ?_⟩
      cases hx
      left
      rw [e]
      exact (frc_lt d0 d0).mpr (by have := Int.mul_pos d0 d0; rw [Int.sub_mul]; omega)
  | some x =>
    obtain ⟨n, d, d0, d1, n0, n1, e⟩ := hL x rfl
    cases H with
    | none =>
      refine ⟨d - n, d, d0, by omega, by omega, fun x' hx => ?_, fun x hx => (by cases hx)⟩
      cases hx
      left
      rw [e, ← frc_neg]
      exact (frc_lt d0 d0).mpr (by have := Int.mul_pos d0 d0; rw [Int.neg_sub, Int.sub_mul]; omega)
    | some y =>
      obtain ⟨n', d', d0', d1', n0', n1', e'⟩ := hH y rfl
      have h1 := ht.1 x rfl
      have h2 := ht.2 y rfl
      unfold upB at h1 h2
      have le : - x.1 ≤ y.1 := by rcases h1 with h1 | h1 <;> rcases h2 with h2 | h2 <;> grind
      by_cases q : - x.1 < y.1
      · have q' : frc (-n) d < frc n' d' := by rw [frc_neg, ← e, ← e']; exact q
        rw [frc_lt d0 d0'] at q'
        refine ⟨n' - n, d + d', by omega, by omega, by omega, fun x' hx => ?_, fun x' hx => ?_⟩
        · cases hx
          left
          rw [e, ← frc_neg]
          refine (frc_lt (by omega) d0).mpr ?_
          rw [Int.neg_mul] at q'
          rw [Int.neg_sub, Int.sub_mul, Int.mul_add]
          omega
        · cases hx
          left
          rw [e']
          refine (frc_lt (by omega) d0').mpr ?_
          rw [Int.neg_mul] at q'
          rw [Int.sub_mul, Int.mul_add]
          omega
      · have et : t = frc n' d' := by
          rw [← e']
          rcases h1 with h1 | h1 <;> rcases h2 with h2 | h2 <;> grind
        exact ⟨n', d', d0', by omega, by omega, by rw [← et]; exact ht⟩
theorem iv_cvx (L H : End) : Cvx (IV L H) := fun a b c ha hc h1 h2 => ⟨fun x hx => by
    have := ha.1 x hx
    unfold upB at this ⊢
    rcases this with w | w
    · left; grind
    · rcases (show a < b ∨ a = b by grind) with y | y
      · left; grind
      · right; rw [← y]; exact w, fun x hx => by
    have := hc.2 x hx
    unfold upB at this ⊢
    rcases this with w | w
    · left; grind
    · rcases (show b < c ∨ b = c by grind) with y | y
      · left; grind
      · right; rw [y]; exact w⟩
