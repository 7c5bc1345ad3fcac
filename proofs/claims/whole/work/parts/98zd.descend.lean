/-! the class's descent: continued fractions -/
def inJ (a b : Int) (o en : Bool) (c d : Int) (o2 : Bool) (P Q : Int) : Prop := (a * Q < P * b ∨ (a * Q = P * b ∧ o = false)) ∧ (en = true → P * d < c * Q ∨ (P * d = c * Q ∧ o2 = false))
def Strg (R : Int → Int → Prop) (P Q : Int) : Prop := 0 < Q ∧ R P Q ∧ ∀ P' Q' : Int, 0 < Q' → R P' Q' → Q ≤ Q' ∧ P ≤ P'
def fst1 (a b : Int) (o : Bool) : Int := if o = true then a / b + 1 else -((-a) / b)
theorem pos_l {x y : Int} (hy : 0 < y) (h : 0 < x * y) : 0 < x := by
  by_cases q : 0 < x
  · exact q
  · have := Int.mul_nonneg (show 0 ≤ -x by omega) (Int.le_of_lt hy)
    rw [Int.neg_mul] at this; omega
theorem fst1_z {a b : Int} {o : Bool} (hb : 0 < b) : (a < fst1 a b o * b ∨ (a = fst1 a b o * b ∧ o = false)) ∧ ((fst1 a b o - 1) * b < a ∨ ((fst1 a b o - 1) * b = a ∧ o = true)) := by
  unfold fst1
  cases o
  · rw [if_neg (by decide)]
    obtain ⟨c1, c2⟩ := ceil_bd (X := a) hb
    rw [Int.sub_mul, Int.one_mul]
    refine ⟨?_, Or.inl (by omega)⟩
    by_cases z : a = -((-a) / b) * b
    · exact Or.inr ⟨z, rfl⟩
    · exact Or.inl (by omega)
  · rw [if_pos rfl]
    obtain ⟨c1, c2⟩ := floor_bd (X := a) hb
    rw [Int.add_sub_cancel, Int.add_mul, Int.one_mul]
    refine ⟨Or.inl (by omega), ?_⟩
    by_cases z : a / b * b = a
    · exact Or.inr ⟨z, rfl⟩
    · exact Or.inl (by omega)
theorem fst1_pos {a b : Int} {o : Bool} (hb : 0 < b) (ha : 0 ≤ a) (h0 : a = 0 → o = true) : 0 < fst1 a b o := by
  refine pos_l hb ?_
  rcases (fst1_z (a := a) (o := o) hb).1 with w | ⟨w, e⟩
  · omega
  · have : a ≠ 0 := fun q => by have := h0 q; rw [e] at this; cases this
    omega
theorem strg_base {a b c d : Int} {o en o2 : Bool} (hb : 0 < b) (ha : 0 ≤ a) (hup : en = true → fst1 a b o * d < c ∨ (fst1 a b o * d = c ∧ o2 = false)) : Strg (inJ a b o en c d o2) (fst1 a b o) 1 := by
  obtain ⟨f1, f2⟩ := fst1_z (a := a) (o := o) hb
  generalize fst1 a b o = f at *
  refine ⟨by omega, ⟨by rw [Int.mul_one]; exact f1, by rw [Int.mul_one]; exact hup⟩, fun P' Q' hQ hJ => ⟨by omega, ?_⟩⟩
  by_cases q : f ≤ P'
  · exact q
  · exfalso
    have m1 : P' * b ≤ (f - 1) * b := Int.mul_le_mul_of_nonneg_right (by omega) (by omega)
    have m2 : a * 1 ≤ a * Q' := Int.mul_le_mul_of_nonneg_left (by omega) ha
    rw [Int.mul_one] at m2
    rcases hJ.1 with w | ⟨w, e⟩
    · rcases f2 with y | ⟨y, -⟩ <;> omega
    · rcases f2 with y | ⟨y, e2⟩
      · omega
      · rw [e] at e2; cases e2
theorem inJ_step {a b c d k : Int} {o o2 : Bool} {P Q : Int} (hb : 0 < b) (hQ : 0 < Q) (h0 : 0 ≤ a - k * b) : inJ d (c - k * d) o2 (decide (0 < a - k * b)) b (a - k * b) o P Q ↔ inJ a b o true c d o2 (k * P + Q) P := by
  unfold inJ
  have e1 : P * (a - k * b) = a * P - k * P * b := by grind
  have e2 : (k * P + Q) * b = k * P * b + b * Q := by grind
  have e3 : (k * P + Q) * d = k * P * d + d * Q := by grind
  have e4 : P * (c - k * d) = c * P - k * P * d := by grind
  have hbQ := Int.mul_pos hb hQ
  rw [e2, e3, e4]
  constructor
  · rintro ⟨h1, h2⟩
    refine ⟨?_, fun _ => ?_⟩
    · by_cases w : 0 < a - k * b
      · have := h2 (decide_eq_true w)
        rw [e1] at this
        rcases this with y | ⟨y, z⟩
        · left; omega
        · right; exact ⟨by omega, z⟩
      · have w0 : a - k * b = 0 := by omega
        rw [w0, Int.mul_zero] at e1
        left; omega
    · rcases h1 with y | ⟨y, z⟩
      · left; omega
      · right; exact ⟨by omega, z⟩
  · rintro ⟨h1, h2⟩
    refine ⟨?_, fun _ => ?_⟩
    · rcases h2 rfl with y | ⟨y, z⟩
      · left; omega
      · right; exact ⟨by omega, z⟩
    · rw [e1]
      rcases h1 with y | ⟨y, z⟩
      · left; omega
      · right; exact ⟨by omega, z⟩
theorem inJ_pos {a b c d k : Int} {o en o2 : Bool} {P Q : Int} (hb : 0 < b) (hQ : 0 < Q) (h0 : 0 ≤ a - k * b) (hz : a - k * b = 0 → o = true) (h : inJ a b o en c d o2 P Q) : 0 < P - k * Q := by
  have e1 : (P - k * Q) * b = P * b - k * Q * b := by grind
  have e2 : (a - k * b) * Q = a * Q - k * Q * b := by grind
  have n := Int.mul_nonneg h0 (Int.le_of_lt hQ)
  rw [e2] at n
  refine pos_l hb ?_
  rw [e1]
  rcases h.1 with w | ⟨w, e⟩
  · omega
  · have z : a - k * b ≠ 0 := fun q => by have := hz q; rw [e] at this; cases this
    have := Int.mul_pos (show 0 < a - k * b by omega) hQ
    rw [e2] at this
    omega
theorem inJ_rest {a b c d k : Int} {o o2 : Bool} {P Q : Int} (hQ : 0 < Q) (hd : 0 < d) (hp : 0 < P - k * Q) (h : inJ a b o true c d o2 P Q) : 0 < c - k * d := by
  have e1 : (P - k * Q) * d = P * d - k * d * Q := by grind
  have e2 : (c - k * d) * Q = c * Q - k * d * Q := by grind
  have m := Int.mul_pos hp hd
  rw [e1] at m
  refine pos_l hQ ?_
  rw [e2]
  rcases h.2 rfl with w | ⟨w, -⟩ <;> omega
theorem strg_step {a b c d k : Int} {o o2 : Bool} {P Q : Int} (hb : 0 < b) (hd : 0 < d) (hk : 0 ≤ k) (h0 : 0 ≤ a - k * b) (hz : a - k * b = 0 → o = true) (hr : 0 < c - k * d) (h : Strg (inJ d (c - k * d) o2 (decide (0 < a - k * b)) b (a - k * b) o) P Q) : Strg (inJ a b o true c d o2) (k * P + Q) P := by
  obtain ⟨hQ, hJ, hm⟩ := h
  have hP : 0 < P := by
    have m := Int.mul_pos hd hQ
    refine pos_l hr ?_
    rcases hJ.1 with w | ⟨w, -⟩ <;> omega
  refine ⟨hP, (inJ_step hb hQ h0).mp hJ, fun P' Q' hQ' hJ' => ?_⟩
  have hp := inJ_pos hb hQ' h0 hz hJ'
  have e : k * Q' + (P' - k * Q') = P' := by omega
  obtain ⟨m1, m2⟩ := hm Q' (P' - k * Q') hp ((inJ_step hb hp h0).mpr (by rw [e]; exact hJ'))
  refine ⟨m2, ?_⟩
  have := Int.mul_le_mul_of_nonneg_left m2 hk
  omega
theorem fst1_le {a b c d : Int} {o en o2 : Bool} {P Q : Int} (hb : 0 < b) (ha : 0 ≤ a) (hQ : 0 < Q) (h : inJ a b o en c d o2 P Q) : fst1 a b o ≤ P + 1 := by
  have f2 := (fst1_z (a := a) (o := o) hb).2
  generalize fst1 a b o = f at *
  by_cases q : f ≤ P + 1
  · exact q
  · exfalso
    have m1 : (P + 1) * b ≤ (f - 1) * b := Int.mul_le_mul_of_nonneg_right (by omega) (by omega)
    rw [Int.add_mul, Int.one_mul] at m1
    have m2 : a * 1 ≤ a * Q := Int.mul_le_mul_of_nonneg_left (by omega) ha
    rw [Int.mul_one] at m2
    rcases h.1 with w | ⟨w, e⟩ <;> rcases f2 with y | ⟨y, -⟩ <;> omega
theorem xor_neg {a b : Int64} (hb : 0 < b.toInt) : (a ^^^ b) < (0 : Int64) ↔ a.toInt < 0 := by
  show ((a.toBitVec ^^^ b.toBitVec).slt 0#64 = true) ↔ a.toInt < 0
  rw [BitVec.slt_zero_iff_msb_cond, BitVec.msb_xor, BitVec.msb_eq_toInt, BitVec.msb_eq_toInt]
  show ((decide (a.toInt < 0) ^^ decide (b.toInt < 0)) = true) ↔ _
  rw [decide_eq_false (show ¬ b.toInt < 0 by omega), Bool.xor_false]
  exact decide_eq_true_iff
theorem floorDiv_z {a b : Int64} {h : Hp} {x y : Int} (ha : a.toInt = x) (hb : b.toInt = y) (hy : 0 < y) (hx1 : -4000000000000000000 ≤ x) (hx2 : x ≤ 4000000000000000000) : s_J9_floorDiv_f86c9 a b h = some (i64 (x / y)) := by
  have yn : ¬ b = 0 := fun q => by rw [q] at hb; have : (0 : Int64).toInt = 0 := by decide
                                   omega
  have ed : (a / b).toInt = x.tdiv y := by rw [Jvm.Kit.i64_div (by omega), ha, hb]
  have e : y * x.tdiv y + x.tmod y = x := Int.mul_tdiv_add_tmod x y
  have r1 := Int.tmod_lt_of_pos x hy
  have r2 := Int.lt_tmod_of_pos x hy
  have e2 : x.tdiv y * y = y * x.tdiv y := Int.mul_comm _ _
  have yb : y ≤ 9223372036854775807 := by rw [← hb]; have := b.toInt_lt; omega
  have eq1 : a / b = i64 (x.tdiv y) := by rw [← ed, i64_of]
  have hs : (a ^^^ b) < (0 : Int64) ↔ x < 0 := by rw [xor_neg (by omega), ha]
  unfold s_J9_floorDiv_f86c9 nzJ
  rw [if_neg yn, lt_red, tdiv_fl hy]
  by_cases c : x < 0
  · have tm : 0 ≤ (-x).tmod y := Int.tmod_nonneg _ (by omega)
    rw [Int.neg_tmod] at tm
    have em : a / b * b = a ↔ x.tdiv y * y = x := by
      have : a / b * b = i64 (x.tdiv y * y) := by rw [eq1, ← i64_of b, hb, i64_mul]
      rw [this, eql_z, ha, i64_z (by omega) (by omega)]
    rw [if_pos (hs.mpr c)]
    by_cases z : x.tdiv y * y = x
    · rw [if_pos (em.mpr z), if_neg (show ¬ x - x.tdiv y * y < 0 by omega), eq1]
    · rw [if_neg (fun q => z (em.mp q)), if_pos (show x - x.tdiv y * y < 0 by omega), eq1, show (1 : Int64) = i64 1 from by decide, i64_sub]
  · have tm : 0 ≤ x.tmod y := Int.tmod_nonneg _ (by omega)
    rw [if_neg (fun q => c (hs.mp q)), if_neg (show ¬ x - x.tdiv y * y < 0 by omega), eq1]
theorem dl_first {c0 c1 c2 i : Nat} {a b : Int} {o : Bool} {x8 x10 : Int64} {x12 x13 : Int32} {p q r s : Int64} {h : Hp} (hi : i < 200) (hb : 0 < b ∧ b ≤ 4000000000000000000) (ha : 0 ≤ a ∧ a ≤ 4000000000000000000) : s_X8_descend_l57 c0 c1 c2 (i64 a) (i64 b) (bI o) x8 x10 x12 x13 p q r s (nI i) h = s_X8_descend_b96 c0 c1 c2 (i64 a) (i64 b) (bI o) x8 x10 x12 x13 p q r s (nI i) (i64 (fst1 a b o)) h := by
  have z0 : (0 : Int64) < i64 b := (i64_lt (x := 0) (by omega) (by omega)).mpr hb.1
  unfold s_X8_descend_l57
  rw [if_pos (nI_ltn hi (by omega) (by decide)), if_pos z0]
  cases o
  · have f0 : fst1 a b false = -((-a) / b) := rfl
    rw [if_pos (by decide), i64_neg, floorDiv_z (i64_z (by omega) (by omega)) (i64_z (by omega) (by omega)) hb.1 (by omega) (by omega), bnd_s, i64_neg, f0]
  · have f0 : fst1 a b true = a / b + 1 := rfl
    rw [if_neg (by decide), floorDiv_z (i64_z (by omega) (by omega)) (i64_z (by omega) (by omega)) hb.1 (by omega) (by omega), bnd_s, f0, show (1 : Int64) = i64 1 from by decide, i64_add]
theorem dl_done {c0 c1 c2 : Nat} {f c d : Int} {o2 en : Bool} {a3 a5 : Int64} {a7 a22 : Int32} {p q r s : Int} {h : Hp} (hfd : -4000000000000000000 ≤ f * d ∧ f * d ≤ 4000000000000000000) (hc : -4000000000000000000 ≤ c ∧ c ≤ 4000000000000000000) (hup : en = true → f * d < c ∨ (f * d = c ∧ o2 = false)) : s_X8_descend_b96 c0 c1 c2 a3 a5 a7 (i64 c) (i64 d) (bI o2) (bI en) (i64 p) (i64 q) (i64 r) (i64 s) a22 (i64 f) h = some (.inr (.inr (sJ (sJ h c0 5 (i64 (p * f + q))) c0 6 (i64 (r * f + s))))) := by
  have fin : s_X8_descend_b130 c0 c1 c2 (i64 p) (i64 q) (i64 r) (i64 s) (i64 f) h = some (.inr (.inr (sJ (sJ h c0 5 (i64 (p * f + q))) c0 6 (i64 (r * f + s))))) := by
    unfold s_X8_descend_b130
    rw [lt_red, lt_red, i64_mul, i64_add, i64_mul, i64_add]
  unfold s_X8_descend_b96
  cases en
  · rw [if_pos (by decide), fin]
  · rw [if_neg (by decide), i64_mul]
    rcases hup rfl with w | ⟨w, rfl⟩
    · rw [if_pos ((i64_lt hfd hc).mpr w), fin]
    · rw [if_neg (fun z => by have := (i64_lt hfd hc).mp z; omega), if_pos (by rw [w]), if_pos (by decide), fin]
theorem dl_more {c0 c1 c2 i : Nat} {a b f c d : Int} {o o2 : Bool} {p q r s : Int} {h : Hp} (hfd : -4000000000000000000 ≤ f * d ∧ f * d ≤ 4000000000000000000) (hc : -4000000000000000000 ≤ c ∧ c ≤ 4000000000000000000) (hup : ¬ (f * d < c ∨ (f * d = c ∧ o2 = false))) (hr : 0 ≤ a - (f - 1) * b ∧ a - (f - 1) * b ≤ 4000000000000000000) : s_X8_descend_b96 c0 c1 c2 (i64 a) (i64 b) (bI o) (i64 c) (i64 d) (bI o2) (bI true) (i64 p) (i64 q) (i64 r) (i64 s) (nI i) (i64 f) h = some (.inl (i64 d, i64 (c - (f - 1) * d), bI o2, i64 b, i64 (a - (f - 1) * b), bI o, bI (decide (0 < a - (f - 1) * b)), i64 (p * (f - 1) + q), i64 p, i64 (r * (f - 1) + s), i64 r, nI (i + 1), h)) := by
  have e1 : i64 f - (1 : Int64) = i64 (f - 1) := by rw [show (1 : Int64) = i64 1 from by decide, i64_sub]
  have fin : s_X8_descend_b155 c0 c1 c2 (i64 a) (i64 b) (bI o) (i64 c) (i64 d) (bI o2) (i64 p) (i64 q) (i64 r) (i64 s) (nI i) (i64 f) h = some (.inl (i64 d, i64 (c - (f - 1) * d), bI o2, i64 b, i64 (a - (f - 1) * b), bI o, bI (decide (0 < a - (f - 1) * b)), i64 (p * (f - 1) + q), i64 p, i64 (r * (f - 1) + s), i64 r, nI (i + 1), h)) := by
    unfold s_X8_descend_b155 s_X8_descend_b243
    simp only [lt_red]
    rw [e1, i64_mul, i64_sub, i64_mul, i64_sub, i64_mul, i64_add, i64_mul, i64_add, nI_1]
    have k0 : (0 : Int64) < i64 (a - (f - 1) * b) ↔ 0 < a - (f - 1) * b := i64_lt (x := 0) (by omega) (by omega)
    by_cases w : 0 < a - (f - 1) * b
    · rw [if_pos (k0.mpr w), decide_eq_true w]; rfl
    · rw [if_neg (fun z => w (k0.mp z)), decide_eq_false w]; rfl
  unfold s_X8_descend_b96
  rw [if_neg (by decide), i64_mul, if_neg (fun z => hup (Or.inl ((i64_lt hfd hc).mp z)))]
  by_cases e : f * d = c
  · have o1 : o2 = true := by
      cases o2
      · exact absurd (Or.inr ⟨e, rfl⟩) hup
      · rfl
    rw [if_pos (by rw [e]), if_neg (by rw [o1]; decide), fin]
  · rw [if_neg (fun z => e ((i64_eq hfd hc).mp z)), fin]
noncomputable abbrev dlf (c0 c1 c2 : Nat) : (Int64 × Int64 × Int32 × Int64 × Int64 × Int32 × Int32 × Int64 × Int64 × Int64 × Int64 × Int32 × Hp) → Option ((Int64 × Int64 × Int32 × Int64 × Int64 × Int32 × Int32 × Int64 × Int64 × Int64 × Int64 × Int32 × Hp) ⊕ ((Hp) ⊕ (Hp))) := fun s => s_X8_descend_l57 c0 c1 c2 s.1 s.2.1 s.2.2.1 s.2.2.2.1 s.2.2.2.2.1 s.2.2.2.2.2.1 s.2.2.2.2.2.2.1 s.2.2.2.2.2.2.2.1 s.2.2.2.2.2.2.2.2.1 s.2.2.2.2.2.2.2.2.2.1 s.2.2.2.2.2.2.2.2.2.2.1 s.2.2.2.2.2.2.2.2.2.2.2.1 s.2.2.2.2.2.2.2.2.2.2.2.2
theorem iter_s {σ ρ : Type} {f : σ → Option (σ ⊕ ρ)} {n : Nat} {s s' : σ} (h : f s = some (.inl s')) : iter f (n + 1) s = iter f n s' := by
  conv => lhs; unfold iter
  rw [h]
theorem iter_e {σ ρ : Type} {f : σ → Option (σ ⊕ ρ)} {n : Nat} {s : σ} {r : ρ} (h : f s = some (.inr r)) : iter f (n + 1) s = some r := by
  conv => lhs; unfold iter
  rw [h]
theorem desc_loop {c0 c1 c2 : Nat} {A B T : Int} (hA : 0 ≤ A) (hAB : (A + 1) * B ≤ 4000000000000000000) (hBT : B ≤ T) (hT : T ≤ 4000000000000000000) (h : Hp) : ∀ (n m i : Nat) (a b c d p q r s P Q W : Int) (o en o2 : Bool), (0 ≤ a ∧ a ≤ T) → (0 < b ∧ b ≤ B) → (a = 0 → o = true) → (-T ≤ c ∧ c ≤ T) → (0 ≤ d ∧ d ≤ B) → (en = true → 0 < d) → (0 < P ∧ P ≤ A) → (0 < Q ∧ Q ≤ A) → inJ a b o en c d o2 P Q → (W = 1 ∨ W = 2) → W * (P * Q) < 2 ^ n → (W = 1 → b ≤ a ∧ (a = b → o = true)) → i + n ≤ 150 → n ≤ m →
    ∃ P' Q' : Int, Strg (inJ a b o en c d o2) P' Q' ∧ iter (dlf c0 c1 c2) m (i64 a, i64 b, bI o, i64 c, i64 d, bI o2, bI en, i64 p, i64 q, i64 r, i64 s, nI i, h) = some (.inr (sJ (sJ h c0 5 (i64 (p * P' + q * Q'))) c0 6 (i64 (r * P' + s * Q')))) := by
  intro n
  induction n with
  | zero =>
    intro m i a b c d p q r s P Q W o en o2 _ _ _ _ _ _ hP hQ _ hW hm
    exfalso
    have := Int.mul_pos hP.1 hQ.1
    rcases hW with rfl | rfl <;> simp at hm <;> omega
  | succ n ih =>
    intro m i a b c d p q r s P Q W o en o2 ha hb h0 hc hd hen hP hQ hJ hW hm hG hi hnm
    obtain ⟨m, rfl⟩ : ∃ m', m = m' + 1 := ⟨m - 1, by omega⟩
    have f1 := fst1_z (a := a) (o := o) hb.1
    have fp := fst1_pos hb.1 ha.1 h0
    have fl := fst1_le hb.1 ha.1 hQ.1 hJ
    have hfd : 0 ≤ fst1 a b o * d ∧ fst1 a b o * d ≤ 4000000000000000000 := by
      refine ⟨Int.mul_nonneg (by omega) hd.1, ?_⟩
      have m1 : fst1 a b o * d ≤ (A + 1) * d := Int.mul_le_mul_of_nonneg_right (by omega) hd.1
      have m2 : (A + 1) * d ≤ (A + 1) * B := Int.mul_le_mul_of_nonneg_left hd.2 (by omega)
      omega
    have first := dl_first (c0 := c0) (c1 := c1) (c2 := c2) (i := i) (a := a) (b := b) (o := o) (x8 := i64 c) (x10 := i64 d) (x12 := bI o2) (x13 := bI en) (p := i64 p) (q := i64 q) (r := i64 r) (s := i64 s) (h := h) (by omega) ⟨hb.1, by omega⟩ ⟨ha.1, by omega⟩
    by_cases hup : en = true → fst1 a b o * d < c ∨ (fst1 a b o * d = c ∧ o2 = false)
    · refine ⟨fst1 a b o, 1, strg_base hb.1 ha.1 hup, ?_⟩
      rw [Int.mul_one, Int.mul_one]
      exact iter_e (first.trans (dl_done ⟨by omega, hfd.2⟩ ⟨by omega, by omega⟩ hup))
    · have en1 : en = true := by
        cases en
        · exact absurd (fun z => by cases z) hup
        · rfl
      subst en1
      have hup' : ¬ (fst1 a b o * d < c ∨ (fst1 a b o * d = c ∧ o2 = false)) := fun z => hup (fun _ => z)
      have hd0 := hen rfl
      generalize gf : fst1 a b o = f at *
      have r0 : 0 ≤ a - (f - 1) * b := by rcases f1.2 with w | ⟨w, -⟩ <;> omega
      have rz : a - (f - 1) * b = 0 → o = true := fun z => by
        rcases f1.2 with w | ⟨-, w⟩
        · omega
        · exact w
      have rb : a - (f - 1) * b ≤ b := by
        rw [Int.sub_mul, Int.one_mul]
        rcases f1.1 with w | ⟨w, -⟩ <;> omega
      have wp := inJ_pos hb.1 hQ.1 r0 rz hJ
      have wr := inJ_rest hQ.1 hd0 wp hJ
      have wd : c - (f - 1) * d ≤ d := by
        rw [Int.sub_mul, Int.one_mul]
        by_cases z : f * d < c
        · exact absurd (Or.inl z) hup'
        · omega
      have wo : d = c - (f - 1) * d → o2 = true := fun z => by
        rw [Int.sub_mul, Int.one_mul] at z
        cases o2
        · exact absurd (Or.inr ⟨by omega, rfl⟩) hup'
        · rfl
      have kQ := Int.mul_nonneg (show 0 ≤ f - 1 by omega) (Int.le_of_lt hQ.1)
      have hJ2 := (inJ_step (o2 := o2) (c := c) (d := d) (P := Q) (o := o) hb.1 wp r0).mpr (by rw [show (f - 1) * Q + (P - (f - 1) * Q) = P by omega]; exact hJ)
      have hms : 1 * (Q * (P - (f - 1) * Q)) < 2 ^ n := by
        rw [Int.one_mul]
        have p2 : (2 : Int) ^ (n + 1) = 2 * 2 ^ n := by rw [Int.pow_succ, Int.mul_comm]
        rw [p2] at hm
        have QP : P * Q = Q * P := Int.mul_comm _ _
        rcases hW with rfl | rfl
        · -- the integer is above 0
          obtain ⟨g1, g2⟩ := hG rfl
          have f2 : 2 ≤ f := by
            by_cases z : 2 ≤ f
            · exact z
            · exfalso
              have : f = 1 := by omega
              rw [this, Int.one_mul] at f1
              rcases f1.1 with w | ⟨w, e⟩
              · omega
              · have := g2 (by omega)
                rw [e] at this; cases this
          have pf : P ≤ f * Q := by
            by_cases z : P ≤ f * Q
            · exact z
            · exfalso
              have m1 := Int.mul_pos (show 0 < P - f * Q by omega) hd0
              have e1 : (P - f * Q) * d = P * d - f * d * Q := by grind
              rw [e1] at m1
              have m2 : c * Q ≤ f * d * Q := Int.mul_le_mul_of_nonneg_right (by
                by_cases y : f * d < c
                · exact absurd (Or.inl y) hup'
                · omega) (Int.le_of_lt hQ.1)
              rcases hJ.2 rfl with w | ⟨w, -⟩ <;> omega
          have k1 : 0 ≤ (f - 2) * Q := Int.mul_nonneg (by omega) (Int.le_of_lt hQ.1)
          have e3 : (f - 2) * Q = f * Q - 2 * Q := by grind
          have e4 : (f - 1) * Q = f * Q - Q := by grind
          have h2 : 2 * (P - (f - 1) * Q) ≤ P := by omega
          have m3 := Int.mul_le_mul_of_nonneg_left h2 (Int.le_of_lt hQ.1)
          have e5 : Q * (2 * (P - (f - 1) * Q)) = 2 * (Q * (P - (f - 1) * Q)) := by grind
          rw [e5] at m3
          omega
        · have m3 : Q * (P - (f - 1) * Q) ≤ Q * P := Int.mul_le_mul_of_nonneg_left (by omega) (Int.le_of_lt hQ.1)
          omega
      obtain ⟨P', Q', hS, hit⟩ := ih m (i + 1) d (c - (f - 1) * d) b (a - (f - 1) * b) (p * (f - 1) + q) p (r * (f - 1) + s) r Q (P - (f - 1) * Q) 1 o2 (decide (0 < a - (f - 1) * b)) o ⟨hd.1, by omega⟩ ⟨wr, by omega⟩ (fun z => by omega) ⟨by omega, by omega⟩ ⟨r0, by omega⟩ (fun z => of_decide_eq_true z) hQ ⟨wp, by omega⟩ hJ2 (Or.inl rfl) hms (fun _ => ⟨wd, wo⟩) (by omega) (by omega)
      refine ⟨(f - 1) * P' + Q', P', strg_step hb.1 hd0 (by omega) r0 rz wr hS, ?_⟩
      rw [iter_s (s' := (i64 d, i64 (c - (f - 1) * d), bI o2, i64 b, i64 (a - (f - 1) * b), bI o, bI (decide (0 < a - (f - 1) * b)), i64 (p * (f - 1) + q), i64 p, i64 (r * (f - 1) + s), i64 r, nI (i + 1), h)) (first.trans (dl_more ⟨by omega, hfd.2⟩ ⟨by omega, by omega⟩ hup' ⟨r0, by omega⟩)), hit]
      rw [show (p * (f - 1) + q) * P' + p * Q' = p * ((f - 1) * P' + Q') + q * P' by grind, show (r * (f - 1) + s) * P' + r * Q' = r * ((f - 1) * P' + Q') + s * P' by grind]
