/-! cuts, the lower side, and the whole -/
theorem cut_low {BA BE : Int} {h : Hp} {C : Nat} (hBE : BE * BA ≤ 4000000000000000000) (hBA : BA ≤ 4000000000000000000) (hE : BE ≤ 4000000000000000000) (hI : WFI BA BE h C) {a d x : Int64} {s : Bool} (ha : a.toInt < 0) (ha2 : -BA ≤ a.toInt) (hd : -BE ≤ d.toInt ∧ d.toInt ≤ BE) (hx : (h.1 C 20 = 0 ∧ 0 < x.toInt) ∨ (h.1 C 20 = 1 ∧ x.toInt = (h.2 C 21).toInt * a.toInt - d.toInt * (h.2 C 22).toInt)) : CutP BA BE h C a.toInt d.toInt s (s_X10_cuts_b175 C a d (bI s) x h) := by
  have hI2 := hI.1
  unfold hasE at hI2
  have na : (-a).toInt = - a.toInt := negl_z (by omega)
  have nd : (-d).toInt = - d.toInt := negl_z (by omega)
  have nn : ∀ u : Int, (-u) * (- a.toInt) = u * a.toInt := fun u => by rw [Int.neg_mul_neg]
  unfold s_X10_cuts_b175 s_X10_cuts_b235 s_X10_cuts_b208 s_X10_cuts_b240 s_X10_cuts_b243
  by_cases c : 0 < x.toInt
  · rw [if_pos (show (0 : Int64) < x from ltl_z.mpr c), lt_red, lt_red]
    have : ∀ k : Int32 → Option Hp, (if bI s = 1 then k 1 else k 0) = k (bI s) := fun k => by cases s <;> simp [bI]
    rw [this (fun v => ckB v (lt (sI (sJ (sJ h C 21 (-d)) C 22 (-a)) C 23 v) fun h4 => lt (sI h4 C 20 1) fun h5 => some h5)), ckB_b, lt_red, lt_red]
    refine ⟨_, rfl, ((((Fr.sJ (by simp)).tr (Fr.sJ (by simp))).tr (Fr.sI (by simp))).tr (Fr.sI (by simp))), fun k hk => ?_, ?_, fun t => ?_⟩
    · simp at hk
      constructor
      · rw [sI_ne (by omega), sI_ne (by omega), sJ_I, sJ_I]
      · rw [sI_J, sI_J, sJ_ne (by omega), sJ_ne (by omega)]
    · unfold WFI hasE at *
      refine ⟨?_, by simpa [sI, sJ] using hI.2.1, by simpa [sI, sJ] using hI.2.2⟩
      right
      rw [sI_same, sI_J, sI_J, sJ_same, sJ_ne (by omega), sJ_same, sI_ne (by omega), sI_same, na, nd]
      refine ⟨rfl, by omega, by omega, by omega, by omega, ?_⟩
      cases s <;> simp [bI]
    · unfold inI lowS highS
      have hs : decide (bI s = 1) = s := by cases s <;> rfl
      rw [sI_same, sI_J, sI_J, sJ_same, sJ_ne (c' := C) (k' := 21) (by omega), sJ_same, sI_ne (c' := C) (k' := 23) (by omega), sI_same, na, nd, hs, Int.neg_neg, ups_neg, sI_ne (c' := C) (k' := 28) (by omega), sI_ne (c' := C) (k' := 28) (by omega), sI_ne (c' := C) (k' := 24) (by omega), sI_ne (c' := C) (k' := 24) (by omega), sI_ne (c' := C) (k' := 27) (by omega), sI_ne (c' := C) (k' := 27) (by omega), sJ_ne (c' := C) (k' := 25) (by omega), sJ_ne (c' := C) (k' := 25) (by omega), sJ_ne (c' := C) (k' := 26) (by omega), sJ_ne (c' := C) (k' := 26) (by omega), sJ_I, sJ_I]
      rcases hx with ⟨q, -⟩ | ⟨q, r⟩
      · rw [q]
        constructor
        · rintro ⟨z1, z2, z3⟩; exact ⟨⟨z1, fun w => absurd w (by decide), z3⟩, z2 rfl⟩
        · rintro ⟨⟨z1, z2, z3⟩, z4⟩; exact ⟨z1, fun _ => z4, z3⟩
      · rw [q]
        have hp : 0 < (h.2 C 22).toInt := by
          rcases hI2 with w | w
          · rw [w] at q; exact absurd q (by decide)
          · exact w.2.1
        constructor
        · rintro ⟨z1, z2, z3⟩
          refine ⟨⟨z1, fun _ => ?_, z3⟩, z2 rfl⟩
          exact ups_lt (a := - a.toInt) (d := d.toInt) (s := s) (by omega) hp (by rw [nn]; omega) (ups_neg.mpr (z2 rfl))
        · rintro ⟨⟨z1, z2, z3⟩, z4⟩; exact ⟨z1, fun _ => z4, z3⟩
  · rw [if_neg (fun z : (0 : Int64) < x => c (ltl_z.mp z))]
    rcases hx with ⟨q, r⟩ | ⟨q, r⟩
    · exact absurd r c
    rcases hI2 with w | ⟨-, w1, w2, w3, w4, w5⟩
    · rw [w] at q; exact absurd q (by decide)
    by_cases e : x.toInt = 0
    · rw [if_pos (eql_z.mpr e)]
      have : ∀ k : Int32 → Option Hp, (if h.1 C 23 = 0 then (if bI s = 1 then k 1 else k 0) else k 1) = k (bI (decide (h.1 C 23 = 1) || s)) := fun k => by rcases w5 with w | w <;> rw [w] <;> cases s <;> simp [bI]
      rw [this (fun v => ckB v (lt (sI h C 23 v) fun h4 => lt (sI h4 C 20 1) fun h5 => some h5)), ckB_b, lt_red, lt_red]
      refine ⟨_, rfl, (Fr.sI (by simp)).tr (Fr.sI (by simp)), fun k hk => ?_, ?_, fun t => ?_⟩
      · simp at hk
        constructor
        · rw [sI_ne (by omega), sI_ne (by omega)]
        · rw [sI_J, sI_J]
      · unfold WFI hasE at *
        refine ⟨?_, by simpa [sI, sJ] using hI.2.1, by simpa [sI, sJ] using hI.2.2⟩
        right
        simp [sI, sJ]
        refine ⟨w1, w2, w3, w4, ?_⟩
        generalize (decide (h.1 C 23 = 1) || s) = b
        cases b <;> simp [bI]
      · have key := ups_eq (s := s) (o := decide (h.1 C 23 = 1)) (t := -t) (a := - a.toInt) (by omega) w1 (d := d.toInt) (e := - (h.2 C 21).toInt) (by rw [nn]; omega)
        rw [ups_neg] at key
        have hs : ∀ b : Bool, decide (bI b = 1) = b := fun b => by cases b <;> rfl
        unfold inI lowS highS
        rw [sI_same, sI_ne (c' := C) (k' := 28) (by omega), sI_ne (c' := C) (k' := 28) (by omega), sI_ne (c' := C) (k' := 24) (by omega), sI_ne (c' := C) (k' := 24) (by omega), sI_ne (c' := C) (k' := 27) (by omega), sI_ne (c' := C) (k' := 27) (by omega), sI_ne (c' := C) (k' := 23) (by omega), sI_same, sI_J, sI_J, hs, key, q]
        constructor
        · rintro ⟨z1, z2, z3⟩; exact ⟨⟨z1, fun _ => (z2 rfl).1, z3⟩, (z2 rfl).2⟩
        · rintro ⟨⟨z1, z2, z4⟩, z3⟩; exact ⟨z1, fun _ => ⟨z2 rfl, z3⟩, z4⟩
    · rw [if_neg (fun z => e (eql_z.mp z)), lt_red]
      have hh : ∀ k, (sI h C 20 1).1 C k = h.1 C k := fun k => by
        by_cases z : k = 20
        · subst z; rw [sI_same, q]
        · rw [sI_ne z]
      refine ⟨_, rfl, Fr.sI (by simp), fun k hk => ⟨hh k, by rw [sI_J]⟩, ?_, fun t => ?_⟩
      · unfold WFI hasE at *
        simp only [hh, sI_J]; exact hI
      · unfold inI lowS highS
        simp only [hh, sI_J]
        constructor
        · rintro ⟨z1, z2, z3⟩
          refine ⟨⟨z1, z2, z3⟩, ups_neg.mp (ups_lt w1 (b := - a.toInt) (by omega) ?_ (z2 q))⟩
          rw [nn]; omega
        · rintro ⟨z, -⟩; exact z
theorem cuts_z {BA BE : Int} {h : Hp} {C : Nat} (hBE : BE * BA ≤ 4000000000000000000) (hBA : BA ≤ 4000000000000000000) (hE : BE ≤ 4000000000000000000) (hI : WFI BA BE h C) {a d : Int64} {s : Bool} (ha : -BA ≤ a.toInt ∧ a.toInt ≤ BA) (hd : -BE ≤ d.toInt ∧ d.toInt ≤ BE) : CutP BA BE h C a.toInt d.toInt s (s_X10_cuts C a d (bI s) h) := by
  have na : (-a).toInt = - a.toInt := negl_z (by omega)
  have nd : (-d).toInt = - d.toInt := negl_z (by omega)
  have z0 : (0 : Int64).toInt = 0 := by decide
  unfold s_X10_cuts s_X10_cuts_b32 s_X10_cuts_b36
  by_cases c : a.toInt = 0
  · rw [if_pos (eql_z.mpr c), c]
    by_cases n : h.1 C 28 = 0
    · rw [if_pos n]
      by_cases e : d.toInt < 0
      · rw [if_pos (ltl_z.mpr e), one32]
        exact cut_none hI (Iff.intro (fun z => nomatch z) (fun z => by have := z.2; omega))
      · rw [if_neg (fun z => e (ltl_z.mp z))]
        by_cases g : d.toInt = 0
        · rw [if_pos (eql_z.mpr g)]
          cases s
          · rw [if_neg (by decide), zero32]
            exact cut_none hI (by constructor <;> intro z <;> simp_all)
          · rw [if_pos (by decide), one32]
            exact cut_none hI (by constructor <;> intro z <;> simp_all)
        · rw [if_neg (fun z => g (eql_z.mp z)), zero32]
          exact cut_none hI ⟨fun _ => ⟨n, Or.inl (by omega)⟩, fun _ => rfl⟩
    · rw [if_neg n, one32]
      exact cut_none hI (Iff.intro (fun z => nomatch z) (fun z => absurd z.1 n))
  · rw [if_neg (fun z => c (eql_z.mp z))]
    by_cases p : 0 < a.toInt
    · rw [if_pos (show (0 : Int64) < a from ltl_z.mpr p)]
      rcases hI.2.1 with w | ⟨w, w1, w2, w3, w4, w5⟩
      · rw [if_pos w]
        exact cut_high hI p (by omega) hd (Or.inl ⟨w, by decide⟩)
      · rw [if_neg (by rw [w]; decide)]
        have m1 := mulb (A := BE) (B := BA) (a := d.toInt) (b := (h.2 C 26).toInt) (by omega) (by omega) (by omega) (by omega)
        have m2 := mulb (A := BE) (B := BA) (a := (h.2 C 25).toInt) (b := a.toInt) (by omega) (by omega) (by omega) (by omega)
        have e1 : (d * h.2 C 26).toInt = d.toInt * (h.2 C 26).toInt := mull_z (by omega) (by omega)
        have e2 : (h.2 C 25 * a).toInt = (h.2 C 25).toInt * a.toInt := mull_z (by omega) (by omega)
        exact cut_high hI p (by omega) hd (Or.inr ⟨w, by rw [subl_z (by rw [e1, e2]; omega) (by rw [e1, e2]; omega), e1, e2]⟩)
    · rw [if_neg (fun z : (0 : Int64) < a => p (ltl_z.mp z))]
      rcases hI.1 with w | ⟨w, w1, w2, w3, w4, w5⟩
      · rw [if_pos w]
        exact cut_low hBE hBA hE hI (by omega) (by omega) hd (Or.inl ⟨w, by decide⟩)
      · rw [if_neg (by rw [w]; decide)]
        have m1 := mulb (A := BE) (B := BA) (a := - d.toInt) (b := (h.2 C 22).toInt) (by omega) (by omega) (by omega) (by omega)
        have m2 := mulb (A := BE) (B := BA) (a := (h.2 C 21).toInt) (b := - a.toInt) (by omega) (by omega) (by omega) (by omega)
        have e1 : (-d * h.2 C 22).toInt = - d.toInt * (h.2 C 22).toInt := by rw [mull_z (by rw [nd]; omega) (by rw [nd]; omega), nd]
        have e2 : (h.2 C 21 * -a).toInt = (h.2 C 21).toInt * - a.toInt := by rw [mull_z (by rw [na]; omega) (by rw [na]; omega), na]
        refine cut_low hBE hBA hE hI (by omega) (by omega) hd (Or.inr ⟨w, ?_⟩)
        rw [subl_z (by rw [e1, e2]; omega) (by rw [e1, e2]; omega), e1, e2, Int.neg_mul, Int.mul_neg]
        omega
