/-! the supremum of a form by circuits -/
def sc (Y : Sys) (N : Nat) (u w : Int) : Sys := (Y.1, fun i => if i = N then -u else w * Y.2.1 i, Y.2.2.1, Y.2.2.2)
theorem lin_scale (f : Nat → Int) (w : Rat) (q : Nat → Rat) : lin f (fun v => w * q v) = w * lin f q := by unfold lin; grind
theorem hold_scale {Y : Sys} {N i : Nat} {u w : Int} (hw : 0 < w) (hi : i ≠ N) (q : Nat → Rat) : hold (sc Y N u w) i (fun v => (w : Rat) * q v) ↔ hold Y i q := by
  have w1 : (0 : Rat) < (w : Rat) := by exact_mod_cast hw
  unfold hold
  show (if Y.2.2.2 i = true then lin (Y.1 i) (fun v => (w : Rat) * q v) = (((if i = N then -u else w * Y.2.1 i : Int)) : Rat) else if Y.2.2.1 i = true then lin (Y.1 i) (fun v => (w : Rat) * q v) < (((if i = N then -u else w * Y.2.1 i : Int)) : Rat) else lin (Y.1 i) (fun v => (w : Rat) * q v) ≤ (((if i = N then -u else w * Y.2.1 i : Int)) : Rat)) ↔ _
  rw [if_neg hi, lin_scale]
  push_cast
  generalize lin (Y.1 i) q = x
  generalize ((Y.2.1 i : Int) : Rat) = d
  have k1 : (w : Rat) * x < (w : Rat) * d ↔ x < d := by
    constructor
    · intro z; have := pos_of w1 (x := d - x) (by grind); grind
    · intro z; have := Rat.mul_pos w1 (show 0 < d - x by grind); grind
  have k2 : (w : Rat) * x = (w : Rat) * d ↔ x = d := by
    constructor
    · intro z
      rcases Rat.mul_eq_zero.mp (show (w : Rat) * (x - d) = 0 by grind) with y | y <;> grind
    · intro z; rw [z]
  have k3 : (w : Rat) * x ≤ (w : Rat) * d ↔ x ≤ d := by
    constructor
    · intro z
      by_cases c : x ≤ d
      · exact c
      · have := Rat.mul_pos w1 (show 0 < x - d by grind); grind
    · intro z; have := Rat.mul_nonneg (Rat.le_of_lt w1) (show 0 ≤ d - x by grind); grind
  rw [k1, k2, k3]
theorem sat_scale {Y : Sys} {N : Nat} {u w : Int} {t : Rat} (hw : 0 < w) (ht : (w : Rat) * t = (u : Rat)) (hs : Y.2.2.1 N = false) (he : Y.2.2.2 N = false) : Sat (sc Y N u w) (List.range (N + 1)) ↔ ∃ q, (∀ i, i < N → hold Y i q) ∧ lin (Y.1 N) q ≤ -t := by
  have w1 : (0 : Rat) < (w : Rat) := by exact_mod_cast hw
  have last : ∀ q : Nat → Rat, hold (sc Y N u w) N (fun v => (w : Rat) * q v) ↔ lin (Y.1 N) q ≤ -t := fun q => by
    unfold hold
    show (if Y.2.2.2 N = true then _ else if Y.2.2.1 N = true then _ else lin (Y.1 N) (fun v => (w : Rat) * q v) ≤ (((if N = N then -u else w * Y.2.1 N : Int)) : Rat)) ↔ _
    rw [he, hs, if_neg (by decide), if_neg (by decide), if_pos rfl, lin_scale]
    push_cast
    rw [← ht]
    generalize lin (Y.1 N) q = x
    constructor
    · intro z
      by_cases c : x ≤ -t
      · exact c
      · have := Rat.mul_pos w1 (show 0 < x + t by grind); grind
    · intro z; have := Rat.mul_nonneg (Rat.le_of_lt w1) (show 0 ≤ -t - x by grind); grind
  constructor
  · rintro ⟨p, hp⟩
    have e : p = fun v => (w : Rat) * (p v / (w : Rat)) := by
      funext v
      rw [Rat.mul_comm, Rat.div_mul_cancel (by grind)]
    rw [e] at hp
    exact ⟨fun v => p v / (w : Rat), fun i hi => (hold_scale hw (by omega) _).mp (hp i (List.mem_range.mpr (by omega))), (last _).mp (hp N (List.mem_range.mpr (by omega)))⟩
  · rintro ⟨q, h1, h2⟩
    refine ⟨fun v => (w : Rat) * q v, fun i hi => ?_⟩
    by_cases c : i = N
    · subst c; exact (last q).mpr h2
    · exact (hold_scale hw c q).mpr (h1 i (by have := List.mem_range.mp hi; omega))
theorem circ_scale {Y : Sys} {N : Nat} {u w : Int} {T : List Nat} (hn : T.Nodup) (hN : N ∈ T) (he : Y.2.2.2 N = false) : circ (sc Y N u w) T = circ Y T := by
  unfold circ
  show (fac Y.1 T).bind (trn (sc Y N u w) T) = (fac Y.1 T).bind (trn Y T)
  cases hf : fac Y.1 T with
  | none => rfl
  | some f =>
    show trn (sc Y N u w) T f = trn Y T f
    have hd := fac_dep (Y := Y) hn hf
    have hne := hd.2 N hN
    have ha : above (sc Y N u w) T f = above Y T f := rfl
    have hb : below (sc Y N u w) T f = below Y T f := rfl
    have hor : above Y T f = true ∨ below Y T f = true := by
      rcases Int.lt_or_gt_of_ne hne with q | q
      · exact Or.inr (below_iff.mpr ⟨N, hN, he, q⟩)
      · exact Or.inl (above_iff.mpr ⟨N, hN, he, q⟩)
    unfold trn
    rw [ha, hb]
    rcases hor with q | q <;> rw [q] <;> simp
theorem clash_scale {Y : Sys} {N : Nat} {u w : Int} {t : Rat} {T : List Nat} (hw : 0 < w) (ht : (w : Rat) * t = (u : Rat)) (hn : T.Nodup) (hN : N ∈ T) (he : Y.2.2.2 N = false) (hd : Y.2.1 N = 0) : Clash (sc Y N u w) T ↔ ∃ g, circ Y T = some g ∧ ¬ UpS (g N) (sm T (fun i => g i * Y.2.1 i)) (T.any Y.2.2.1) t := by
  have w1 : (0 : Rat) < (w : Rat) := by exact_mod_cast hw
  have key : ∀ g : Nat → Int, sm T (fun i => g i * (sc Y N u w).2.1 i) = w * sm T (fun i => g i * Y.2.1 i) - g N * u := fun g => by
    have e1 : sm T (fun i => g i * (sc Y N u w).2.1 i) = sm T (fun i => w * (g i * Y.2.1 i) + (if i = N then (- u) else 0) * g i) := by
      apply sm_congr
      intro i hi
      show g i * (if i = N then -u else w * Y.2.1 i) = _
      by_cases c : i = N
      · subst c; rw [if_pos rfl, if_pos rfl, hd]; grind
      · rw [if_neg c, if_neg c]; grind
    rw [e1, sm_add, sm_mul, sm_ind hn hN]; grind
  unfold Clash
  rw [circ_scale hn hN he]
  constructor
  · rintro ⟨g, hg, h⟩
    refine ⟨g, hg, fun hu => ?_⟩
    rw [key] at h
    generalize sm T (fun i => g i * Y.2.1 i) = S at *
    have hq : ((w * S - g N * u : Int) : Rat) = (w : Rat) * ((S : Rat) - (g N : Rat) * t) := by push_cast; rw [← ht]; grind
    rcases hu with z | ⟨z, z2⟩
    · have := Rat.mul_pos w1 (show 0 < (S : Rat) - (g N : Rat) * t by grind)
      rw [← hq] at this
      have h3 : 0 < w * S - g N * u := by exact_mod_cast this
      omega
    · have h3 : w * S - g N * u = 0 := by
        have : ((w * S - g N * u : Int) : Rat) = 0 := by rw [hq, z]; grind
        exact_mod_cast this
      rcases h with y | ⟨-, i, hi, y⟩
      · omega
      · have : T.any Y.2.2.1 = true := List.any_eq_true.mpr ⟨i, hi, y⟩
        rw [z2] at this; cases this
  · rintro ⟨g, hg, h⟩
    refine ⟨g, hg, ?_⟩
    rw [key]
    generalize sm T (fun i => g i * Y.2.1 i) = S at *
    have hq : ((w * S - g N * u : Int) : Rat) = (w : Rat) * ((S : Rat) - (g N : Rat) * t) := by push_cast; rw [← ht]; grind
    unfold UpS at h
    by_cases c : (S : Rat) < (g N : Rat) * t
    · left
      have := Rat.mul_pos w1 (show 0 < (g N : Rat) * t - (S : Rat) by grind)
      have h3 : ((w * S - g N * u : Int) : Rat) < 0 := by rw [hq]; grind
      exact_mod_cast h3
    · right
      have e : (g N : Rat) * t = (S : Rat) := by
        by_cases c2 : (g N : Rat) * t < (S : Rat)
        · exact absurd (Or.inl c2) h
        · grind
      refine ⟨?_, ?_⟩
      · have : ((w * S - g N * u : Int) : Rat) = 0 := by rw [hq, e]; grind
        exact_mod_cast this
      · cases ha : T.any Y.2.2.1
        · exact absurd (Or.inr ⟨e, ha⟩) h
        · obtain ⟨i, hi, y⟩ := List.any_eq_true.mp ha
          exact ⟨i, hi, y⟩
theorem rat_frac (t : Rat) : ∃ u w : Int, 0 < w ∧ (w : Rat) * t = (u : Rat) := by
  refine ⟨t.num, t.den, by have := t.den_pos; omega, ?_⟩
  have h0 : ((t.den : Int) : Rat) ≠ 0 := by
    intro q
    have : (t.den : Int) = 0 := by exact_mod_cast q
    have := t.den_pos; omega
  have e : t = (t.num : Rat) / ((t.den : Int) : Rat) := by
    first
      | exact ((Rat.num_divInt_den t).symm.trans (Rat.divInt_eq_div _ _))
      | (conv => lhs; rw [← Rat.num_divInt_den t, Rat.divInt_eq_div])
      | (have := Rat.mkRat_self t; rw [Rat.mkRat_eq_div] at this; exact this.symm)
      | (have := Rat.div_def; grind)
  have e2 : (t.num : Rat) / ((t.den : Int) : Rat) * ((t.den : Int) : Rat) = (t.num : Rat) := Rat.div_mul_cancel h0
  rw [← e] at e2
  rw [Rat.mul_comm]; exact e2
/-- how far the form of the last row can fall, by the circuits that the row belongs to -/
theorem lim_iff {Y : Sys} {N nv ub : Nat} (h1 : 1 ≤ nv) (h3 : ub + nv ≤ 3) (hF : ∀ i, i < N + 1 → ∀ v, v < 3 → (v < ub ∨ ub + nv ≤ v) → Y.1 i v = 0) (hKn : ∃ v, v < 3 ∧ Y.1 N v ≠ 0) (hse : ∀ i, i < N + 1 → Y.2.2.1 i = true → Y.2.2.2 i = false) (hsN : Y.2.2.1 N = false) (heN : Y.2.2.2 N = false) (hdN : Y.2.1 N = 0) (hsat : Sat Y (List.range N)) (t : Rat) : (∃ q, (∀ i, i < N → hold Y i q) ∧ lin (Y.1 N) q ≤ -t) ↔ ∀ T : List Nat, List.Sublist T (List.range (N + 1)) → 2 ≤ T.length → T.length ≤ nv + 1 → N ∈ T → ∀ g, circ Y T = some g → UpS (g N) (sm T (fun i => g i * Y.2.1 i)) (T.any Y.2.2.1) t := by
  obtain ⟨u, w, hw, ht⟩ := rat_frac t
  rw [← sat_scale hw ht hsN heN]
  have hu := unsat_iffw (Y := sc Y N u w) (T := List.range (N + 1)) h1 h3 List.nodup_range (fun i hi => hse i (List.mem_range.mp hi)) (fun i hi => hF i (List.mem_range.mp hi)) (fun i hi => by
    by_cases c : i = N
    · rw [c]
      obtain ⟨v, hv, hne⟩ := hKn
      exact sat_one (Y := sc Y N u w) hv hne
    · obtain ⟨q, hq⟩ := hsat
      have hi2 := List.mem_range.mp hi
      exact ⟨fun v => (w : Rat) * q v, fun j hj => by rw [List.mem_singleton.mp hj]; exact (hold_scale hw c q).mpr (hq i (List.mem_range.mpr (by omega)))⟩)
  constructor
  · intro hS T hT l2 l4 hN g hg
    have hnd : T.Nodup := List.Nodup.sublist hT List.nodup_range
    by_cases c : UpS (g N) (sm T (fun i => g i * Y.2.1 i)) (T.any Y.2.2.1) t
    · exact c
    · exact absurd hS (hu.mpr ⟨T, hT, l2, l4, (clash_scale hw ht hnd hN heN hdN).mpr ⟨g, hg, c⟩⟩)
  · intro h
    by_cases c : Sat (sc Y N u w) (List.range (N + 1))
    · exact c
    · exfalso
      obtain ⟨T, hT, l2, l4, hc⟩ := hu.mp c
      have hnd : T.Nodup := List.Nodup.sublist hT List.nodup_range
      by_cases hN : N ∈ T
      · obtain ⟨g, hg, hne⟩ := (clash_scale hw ht hnd hN heN hdN).mp hc
        exact hne (h T hT l2 l4 hN g hg)
      · have hun := clash_unsat (Y := sc Y N u w) hnd (fun i hi => hse i (List.mem_range.mp (hT.subset hi))) hc
        apply hun
        obtain ⟨q, hq⟩ := hsat
        refine ⟨fun v => (w : Rat) * q v, fun i hi => ?_⟩
        have hi2 := List.mem_range.mp (hT.subset hi)
        have hiN : i ≠ N := fun z => hN (z ▸ hi)
        exact (hold_scale hw hiN q).mpr (hq i (List.mem_range.mpr (by omega)))
theorem bl_sub (b N : Nat) : List.Sublist (bl b N) (List.range N) := List.filter_sublist
theorem lim_bits {Y : Sys} {N nv ub : Nat} (h12 : N < 12) (h1 : 1 ≤ nv) (h3 : ub + nv ≤ 3) (hF : ∀ i, i < N + 1 → ∀ v, v < 3 → (v < ub ∨ ub + nv ≤ v) → Y.1 i v = 0) (hKn : ∃ v, v < 3 ∧ Y.1 N v ≠ 0) (hse : ∀ i, i < N + 1 → Y.2.2.1 i = true → Y.2.2.2 i = false) (hsN : Y.2.2.1 N = false) (heN : Y.2.2.2 N = false) (hdN : Y.2.1 N = 0) (hsat : Sat Y (List.range N)) (t : Rat) : (∃ q, (∀ i, i < N → hold Y i q) ∧ lin (Y.1 N) q ≤ -t) ↔ ∀ o, 1 ≤ o → o < 2 ^ N → (bl o 12).length ≤ nv → ∀ g, circ Y (bl (2 ^ N + o) (N + 1)) = some g → UpS (g N) (sm (bl (2 ^ N + o) (N + 1)) (fun i => g i * Y.2.1 i)) ((bl (2 ^ N + o) (N + 1)).any Y.2.2.1) t := by
  rw [lim_iff h1 h3 hF hKn hse hsN heN hdN hsat t]
  have hblo : ∀ o, o < 2 ^ N → bl o 12 = bl o N := fun b hb => by
    have := bl_big hb (12 - N)
    rwa [show N + (12 - N) = 12 by omega] at this
  constructor
  · intro h o o1 o2 hl g hg
    refine h _ (bl_sub _ _) ?_ ?_ ?_ g hg
    · rw [bl_top o2, List.length_append]
      have : bl o N ≠ [] := fun q => by
        have hz : ∀ i, i < N → o.testBit i = false := fun i hi => by
          cases hb : o.testBit i
          · rfl
          · have : i ∈ bl o N := mem_bl.mpr ⟨hi, hb⟩
            rw [q] at this; cases this
        have : o = 0 := by
          apply Nat.eq_of_testBit_eq
          intro i
          rw [Nat.zero_testBit]
          rcases Nat.lt_or_ge i N with y | y
          · exact hz i y
          · exact Nat.testBit_lt_two_pow (Nat.lt_of_lt_of_le o2 (Nat.pow_le_pow_right (by omega) y))
        omega
      have := List.length_pos_iff.mpr this
      simp; omega
    · rw [bl_top o2, List.length_append, ← hblo o o2]; simp; omega
    · rw [bl_top o2]; simp
  · intro h T hT l2 l4 hN g hg
    obtain ⟨b, hb, rfl⟩ := sub_bl hT
    have hbN : b.testBit N = true := (mem_bl.mp hN).2
    have hp1 : 2 ^ (N + 1) = 2 ^ N + 2 ^ N := by rw [Nat.pow_succ]; omega
    have hge : 2 ^ N ≤ b := Nat.ge_two_pow_of_testBit hbN
    obtain ⟨o, rfl⟩ : ∃ o, b = 2 ^ N + o := ⟨b - 2 ^ N, by omega⟩
    have o2 : o < 2 ^ N := by omega
    rw [bl_top o2, List.length_append] at l2 l4
    simp at l2 l4
    refine h o ?_ o2 (by rw [hblo o o2]; omega) g hg
    rcases Nat.eq_zero_or_pos o with q | q
    · subst q
      have : (bl 0 N).length = 0 := by simp [bl]
      omega
    · exact q
