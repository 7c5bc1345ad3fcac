/-! sets of rows as bits; which of them no point satisfies -/
theorem mkbits (P : Nat → Bool) : ∀ N : Nat, ∃ b, b < 2 ^ N ∧ ∀ i, i < N → b.testBit i = P i
  | 0 => ⟨0, by simp, fun i hi => by omega⟩
  | N + 1 => by
    obtain ⟨b, hb, h⟩ := mkbits P N
    cases hP : P N
    · refine ⟨b, Nat.lt_of_lt_of_le hb (Nat.pow_le_pow_right (by omega) (by omega)), fun i hi => ?_⟩
      rcases Nat.lt_or_ge i N with q | q
      · exact h i q
      · rw [show i = N by omega, hP]; exact Nat.testBit_lt_two_pow hb
    · refine ⟨b ||| 2 ^ N, Nat.or_lt_two_pow (Nat.lt_of_lt_of_le hb (Nat.pow_le_pow_right (by omega) (by omega))) (Nat.pow_lt_pow_right (by omega) (by omega)), fun i hi => ?_⟩
      rw [Nat.testBit_or, Nat.testBit_two_pow]
      rcases Nat.lt_or_ge i N with q | q
      · rw [h i q]; simp; intro e; omega
      · rw [show i = N by omega, hP]; simp
theorem sub_filter : ∀ {T l : List Nat}, l.Nodup → List.Sublist T l → T = l.filter (fun i => decide (i ∈ T)) := by
  intro T l hn h
  induction h with
  | slnil => rfl
  | @cons T l a h ih =>
    obtain ⟨h1, h2⟩ := List.nodup_cons.mp hn
    rw [List.filter_cons_of_neg (by
      simp
      exact fun q => h1 (h.subset q))]
    exact ih h2
  | @cons_cons T l a h ih =>
    obtain ⟨h1, h2⟩ := List.nodup_cons.mp hn
    rw [List.filter_cons_of_pos (by simp)]
    congr 1
    have e := ih h2
    rw [e]
    apply List.filter_congr
    intro x hx
    rw [← e]
    simp
    intro q
    exact absurd hx (fun z => h1 (q ▸ z))
theorem sub_bl {T : List Nat} {N : Nat} (h : List.Sublist T (List.range N)) : ∃ b, b < 2 ^ N ∧ bl b N = T := by
  obtain ⟨b, hb, hP⟩ := mkbits (fun i => decide (i ∈ T)) N
  refine ⟨b, hb, ?_⟩
  have e := sub_filter List.nodup_range h
  rw [e]
  unfold bl
  apply List.filter_congr
  intro x hx
  rw [hP x (List.mem_range.mp hx)]
  try rw [← e]
/-- the rows as the program has them in nv variables -/
def FormsWF (F : Nat → Nat → Int) (N nv : Nat) : Prop := ∀ i, i < N → (∀ v, v < 3 → nv ≤ v → F i v = 0) ∧ ∃ v, v < 3 ∧ F i v ≠ 0
theorem lin_unit (f : Nat → Int) {v : Nat} (hv : v < 3) (x : Rat) : lin f (setp (fun _ => 0) v x) = (f v : Rat) * x := by
  rw [lin_setp f _ hv x]
  have : lin f (setp (fun _ => 0) v 0) = 0 := by
    have e : setp (fun _ => (0 : Rat)) v 0 = fun _ => 0 := by funext w; simp [setp]
    rw [e]; simp only [lin]; grind
  rw [this]; grind
theorem sat_one {Y : Sys} {i v : Nat} (hv : v < 3) (h : Y.1 i v ≠ 0) : Sat Y [i] := by
  have h0 : (Y.1 i v : Rat) ≠ 0 := fun e => h (by simpa using e)
  have key : ∀ c : Rat, ∃ p, lin (Y.1 i) p = c := fun c => ⟨setp (fun _ => 0) v (c / (Y.1 i v : Rat)), by
    rw [lin_unit _ hv, Rat.mul_comm, Rat.div_mul_cancel h0]⟩
  by_cases e : Y.2.2.2 i = true
  · obtain ⟨p, hp⟩ := key (Y.2.1 i : Rat)
    exact ⟨p, fun j hj => by simp at hj; subst hj; unfold hold; rw [if_pos e]; exact hp⟩
  · obtain ⟨p, hp⟩ := key ((Y.2.1 i : Rat) - 1)
    refine ⟨p, fun j hj => ?_⟩
    simp at hj; subst hj
    unfold hold
    rw [if_neg e, hp]
    split <;> grind
def Cls (Y : Sys) (nv b : Nat) : Prop := (bl b 12).length ≤ nv + 1 ∧ Clash Y (bl b 12)
/-- which sets of rows no point satisfies, by the clashes among them -/
theorem unsat_bits {Y : Sys} {N nv : Nat} (h12 : N ≤ 12) (h1 : 1 ≤ nv) (h3 : nv ≤ 3) (hF : FormsWF Y.1 N nv) (hse : ∀ i, i < N → Y.2.2.1 i = true → Y.2.2.2 i = false) (P : Nat → Bool) : ¬ Sat Y ((List.range N).filter P) ↔ ∃ b, b < 2 ^ N ∧ Cls Y nv b ∧ ∀ i, b.testBit i = true → P i = true := by
  have hnd : ((List.range N).filter P).Nodup := List.Nodup.sublist List.filter_sublist List.nodup_range
  have hm : ∀ i ∈ (List.range N).filter P, i < N := fun i hi => List.mem_range.mp (List.mem_filter.mp hi).1
  have hbl : ∀ b, b < 2 ^ N → bl b 12 = bl b N := fun b hb => by
    have := bl_big hb (12 - N)
    rwa [show N + (12 - N) = 12 by omega] at this
  rw [unsat_iff h1 h3 hnd (fun i hi => hse i (hm i hi)) (fun i hi => (hF i (hm i hi)).1) (fun i hi => by
    obtain ⟨v, hv, hne⟩ := (hF i (hm i hi)).2
    exact sat_one hv hne)]
  constructor
  · rintro ⟨T0, hsub, h2, hl, hc⟩
    obtain ⟨b, hb, rfl⟩ := sub_bl (hsub.trans List.filter_sublist)
    refine ⟨b, hb, ⟨by rw [hbl b hb]; exact hl, by rw [hbl b hb]; exact hc⟩, fun i hi => ?_⟩
    have hiN : i < N := by
      rcases Nat.lt_or_ge i N with q | q
      · exact q
      · have := Nat.testBit_lt_two_pow (Nat.lt_of_lt_of_le hb (Nat.pow_le_pow_right (by omega) q))
        rw [this] at hi; cases hi
    exact (List.mem_filter.mp (hsub.subset (mem_bl.mpr ⟨hiN, hi⟩))).2
  · rintro ⟨b, hb, ⟨c1, c2⟩, hP⟩
    rw [hbl b hb] at c1 c2
    refine ⟨bl b N, ?_, ?_, c1, c2⟩
    · have e : bl b N = ((List.range N).filter P).filter (fun i => b.testBit i) := by
        unfold bl
        rw [List.filter_filter]
        apply List.filter_congr
        intro x _
        cases hx : b.testBit x
        · simp
        · simp [hP x hx]
      rw [e]; exact List.filter_sublist
    · obtain ⟨g, hg, -⟩ := c2
      by_cases q : 2 ≤ (bl b N).length
      · exact q
      · unfold circ at hg
        rw [fac_len (by omega)] at hg; cases hg
theorem circ_congr {Y Y' : Sys} {T : List Nat} (h1 : ∀ i ∈ T, ∀ v, v < 3 → Y.1 i v = Y'.1 i v) (h2 : ∀ i ∈ T, Y.2.1 i = Y'.2.1 i) (h3 : ∀ i ∈ T, Y.2.2.2 i = Y'.2.2.2 i) : circ Y T = circ Y' T := by
  have hcr : ∀ i ∈ T, ∀ j ∈ T, ∀ v, v < 3 → cr Y.1 i j v = cr Y'.1 i j v := fun i hi j hj v hv => by
    have a1 : nx v < 3 := by unfold nx; split <;> omega
    have a2 : th v < 3 := by unfold th; split <;> omega
    unfold cr
    rw [h1 i hi _ a1, h1 i hi _ a2, h1 j hj _ a1, h1 j hj _ a2]
  have hdt : ∀ i ∈ T, ∀ j ∈ T, ∀ k ∈ T, dt Y.1 i j k = dt Y'.1 i j k := fun i hi j hj k hk => by
    unfold dt
    rw [h1 i hi 0 (by omega), h1 i hi 1 (by omega), h1 i hi 2 (by omega), h1 j hj 0 (by omega), h1 j hj 1 (by omega), h1 j hj 2 (by omega), h1 k hk 0 (by omega), h1 k hk 1 (by omega), h1 k hk 2 (by omega)]
  have hfac : fac Y.1 T = fac Y'.1 T := by
    match T, h1, hcr, hdt with
    | [i, j], h1, hcr, _ =>
      show fac2 Y.1 i j = fac2 Y'.1 i j
      unfold fac2
      rw [hcr i (by simp) j (by simp) 0 (by omega), hcr i (by simp) j (by simp) 1 (by omega), hcr i (by simp) j (by simp) 2 (by omega), h1 i (by simp) 0 (by omega), h1 i (by simp) 1 (by omega), h1 i (by simp) 2 (by omega), h1 j (by simp) 0 (by omega), h1 j (by simp) 1 (by omega), h1 j (by simp) 2 (by omega)]
    | [i, j, k], _, hcr, hdt =>
      show fac3 Y.1 i j k = fac3 Y'.1 i j k
      unfold fac3
      rw [hdt i (by simp) j (by simp) k (by simp), hcr i (by simp) j (by simp) 0 (by omega), hcr i (by simp) j (by simp) 1 (by omega), hcr i (by simp) j (by simp) 2 (by omega), hcr j (by simp) k (by simp) 0 (by omega), hcr j (by simp) k (by simp) 1 (by omega), hcr j (by simp) k (by simp) 2 (by omega), hcr k (by simp) i (by simp) 0 (by omega), hcr k (by simp) i (by simp) 1 (by omega), hcr k (by simp) i (by simp) 2 (by omega)]
    | [i, j, k, l], _, _, hdt =>
      show fac4 Y.1 i j k l = fac4 Y'.1 i j k l
      unfold fac4
      rw [hdt i (by simp) j (by simp) k (by simp), hdt j (by simp) k (by simp) l (by simp), hdt i (by simp) k (by simp) l (by simp), hdt i (by simp) j (by simp) l (by simp)]
    | [], _, _, _ => rfl
    | [_], _, _, _ => rfl
    | _ :: _ :: _ :: _ :: _ :: _, _, _, _ => rfl
  unfold circ
  rw [hfac]
  congr 1
  funext f
  have hany : ∀ (Q : Int → Bool), (T.any fun i => !Y.2.2.2 i && Q (f i)) = T.any fun i => !Y'.2.2.2 i && Q (f i) := fun Q => by
    clear hfac hdt hcr h1 h2
    induction T with
    | nil => rfl
    | cons a T ih =>
      simp only [List.any_cons]
      rw [h3 a (by simp), ih (fun i hi => h3 i (List.mem_cons_of_mem _ hi))]
  have ha : above Y T f = above Y' T f := hany (fun z => decide (0 < z))
  have hb : below Y T f = below Y' T f := hany (fun z => decide (z < 0))
  have hs : sm T (fun i => f i * Y.2.1 i) = sm T (fun i => f i * Y'.2.1 i) := sm_congr (fun i hi => by rw [h2 i hi])
  unfold trn
  rw [ha, hb, hs]
theorem Cls.congr {Y Y' : Sys} {nv N b : Nat} (hb : b < 2 ^ N) (h12 : N ≤ 12) (h1 : ∀ i, i < N → ∀ v, v < 3 → Y.1 i v = Y'.1 i v) (h2 : ∀ i, i < N → Y.2.1 i = Y'.2.1 i) (h3 : ∀ i, i < N → Y.2.2.1 i = Y'.2.2.1 i) (h4 : ∀ i, i < N → Y.2.2.2 i = Y'.2.2.2 i) : Cls Y nv b ↔ Cls Y' nv b := by
  have hbl : bl b 12 = bl b N := by
    have := bl_big hb (12 - N)
    rwa [show N + (12 - N) = 12 by omega] at this
  have hm : ∀ i ∈ bl b N, i < N := fun i hi => (mem_bl.mp hi).1
  unfold Cls Clash
  rw [hbl, circ_congr (Y := Y) (Y' := Y') (fun i hi => h1 i (hm i hi)) (fun i hi => h2 i (hm i hi)) (fun i hi => h4 i (hm i hi))]
  have hs : ∀ g : Nat → Int, sm (bl b N) (fun i => g i * Y.2.1 i) = sm (bl b N) (fun i => g i * Y'.2.1 i) := fun g => sm_congr (fun i hi => by rw [h2 i (hm i hi)])
  constructor
  · rintro ⟨a, g, e, q⟩
    refine ⟨a, g, e, ?_⟩
    rw [← hs g]
    rcases q with q | ⟨q, i, hi, s⟩
    · exact Or.inl q
    · exact Or.inr ⟨q, i, hi, by rw [← h3 i (hm i hi)]; exact s⟩
  · rintro ⟨a, g, e, q⟩
    refine ⟨a, g, e, ?_⟩
    rw [hs g]
    rcases q with q | ⟨q, i, hi, s⟩
    · exact Or.inl q
    · exact Or.inr ⟨q, i, hi, by rw [h3 i (hm i hi)]; exact s⟩
