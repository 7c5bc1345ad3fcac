/-! sets as bits; Circuit.examine -/
theorem bt_nI (b i : Nat) (hi : i < 32) : bt (nI b) i = b.testBit i := by
  show (BitVec.ofNat 32 b).getLsbD i = b.testBit i
  rw [BitVec.getLsbD_ofNat]; simp [hi]
theorem and1 (y : Int32) : y &&& 1 = bI (bt y 0) := by
  apply b_ext
  intro i hi
  rw [b_and]
  have h1 : ∀ i, i < 32 → bt 1 i = decide (i = 0) := by decide +kernel
  rw [h1 i hi]
  by_cases e : i = 0
  · subst e
    cases bt y 0
    · decide
    · decide
  · cases bt y 0
    · simp [e, bI, b_0]
    · rw [show bI true = 1 from rfl, h1 i hi]; simp [e]
theorem sh1 (x : Int32) {i : Nat} (hi : i < 32) : (x >>> (nI i &&& 31)) &&& 1 = bI (bt x i) := by
  rw [and1, b_sshr i hi x (by omega), if_pos (by omega)]; rfl
/-- the members of a set among the first N -/
def bl (b N : Nat) : List Nat := (List.range N).filter (fun i => b.testBit i)
theorem bl_succ (b N : Nat) : bl b (N + 1) = bl b N ++ (if b.testBit N = true then [N] else []) := by
  unfold bl
  rw [List.range_succ, List.filter_append]
  congr 1
  by_cases h : b.testBit N = true <;> simp [h]
theorem bl_pre (b i : Nat) : ∀ k : Nat, ∃ r, bl b (i + k) = bl b i ++ r
  | 0 => ⟨[], by simp⟩
  | k + 1 => by
    obtain ⟨r, h⟩ := bl_pre b i k
    exact ⟨r ++ (if b.testBit (i + k) = true then [i + k] else []), by rw [← Nat.add_assoc, bl_succ, h, List.append_assoc]⟩
theorem mem_bl {b N i : Nat} : i ∈ bl b N ↔ i < N ∧ b.testBit i = true := by simp [bl]
theorem bl_nodup (b N : Nat) : (bl b N).Nodup := List.Nodup.sublist List.filter_sublist List.nodup_range
theorem bl_big {b N : Nat} (hb : b < 2 ^ N) : ∀ k, bl b (N + k) = bl b N
  | 0 => rfl
  | k + 1 => by
    rw [← Nat.add_assoc, bl_succ, bl_big hb k, if_neg]
    · simp
    · rw [Nat.testBit_lt_two_pow (Nat.lt_of_lt_of_le hb (Nat.pow_le_pow_right (by omega) (by omega)))]; simp
def bc (a0 : Int32) : Int32 :=
  let v1 := a0 - ((((a0).toUInt32 >>> (((1 : Int32)).toUInt32 &&& 31)).toInt32) &&& (1431655765 : Int32))
  let v2 := (v1 &&& (858993459 : Int32)) + ((((v1).toUInt32 >>> (((2 : Int32)).toUInt32 &&& 31)).toInt32) &&& (858993459 : Int32))
  let v3 := (v2 + (((v2).toUInt32 >>> (((4 : Int32)).toUInt32 &&& 31)).toInt32)) &&& (252645135 : Int32)
  let v4 := v3 + (((v3).toUInt32 >>> (((8 : Int32)).toUInt32 &&& 31)).toInt32)
  let v5 := v4 + (((v4).toUInt32 >>> (((16 : Int32)).toUInt32 &&& 31)).toInt32)
  v5 &&& (63 : Int32)
theorem bc_of (x : Int32) (h : Hp) : s_J6_bitCount_0f7a4 x h = some (bc x) := rfl
set_option maxRecDepth 100000 in
theorem bc_all : ∀ b, b < 4096 → bc (nI b) = nI (bl b 12).length := by decide +kernel
theorem bc_z {b : Nat} (hb : b < 4096) (h : Hp) : s_J6_bitCount_0f7a4 (nI b) h = some (nI (bl b 12).length) := by rw [bc_of, bc_all b hb]
theorem getD_append_last {l : List Nat} {x : Nat} : (l ++ [x]).getD l.length 0 = x := by simp
theorem getD_append_lt {l r : List Nat} {p : Nat} (h : p < l.length) : (l ++ r).getD p 0 = l.getD p 0 := by
  simp [List.getD_eq_getElem?_getD, List.getElem?_append_left h]
theorem tl_getD (T : List Nat) : tl (fun p => T.getD p 0) T.length = T := by
  apply List.ext_getElem?
  intro i
  simp only [tl, List.getElem?_map]
  by_cases h : i < T.length
  · rw [List.getElem?_range h]
    simp [List.getD_eq_getElem?_getD, List.getElem?_eq_getElem h]
  · rw [List.getElem?_eq_none (by simpa using h), List.getElem?_eq_none (by simpa using h)]
    rfl
theorem members_z {h : Hp} {C N b : Nat} (hN : h.1 (C + 1) 4 = nI N) (h12 : N ≤ 12) (hb : b < 2 ^ N) (hT : (bl b N).length ≤ 4) (h0 : h.1 C 3 = 0) : ∃ H, iter (fun s : Int32 × Hp => s_X0_examine_l17 C (nI b) s.1 s.2) FUEL ((0 : Int32), h) = some H ∧ Fr [C, C + 6] h H ∧ H.1 C 3 = nI (bl b N).length ∧ ∀ p, p < (bl b N).length → H.1 (C + 6) p = nI ((bl b N).getD p 0) := by
  obtain ⟨e, he, hp⟩ := iter_fuel (f := fun s : Int32 × Hp => s_X0_examine_l17 C (nI b) s.1 s.2)
    (fun s => ∃ (i : Nat) (H : Hp), s = (nI i, H) ∧ i ≤ N ∧ Fr [C, C + 6] h H ∧ H.1 C 3 = nI (bl b i).length ∧ (bl b i).length ≤ 4 ∧ ∀ p, p < (bl b i).length → H.1 (C + 6) p = nI ((bl b i).getD p 0))
    (fun s => N - s.1.toNatClampNeg)
    (fun H => Fr [C, C + 6] h H ∧ H.1 C 3 = nI (bl b N).length ∧ ∀ p, p < (bl b N).length → H.1 (C + 6) p = nI ((bl b N).getD p 0)) (by
    rintro s ⟨i, H, rfl, hi, q1, q2, q3, q4⟩
    dsimp only
    unfold s_X0_examine_l17 s_X0_examine_b64
    rw [(q1 (C + 1) (by simp)).1, hN]
    by_cases c1 : i < N
    · rw [if_pos (nI_lt c1 (by omega)), q2]
      by_cases c2 : (bl b i).length < 4
      · rw [li4, if_pos (nI_lt c2 (by omega)), sh1 _ (by omega), bt_nI b i (by omega)]
        cases hbit : b.testBit i
        · rw [if_pos (by rfl), lt_red, nI_1]
          have e1 : bl b (i + 1) = bl b i := by rw [bl_succ, hbit]; simp
          refine Or.inl ⟨_, rfl, ⟨i + 1, H, rfl, by omega, q1, by rw [e1]; exact q2, by rw [e1]; exact q3, by rw [e1]; exact q4⟩, ?_⟩
          dsimp only; rw [nI_clamp (by omega), nI_clamp (by omega)]; omega
        · rw [if_neg (by simp [bI]), stI_n (by omega) (by omega), lt_red, lt_red, sI_cell (by omega), q2, nI_1, nI_1]
          have e1 : bl b (i + 1) = bl b i ++ [i] := by rw [bl_succ, hbit]; simp
          refine Or.inl ⟨_, rfl, ⟨i + 1, _, rfl, by omega, q1.tr ((Fr.sI (by simp)).tr (Fr.sI (by simp))), by rw [e1, sI_same]; simp, by rw [e1]; simp; omega, fun p hp => ?_⟩, ?_⟩
          · rw [e1] at hp ⊢
            rw [sI_cell (by omega)]
            by_cases z : p = (bl b i).length
            · subst z
              rw [sI_same, getD_append_last]
            · have : p < (bl b i).length := by simp at hp; omega
              rw [sI_ne z, getD_append_lt this]; exact q4 p this
          · dsimp only; rw [nI_clamp (by omega), nI_clamp (by omega)]; omega
      · rw [li4, if_neg (nI_nlt (by omega) (by omega))]
        obtain ⟨r, hr⟩ := bl_pre b i (N - i)
        rw [show i + (N - i) = N by omega] at hr
        have : r = [] := by
          have := congrArg List.length hr
          rw [List.length_append] at this
          exact List.length_eq_zero_iff.mp (by omega)
        subst this
        rw [List.append_nil] at hr
        exact Or.inr ⟨_, rfl, q1, by rw [hr]; exact q2, by rw [hr]; exact q4⟩
    · rw [if_neg (nI_nlt (by omega) (by omega))]
      have : i = N := by omega
      subst this
      exact Or.inr ⟨_, rfl, q1, q2, q4⟩)
    (0, h) ⟨0, h, rfl, by omega, Fr.rf, by rw [h0]; rfl, by simp [bl], fun p hp => by simp [bl] at hp⟩ (by dsimp only; rw [li0, nI_clamp (by omega)]; omega)
  exact ⟨e, he, hp⟩
def ExPost (Y : Sys) (C : Nat) (T : List Nat) (r : Int32) (h' : Hp) : Prop := (∃ g, circ Y T = some g ∧ r = 1 ∧ h'.1 C 3 = nI T.length ∧ (∀ p, p < T.length → h'.1 (C + 6) p = nI (T.getD p 0) ∧ h'.1 (C + 7) p = i32 (g (T.getD p 0))) ∧ h'.2 C 4 = i64 (sm T (fun i => g i * Y.2.1 i)) ∧ h'.1 C 5 = bI (T.any Y.2.2.1) ∧ ∀ i ∈ T, -162 ≤ g i ∧ g i ≤ 162) ∨ (circ Y T = none ∧ r = 0)
theorem fac_len {F : Nat → Nat → Int} {T : List Nat} (h : ¬ (T.length = 2 ∨ T.length = 3 ∨ T.length = 4)) : fac F T = none := by
  match T, h with
  | [], _ => rfl
  | [_], _ => rfl
  | [_, _], h => exact absurd (Or.inl rfl) h
  | [_, _, _], h => exact absurd (Or.inr (Or.inl rfl)) h
  | [_, _, _, _], h => exact absurd (Or.inr (Or.inr rfl)) h
  | _ :: _ :: _ :: _ :: _ :: _, _ => rfl
theorem rY_fr {S : List Nat} {h H : Hp} {R : Nat} (hF : Fr S h H) (h1 : R + 1 ∉ S) (h2 : R + 2 ∉ S) (h3 : R + 3 ∉ S) (h4 : R + 4 ∉ S) : rY H R = rY h R := by
  unfold rY rF
  rw [(hF (R + 1) h1).1, (hF (R + 2) h2).2, (hF (R + 3) h3).1, (hF (R + 4) h4).1]
theorem RowsWF.fr {S : List Nat} {h H : Hp} {R N : Nat} {D : Int} (hW : RowsWF h R N D) (hF : Fr S h H) (h0 : R ∉ S) (h1 : R + 1 ∉ S) (h2 : R + 2 ∉ S) (h3 : R + 3 ∉ S) (h4 : R + 4 ∉ S) : RowsWF H R N D := by
  obtain ⟨a, b, c, d⟩ := hW
  refine ⟨by rw [(hF R h0).1]; exact a, b, ?_, fun i hi => ?_⟩
  · intro i hi v hv
    have := c i hi v hv
    unfold rF at this ⊢
    rw [(hF (R + 1) h1).1]; exact this
  · rw [(hF (R + 3) h3).1, (hF (R + 4) h4).1, (hF (R + 2) h2).2]; exact d i hi
theorem fac_bd {F : Nat → Nat → Int} {N : Nat} (hB : Bd F N) {T : List Nat} (hT : ∀ i ∈ T, i < N) {f : Nat → Int} (h : fac F T = some f) : ∀ i, -162 ≤ f i ∧ f i ≤ 162 := by
  have v4b : ∀ (i j k l : Nat) (a b c d : Int), (-162 ≤ a ∧ a ≤ 162) → (-162 ≤ b ∧ b ≤ 162) → (-162 ≤ c ∧ c ≤ 162) → (-162 ≤ d ∧ d ≤ 162) → ∀ x, -162 ≤ v4 i j k l a b c d x ∧ v4 i j k l a b c d x ≤ 162 := fun i j k l a b c d ha hb hc hd x => by
    unfold v4
    split
    · exact ha
    · split
      · exact hb
      · split
        · exact hc
        · split
          · exact hd
          · omega
  match T, hT, h with
  | [i, j], hT, h =>
    have h : fac2 F i j = some f := h
    have hi := hT i (by simp)
    have hj := hT j (by simp)
    unfold fac2 at h
    have bi := hB i hi
    have bj := hB j hj
    have b0 := bi 0 (by omega); have b1 := bi 1 (by omega); have b2 := bi 2 (by omega)
    have c0 := bj 0 (by omega); have c1 := bj 1 (by omega); have c2 := bj 2 (by omega)
    split at h
    · cases h
    · split at h
      · split at h
        · cases h
        · have h := Option.some.inj h; subst h; exact v4b _ _ _ _ _ _ _ _ (by omega) (by omega) (by omega) (by omega)
      · split at h
        · split at h
          · cases h
          · have h := Option.some.inj h; subst h; exact v4b _ _ _ _ _ _ _ _ (by omega) (by omega) (by omega) (by omega)
        · split at h
          · split at h
            · cases h
            · have h := Option.some.inj h; subst h; exact v4b _ _ _ _ _ _ _ _ (by omega) (by omega) (by omega) (by omega)
          · cases h
  | [i, j, k], hT, h =>
    have h : fac3 F i j k = some f := h
    have hi := hT i (by simp)
    have hj := hT j (by simp)
    have hk := hT k (by simp)
    have cb : ∀ v, v < 3 → (-162 ≤ cr F j k v ∧ cr F j k v ≤ 162) ∧ (-162 ≤ cr F k i v ∧ cr F k i v ≤ 162) ∧ (-162 ≤ cr F i j v ∧ cr F i j v ≤ 162) := fun v hv => by
      have x1 := cr_bd hB hj hk hv
      have x2 := cr_bd hB hk hi hv
      have x3 := cr_bd hB hi hj hv
      omega
    unfold fac3 at h
    split at h
    · cases h
    · split at h
      · split at h
        · cases h
        · have h := Option.some.inj h; subst h; exact v4b _ _ _ _ _ _ _ _ (cb 0 (by omega)).1 (cb 0 (by omega)).2.1 (cb 0 (by omega)).2.2 (by omega)
      · split at h
        · split at h
          · cases h
          · have h := Option.some.inj h; subst h; exact v4b _ _ _ _ _ _ _ _ (cb 1 (by omega)).1 (cb 1 (by omega)).2.1 (cb 1 (by omega)).2.2 (by omega)
        · split at h
          · split at h
            · cases h
            · have h := Option.some.inj h; subst h; exact v4b _ _ _ _ _ _ _ _ (cb 2 (by omega)).1 (cb 2 (by omega)).2.1 (cb 2 (by omega)).2.2 (by omega)
          · cases h
  | [i, j, k, l], hT, h =>
    have h : fac4 F i j k l = some f := h
    have hi := hT i (by simp)
    have hj := hT j (by simp)
    have hk := hT k (by simp)
    have hl := hT l (by simp)
    have x1 := dt_bd hB hj hk hl
    have x2 := dt_bd hB hi hk hl
    have x3 := dt_bd hB hi hj hl
    have x4 := dt_bd hB hi hj hk
    unfold fac4 at h
    split at h
    · cases h
    · split at h
      · cases h
      · have h := Option.some.inj h; subst h; exact v4b _ _ _ _ _ _ _ _ x1 (by omega) x3 (by omega)
  | [], _, h => cases h
  | [_], _, h => cases h
  | _ :: _ :: _ :: _ :: _ :: _, _, h => cases h
