/-! what is saved: the images of the class against the model's kept words; keep -/
def virt (h : Hp) (i : Nat) : Hp := (fun c => if c = 1 then h.1 (14 + 6 * i) else if c = 2 then h.1 (15 + 6 * i) else if c = 3 then h.1 (16 + 6 * i) else if c = 4 then h.1 (17 + 6 * i) else if c = 5 then h.1 (18 + 6 * i) else if c = 6 then h.1 (19 + 6 * i) else if c = 66 then (fun k => if k = 0 then h.1 71 (64 * i) else if k = 1 then h.1 71 (64 * i + 1) else if k = 3 then h.1 71 (64 * i + 2) else if k = 5 then h.1 71 (64 * i + 3) else 0) else if c = 67 then (fun k => h.1 71 (64 * i + 8 + k)) else if c = 68 then (fun k => h.1 71 (64 * i + 32 + k)) else if c = 69 then (fun k => h.1 71 (64 * i + 4 + k)) else fun _ => 0, fun _ _ => 0)
theorem vt1 (h : Hp) (i : Nat) : (virt h i).1 1 = h.1 (14 + 6 * i) := by simp [virt]
theorem vt2 (h : Hp) (i : Nat) : (virt h i).1 2 = h.1 (15 + 6 * i) := by simp [virt]
theorem vt3 (h : Hp) (i : Nat) : (virt h i).1 3 = h.1 (16 + 6 * i) := by simp [virt]
theorem vt4 (h : Hp) (i : Nat) : (virt h i).1 4 = h.1 (17 + 6 * i) := by simp [virt]
theorem vt5 (h : Hp) (i : Nat) : (virt h i).1 5 = h.1 (18 + 6 * i) := by simp [virt]
theorem vt6 (h : Hp) (i : Nat) : (virt h i).1 6 = h.1 (19 + 6 * i) := by simp [virt]
theorem vt660 (h : Hp) (i : Nat) : (virt h i).1 66 0 = h.1 71 (64 * i) := by simp [virt]
theorem vt661 (h : Hp) (i : Nat) : (virt h i).1 66 1 = h.1 71 (64 * i + 1) := by simp [virt]
theorem vt663 (h : Hp) (i : Nat) : (virt h i).1 66 3 = h.1 71 (64 * i + 2) := by simp [virt]
theorem vt665 (h : Hp) (i : Nat) : (virt h i).1 66 5 = h.1 71 (64 * i + 3) := by simp [virt]
theorem vt67 (h : Hp) (i k : Nat) : (virt h i).1 67 k = h.1 71 (64 * i + 8 + k) := by simp [virt]
theorem vt68 (h : Hp) (i k : Nat) : (virt h i).1 68 k = h.1 71 (64 * i + 32 + k) := by simp [virt]
theorem vt69 (h : Hp) (i k : Nat) : (virt h i).1 69 k = h.1 71 (64 * i + 4 + k) := by simp [virt]
theorem virt_cg {h h' : Hp} {i nv nf m lv : Nat} (hP : ProbR (virt h i) nv nf m lv) (e : ∀ c, 14 + 6 * i ≤ c → c < 20 + 6 * i → h'.1 c = h.1 c) (e71 : ∀ k, 64 * i ≤ k → k < 64 * i + 62 → h'.1 71 k = h.1 71 k) : ProbR (virt h' i) nv nf m lv := by
  refine hP.cg (fun k hk => ?_) (fun k hk => ?_) (fun k hk => ?_) (fun k hk => ?_) (fun k hk => ?_) (fun k hk => ?_) ?_ ?_ ?_ ?_ (fun k hk => ?_) (fun k hk => ?_) (fun k hk => ?_)
  · rw [vt1, vt1, e _ (by omega) (by omega)]
  · rw [vt2, vt2, e _ (by omega) (by omega)]
  · rw [vt3, vt3, e _ (by omega) (by omega)]
  · rw [vt4, vt4, e _ (by omega) (by omega)]
  · rw [vt5, vt5, e _ (by omega) (by omega)]
  · rw [vt6, vt6, e _ (by omega) (by omega)]
  · rw [vt660, vt660, e71 _ (by omega) (by omega)]
  · rw [vt661, vt661, e71 _ (by omega) (by omega)]
  · rw [vt663, vt663, e71 _ (by omega) (by omega)]
  · rw [vt665, vt665, e71 _ (by omega) (by omega)]
  · rw [vt67, vt67, e71 _ (by omega) (by omega)]
  · rw [vt68, vt68, e71 _ (by omega) (by omega)]
  · rw [vt69, vt69, e71 _ (by omega) (by omega)]
def SavI (h : Hp) : Prop := ∀ i, i < 2 → (h.1 26 i = 0 ∧ h.1 70 i = 0) ∨ (h.1 26 i = 1 ∧ h.1 70 i = 1 ∧ ∃ nv nf m lv, 1 ≤ nv ∧ ProbR (virt h i) nv nf m lv)
theorem SavI.fr {h h' : Hp} {S : List Nat} (hS : SavI h) (f : Fr S h h') (hc : ∀ c ∈ S, (c < 14 ∨ 26 < c) ∧ c ≠ 70 ∧ c ≠ 71) : SavI h' := by
  have z : ∀ c, ¬ ((c < 14 ∨ 26 < c) ∧ c ≠ 70 ∧ c ≠ 71) → h'.1 c = h.1 c := fun c q => (f c (fun w => q (hc c w))).1
  intro i hi
  rw [z 26 (by omega), z 70 (by omega)]
  rcases hS i hi with q | ⟨q1, q2, nv, nf, m, lv, q3, q4⟩
  · exact Or.inl q
  · exact Or.inr ⟨q1, q2, nv, nf, m, lv, q3, virt_cg q4 (fun c w1 w2 => z c (by omega)) (fun k _ _ => by rw [z 71 (by omega)])⟩
theorem writes_z {h : Hp} {i : Nat} (hi : i < 2) : ∃ h', s_X10_writes 66 (nI (64 * i)) h = some h' ∧ Fr [71] h h' ∧ h'.1 71 (64 * i) = h.1 66 0 ∧ h'.1 71 (64 * i + 1) = h.1 66 1 ∧ h'.1 71 (64 * i + 2) = h.1 66 3 ∧ h'.1 71 (64 * i + 3) = h.1 66 5 ∧ (∀ k, k < 4 → h'.1 71 (64 * i + 4 + k) = h.1 69 k) ∧ (∀ k, k < 24 → h'.1 71 (64 * i + 8 + k) = h.1 67 k) ∧ (∀ k, k < 30 → h'.1 71 (64 * i + 32 + k) = h.1 68 k) ∧ ∀ k, (k < 64 * i ∨ 64 * i + 62 ≤ k) → h'.1 71 k = h.1 71 k := by
  unfold s_X10_writes
  show ∃ h', stI h 71 128 _ _ _ = some h' ∧ _
  rw [stI_n (by omega) (by omega), show nI (64 * i) + 1 = nI (64 * i + 1) from nI_1 _, show nI (64 * i) + 2 = nI (64 * i + 2) from by rw [li2, nI_add], show nI (64 * i) + 3 = nI (64 * i + 3) from by rw [li3, nI_add]]
  rw [show (66 + 5 : Nat) = 71 from rfl, sI_cell (c' := 66) (by omega), stI_n (by omega) (by omega), sI_cell (c' := 66) (by omega), sI_cell (c' := 66) (by omega), stI_n (by omega) (by omega), sI_cell (c' := 66) (by omega), sI_cell (c' := 66) (by omega), sI_cell (c' := 66) (by omega), stI_n (by omega) (by omega)]
  generalize gH : sI (sI (sI (sI h 71 (64 * i) (h.1 66 0)) 71 (64 * i + 1) (h.1 66 1)) 71 (64 * i + 2) (h.1 66 3)) 71 (64 * i + 3) (h.1 66 5) = H
  have hF : Fr [71] h H := by rw [← gH]; exact ((Fr.sI (by simp)).tr (Fr.sI (by simp))).tr ((Fr.sI (by simp)).tr (Fr.sI (by simp)))
  have p0 : H.1 71 (64 * i) = h.1 66 0 := by rw [← gH, sI_ne (by omega), sI_ne (by omega), sI_ne (by omega), sI_same]
  have p1 : H.1 71 (64 * i + 1) = h.1 66 1 := by rw [← gH, sI_ne (by omega), sI_ne (by omega), sI_same]
  have p2 : H.1 71 (64 * i + 2) = h.1 66 3 := by rw [← gH, sI_ne (by omega), sI_same]
  have p3 : H.1 71 (64 * i + 3) = h.1 66 5 := by rw [← gH, sI_same]
  have pk : ∀ k, (k < 64 * i ∨ 64 * i + 62 ≤ k) → H.1 71 k = h.1 71 k := fun k hk => by rw [← gH, sI_ne (by omega), sI_ne (by omega), sI_ne (by omega), sI_ne (by omega)]
  obtain ⟨H1, a1, a2, a3, a4⟩ := cploop (f := fun s : Int32 × Hp => s_X10_writes_l48 66 (nI (64 * i)) s.1 s.2) (n := 4) (src := 69) (dst := 71) (so := 0) (to := 64 * i + 4) (by omega) (by omega) (fun k H hk => by
    dsimp only
    unfold s_X10_writes_l48
    rw [if_pos (nI_ltn hk (by omega) (by decide)), ldI_n (by omega) (by omega), show nI (64 * i) + 4 = nI (64 * i + 4) from by rw [li4, nI_add], nI_add, stI_n (by omega) (by omega), lt_red, nI_1, Nat.zero_add]) (fun H => by
    dsimp only
    unfold s_X10_writes_l48
    rw [if_neg (nI_nltn (by decide))]) H
  rw [li0, a1, bnd_s]
  obtain ⟨H2, b1, b2, b3, b4⟩ := cploop (f := fun s : Int32 × Hp => s_X10_writes_l77 66 (nI (64 * i)) s.1 s.2) (n := 24) (src := 67) (dst := 71) (so := 0) (to := 64 * i + 8) (by omega) (by omega) (fun k H hk => by
    dsimp only
    unfold s_X10_writes_l77
    rw [if_pos (nI_ltn hk (by omega) (by decide)), ldI_n (by omega) (by omega), show nI (64 * i) + 8 = nI (64 * i + 8) from by rw [show (8 : Int32) = nI 8 from by decide, nI_add], nI_add, stI_n (by omega) (by omega), lt_red, nI_1, Nat.zero_add]) (fun H => by
    dsimp only
    unfold s_X10_writes_l77
    rw [if_neg (nI_nltn (by decide))]) H1
  rw [b1, bnd_s]
  obtain ⟨H3, c1, c2, c3, c4⟩ := cploop (f := fun s : Int32 × Hp => s_X10_writes_l108 66 (nI (64 * i)) s.1 s.2) (n := 30) (src := 68) (dst := 71) (so := 0) (to := 64 * i + 32) (by omega) (by omega) (fun k H hk => by
    dsimp only
    unfold s_X10_writes_l108
    rw [if_pos (nI_ltn hk (by omega) (by decide)), ldI_n (by omega) (by omega), show nI (64 * i) + 32 = nI (64 * i + 32) from by rw [show (32 : Int32) = nI 32 from by decide, nI_add], nI_add, stI_n (by omega) (by omega), lt_red, nI_1, Nat.zero_add]) (fun H => by
    dsimp only
    unfold s_X10_writes_l108
    rw [if_neg (nI_nltn (by decide))]) H2
  rw [c1, bnd_s]
  refine ⟨H3, rfl, hF.tr (a4.tr (b4.tr c4)), ?_, ?_, ?_, ?_, fun k hk => ?_, fun k hk => ?_, fun k hk => ?_, fun k hk => ?_⟩
  · rw [c3 _ (by omega), b3 _ (by omega), a3 _ (by omega), p0]
  · rw [c3 _ (by omega), b3 _ (by omega), a3 _ (by omega), p1]
  · rw [c3 _ (by omega), b3 _ (by omega), a3 _ (by omega), p2]
  · rw [c3 _ (by omega), b3 _ (by omega), a3 _ (by omega), p3]
  · rw [c3 _ (by omega), b3 _ (by omega), a2 k hk, Nat.zero_add, (hF 69 (by simp)).1]
  · rw [c3 _ (by omega), b2 k hk, Nat.zero_add, (a4 67 (by simp)).1, (hF 67 (by simp)).1]
  · rw [c2 k hk, Nat.zero_add, (b4 68 (by simp)).1, (a4 68 (by simp)).1, (hF 68 (by simp)).1]
  · rw [c3 _ (by omega), b3 _ (by omega), a3 _ (by omega), pk k hk]
theorem ldR_n {β : Type} {i : Nat} {k : Nat → Option β} (hi : i < 2) : ldR 13 (nI i) k = k (14 + 6 * i) := by
  unfold ldR
  have e : (nI i).toNatClampNeg = i := nI_clamp (by omega)
  rw [e, if_pos (by
    rw [lt_z, nI_z (by omega)]
    have : (0 : Int32).toInt = 0 := by decide
    omega)]
abbrev savc : List Nat := [14, 15, 16, 17, 18, 19, 20, 21, 22, 23, 24, 25, 26, 70, 71]
set_option maxHeartbeats 1000000 in
theorem keep_step {h : Hp} {nv nf m lv : Nat} (hP : ProbR h nv nf m lv) (hn1 : 1 ≤ nv) (hS : SavI h) (a1 : Int32) : ∃ r : Int32, ∃ h1 h2 : Hp, s_X9_keep 0 a1 h = some (r, h1) ∧ s_X10_keep 66 a1 h1 = some (r, h2) ∧ SavI h2 ∧ Fr savc h h2 := by
  have z0 : (0 : Int32).toInt = 0 := by decide
  have z1 : (1 : Int32).toInt = 1 := by decide
  have z2 : (2 : Int32).toInt = 2 := by decide
  have hb1 : h.1 1 2 = nI m := hP.2.2.2.1.1
  have hb2 : h.1 66 3 = nI m := hP.2.2.2.1.2.1.1
  by_cases ok : 0 ≤ a1.toInt ∧ a1.toInt ≤ 1
  · obtain ⟨i, hi⟩ : ∃ i : Nat, a1.toInt = i := ⟨a1.toInt.toNat, by omega⟩
    have hi2 : i < 2 := by omega
    have ea := of_nat hi
    subst ea
    obtain ⟨H1, p1, pF, p2, p3, p4, p5, p6, p7⟩ := copy_z (h := h) (P := 14 + 6 * i) (Q := 1) (by omega)
    have pF' : Fr savc h H1 := pF.wid (fun c hc => by
      simp at hc
      rcases (show i = 0 ∨ i = 1 by omega) with rfl | rfl <;> simp [savc] <;> omega)
    have F2 : Fr savc h (sI H1 26 i 1) := pF'.tr (Fr.sI (by simp [savc]))
    generalize gH2 : sI H1 26 i 1 = H2 at F2
    have F3 : Fr savc h (sI H2 70 i 1) := F2.tr (Fr.sI (by simp [savc]))
    generalize gH3 : sI H2 70 i 1 = H3 at F3
    obtain ⟨H4, w1, wF, w2, w3, w4, w5, w6, w7, w8, w9⟩ := writes_z (h := H3) hi2
    have F4 : Fr savc h H4 := F3.tr (wF.wid (by simp [savc]))
    have c1 : ¬ nI i < (0 : Int32) := fun q => by have := lt_z.mp q; rw [z0] at this; omega
    have c2 : nI i < (2 : Int32) := lt_z.mpr (by rw [z2]; omega)
    have img : ∀ c, 14 + 6 * i ≤ c → c < 20 + 6 * i → H4.1 c = H1.1 c := fun c q1 q2 => by
      rw [(wF c (by simp; omega)).1, ← gH3, sI_cell (by omega), ← gH2, sI_cell (by omega)]
    have oth : ∀ c, c < 14 + 6 * i ∨ 20 + 6 * i ≤ c → H1.1 c = h.1 c := fun c q => (pF c (by simp; omega)).1
    have g26 : ∀ j, H4.1 26 j = if j = i then 1 else h.1 26 j := fun j => by
      rw [(wF 26 (by simp)).1, ← gH3, sI_cell (by omega), ← gH2]
      by_cases y : j = i
      · subst y; rw [sI_same, if_pos rfl]
      · rw [sI_ne y, if_neg y, oth 26 (by omega)]
    have g70 : ∀ j, H4.1 70 j = if j = i then 1 else h.1 70 j := fun j => by
      rw [(wF 70 (by simp)).1, ← gH3]
      by_cases y : j = i
      · subst y; rw [sI_same, if_pos rfl]
      · rw [sI_ne y, if_neg y, ← gH2, sI_cell (by omega), oth 70 (by omega)]
    refine ⟨nI m, H2, H4, ?_, ?_, fun j hj => ?_, F4⟩
    · unfold s_X9_keep
      simp only [Nat.zero_add]
      rw [if_neg c1, if_pos c2, ldR_n hi2, p1, bnd_s, stI_n (by omega) (by omega), gH2, (F2 1 (by simp [savc])).1, hb1]
    · unfold s_X10_keep
      rw [in_z, z0, z1, decide_eq_true ok, bnd_s, if_neg (by decide), stI_n (by omega) (by omega), show (64 : Int32) * nI i = nI (64 * i) from by rw [show (64 : Int32) = nI 64 from by decide, nI_mul]]
      show ((s_X10_writes 66 (nI (64 * i)) (sI H2 70 i 1)).bind _) = _
      rw [gH3, w1, bnd_s, (F4 66 (by simp [savc])).1, hb2]
    · rw [g26, g70]
      by_cases y : j = i
      · subst y
        refine Or.inr ⟨if_pos rfl, if_pos rfl, nv, nf, m, lv, hn1, ?_⟩
        have o66 : H3.1 66 = h.1 66 := (F3 66 (by simp [savc])).1
        have o67 : H3.1 67 = h.1 67 := (F3 67 (by simp [savc])).1
        have o68 : H3.1 68 = h.1 68 := (F3 68 (by simp [savc])).1
        have o69 : H3.1 69 = h.1 69 := (F3 69 (by simp [savc])).1
        refine hP.cg (fun k hk => ?_) (fun k hk => ?_) (fun k hk => ?_) (fun k hk => ?_) (fun k hk => ?_) (fun k hk => ?_) ?_ ?_ ?_ ?_ (fun k hk => ?_) (fun k hk => ?_) (fun k hk => ?_)
        · rw [vt1, img _ (by omega) (by omega)]; exact p2 k hk
        · rw [vt2, img _ (by omega) (by omega), show 15 + 6 * j = 14 + 6 * j + 1 by omega]; exact p3 k hk
        · rw [vt3, img _ (by omega) (by omega), show 16 + 6 * j = 14 + 6 * j + 2 by omega]; exact p4 k hk
        · rw [vt4, img _ (by omega) (by omega), show 17 + 6 * j = 14 + 6 * j + 3 by omega]; exact p5 k hk
        · rw [vt5, img _ (by omega) (by omega), show 18 + 6 * j = 14 + 6 * j + 4 by omega]; exact p6 k hk
        · rw [vt6, img _ (by omega) (by omega), show 19 + 6 * j = 14 + 6 * j + 5 by omega]; exact p7 k hk
        · rw [vt660, w2, o66]
        · rw [vt661, w3, o66]
        · rw [vt663, w4, o66]
        · rw [vt665, w5, o66]
        · rw [vt67, w7 k hk, o67]
        · rw [vt68, w8 k hk, o68]
        · rw [vt69, w6 k hk, o69]
      · rw [if_neg y, if_neg y]
        rcases hS j hj with q | ⟨q1, q2, nv', nf', m', lv', q3, q4⟩
        · exact Or.inl q
        · refine Or.inr ⟨q1, q2, nv', nf', m', lv', q3, virt_cg q4 (fun c u1 u2 => ?_) (fun k u1 u2 => ?_)⟩
          · rw [(wF c (by simp; omega)).1, ← gH3, sI_cell (by omega), ← gH2, sI_cell (by omega), oth c (by omega)]
          · rw [w9 k (by omega), ← gH3, sI_cell (by omega), ← gH2, sI_cell (by omega), oth 71 (by omega)]
  · refine ⟨-1, h, h, ?_, ?_, hS, Fr.rf⟩
    · unfold s_X9_keep
      by_cases c1 : a1 < 0
      · rw [if_pos c1]
      · rw [if_neg c1]
        have c1 : ¬ a1.toInt < 0 := fun q => c1 (lt_z.mpr (by rw [z0]; exact q))
        rw [if_neg (fun q => by have := lt_z.mp q; rw [z2] at this; omega)]
    · unfold s_X10_keep
      rw [in_z, z0, z1, decide_eq_false ok, bnd_s, if_pos (by decide)]
