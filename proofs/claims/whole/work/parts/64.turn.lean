/-! Circuit.turn -/
def bI (b : Bool) : Int32 := if b = true then 1 else 0
theorem bI_or (a b : Bool) : bI a ||| bI b = bI (a || b) := by cases a <;> cases b <;> decide
theorem bI_01 (b : Bool) : bI b = 0 ∨ bI b = 1 := by cases b <;> simp [bI]
theorem bI_0 (b : Bool) : bI b = 0 ↔ b = false := by cases b <;> simp [bI]
theorem bI_t : bI true = 1 := rfl
theorem bI_f : bI false = 0 := rfl
abbrev tl (t : Nat → Nat) (j : Nat) : List Nat := (List.range j).map t
theorem sm_append (A B : List Nat) (f : Nat → Int) : sm (A ++ B) f = sm A f + sm B f := by
  induction A with
  | nil => simp [sm]
  | cons a A ih => simp only [List.cons_append, sm, ih]; omega
theorem tl_succ (t : Nat → Nat) (j : Nat) : tl t (j + 1) = tl t j ++ [t j] := by
  simp [tl, List.range_succ]
theorem sm_tl (t : Nat → Nat) (j : Nat) (f : Nat → Int) : sm (tl t (j + 1)) f = sm (tl t j) f + f (t j) := by
  rw [tl_succ, sm_append]; simp [sm]
theorem above_tl (Y : Sys) (t : Nat → Nat) (j : Nat) (f : Nat → Int) : above Y (tl t (j + 1)) f = (above Y (tl t j) f || (!Y.2.2.2 (t j) && decide (0 < f (t j)))) := by
  rw [tl_succ]; simp [above]
theorem below_tl (Y : Sys) (t : Nat → Nat) (j : Nat) (f : Nat → Int) : below Y (tl t (j + 1)) f = (below Y (tl t j) f || (!Y.2.2.2 (t j) && decide (f (t j) < 0))) := by
  rw [tl_succ]; simp [below]
theorem any_tl (P : Nat → Bool) (t : Nat → Nat) (j : Nat) : (tl t (j + 1)).any P = ((tl t j).any P || P (t j)) := by
  rw [tl_succ]; simp
/-- what the rows' flags and right sides are like -/
def RowsWF (h : Hp) (R N : Nat) (D : Int) : Prop := h.1 R 4 = nI N ∧ N ≤ 12 ∧ Bd (rF h R) N ∧ ∀ i, i < N → (h.1 (R + 3) i = 0 ∨ h.1 (R + 3) i = 1) ∧ (h.1 (R + 4) i = 0 ∨ h.1 (R + 4) i = 1) ∧ (h.1 (R + 3) i = 1 → h.1 (R + 4) i = 0) ∧ -D ≤ (h.2 (R + 2) i).toInt ∧ (h.2 (R + 2) i).toInt ≤ D
theorem flag_b {x : Int32} (hx : x = 0 ∨ x = 1) : x = bI (decide (x = 1)) := by rcases hx with rfl | rfl <;> decide
theorem turn_z {h : Hp} {C N m : Nat} {D : Int} (hW : RowsWF h (C + 1) N D) (hD0 : 0 ≤ D) (hD : D ≤ 1000000000000) (hm : h.1 C 3 = nI m) (hm4 : m ≤ 4) (t : Nat → Nat) (ht : ∀ p, p < m → t p < N) (hM : ∀ p, p < m → h.1 (C + 6) p = nI (t p)) (f : Nat → Int) (hf : ∀ p, p < m → -162 ≤ f (t p) ∧ f (t p) ≤ 162) (hF : ∀ p, p < m → h.1 (C + 7) p = i32 (f (t p))) : ∃ r h', s_X0_turn C h = some (r, h') ∧ Fr [C, C + 7] h h' ∧ h'.1 C 3 = nI m ∧ ((∃ g, trn (rY h (C + 1)) (tl t m) f = some g ∧ r = 1 ∧ (∀ p, p < m → h'.1 (C + 7) p = i32 (g (t p))) ∧ h'.2 C 4 = i64 (sm (tl t m) (fun i => g i * (rY h (C + 1)).2.1 i)) ∧ h'.1 C 5 = bI ((tl t m).any (rY h (C + 1)).2.2.1) ∧ ∀ p, p < m → g (t p) = f (t p) ∨ g (t p) = - f (t p)) ∨ (trn (rY h (C + 1)) (tl t m) f = none ∧ r = 0)) := by
  obtain ⟨hN, h12, hB, hrow⟩ := hW
  generalize hY : rY h (C + 1) = Y
  have yd : ∀ i, Y.2.1 i = (h.2 (C + 3) i).toInt := fun i => by rw [← hY]; rfl
  have ys : ∀ i, Y.2.2.1 i = decide (h.1 (C + 4) i = 1) := fun i => by rw [← hY]; rfl
  have ye : ∀ i, Y.2.2.2 i = decide (h.1 (C + 5) i = 1) := fun i => by rw [← hY]; rfl
  have bnd : ∀ j, j ≤ m → -(j * 162000000000000 : Int) ≤ sm (tl t j) (fun i => f i * Y.2.1 i) ∧ sm (tl t j) (fun i => f i * Y.2.1 i) ≤ j * 162000000000000 := by
    intro j
    induction j with
    | zero => intro _; simp [tl, sm]
    | succ j ih =>
      intro hj
      have h1 := ih (by omega)
      rw [sm_tl]
      have h2 := hrow (t j) (ht j (by omega))
      have h3 := mulb (A := 162) (B := 1000000000000) (hf j (by omega)).1 (hf j (by omega)).2 (by rw [yd]; have := h2.2.2.2.1; show _ ≤ (h.2 (C + 1 + 2) (t j)).toInt; omega : -1000000000000 ≤ Y.2.1 (t j)) (by rw [yd]; have := h2.2.2.2.2; show (h.2 (C + 1 + 2) (t j)).toInt ≤ _; omega)
      try dsimp only
      omega
  -- the first loop
  obtain ⟨e, he, hp⟩ := iter_fuel (f := fun s : Int32 × Int32 × Int32 × Hp => s_X0_turn_l16 C s.1 s.2.1 s.2.2.1 s.2.2.2)
    (fun s => ∃ (j : Nat) (H : Hp), s = (bI (above Y (tl t j) f), bI (below Y (tl t j) f), nI j, H) ∧ j ≤ m ∧ Fr [C] h H ∧ H.1 C 3 = nI m ∧ H.2 C 4 = i64 (sm (tl t j) (fun i => f i * Y.2.1 i)) ∧ H.1 C 5 = bI ((tl t j).any Y.2.2.1))
    (fun s => m - s.2.2.1.toNatClampNeg)
    (fun e => ∃ H : Hp, e = (bI (above Y (tl t m) f), bI (below Y (tl t m) f), H) ∧ Fr [C] h H ∧ H.1 C 3 = nI m ∧ H.2 C 4 = i64 (sm (tl t m) (fun i => f i * Y.2.1 i)) ∧ H.1 C 5 = bI ((tl t m).any Y.2.2.1)) (by
    rintro s ⟨j, H, rfl, hj, hFr, hm', hs4, hs5⟩
    dsimp only
    unfold s_X0_turn_l16
    rw [hm']
    have hc : ∀ c, c ≠ C → H.1 c = h.1 c ∧ H.2 c = h.2 c := fun c hc => hFr c (by simpa using hc)
    by_cases c1 : j < m
    · have htj := ht j c1
      have hr := hrow (t j) htj
      rw [if_pos (nI_lt c1 (by omega)), ldI_n (by omega) (by omega), ldI_n (by omega) (by omega), (hc (C + 6) (by omega)).1, hM j c1, (hc (C + 7) (by omega)).1, hF j c1, ldJ_n (by omega) (by omega), lt_red, (hc (C + 1 + 2) (by omega)).2, ldI_n (by omega) (by omega), sJ_I, (hc (C + 1 + 3) (by omega)).1, hs5]
      have e5 : h.1 (C + 1 + 3) (t j) = bI (Y.2.2.1 (t j)) := by rw [ys]; exact flag_b hr.1
      have e6 : h.1 (C + 1 + 4) (t j) = bI (Y.2.2.2 (t j)) := by rw [ye]; exact flag_b hr.2.1
      rw [e5, bI_or]
      unfold ckB
      rw [if_pos (bI_01 _), lt_red, hs4]
      have ef : (i32 (f (t j))).toInt64 = i64 (f (t j)) := by
        apply Int64.toInt_inj.mp
        have := hf j c1
        rw [tl_z, i32_z (by omega) (by omega), i64_z (by omega) (by omega)]
      have er : h.2 (C + 1 + 2) (t j) = i64 (Y.2.1 (t j)) := by rw [yd]; exact (i64_of _).symm
      rw [ef, er, i64_mul, i64_add]
      generalize hHH : sI (sJ H C 4 (i64 (sm (tl t j) (fun i => f i * Y.2.1 i) + f (t j) * Y.2.1 (t j)))) C 5 (bI ((tl t j).any Y.2.2.1 || Y.2.2.1 (t j))) = HH
      have k1 : Fr [C] h HH := by
        rw [← hHH]; exact hFr.tr ((Fr.sJ (by simp)).tr (Fr.sI (by simp)))
      have k2 : HH.1 C 3 = nI m := by rw [← hHH, sI_ne (by omega), sJ_I]; exact hm'
      have k3 : HH.2 C 4 = i64 (sm (tl t (j + 1)) (fun i => f i * Y.2.1 i)) := by rw [← hHH, sI_J, sJ_same, sm_tl]
      have k4 : HH.1 C 5 = bI ((tl t (j + 1)).any Y.2.2.1) := by rw [← hHH, sI_same, any_tl]
      have kc : ∀ c, c ≠ C → HH.1 c = h.1 c ∧ HH.2 c = h.2 c := fun c hc => k1 c (by simpa using hc)
      rw [ldI_n (by omega) (by omega), (kc (C + 1 + 4) (by omega)).1, e6]
      have hfb := hf j c1
      have fpos : (0 : Int32) < i32 (f (t j)) ↔ 0 < f (t j) := by rw [lt_z, i32_z (by omega) (by omega)]; rfl
      have fneg : i32 (f (t j)) < 0 ↔ f (t j) < 0 := by rw [lt_z, i32_z (by omega) (by omega)]; rfl
      have last : ∀ (x : Bool) (b : Bool), b = decide (f (t j) < 0) → s_X0_turn_b136 C (bI x) (nI j) (bI b) (bI (below Y (tl t j) f)) HH = some (.inl (bI x, bI (below Y (tl t j) f || b), nI (j + 1), HH)) := fun x b _ => by
        unfold s_X0_turn_b136
        rw [lt_red, lt_red, bI_or, nI_1]
      refine Or.inl ⟨(bI (above Y (tl t (j + 1)) f), bI (below Y (tl t (j + 1)) f), nI (j + 1), HH), ?_, ⟨j + 1, HH, rfl, by omega, k1, k2, k3, k4⟩, ?_⟩
      · rw [above_tl, below_tl]
        cases hq : Y.2.2.2 (t j)
        · rw [if_pos (by simp [bI]), ldI_n (by omega) (by omega), (kc (C + 7) (by omega)).1, hF j c1]
          have go106 : ∀ x : Bool, s_X0_turn_b106 C (bI (below Y (tl t j) f)) (nI j) (nI (t j)) (bI x) (bI (above Y (tl t j) f)) HH = some (.inl (bI (above Y (tl t j) f || x), bI (below Y (tl t j) f || decide (f (t j) < 0)), nI (j + 1), HH)) := fun x => by
            unfold s_X0_turn_b106 s_X0_turn_b135
            rw [lt_red, bI_or, ldI_n (by omega) (by omega), (kc (C + 1 + 4) (by omega)).1, e6, hq, if_pos (by simp [bI]), ldI_n (by omega) (by omega), (kc (C + 7) (by omega)).1, hF j c1]
            by_cases z : f (t j) < 0
            · rw [if_pos (fneg.mpr z), ← bI_t, last _ true (by simp [z])]; simp [z]
            · rw [if_neg (fun q => z (fneg.mp q)), ← bI_f, last _ false (by simp [z])]; simp [z]
          by_cases z : 0 < f (t j)
          · rw [if_pos (fpos.mpr z), ← bI_t, go106]; simp [z]
          · rw [if_neg (fun q => z (fpos.mp q))]
            unfold s_X0_turn_b105
            rw [← bI_f, go106]; simp [z]
        · rw [if_neg (by simp [bI])]
          unfold s_X0_turn_b105 s_X0_turn_b106 s_X0_turn_b135
          rw [lt_red, ← bI_f, bI_or, ldI_n (by omega) (by omega), (kc (C + 1 + 4) (by omega)).1, e6, hq, if_neg (by simp [bI])]
          unfold s_X0_turn_b136
          rw [lt_red, lt_red, bI_or, nI_1]; simp
      · dsimp only; rw [nI_clamp (by omega), nI_clamp (by omega)]; omega
    · rw [if_neg (nI_nlt (by omega) (by omega))]
      have : j = m := by omega
      subst this
      exact Or.inr ⟨_, rfl, H, rfl, hFr, hm', hs4, hs5⟩)
    (0, 0, nI 0, sI (sJ h C 4 0) C 5 0) ⟨0, sI (sJ h C 4 0) C 5 0, by simp [tl, above, below, bI], by omega, (Fr.sJ (by simp)).tr (Fr.sI (by simp)), by rw [sI_ne (by omega), sJ_I]; exact hm, by rw [sI_J, sJ_same]; simp [tl, sm]; rfl, by rw [sI_same]; simp [tl, bI]⟩ (by dsimp only; rw [nI_clamp (by omega)]; omega)
  obtain ⟨H, rfl, hFr, hm', hs4, hs5⟩ := hp
  unfold s_X0_turn
  rw [lt_red, lt_red, li0]
  show ∃ r h', (iter _ FUEL (nI 0, nI 0, nI 0, sI (sJ h C 4 0) C 5 (nI 0))).bind _ = some (r, h') ∧ _
  rw [← li0] at *
  rw [he]
  have hc : ∀ c, c ≠ C → H.1 c = h.1 c ∧ H.2 c = h.2 c := fun c hc => hFr c (by simpa using hc)
  have hb := bnd m (Nat.le_refl m)
  have sum_pos : (0 : Int64) < i64 (sm (tl t m) (fun i => f i * Y.2.1 i)) ↔ 0 < sm (tl t m) (fun i => f i * Y.2.1 i) := by
    rw [ltl_z, i64_z (by omega) (by omega)]; rfl
  have b199 : ∀ H : Hp, s_X0_turn_b199 C (bI (above Y (tl t m) f)) (bI (below Y (tl t m) f)) H = some (if above Y (tl t m) f = true ∧ below Y (tl t m) f = true then 0 else 1, H) := fun H => by
    unfold s_X0_turn_b199
    cases above Y (tl t m) f <;> cases below Y (tl t m) f <;> simp [bI]
  -- the second loop
  have flip : ∃ H2 : Hp, s_X0_turn_b161 C (bI (above Y (tl t m) f)) (bI (below Y (tl t m) f)) H = some (if above Y (tl t m) f = true ∧ below Y (tl t m) f = true then 0 else 1, H2) ∧ Fr [C, C + 7] h H2 ∧ H2.1 C 3 = nI m ∧ (∀ p, p < m → H2.1 (C + 7) p = i32 (- f (t p))) ∧ H2.2 C 4 = i64 (- sm (tl t m) (fun i => f i * Y.2.1 i)) ∧ H2.1 C 5 = bI ((tl t m).any Y.2.2.1) := by
    obtain ⟨e, he, hp⟩ := iter_fuel (f := fun s : Int32 × Hp => s_X0_turn_l172 C (bI (above Y (tl t m) f)) (bI (below Y (tl t m) f)) s.1 s.2)
      (fun s => ∃ (j : Nat) (H2 : Hp), s = (nI j, H2) ∧ j ≤ m ∧ Fr [C, C + 7] h H2 ∧ H2.1 C 3 = nI m ∧ (∀ p, p < m → H2.1 (C + 7) p = if p < j then i32 (- f (t p)) else i32 (f (t p))) ∧ H2.2 C 4 = i64 (- sm (tl t m) (fun i => f i * Y.2.1 i)) ∧ H2.1 C 5 = bI ((tl t m).any Y.2.2.1))
      (fun s => m - s.1.toNatClampNeg)
      (fun H2 => Fr [C, C + 7] h H2 ∧ H2.1 C 3 = nI m ∧ (∀ p, p < m → H2.1 (C + 7) p = i32 (- f (t p))) ∧ H2.2 C 4 = i64 (- sm (tl t m) (fun i => f i * Y.2.1 i)) ∧ H2.1 C 5 = bI ((tl t m).any Y.2.2.1)) (by
      rintro s ⟨j, H2, rfl, hj, q1, q2, q3, q4, q5⟩
      dsimp only
      unfold s_X0_turn_l172
      rw [q2]
      by_cases c1 : j < m
      · rw [if_pos (nI_lt c1 (by omega)), ldI_n (by omega) (by omega), stI_n (by omega) (by omega), lt_red, nI_1]
        refine Or.inl ⟨_, rfl, ⟨j + 1, _, rfl, by omega, q1.tr (Fr.sI (by simp)), by rw [sI_cell (by omega)]; exact q2, fun p hp => ?_, by rw [sI_J]; exact q4, by rw [sI_cell (by omega)]; exact q5⟩, ?_⟩
        · by_cases z : p = j
          · subst z
            rw [sI_same, q3 p hp, if_neg (by omega), if_pos (by omega), neg_i32]
          · rw [sI_ne z, q3 p hp]
            by_cases w : p < j
            · rw [if_pos w, if_pos (by omega)]
            · rw [if_neg w, if_neg (by omega)]
        · dsimp only; rw [nI_clamp (by omega), nI_clamp (by omega)]; omega
      · rw [if_neg (nI_nlt (by omega) (by omega))]
        exact Or.inr ⟨_, rfl, q1, q2, fun p hp => by rw [q3 p hp, if_pos (by omega)], q4, q5⟩)
      (0, sJ H C 4 (-(H.2 C 4))) ⟨0, _, rfl, by omega, (hFr.wid (by simp)).tr (Fr.sJ (by simp)), by rw [sJ_I]; exact hm', fun p hp => by rw [if_neg (by omega), sJ_I, (hc (C + 7) (by omega)).1]; exact hF p hp, by rw [sJ_same, hs4, i64_neg], by rw [sJ_I]; exact hs5⟩ (by dsimp only; rw [li0, nI_clamp (by omega)]; omega)
    refine ⟨e, ?_, hp⟩
    unfold s_X0_turn_b161
    rw [lt_red, he]
    exact b199 e
  obtain ⟨H2, f1, f2, f3, f4, f5, f6⟩ := flip
  have hneg : sm (tl t m) (fun i => (- f i) * Y.2.1 i) = - sm (tl t m) (fun i => f i * Y.2.1 i) := sm_neg _ _ _
  show ∃ r h', (if bI (below Y (tl t m) f) = 0 then (if bI (above Y (tl t m) f) = 0 then (if (0 : Int64) < H.2 C 4 then _ else _) else _) else _) = some (r, h') ∧ _
  rw [hs4, f1, b199]
  unfold trn
  cases hbl : below Y (tl t m) f <;> cases hab : above Y (tl t m) f
  · rw [if_pos (by rfl), if_pos (by rfl)]
    by_cases sp : 0 < sm (tl t m) (fun i => f i * Y.2.1 i)
    · rw [if_pos (sum_pos.mpr sp)]
      refine ⟨_, _, rfl, f2, f3, Or.inl ⟨fun i => - f i, by simp [sp], by simp, f4, by rw [f5, hneg], f6, fun p _ => Or.inr rfl⟩⟩
    · rw [if_neg (fun q => sp (sum_pos.mp q))]
      refine ⟨_, _, rfl, hFr.wid (by simp), hm', Or.inl ⟨f, by simp [sp], by simp, fun p hp => by rw [(hc (C + 7) (by omega)).1]; exact hF p hp, hs4, hs5, fun p _ => Or.inl rfl⟩⟩
  · rw [if_pos (by rfl), if_neg (by simp [bI])]
    refine ⟨_, _, rfl, hFr.wid (by simp), hm', Or.inl ⟨f, by simp, by simp, fun p hp => by rw [(hc (C + 7) (by omega)).1]; exact hF p hp, hs4, hs5, fun p _ => Or.inl rfl⟩⟩
  · rw [if_neg (by simp [bI])]
    refine ⟨_, _, rfl, f2, f3, Or.inl ⟨fun i => - f i, by simp, by simp, f4, by rw [f5, hneg], f6, fun p _ => Or.inr rfl⟩⟩
  · rw [if_neg (by simp [bI])]
    refine ⟨_, _, rfl, f2, f3, Or.inr ⟨by simp, by simp⟩⟩
