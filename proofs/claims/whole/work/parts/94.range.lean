/-! the range step -/
theorem iv_dom {L H : End} (hne : ∃ t, IV L H t) (t : Rat) : (∃ s, IV L H s ∧ t ≤ s) ↔ IV none H t := by
  obtain ⟨t0, l0, h0⟩ := hne
  constructor
  · rintro ⟨s, ⟨-, hs⟩, hts⟩
    exact ⟨fun x hx => (by cases hx), fun x hx => upB_mono (hs x hx) hts⟩
  · rintro ⟨-, ht⟩
    by_cases c : t ≤ t0
    · exact ⟨t0, ⟨l0, h0⟩, c⟩
    · exact ⟨t, ⟨fun x hx => upB_mono (l0 x hx) (by grind), ht⟩, by grind⟩
theorem end_one {E E' : End} (h : ∀ t, IV none E t ↔ IV none E' t) : E = E' := by
  have hne : ∃ t, IV none E t := by
    cases E with
    | none => exact ⟨0, fun x hx => (by cases hx), fun x hx => (by cases hx)⟩
    | some x => exact ⟨x.1 - 1, fun y hy => (by cases hy), fun y hy => by cases hy; exact Or.inl (by grind)⟩
  exact iv_top hne h
theorem frac_eq {a b c d : Int} (hb : 0 < b) (hd : 0 < d) (h : (a : Rat) / (b : Rat) = (c : Rat) / (d : Rat)) : a * d = c * b := by
  have b1 : (0 : Rat) < (b : Rat) := by exact_mod_cast hb
  have d1 : (0 : Rat) < (d : Rat) := by exact_mod_cast hd
  have e1 : (a : Rat) / (b : Rat) * (b : Rat) = (a : Rat) := Rat.div_mul_cancel (by grind)
  have e2 : (c : Rat) / (d : Rat) * (d : Rat) = (c : Rat) := Rat.div_mul_cancel (by grind)
  have : (a : Rat) * (d : Rat) = (c : Rat) * (b : Rat) := by
    rw [← e1, ← e2, h]; grind
  exact_mod_cast this
theorem BJ.seek {h h' : Hp} (hb : ∀ k, (h'.1 35 k = h.1 35 k ∨ h'.1 35 k = 0) ∧ (h'.1 36 k = h.1 36 k ∨ h'.1 36 k = 0)) (bj : BJ h) : BJ h' := fun k => by
  obtain ⟨a, b⟩ := hb k
  obtain ⟨c, d⟩ := bj k
  refine ⟨?_, ?_⟩
  · rcases a with e | e
    · rw [e]; exact c
    · exact Or.inl e
  · rcases b with e | e
    · rw [e]; exact d
    · exact Or.inl e
theorem CI.rows {h h' : Hp} {nv N : Nat} {F : Nat → Nat → Int} {s : Nat → Nat} {d : Nat → Int} (hc : CI h nv N F s d) (hr : RowsSame h h' 32 N) (e4 : h'.1 32 4 = nI N) (e5 : h'.1 32 5 = nI nv) (e39 : h'.1 39 = h.1 39) (e40 : h'.1 40 = h.1 40) (hB : BJ h → BJ h') : CI h' nv N F s d := by
  obtain ⟨⟨c1, c2, c3⟩, c4, n, t, c5, c6, c7⟩ := hc
  refine ⟨⟨e4, e5, c3⟩, fun i hi => ?_, n, t, ?_, c6, hB c7⟩
  · obtain ⟨r1, r2, r3, r4⟩ := c4 i hi
    obtain ⟨a1, a2, a3, a4⟩ := hr i hi
    exact ⟨fun v hv => by rw [a1 v hv]; exact r1 v hv, by rw [a2]; exact r2, by rw [a3]; exact r3, by rw [a4]; exact r4⟩
  · refine c5.cg c3 e40 e39 (fun i hi v hv => ?_) (fun i hi => ?_) (fun i hi => ?_) (fun i hi => ?_)
    · exact ((hr i hi).1 v hv).symm
    · show (h.2 (32 + 2) i).toInt = (h'.2 (32 + 2) i).toInt
      rw [(hr i hi).2.1]
    · show decide (h.1 (32 + 3) i = 1) = decide (h'.1 (32 + 3) i = 1)
      rw [(hr i hi).2.2.1]
    · show decide (h.1 (32 + 4) i = 1) = decide (h'.1 (32 + 4) i = 1)
      rw [(hr i hi).2.2.2]
theorem aI_set {m : Nat} (hm : m ≤ 10) {k : Nat} (hk : k < m) : bt (aI m) k = true := by
  rw [aI_n m (by omega), bt_nI _ _ (by omega), Nat.testBit_two_pow_sub_one]
  exact decide_eq_true hk
theorem allhold {h : Hp} {nv nf m lv : Nat} (hP : ProbR h nv nf m lv) (hc : CIM h nv m) (p : Nat → Rat) : mHold h 66 (aI m) m p ↔ ∀ i, i < m → hold (rY h 32) i p := by
  have hm := hP.2.2.2.1.2.1.2.1
  rw [mHold_iff hP.2.2.2.1.2.1]
  constructor
  · intro q i hi
    exact (row_hold (hP.rw i hi).1 (hc.2.1 i hi) p).mpr (q i hi (aI_set hm.1 hi))
  · intro q i hi _
    exact (row_hold (hP.rw i hi).1 (hc.2.1 i hi) p).mp (q i hi)
def Res2 (h : Hp) : Prop := h.2 0 12 = h.2 66 34 ∧ h.2 0 13 = h.2 66 35
abbrev rngc : List Nat := [0, 41] ++ rowc ++ scr 66
abbrev rngK : List Nat := 34 :: 35 :: scrK
/-- what a query leaves -/
def QP (h h2 : Hp) (nv nf m lv : Nat) : Prop := ProbR h2 nv nf m lv ∧ CIM h2 nv m ∧ Fr rngc h h2 ∧ FrK 0 [12, 13] h h2 ∧ FrK 66 rngK h h2 ∧ (Res2 h → Res2 h2)
theorem hasF_z {h : Hp} {P nf : Nat} (e : h.1 P 1 = nI nf) (h8 : nf ≤ 8) (a : Int32) : s_X5_hasForm P a h = some (bI (decide (0 ≤ a.toInt ∧ a.toInt < nf))) := by
  unfold s_X5_hasForm
  rw [e, has_z (by omega)]
theorem isF_z {h : Hp} {P nf : Nat} (e : h.1 P 1 = nI nf) (h8 : nf ≤ 8) (a : Int32) : s_X10_isForm P a h = some (bI (decide (0 ≤ a.toInt ∧ a.toInt < nf))) := by
  unfold s_X10_isForm
  rw [e, isn_z (by omega), bnd_s, ckB_b]
/-- the model's last act -/
theorem says_res {h H2 H4 : Hp} {x y x' y' : Int64} {r : Int32} {nv nf m lv : Nat} (hP : ProbR H4 nv nf m lv) (hc : CIM H4 nv m) (hF : Fr rngc h H4) (hK0 : FrK 0 [12, 13] h H4) (hK : FrK 66 rngK h H4) (hx' : -9223372036854775808 < x'.toInt) (hy : 0 < y.toInt) (hy' : 0 < y'.toInt) (he : x.toInt * y'.toInt = x'.toInt * y.toInt) (e12 : H4.2 0 12 = i64 (rn x.toInt y.toInt)) (e13 : H4.2 0 13 = i64 (rd x.toInt y.toInt)) : ∃ H5, s_X10_says 66 x' y' r H4 = some (r, H5) ∧ QP h H5 nv nf m lv := by
  obtain ⟨d1, d2⟩ := red_one hy hy' he
  refine ⟨_, says_z r hx' hy', ?_⟩
  have F5 : Fr [66] H4 (sJ (sJ H4 66 34 (i64 (rn x'.toInt y'.toInt))) 66 35 (i64 (rd x'.toInt y'.toInt))) := (Fr.sJ (by simp)).tr (Fr.sJ (by simp))
  have K5 : FrK 66 [34, 35] H4 (sJ (sJ H4 66 34 (i64 (rn x'.toInt y'.toInt))) 66 35 (i64 (rd x'.toInt y'.toInt))) := fun k hk => by
    simp at hk
    exact ⟨rfl, by rw [sJ_ne hk.2, sJ_ne hk.1]⟩
  have g34 : (sJ (sJ H4 66 34 (i64 (rn x'.toInt y'.toInt))) 66 35 (i64 (rd x'.toInt y'.toInt))).2 66 34 = i64 (rn x'.toInt y'.toInt) := by rw [sJ_ne (by omega), sJ_same]
  have g35 : (sJ (sJ H4 66 34 (i64 (rn x'.toInt y'.toInt))) 66 35 (i64 (rd x'.toInt y'.toInt))).2 66 35 = i64 (rd x'.toInt y'.toInt) := by rw [sJ_same]
  generalize sJ (sJ H4 66 34 (i64 (rn x'.toInt y'.toInt))) 66 35 (i64 (rd x'.toInt y'.toInt)) = H5 at *
  have P5 : ProbR H5 nv nf m lv := hP.fr F5 (FrK.of F5 (by simp) (ks := [])) K5 (by simp) (by simp) (by simp)
  refine ⟨P5, ?_, hF.tr (F5.wid (by simp [rngc, scr])), hK0.tr (FrK.of F5 (by simp)), hK.tr (K5.wid (by simp [rngK])), fun _ => ⟨?_, ?_⟩⟩
  · obtain ⟨-, g1, g2, g3, g4⟩ := hP.2.2.2.1.2.1.fr F5 K5 (by simp) (by simp) (by simp)
    show CI H5 nv m (fun i => mK H5 66 (mG H5 66 i)) (mS H5 66) (mD H5 66)
    rw [g1, g2, g3, g4]
    exact CI.fr hc F5 (by simp) (by simp) (by simp) (by simp) (by simp) (by simp) (by simp)
  · rw [(F5 0 (by simp)).2, g34, e12, d1]
  · rw [(F5 0 (by simp)).2, g35, e13, d2]
/-- a problem behind acts elsewhere -/
theorem PC.fr {h H : Hp} {nv nf m lv : Nat} {S ks : List Nat} (hP : ProbR h nv nf m lv) (hc : CIM h nv m) (f : Fr S h H) (K : FrK 66 ks h H) (hS : ∀ c ∈ S, c ∉ [1, 2, 3, 4, 5, 6, 67, 68, 69, 32, 33, 34, 35, 36, 39, 40]) (h6 : ∀ c ∈ ks, c ∉ [0, 1, 3, 5]) : ProbR H nv nf m lv ∧ CIM H nv m := by
  have z : ∀ c, c ∈ [1, 2, 3, 4, 5, 6, 67, 68, 69, 32, 33, 34, 35, 36, 39, 40] → c ∉ S := fun c hc q => hS c q hc
  refine ⟨hP.fr f (FrK.of f (z 1 (by simp)) (ks := [])) K (fun c hc q => ?_) (by simp) h6, ?_⟩
  · simp at q
    exact hS c hc (by simp; omega)
  · obtain ⟨-, g1, g2, g3, g4⟩ := hP.2.2.2.1.2.1.fr f K (fun q => h6 3 q (by simp)) (z 67 (by simp)) (z 68 (by simp))
    show CI H nv m (fun i => mK H 66 (mG H 66 i)) (mS H 66) (mD H 66)
    rw [g1, g2, g3, g4]
    exact CI.fr hc f (z 32 (by simp)) (z 33 (by simp)) (z 34 (by simp)) (z 35 (by simp)) (z 36 (by simp)) (z 39 (by simp)) (z 40 (by simp))
set_option maxHeartbeats 2000000 in
theorem range_step {h : Hp} {nv nf m lv : Nat} (hP : ProbR h nv nf m lv) (hn1 : 1 ≤ nv) (hc : CIM h nv m) (a1 a2 : Int32) : ∃ r : Int32, ∃ h1 h2 : Hp, s_X9_range 0 a1 a2 h = some (r, h1) ∧ s_X10_range 66 a1 a2 h1 = some (r, h2) ∧ QP h h2 nv nf m lv := by
  have z0 : (0 : Int32).toInt = 0 := by decide
  have z1 : (1 : Int32).toInt = 1 := by decide
  have z0l : (0 : Int64).toInt = 0 := by decide
  have h3 := hP.1.2.2
  have h8 := hP.2.1.2.2.1
  have hm := hP.2.2.2.1.2.1.2.1
  have rf : QP h h nv nf m lv := ⟨hP, hc, Fr.rf, FrK.rf, FrK.rf, id⟩
  have A := hasF_z (P := 1) hP.2.1.1 h8 a1
  have B : ∀ H : Hp, H.1 66 1 = nI nf → s_X10_isForm 66 a1 H = some (bI (decide (0 ≤ a1.toInt ∧ a1.toInt < nf))) := fun H e => isF_z e h8 a1
  by_cases c1 : 0 ≤ a1.toInt ∧ a1.toInt < nf
  rotate_left
  · refine ⟨-1, h, h, ?_, ?_, rf⟩
    · unfold s_X9_range; simp only [Nat.zero_add]; rw [A, decide_eq_false c1]; rfl
    · unfold s_X10_range; rw [B h hP.2.1.2.1, decide_eq_false c1]; rfl
  by_cases c2 : 0 ≤ a2.toInt ∧ a2.toInt ≤ 1
  rotate_left
  · refine ⟨-1, h, h, ?_, ?_, rf⟩
    · unfold s_X9_range
      simp only [Nat.zero_add]
      rw [A, decide_eq_true c1, bnd_s, if_neg (by decide)]
      by_cases d : a2 < 0
      · rw [if_pos d]
      · rw [if_neg d]
        have d : ¬ a2.toInt < 0 := fun q => d (lt_z.mpr (by rw [z0]; exact q))
        rw [if_pos (lt_z.mpr (by rw [z1]; omega))]
    · unfold s_X10_range
      rw [B h hP.2.1.2.1, decide_eq_true c1, bnd_s, if_neg (by decide), in_z, z0, z1, decide_eq_false c2, bnd_s, if_pos (by decide)]
  obtain ⟨g, hg⟩ : ∃ i : Nat, a1.toInt = i := ⟨a1.toInt.toNat, by omega⟩
  have hgn : g < nf := by omega
  have ea := of_nat hg
  subst ea
  have d1 : ¬ a2 < 0 := fun q => by have := lt_z.mp q; rw [z0] at this; omega
  have d2 : ¬ (1 : Int32) < a2 := fun q => by have := lt_z.mp q; rw [z1] at this; omega
  -- the model, behind any acts elsewhere
  have model : ∀ H : Hp, ProbR H nv nf m lv → ∃ H4, s_X10_seesForm 66 (aI m) (nI g) H = some H4 ∧ Fr (scr 66) H H4 ∧ FrK 66 scrK H H4 ∧ WFI 839808 6998400 H4 66 ∧ (∀ t, inI H4 66 t ↔ ∃ p, mHold H 66 (aI m) m p ∧ lin (mK H 66 g) p = t) ∧ (H4.1 66 28 = 0 ↔ ∃ t, inI H4 66 t) := fun H PH => seesForm_z PH.2.2.2.1.2.1 hgn (aI m) (PH.2.2.1 g hgn).1
  have head : ∀ H : Hp, H.1 66 1 = nI nf → H.1 66 3 = nI m → ∀ H4, s_X10_seesForm 66 (aI m) (nI g) H = some H4 → s_X10_range 66 (nI g) a2 H = (if (H4.1 66 28) = 0 then (if a2 = 0 then (if (H4.1 66 20) = 0 then (some ((-9 : Int32), H4)) else (if (H4.1 66 23) = 0 then (s_X10_range_b70 66 (1 : Int32) (H4.2 66 22) (H4.2 66 21) H4) else (s_X10_range_b70 66 (0 : Int32) (H4.2 66 22) (H4.2 66 21) H4))) else (if (H4.1 66 24) = 0 then (some ((-9 : Int32), H4)) else (if (H4.1 66 27) = 0 then (s_X10_range_b107 66 (1 : Int32) (H4.2 66 26) (H4.2 66 25) H4) else (s_X10_range_b107 66 (0 : Int32) (H4.2 66 26) (H4.2 66 25) H4)))) else (some ((-2 : Int32), H4))) := fun H e1 e3 H4 e4 => by
    unfold s_X10_range
    rw [B H e1, decide_eq_true c1, bnd_s, if_neg (by decide), in_z, z0, z1, decide_eq_true c2, bnd_s, if_neg (by decide), allB_z e3, bnd_s, e4, bnd_s]
  cases hs : sB h m (aI m)
  · -- not satisfiable
    obtain ⟨H4, m1, m2, m3, m4, m5, m6⟩ := model h hP
    have n0 : ¬ H4.1 66 28 = 0 := fun q => by
      obtain ⟨t, ht⟩ := m6.mp q
      obtain ⟨p, hp, -⟩ := (m5 t).mp ht
      have := sB_iff.mpr ⟨p, hp⟩
      rw [hs] at this; cases this
    obtain ⟨P4, C4⟩ := PC.fr hP hc m2 m3 (by simp [scr]) (by simp [scrK, iks])
    refine ⟨-2, h, H4, ?_, ?_, P4, C4, m2.wid (by simp [rngc, scr]), FrK.of m2 (by simp [scr]), m3.wid (by simp [rngK, scrK, iks]), fun q => ?_⟩
    · unfold s_X9_range
      simp only [Nat.zero_add]
      rw [A, decide_eq_true c1, bnd_s, if_neg (by decide), if_neg d1, if_neg d2, satis_z hP hn1 hc, hs, bnd_s, if_pos (by decide)]
    · rw [head h hP.2.1.2.1 hP.2.2.2.1.2.1.1 H4 m1, if_neg n0]
    · unfold Res2
      rw [(m2 0 (by simp [scr])).2, (m3 34 (by simp [scrK, iks])).2, (m3 35 (by simp [scrK, iks])).2]; exact q
  · have hsat : Sat (rY h 32) (List.range m) := by
      obtain ⟨p, hp⟩ := sB_iff.mp hs
      exact ⟨p, fun i hi => (allhold hP hc p).mp hp i (List.mem_range.mp hi)⟩
    have gK := fun v hv => hP.2.2.2.1.2.1.2.2.1 g v hgn hv
    have gz := fun v hv hn => (hP.2.2.1 g hgn).2 v hn hv
    obtain ⟨v0, hv0, hne⟩ := (hP.2.2.1 g hgn).1
    -- both turns
    have both : ∀ (tn : Int32) (tz' : Int), tn.toInt = tz' → (tz' = 1 ∨ tz' = -1) → ∀ (E : Hp → End), (∀ (H H4 : Hp), ProbR H nv nf m lv → s_X10_seesForm 66 (aI m) (nI g) H = some H4 → WFI 839808 6998400 H4 66 → (∀ t, inI H4 66 t ↔ ∃ p, mHold H 66 (aI m) m p ∧ lin (mK H 66 g) p = t) → (∃ t, inI H4 66 t) → ∀ t, IV none (E H4) t ↔ ∃ p, mHold H 66 (aI m) m p ∧ t ≤ tz' * lin (mK H 66 g) p) → (∀ (H H4 H2 : Hp), ProbR H nv nf m lv → s_X10_seesForm 66 (aI m) (nI g) H = some H4 → WFI 839808 6998400 H4 66 → H4.1 66 28 = 0 → H.1 66 1 = nI nf → H.1 66 3 = nI m → (E H4 = none → s_X10_range 66 (nI g) a2 H = some (-9, H4)) ∧ (∀ q o, E H4 = some (q, o) → ∃ x' y' : Int64, 0 < y'.toInt ∧ (-7000000 ≤ x'.toInt) ∧ q = (tz' : Rat) * ((x'.toInt : Rat) / (y'.toInt : Rat)) ∧ s_X10_range 66 (nI g) a2 H = (s_X10_says 66 x' y' (if o = true then 0 else 1) H4).bind (fun y => some (y.1, y.2)))) → ∃ r : Int32, ∃ h1 h2 : Hp, s_X9_range_b41 0 (nI g) tn h = some (r, h1) ∧ s_X10_range 66 (nI g) a2 h1 = some (r, h2) ∧ QP h h2 nv nf m lv := by
      intro tn tz' etn htz E hE hM
      have kb : ∀ v, v < 3 → -3 ≤ tz' * mK h 66 g v ∧ tz' * mK h 66 g v ≤ 3 := fun v hv => by
        have := gK v hv
        rcases htz with e | e <;> rw [e] <;> omega
      have ent : ∀ v, v < 3 → tn * i32 (mK h 66 g v) = i32 (tz' * mK h 66 g v) := fun v hv => by
        rw [← i32_of tn, etn, i32_mul]
      obtain ⟨H1, s1, sF, sK, sW, s5, sS, sB1, sL, sT⟩ := seek_z (h := h) (ub := 0) (C := 31) (Lm := 41) (D := 50) (nv := nv) (K := fun v => tz' * mK h 66 g v) (by omega) (rows_wf hc.1.1 hc.1.2.2 hc.2.1 hP.rw) (by omega) (by omega) hc.1.2.1 hn1 (by omega) (by omega) (fun i hi v hv hn => (rows_forms hc.2.1 hP.rw i hi).1 v hv (by omega)) hsat kb (fun v hv hn => by
        have : mK h 66 g v = 0 := gz v hv (by omega)
        show tz' * mK h 66 g v = 0
        rw [this]; simp) ⟨v0, hv0, by
        rcases htz with e | e <;> rw [e] <;> omega⟩
      have K66 : FrK 66 [] h H1 := FrK.of sF (by simp [cirk])
      have P1 : ProbR H1 nv nf m lv := hP.fr sF (FrK.of sF (by simp [cirk]) (ks := [])) K66 (by simp [cirk]) (by simp) (by simp)
      have C1 : CIM H1 nv m := by
        obtain ⟨-, g1, g2, g3, g4⟩ := hP.2.2.2.1.2.1.fr sF K66 (by simp) (by simp [cirk]) (by simp [cirk])
        show CI H1 nv m (fun i => mK H1 66 (mG H1 66 i)) (mS H1 66) (mD H1 66)
        rw [g1, g2, g3, g4]
        exact CI.rows hc sS sW.1 s5 (sF 39 (by simp [cirk])).1 (sF 40 (by simp [cirk])).1 (BJ.seek sB1)
      have E0 : s_X5_entry 1 (nI g) 0 h = some (i32 (mK h 66 g 0)) := entry5_z (v := 0) hP.1.1 hP.2.1.1 h3 h8 hgn (by omega) (fun v hv => by rw [hP.2.1.2.2.2 _ (by omega)]; exact (i32_of _).symm) gz
      have E1 : s_X5_entry 1 (nI g) 1 h = some (i32 (mK h 66 g 1)) := entry5_z (v := 1) hP.1.1 hP.2.1.1 h3 h8 hgn (by omega) (fun v hv => by rw [hP.2.1.2.2.2 _ (by omega)]; exact (i32_of _).symm) gz
      have E2 : s_X5_entry 1 (nI g) 2 h = some (i32 (mK h 66 g 2)) := entry5_z (v := 2) hP.1.1 hP.2.1.1 h3 h8 hgn (by omega) (fun v hv => by rw [hP.2.1.2.2.2 _ (by omega)]; exact (i32_of _).symm) gz
      have lK : ∀ p : Nat → Rat, lin (fun v => tz' * mK h 66 g v) p = (tz' : Rat) * lin (mK h 66 g) p := fun p => by unfold lin; push_cast; grind
      -- the end that the class finds is the model's
      have same : ∀ (H H4 : Hp), ProbR H nv nf m lv → (mG H 66 = mG h 66 ∧ mS H 66 = mS h 66 ∧ mD H 66 = mD h 66 ∧ mK H 66 = mK h 66) → s_X10_seesForm 66 (aI m) (nI g) H = some H4 → WFI 839808 6998400 H4 66 → (∀ t, inI H4 66 t ↔ ∃ p, mHold H 66 (aI m) m p ∧ lin (mK H 66 g) p = t) → (∃ t, inI H4 66 t) → limO H1 41 = E H4 := fun H H4 PH hg4 e4 w4 i4 n4 => by
        apply end_one
        intro t
        rw [sT t, hE H H4 PH e4 w4 i4 n4 t]
        obtain ⟨g1, g2, g3, g4⟩ := hg4
        have mh : ∀ p, mHold H 66 (aI m) m p ↔ mHold h 66 (aI m) m p := fun p => by unfold mHold; rw [mset_congr g1 g2 g3 g4]
        constructor
        · rintro ⟨p, w1, w2⟩
          rw [lK] at w2
          exact ⟨p, (mh p).mpr ((allhold hP hc p).mpr w1), by rw [g4]; exact w2⟩
        · rintro ⟨p, w1, w2⟩
          rw [g4] at w2
          exact ⟨p, (allhold hP hc p).mp ((mh p).mp w1), by rw [lK]; exact w2⟩
      have nonempty : ∀ (H H4 : Hp), (mG H 66 = mG h 66 ∧ mS H 66 = mS h 66 ∧ mD H 66 = mD h 66 ∧ mK H 66 = mK h 66) → (∀ t, inI H4 66 t ↔ ∃ p, mHold H 66 (aI m) m p ∧ lin (mK H 66 g) p = t) → ∃ t, inI H4 66 t := fun H H4 hg4 i4 => by
        obtain ⟨g1, g2, g3, g4⟩ := hg4
        obtain ⟨p, hp⟩ := sB_iff.mp hs
        exact ⟨lin (mK H 66 g) p, (i4 _).mpr ⟨p, by unfold mHold; rw [mset_congr g1 g2 g3 g4]; exact hp, rfl⟩⟩
      have cls : s_X9_range_b41 0 (nI g) tn h = (if (H1.1 41 0) = 0 then (some ((-9 : Int32), H1)) else ((s_X9_find 0 ((tn).toInt64 * (H1.2 41 1)) (H1.2 41 2) H1).bind fun y7 => if (y7.1 41 3) = 0 then (some ((1 : Int32), y7)) else (some ((0 : Int32), y7)))) := by
        unfold s_X9_range_b41
        simp only [Nat.zero_add]
        rw [E0, bnd_s, E1, bnd_s, E2, bnd_s, ent 0 (by omega), ent 1 (by omega), ent 2 (by omega), s1, bnd_s]
      rcases sL.1 with q | q
      · -- no bound
        obtain ⟨H4, m1, m2, m3, m4, m5, m6⟩ := model H1 P1
        have g4 := (hP.2.2.2.1.2.1.fr sF K66 (by simp) (by simp [cirk]) (by simp [cirk])).2
        have ne := nonempty H1 H4 g4 m5
        have eE := same H1 H4 P1 g4 m1 m4 m5 ne
        have eN : E H4 = none := by
          rw [← eE]; unfold limO; rw [if_neg (by rw [q]; decide)]
        obtain ⟨P4, C4⟩ := PC.fr P1 C1 m2 m3 (by simp [scr]) (by simp [scrK, iks])
        refine ⟨-9, H1, H4, by rw [cls, if_pos q], (hM H1 H4 H4 P1 m1 m4 (m6.mpr ne) P1.2.1.2.1 P1.2.2.2.1.2.1.1).1 eN, P4, C4, (sF.wid (by simp [rngc, cirk, rowc])).tr (m2.wid (by simp [rngc, scr])), (FrK.of sF (by simp [cirk])).tr (FrK.of m2 (by simp [scr])), (FrK.of sF (by simp [cirk])).tr (m3.wid (by simp [rngK, scrK, iks])), fun r2 => ?_⟩
        unfold Res2
        rw [(m2 0 (by simp [scr])).2, (m3 34 (by simp [scrK, iks])).2, (m3 35 (by simp [scrK, iks])).2, (sF 0 (by simp [cirk])).2, (sF 66 (by simp [cirk])).2]; exact r2
      · -- a bound: found
        have etl : (tn).toInt64.toInt = tz' := by rw [tl_z, etn]
        have tb := sL.2.2.1
        have ex : ((tn).toInt64 * (H1.2 41 1)).toInt = tz' * (H1.2 41 1).toInt := by
          rcases htz with e | e <;> rw [mull_z (by rw [etl, e]; omega) (by rw [etl, e]; omega), etl]
        have exb : -32400 ≤ tz' * (H1.2 41 1).toInt ∧ tz' * (H1.2 41 1).toInt ≤ 32400 := by rcases htz with e | e <;> rw [e] <;> omega
        have fz := find_z (h := H1) (c := 0) (x := (tn).toInt64 * (H1.2 41 1)) (y := H1.2 41 2) (by rw [ex]; omega) ⟨sL.2.1.1, by have := sL.2.1.2; omega⟩
        generalize gH2 : sJ (sJ H1 0 12 (i64 (rn ((tn).toInt64 * (H1.2 41 1)).toInt (H1.2 41 2).toInt))) 0 13 (i64 (rd ((tn).toInt64 * (H1.2 41 1)).toInt (H1.2 41 2).toInt)) = H2 at fz
        have F2 : Fr [0] H1 H2 := by rw [← gH2]; exact (Fr.sJ (by simp)).tr (Fr.sJ (by simp))
        have K2 : FrK 0 [12, 13] H1 H2 := fun k hk => by
          simp at hk
          rw [← gH2]
          exact ⟨rfl, by rw [sJ_ne hk.2, sJ_ne hk.1]⟩
        have e12 : H2.2 0 12 = i64 (rn ((tn).toInt64 * (H1.2 41 1)).toInt (H1.2 41 2).toInt) := by rw [← gH2, sJ_ne (by omega), sJ_same]
        have e13 : H2.2 0 13 = i64 (rd ((tn).toInt64 * (H1.2 41 1)).toInt (H1.2 41 2).toInt) := by rw [← gH2, sJ_same]
        obtain ⟨P2, C2⟩ := PC.fr P1 C1 F2 (FrK.of F2 (by simp) (ks := [])) (by simp) (by simp)
        obtain ⟨H4, m1, m2, m3, m4, m5, m6⟩ := model H2 P2
        have F02 : Fr (0 :: 41 :: cirk 31) h H2 := (sF.wid (by simp [cirk])).tr (F2.wid (by simp))
        have g4 := (hP.2.2.2.1.2.1.fr F02 (FrK.of F02 (by simp [cirk]) (ks := [])) (by simp) (by simp [cirk]) (by simp [cirk])).2
        have ne := nonempty H2 H4 g4 m5
        have eE := same H2 H4 P2 g4 m1 m4 m5 ne
        have eO : limO H1 41 = some (((H1.2 41 1).toInt : Rat) / ((H1.2 41 2).toInt : Rat), decide (H1.1 41 3 = 1)) := if_pos q
        rw [eO] at eE
        obtain ⟨x', y', y1, x1, eq, eM⟩ := (hM H2 H4 H4 P2 m1 m4 (m6.mpr ne) P2.2.1.2.1 P2.2.2.2.1.2.1.1).2 _ _ eE.symm
        obtain ⟨P4, C4⟩ := PC.fr P2 C2 m2 m3 (by simp [scr]) (by simp [scrK, iks])
        have cross : ((tn).toInt64 * (H1.2 41 1)).toInt * y'.toInt = x'.toInt * (H1.2 41 2).toInt := by
          rw [ex]
          apply frac_eq sL.2.1.1 y1
          push_cast
          have t2 : (tz' : Rat) * (tz' : Rat) = 1 := by rcases htz with e | e <;> rw [e] <;> (push_cast; grind)
          have : (tz' : Rat) * ((H1.2 41 1).toInt : Rat) / ((H1.2 41 2).toInt : Rat) = (tz' : Rat) * (((H1.2 41 1).toInt : Rat) / ((H1.2 41 2).toInt : Rat)) := by
            rw [Rat.div_def, Rat.div_def, Rat.mul_assoc]
          rw [this, eq, ← Rat.mul_assoc, t2, Rat.one_mul]
        obtain ⟨H5, sy, qp⟩ := says_res (h := h) (H2 := H2) (r := if decide (H1.1 41 3 = 1) = true then 0 else 1) (x := (tn).toInt64 * (H1.2 41 1)) (y := H1.2 41 2) (x' := x') (y' := y') P4 C4 ((F02.wid (by simp [rngc, cirk, rowc])).tr (m2.wid (by simp [rngc, scr]))) (((FrK.of sF (by simp [cirk])).tr K2).tr (FrK.of m2 (by simp [scr]))) ((FrK.of F02 (by simp [cirk])).tr (m3.wid (by simp [rngK, scrK, iks]))) (by omega) sL.2.1.1 y1 cross (by rw [(m2 0 (by simp [scr])).2]; exact e12) (by rw [(m2 0 (by simp [scr])).2]; exact e13)
        refine ⟨if decide (H1.1 41 3 = 1) = true then 0 else 1, H2, H5, ?_, by rw [eM, sy, bnd_s], qp⟩
        rw [cls, if_neg (by rw [q]; decide), fz, bnd_s, (F2 41 (by simp)).1]
        rcases sL.2.2.2 with o | o
        · rw [o, if_pos rfl]; rfl
        · rw [o, if_neg (by decide)]; rfl
    have hb : ∀ (b : Bool) (x : Int32), (x = 0 ∨ x = 1) → decide (x = 1) = b → ∀ P Q : Option (Int32 × Hp), (if x = 0 then P else Q) = if b = true then Q else P := fun b x hx hb P Q => by
      rcases hx with e | e <;> subst e <;> subst hb <;> rfl
    unfold s_X9_range
    simp only [Nat.zero_add]
    rw [A, decide_eq_true c1, bnd_s, if_neg (by decide), if_neg d1, if_neg d2, satis_z hP hn1 hc, hs, bnd_s, if_neg (by decide)]
    rcases (show a2.toInt = 0 ∨ a2.toInt = 1 by omega) with e | e
    · have ea2 : a2 = 0 := eq_z.mpr (by rw [z0]; exact e)
      rw [if_pos ea2]
      refine both (-1) (-1) (by decide) (Or.inr rfl) (fun H => lowO H 66) (fun H H4 PH e4 w4 i4 n4 t => ?_) (fun H H4 _ PH e4 w4 n4 e1 e3 => ?_)
      · obtain ⟨t0, ht0⟩ := n4
        have h28 := ht0.1
        have hin : ∀ t, inI H4 66 t ↔ IV (lowO H4 66) (highO H4 66) t := fun t => (inI_iv w4 t).trans ⟨fun q => q.2, fun q => ⟨h28, q⟩⟩
        rw [← iv_dom (L := highO H4 66) ⟨-t0, IV.sw.mpr ((hin t0).mp ht0)⟩ t]
        constructor
        · rintro ⟨s, w1, w2⟩
          obtain ⟨p, w3, w5⟩ := (i4 (-s)).mp ((hin _).mpr (IV.sw.mpr w1))
          exact ⟨p, w3, by rw [w5]; push_cast; grind⟩
        · rintro ⟨p, w1, w2⟩
          refine ⟨-(lin (mK H 66 g) p), IV.sw.mpr ((hin _).mp ((i4 _).mpr ⟨p, w1, rfl⟩)), ?_⟩
          push_cast at w2; grind
      · rw [head H e1 e3 H4 e4, if_pos n4, if_pos ea2]
        rcases w4.1 with w | ⟨w, u1, u2, u3, u4, u5⟩
        · refine ⟨fun _ => by rw [if_pos w], fun q o hqo => ?_⟩
          unfold lowO at hqo
          rw [if_neg (by rw [w]; decide)] at hqo
          cases hqo
        · refine ⟨fun hn => ?_, fun q o hqo => ?_⟩
          · unfold lowO at hn
            rw [if_pos w] at hn
            cases hn
          · unfold lowO at hqo
            rw [if_pos w] at hqo
            cases hqo
            refine ⟨H4.2 66 21, H4.2 66 22, u1, by omega, ?_, ?_⟩
            · push_cast
              rw [Rat.div_def, Rat.div_def]; grind
            · rw [if_neg (by rw [w]; decide)]
              unfold s_X10_range_b70
              rw [hb (decide (H4.1 66 23 = 1)) _ u5 rfl]
              cases decide (H4.1 66 23 = 1) <;> rfl
    · have ea2 : ¬ a2 = 0 := fun q => by have := eq_z.mp q; rw [z0] at this; omega
      rw [if_neg ea2]
      refine both 1 1 (by decide) (Or.inl rfl) (fun H => highO H 66) (fun H H4 PH e4 w4 i4 n4 t => ?_) (fun H H4 _ PH e4 w4 n4 e1 e3 => ?_)
      · obtain ⟨t0, ht0⟩ := n4
        have h28 := ht0.1
        have hin : ∀ t, inI H4 66 t ↔ IV (lowO H4 66) (highO H4 66) t := fun t => (inI_iv w4 t).trans ⟨fun q => q.2, fun q => ⟨h28, q⟩⟩
        rw [← iv_dom (L := lowO H4 66) ⟨t0, (hin t0).mp ht0⟩ t]
        constructor
        · rintro ⟨s, w1, w2⟩
          obtain ⟨p, w3, w5⟩ := (i4 s).mp ((hin _).mpr w1)
          exact ⟨p, w3, by rw [w5]; push_cast; grind⟩
        · rintro ⟨p, w1, w2⟩
          refine ⟨lin (mK H 66 g) p, (hin _).mp ((i4 _).mpr ⟨p, w1, rfl⟩), ?_⟩
          push_cast at w2; grind
      · rw [head H e1 e3 H4 e4, if_pos n4, if_neg ea2]
        rcases w4.2.1 with w | ⟨w, u1, u2, u3, u4, u5⟩
        · refine ⟨fun _ => by rw [if_pos w], fun q o hqo => ?_⟩
          unfold highO at hqo
          rw [if_neg (by rw [w]; decide)] at hqo
          cases hqo
        · refine ⟨fun hn => ?_, fun q o hqo => ?_⟩
          · unfold highO at hn
            rw [if_pos w] at hn
            cases hn
          · unfold highO at hqo
            rw [if_pos w] at hqo
            cases hqo
            refine ⟨H4.2 66 25, H4.2 66 26, u1, by omega, ?_, ?_⟩
            · push_cast; grind
            · rw [if_neg (by rw [w]; decide)]
              unfold s_X10_range_b107
              rw [hb (decide (H4.1 66 27 = 1)) _ u5 rfl]
              cases decide (H4.1 66 27 = 1) <;> rfl
