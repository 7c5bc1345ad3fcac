/-! the text as tokens: the class reads ahead, the model looks when it must -/
def TC (t : Nat → Int32) (n : Nat) (H : Hp) : Prop := H.1 27 1 = nI n ∧ ∀ i, i < n → H.1 28 i = t i
def TM (t : Nat → Int32) (n : Nat) (H : Hp) : Prop := H.1 66 43 = nI n ∧ ∀ i, i < n → H.1 89 i = t i
def TG (t : Nat → Int32) (n : Nat) : Prop := n ≤ 90 ∧ ∀ i, i < n → 0 ≤ (t i).toInt ∧ (t i).toInt ≤ 255
def Sk (t : Nat → Int32) (n p s : Nat) : Prop := p ≤ s ∧ s ≤ n ∧ (∀ q, p ≤ q → q < s → t q = 32) ∧ (s < n → t s ≠ 32)
abbrev dg (x : Int32) : Prop := 48 ≤ x.toInt ∧ x.toInt ≤ 57
def Nd (t : Nat → Int32) (n s e : Nat) : Prop := s < e ∧ e ≤ n ∧ (∀ q, s ≤ q → q < e → dg (t q)) ∧ (e < n → ¬ dg (t e))
def vf (t : Nat → Int32) (s : Nat) : Nat → Nat
  | 0 => 0
  | k + 1 => min 1000 (vf t s k * 10 + ((t (s + k)).toInt.toNat - 48))
abbrev tkn (x : Int32) : Prop := x = 97 ∨ x = 98 ∨ x = 99 ∨ x = 110 ∨ x = 102 ∨ x = 43 ∨ x = 45 ∨ x = 59
/-- the token that the class holds begins at s -/
def Tk (t : Nat → Int32) (n : Nat) (H : Hp) (s : Nat) : Prop := H.1 27 3 = nI s ∧ s ≤ n ∧ (s < n → t s ≠ 32) ∧ ∃ e, H.1 27 4 = nI e ∧ e ≤ n ∧ ((s = n ∧ e = n ∧ H.1 27 2 = -2) ∨ (s < n ∧ dg (t s) ∧ Nd t n s e ∧ H.1 27 5 = nI (vf t s (e - s)) ∧ H.1 27 2 = (if t s = 48 ∧ s + 1 < e then -3 else -1)) ∨ (s < n ∧ ¬ dg (t s) ∧ e = s + 1 ∧ ((tkn (t s) ∧ H.1 27 2 = t s) ∨ (¬ tkn (t s) ∧ H.1 27 2 = -3))))
theorem vf_le (t : Nat → Int32) (s k : Nat) : vf t s k ≤ 1000 := by
  cases k with
  | zero => exact Nat.zero_le _
  | succ k => exact Nat.min_le_left _ _
theorem Sk.self {t : Nat → Int32} {n p s : Nat} (h : Sk t n p s) : Sk t n s s := ⟨Nat.le_refl _, h.2.1, fun q h1 h2 => by omega, h.2.2.2⟩
theorem dig_z (a : Int32) (h : Hp) : s_X6_isDigit a h = some (bI (decide (dg a))) := by
  have := in_z a 48 57 h
  rw [show (48 : Int32).toInt = 48 from by decide, show (57 : Int32).toInt = 57 from by decide] at this
  exact this
theorem tkn_z (a : Int32) (h : Hp) : s_X6_isToken a h = some (bI (decide (tkn a))) := by
  unfold s_X6_isToken s_X6_isToken_b18 s_X6_isToken_b23
  by_cases a1 : a = 97
  · subst a1; rfl
  rw [if_neg a1]
  by_cases a2 : a = 98
  · subst a2; rfl
  rw [if_neg a2]
  by_cases a3 : a = 99
  · subst a3; rfl
  rw [if_neg a3, if_pos rfl]
  by_cases a4 : a = 110
  · subst a4; rfl
  rw [if_neg a4]
  by_cases a5 : a = 102
  · subst a5; rfl
  rw [if_neg a5]
  by_cases a6 : a = 43
  · subst a6; rfl
  rw [if_neg a6]
  by_cases a7 : a = 45
  · subst a7; rfl
  rw [if_neg a7]
  by_cases a8 : a = 59
  · subst a8; rfl
  rw [if_neg a8, decide_eq_false (by unfold tkn; simp [a1, a2, a3, a4, a5, a6, a7, a8])]
  rfl
theorem TC.fr {t : Nat → Int32} {n : Nat} {h H : Hp} {S ks : List Nat} (a : TC t n h) (f : Fr S h H) (K : FrK 27 ks h H) (h1 : 28 ∉ S) (h2 : 1 ∉ ks) : TC t n H := ⟨by rw [(K 1 h2).1]; exact a.1, fun i hi => by rw [(f 28 h1).1]; exact a.2 i hi⟩
theorem TM.fr {t : Nat → Int32} {n : Nat} {h H : Hp} {S ks : List Nat} (a : TM t n h) (f : Fr S h H) (K : FrK 66 ks h H) (h1 : 89 ∉ S) (h2 : 43 ∉ ks) : TM t n H := ⟨by rw [(K 43 h2).1]; exact a.1, fun i hi => by rw [(f 89 h1).1]; exact a.2 i hi⟩
theorem frk_sI {C k : Nat} {ks : List Nat} (hk : k ∈ ks) {h : Hp} {v : Int32} : FrK C ks h (sI h C k v) := fun j hj => ⟨sI_ne (fun e => hj (e ▸ hk)), rfl⟩
/-- one more digit -/
theorem dig_add {x : Int32} (hx : dg x) {w : Nat} (hw : w ≤ 10000) : nI w * 10 + x - 48 = nI (w * 10 + (x.toInt.toNat - 48)) ∧ 10 * nI w + x - 48 = nI (w * 10 + (x.toInt.toNat - 48)) := by
  have d := hx
  unfold dg at d
  have e : x = i32 x.toInt := eq_z.mpr (by rw [i32_z (by omega) (by omega)])
  have key : nI w * 10 + x - 48 = nI (w * 10 + (x.toInt.toNat - 48)) := by
    rw [nI_i32, nI_i32, show (10 : Int32) = i32 10 from by decide, show (48 : Int32) = i32 48 from by decide]
    conv => lhs; rw [e]
    rw [i32_mul, i32_add, i32_sub]
    congr 1
    omega
  exact ⟨key, by rw [show (10 : Int32) * nI w = nI w * 10 from Int32.mul_comm _ _]; exact key⟩
theorem readNumber_z {t : Nat → Int32} {n s : Nat} {H : Hp} (hG : TG t n) (hC : TC t n H) (e3 : H.1 27 3 = nI s) (hs : s < n) (hd : dg (t s)) : ∃ H' e, s_X6_readNumber 27 H = some H' ∧ Fr [27] H H' ∧ FrK 27 [2, 4, 5] H H' ∧ H'.1 27 4 = nI e ∧ Nd t n s e ∧ H'.1 27 5 = nI (vf t s (e - s)) ∧ H'.1 27 2 = (if t s = 48 ∧ s + 1 < e then -3 else -1) := by
  have n90 := hG.1
  unfold s_X6_readNumber
  rw [lt_red, lt_red]
  obtain ⟨e9, he, e, ⟨F, K⟩, q1, q2, q3, q4, q5⟩ := iter_fuel (f := fun z : Hp => s_X6_readNumber_l13 27 z)
    (fun z => ∃ q, (Fr [27] H z ∧ FrK 27 [2, 4, 5] H z) ∧ z.1 27 4 = nI q ∧ (s ≤ q ∧ q ≤ n) ∧ (∀ j, s ≤ j → j < q → dg (t j)) ∧ z.1 27 5 = nI (vf t s (q - s)))
    (fun z => n - (z.1 27 4).toInt.toNat)
    (fun z => ∃ e, (Fr [27] H z ∧ FrK 27 [2, 4, 5] H z) ∧ z.1 27 4 = nI e ∧ (s ≤ e ∧ e ≤ n) ∧ (∀ j, s ≤ j → j < e → dg (t j)) ∧ z.1 27 5 = nI (vf t s (e - s)) ∧ (e < n → ¬ dg (t e))) (by
      rintro z ⟨q, ⟨F, K⟩, q1, q2, q3, q4⟩
      have zC := hC.fr F K (by simp) (by simp)
      try dsimp only
      unfold s_X6_readNumber_l13
      rw [q1, zC.1]
      by_cases c : q < n
      · rw [if_pos (nI_lt c (by omega)), ldI_n (by omega) (by omega), zC.2 q c, dig_z, bnd_s]
        by_cases d : dg (t q)
        · have hv := vf_le t s (q - s)
          have ev : vf t s (q + 1 - s) = min 1000 (vf t s (q - s) * 10 + ((t q).toInt.toNat - 48)) := by
            rw [show q + 1 - s = (q - s) + 1 by omega]
            show min 1000 (vf t s (q - s) * 10 + ((t (s + (q - s))).toInt.toNat - 48)) = _
            rw [show s + (q - s) = q by omega]
          rw [decide_eq_true d, if_neg (by decide), ldI_n (by omega) (by omega), zC.2 q c, q4, (dig_add d (by omega)).1]
          have dd := d
          unfold dg at dd
          have mn : s_J9_min_7cf53 1000 (nI (vf t s (q - s) * 10 + ((t q).toInt.toNat - 48))) z = some (nI (vf t s (q + 1 - s))) := by
            rw [ev]
            unfold s_J9_min_7cf53
            rw [show (1000 : Int32) = nI 1000 from by decide]
            by_cases w : vf t s (q - s) * 10 + ((t q).toInt.toNat - 48) < 1000
            · rw [if_pos (nI_lt w (by omega)), Nat.min_eq_right (by omega)]
            · rw [if_neg (nI_nlt (by omega) (by omega)), Nat.min_eq_left (by omega)]
          rw [mn, bnd_s, lt_red, lt_red]
          refine Or.inl ⟨_, rfl, ⟨q + 1, ⟨(F.tr (Fr.sI (by simp))).tr (Fr.sI (by simp)), (K.tr (frk_sI (by simp))).tr (frk_sI (by simp))⟩, ?_, by omega, fun j h1 h2 => ?_, ?_⟩, ?_⟩
          · rw [sI_same, sI_ne (by omega), q1, nI_1]
          · rcases (show j < q ∨ j = q by omega) with y | rfl
            · exact q3 j h1 y
            · exact d
          · rw [sI_ne (by omega), sI_same]
          · rw [sI_same, sI_ne (by omega), q1, nI_1, nI_z (by omega), nI_z (by omega)]
            omega
        · rw [decide_eq_false d, if_pos (by decide)]
          exact Or.inr ⟨_, rfl, q, ⟨F, K⟩, q1, q2, q3, q4, fun _ => d⟩
      · rw [if_neg (nI_nlt (by omega) (by omega))]
        exact Or.inr ⟨_, rfl, q, ⟨F, K⟩, q1, q2, q3, q4, fun w => absurd w c⟩)
    (sI (sI H 27 5 0) 27 4 ((sI H 27 5 0).1 27 3)) ⟨s, ⟨(Fr.sI (by simp)).tr (Fr.sI (by simp)), (frk_sI (by simp)).tr (frk_sI (by simp))⟩, by rw [sI_same, sI_ne (by omega), e3], ⟨Nat.le_refl _, by omega⟩, fun j h1 h2 => by omega, by rw [sI_ne (by omega), sI_same, Nat.sub_self]; rfl⟩ (by omega)
  rw [he, bnd_s]
  have zC := hC.fr F K (by simp) (by simp)
  have es : s < e := by
    rcases (show s < e ∨ s = e by omega) with y | rfl
    · exact y
    · exact absurd hd (q5 hs)
  have e3' : e9.1 27 3 = nI s := by rw [(K 3 (by simp)).1]; exact e3
  rw [e3', q1, ldI_n (by omega) (by omega), zC.2 s hs]
  have hsub : nI e - nI s = nI (e - s) := by rw [nI_i32, nI_i32, i32_sub, nI_i32]; congr 1; omega
  unfold s_X6_readNumber_b115 s_X6_readNumber_b116
  simp only [lt_red]
  rw [hsub]
  by_cases c : t s = 48
  · rw [if_pos c]
    by_cases d : s + 1 < e
    · rw [if_pos (show (1 : Int32) < nI (e - s) from nI_lt (a := 1) (by omega) (by omega))]
      exact ⟨_, e, rfl, F.tr (Fr.sI (by simp)), K.tr (frk_sI (by simp)), by rw [sI_ne (by omega)]; exact q1, ⟨es, q2.2, q3, q5⟩, by rw [sI_ne (by omega)]; exact q4, by rw [sI_same, if_pos ⟨c, d⟩]⟩
    · rw [if_neg (show ¬ (1 : Int32) < nI (e - s) from nI_nlt (a := 1) (by omega) (by omega))]
      exact ⟨_, e, rfl, F.tr (Fr.sI (by simp)), K.tr (frk_sI (by simp)), by rw [sI_ne (by omega)]; exact q1, ⟨es, q2.2, q3, q5⟩, by rw [sI_ne (by omega)]; exact q4, by rw [sI_same, if_neg (fun w => d w.2)]⟩
  · rw [if_neg c]
    exact ⟨_, e, rfl, F.tr (Fr.sI (by simp)), K.tr (frk_sI (by simp)), by rw [sI_ne (by omega)]; exact q1, ⟨es, q2.2, q3, q5⟩, by rw [sI_ne (by omega)]; exact q4, by rw [sI_same, if_neg (fun w => c w.1)]⟩
theorem step_z {t : Nat → Int32} {n p : Nat} {H : Hp} (hG : TG t n) (hC : TC t n H) (e4 : H.1 27 4 = nI p) (hp : p ≤ n) : ∃ H' s, s_X6_step 27 H = some H' ∧ Fr [27] H H' ∧ FrK 27 [2, 3, 4, 5] H H' ∧ Sk t n p s ∧ Tk t n H' s := by
  have n90 := hG.1
  unfold s_X6_step
  rw [lt_red]
  obtain ⟨e9, he, s, ⟨F, K⟩, q1, q2⟩ := iter_fuel (f := fun z : Hp => s_X6_step_l8 27 z)
    (fun z => ∃ q, (Fr [27] H z ∧ FrK 27 [2, 3, 4, 5] H z) ∧ z.1 27 3 = nI q ∧ (p ≤ q ∧ q ≤ n) ∧ ∀ j, p ≤ j → j < q → t j = 32)
    (fun z => n - (z.1 27 3).toInt.toNat)
    (fun z => ∃ s, (Fr [27] H z ∧ FrK 27 [2, 3, 4, 5] H z) ∧ z.1 27 3 = nI s ∧ Sk t n p s) (by
      rintro z ⟨q, ⟨F, K⟩, q1, q2, q3⟩
      have zC := hC.fr F K (by simp) (by simp)
      try dsimp only
      unfold s_X6_step_l8
      rw [q1, zC.1]
      by_cases c : q < n
      · rw [if_pos (nI_lt c (by omega)), ldI_n (by omega) (by omega), zC.2 q c]
        by_cases d : t q = 32
        · rw [if_pos d, lt_red, nI_1]
          refine Or.inl ⟨_, rfl, ⟨q + 1, ⟨F.tr (Fr.sI (by simp)), K.tr (frk_sI (by simp))⟩, sI_same _ _ _ _, by omega, fun j h1 h2 => ?_⟩, ?_⟩
          · rcases (show j < q ∨ j = q by omega) with y | rfl
            · exact q3 j h1 y
            · exact d
          · rw [sI_same, nI_z (by omega), nI_z (by omega)]
            omega
        · rw [if_neg d]
          exact Or.inr ⟨_, rfl, q, ⟨F, K⟩, q1, q2.1, q2.2, q3, fun _ => d⟩
      · rw [if_neg (nI_nlt (by omega) (by omega))]
        exact Or.inr ⟨_, rfl, q, ⟨F, K⟩, q1, q2.1, q2.2, q3, fun w => absurd w c⟩)
    (sI H 27 3 (H.1 27 4)) ⟨p, ⟨Fr.sI (by simp), frk_sI (by simp)⟩, by rw [sI_same, e4], ⟨Nat.le_refl _, hp⟩, fun j h1 h2 => by omega⟩ (by omega)
  rw [he, bnd_s, lt_red, q1, nI_1]
  have F5 : Fr [27] H (sI e9 27 4 (nI (s + 1))) := F.tr (Fr.sI (by simp))
  have K5 : FrK 27 [2, 3, 4, 5] H (sI e9 27 4 (nI (s + 1))) := K.tr (frk_sI (by simp))
  have zC := hC.fr F5 K5 (by simp) (by simp)
  have g3 : (sI e9 27 4 (nI (s + 1))).1 27 3 = nI s := by rw [sI_ne (by omega)]; exact q1
  have g4 : (sI e9 27 4 (nI (s + 1))).1 27 4 = nI (s + 1) := sI_same _ _ _ _
  generalize sI e9 27 4 (nI (s + 1)) = H5 at *
  have sn := q2.2.1
  rw [g3, zC.1]
  by_cases c : s < n
  · rw [if_pos (nI_lt c (by omega)), ldI_n (by omega) (by omega), zC.2 s c, dig_z, bnd_s]
    by_cases d : dg (t s)
    · rw [decide_eq_true d, if_neg (by decide)]
      obtain ⟨H6, e, r1, r2, r3, r4, r5, r6, r7⟩ := readNumber_z hG zC g3 c d
      rw [r1, bnd_s]
      refine ⟨H6, s, rfl, F5.tr r2, K5.tr (r3.wid (by simp)), q2, ?_, sn, q2.2.2.2, e, r4, r5.2.1, Or.inr (Or.inl ⟨c, d, r5, r6, r7⟩)⟩
      rw [(r3 3 (by simp)).1]; exact g3
    · rw [decide_eq_false d, if_pos (by decide), ldI_n (by omega) (by omega), zC.2 s c, tkn_z, bnd_s]
      unfold s_X6_step_b136
      simp only [lt_red]
      by_cases k : tkn (t s)
      · rw [decide_eq_true k, if_neg (by decide), ldI_n (by omega) (by omega), zC.2 s c]
        refine ⟨_, s, rfl, F5.tr (Fr.sI (by simp)), K5.tr (frk_sI (by simp)), q2, ?_, sn, q2.2.2.2, s + 1, ?_, by omega, Or.inr (Or.inr ⟨c, d, rfl, Or.inl ⟨k, sI_same _ _ _ _⟩⟩)⟩
        · rw [sI_ne (by omega)]; exact g3
        · rw [sI_ne (by omega)]; exact g4
      · rw [decide_eq_false k, if_pos (by decide)]
        refine ⟨_, s, rfl, F5.tr (Fr.sI (by simp)), K5.tr (frk_sI (by simp)), q2, ?_, sn, q2.2.2.2, s + 1, ?_, by omega, Or.inr (Or.inr ⟨c, d, rfl, Or.inr ⟨k, sI_same _ _ _ _⟩⟩)⟩
        · rw [sI_ne (by omega)]; exact g3
        · rw [sI_ne (by omega)]; exact g4
  · rw [if_neg (nI_nlt (by omega) (by omega)), lt_red, lt_red]
    refine ⟨_, s, rfl, (F5.tr (Fr.sI (by simp))).tr (Fr.sI (by simp)), (K5.tr (frk_sI (by simp))).tr (frk_sI (by simp)), q2, ?_, sn, q2.2.2.2, n, ?_, Nat.le_refl _, Or.inl ⟨by omega, rfl, sI_same _ _ _ _⟩⟩
    · rw [sI_ne (by omega), sI_ne (by omega)]; exact g3
    · rw [sI_ne (by omega), sI_same]
/-- the model looks at what comes -/
theorem here_z {t : Nat → Int32} {n p s : Nat} {H : Hp} (hG : TG t n) (hM : TM t n H) (e4 : H.1 66 44 = nI p) (hS : Sk t n p s) : ∃ H', s_X10_here 66 H = some (if s < n then t s else -9, H') ∧ Fr [66] H H' ∧ FrK 66 [44] H H' ∧ H'.1 66 44 = nI s := by
  have n90 := hG.1
  have hps := hS.1
  have hsn := hS.2.1
  unfold s_X10_here
  obtain ⟨e9, he, ⟨F, K⟩, q1⟩ := iter_fuel (f := fun z : Hp => s_X10_here_l0 66 z)
    (fun z => ∃ q, (Fr [66] H z ∧ FrK 66 [44] H z) ∧ z.1 66 44 = nI q ∧ (p ≤ q ∧ q ≤ s))
    (fun z => n - (z.1 66 44).toInt.toNat)
    (fun z => (Fr [66] H z ∧ FrK 66 [44] H z) ∧ z.1 66 44 = nI s) (by
      rintro z ⟨q, ⟨F, K⟩, q1, q2⟩
      have zM := hM.fr F K (by simp) (by simp)
      try dsimp only
      unfold s_X10_here_l0
      rw [q1, zM.1]
      by_cases c : q < n
      · rw [if_pos (nI_lt c (by omega)), show (66 + 23 : Nat) = 89 from rfl, ldI_n (by omega) (by omega), zM.2 q c]
        rcases (show q < s ∨ q = s by omega) with y | rfl
        · rw [if_pos (hS.2.2.1 q q2.1 y), lt_red, nI_1]
          refine Or.inl ⟨_, rfl, ⟨q + 1, ⟨F.tr (Fr.sI (by simp)), K.tr (frk_sI (by simp))⟩, sI_same _ _ _ _, by omega⟩, ?_⟩
          rw [sI_same, nI_z (by omega), nI_z (by omega)]
          omega
        · rw [if_neg (hS.2.2.2 c)]
          exact Or.inr ⟨_, rfl, ⟨F, K⟩, q1⟩
      · rw [if_neg (nI_nlt (by omega) (by omega))]
        exact Or.inr ⟨_, rfl, ⟨F, K⟩, by rw [show s = q by omega]; exact q1⟩)
    H ⟨p, ⟨Fr.rf, FrK.rf⟩, e4, Nat.le_refl _, hps⟩ (by omega)
  rw [he, bnd_s]
  have zM := hM.fr F K (by simp) (by simp)
  rw [q1, zM.1]
  by_cases c : s < n
  · rw [if_pos (nI_lt c (by omega)), show (66 + 23 : Nat) = 89 from rfl, ldI_n (by omega) (by omega), zM.2 s c, if_pos c]
    exact ⟨e9, rfl, F, K, q1⟩
  · rw [if_neg (nI_nlt (by omega) (by omega)), if_neg c]
    exact ⟨e9, rfl, F, K, q1⟩
