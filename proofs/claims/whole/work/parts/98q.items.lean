/-! numbers, marks and terms in step -/
theorem tk_char {t : Nat → Int32} {n s : Nat} {H : Hp} {c : Int32} (hG : TG t n) (hT : Tk t n H s) (hc : tkn c) : (H.1 27 2 = c ↔ s < n ∧ t s = c) ∧ (s < n ∧ t s = c → H.1 27 4 = nI (s + 1)) := by
  obtain ⟨-, -, -, e, e4, -, k⟩ := hT
  have c1 : c ≠ -1 ∧ c ≠ -2 ∧ c ≠ -3 ∧ ¬ dg c := by
    rcases hc with rfl | rfl | rfl | rfl | rfl | rfl | rfl | rfl <;> decide
  rcases k with ⟨rfl, rfl, k⟩ | ⟨h1, h2, h3, h4, k⟩ | ⟨h1, h2, rfl, ⟨h3, k⟩ | ⟨h3, k⟩⟩
  · exact ⟨⟨fun q => absurd (q.symm.trans k) c1.2.1, fun q => by omega⟩, fun q => by omega⟩
  · refine ⟨⟨fun q => ?_, fun q => absurd h2 (by rw [q.2]; exact c1.2.2.2)⟩, fun q => absurd h2 (by rw [q.2]; exact c1.2.2.2)⟩
    rw [k] at q
    split at q
    · exact absurd q.symm c1.2.2.1
    · exact absurd q.symm c1.1
  · exact ⟨⟨fun q => ⟨h1, k.symm.trans q⟩, fun q => k.trans q.2⟩, fun _ => e4⟩
  · exact ⟨⟨fun q => absurd (q.symm.trans k) c1.2.2.1, fun q => absurd hc (by rw [← q.2]; exact h3)⟩, fun q => absurd hc (by rw [← q.2]; exact h3)⟩
theorem tk_end {t : Nat → Int32} {n s : Nat} {H : Hp} (hG : TG t n) (hT : Tk t n H s) : H.1 27 2 = -2 ↔ s = n := by
  obtain ⟨-, -, -, e, e4, -, k⟩ := hT
  rcases k with ⟨rfl, rfl, k⟩ | ⟨h1, h2, h3, h4, k⟩ | ⟨h1, h2, rfl, ⟨h3, k⟩ | ⟨h3, k⟩⟩
  · exact ⟨fun _ => rfl, fun _ => k⟩
  · refine ⟨fun q => ?_, fun q => by omega⟩
    rw [k] at q
    split at q <;> exact absurd q (by decide)
  · refine ⟨fun q => ?_, fun q => by omega⟩
    rw [k] at q
    rw [q] at h3
    exact absurd h3 (by decide)
  · exact ⟨fun q => absurd (k.symm.trans q) (by decide), fun q => by omega⟩
def FC (H H' : Hp) : Prop := Fr [27] H H' ∧ FrK 27 [2, 3, 4, 5] H H'
def FM (H H' : Hp) : Prop := Fr [66] H H' ∧ FrK 66 [44, 45] H H'
theorem FC.tr {a b c : Hp} (x : FC a b) (y : FC b c) : FC a c := ⟨x.1.tr y.1, x.2.tr y.2⟩
theorem FM.tr {a b c : Hp} (x : FM a b) (y : FM b c) : FM a c := ⟨x.1.tr y.1, x.2.tr y.2⟩
theorem FC.rf {a : Hp} : FC a a := ⟨Fr.rf, FrK.rf⟩
theorem FM.rf {a : Hp} : FM a a := ⟨Fr.rf, FrK.rf⟩
theorem FM.sI {a : Hp} {v : Int32} : FM a (sI a 66 44 v) := ⟨Fr.sI (by simp), frk_sI (by simp)⟩
/-- both readers stand before the token at s -/
def SY (t : Nat → Int32) (n : Nat) (Hc Hm : Hp) (s : Nat) : Prop := TC t n Hc ∧ TM t n Hm ∧ Tk t n Hc s ∧ ∃ p, Hm.1 66 44 = nI p ∧ Sk t n p s
/-- both have stopped at one place -/
def FLz (n : Nat) (Hc Hm : Hp) : Prop := ∃ s, s ≤ n ∧ Hc.1 27 3 = nI s ∧ Hm.1 66 44 = nI s
theorem FC.tc {t : Nat → Int32} {n : Nat} {a b : Hp} (x : FC a b) (h : TC t n a) : TC t n b := h.fr x.1 x.2 (by simp) (by simp)
theorem FM.tm {t : Nat → Int32} {n : Nat} {a b : Hp} (x : FM a b) (h : TM t n a) : TM t n b := h.fr x.1 x.2 (by simp) (by simp)
theorem next_z {t : Nat → Int32} {n e : Nat} {Hc Hm : Hp} (hG : TG t n) (hC : TC t n Hc) (hM : TM t n Hm) (e4 : Hc.1 27 4 = nI e) (m4 : Hm.1 66 44 = nI e) (he : e ≤ n) : ∃ Hc' s', s_X6_step 27 Hc = some Hc' ∧ FC Hc Hc' ∧ e ≤ s' ∧ SY t n Hc' Hm s' := by
  obtain ⟨H', s, h1, h2, h3, h4, h5⟩ := step_z hG hC e4 he
  exact ⟨H', s, h1, ⟨h2, h3⟩, h4.1, hC.fr h2 h3 (by simp) (by simp), hM, h5, e, m4, h4⟩
theorem look_z {t : Nat → Int32} {n s : Nat} {Hc Hm : Hp} (hG : TG t n) (hS : SY t n Hc Hm s) : ∃ Hm', s_X10_here 66 Hm = some (if s < n then t s else -9, Hm') ∧ FM Hm Hm' ∧ Hm'.1 66 44 = nI s ∧ SY t n Hc Hm' s := by
  obtain ⟨a, b, c, p, m4, d⟩ := hS
  obtain ⟨H', e1, e2, e3, e4⟩ := here_z hG b m4 d
  have F : FM Hm H' := ⟨e2, e3.wid (by simp)⟩
  exact ⟨H', e1, F, e4, a, F.tm b, c, s, e4, d.self⟩
theorem lk_char {t : Nat → Int32} {n s : Nat} {c : Int32} (hc : tkn c) : (if s < n then t s else (-9 : Int32)) = c ↔ s < n ∧ t s = c := by
  have c9 : (-9 : Int32) ≠ c := by
    rcases hc with rfl | rfl | rfl | rfl | rfl | rfl | rfl | rfl <;> decide
  by_cases q : s < n
  · rw [if_pos q]; exact ⟨fun w => ⟨q, w⟩, fun w => w.2⟩
  · rw [if_neg q]; exact ⟨fun w => absurd w c9, fun w => absurd w.1 q⟩
theorem takes_z {t : Nat → Int32} {n s : Nat} {Hc Hm : Hp} {c : Int32} (hG : TG t n) (hS : SY t n Hc Hm s) (hc : tkn c) : ∃ Hm', s_X10_takes 66 c Hm = some (bI (decide (s < n ∧ t s = c)), Hm') ∧ FM Hm Hm' ∧ (s < n ∧ t s = c → Hm'.1 66 44 = nI (s + 1)) ∧ (¬ (s < n ∧ t s = c) → Hm'.1 66 44 = nI s) := by
  obtain ⟨H1, e1, f1, m1, -⟩ := look_z hG hS
  unfold s_X10_takes
  rw [e1, bnd_s]
  dsimp only
  by_cases q : s < n ∧ t s = c
  · rw [if_pos ((lk_char hc).mpr q), lt_red, m1, nI_1, decide_eq_true q]
    exact ⟨_, rfl, f1.tr FM.sI, fun _ => sI_same _ _ _ _, fun w => absurd q w⟩
  · rw [if_neg (fun w => q ((lk_char hc).mp w)), decide_eq_false q]
    exact ⟨_, rfl, f1, fun w => absurd w q, fun _ => m1⟩
theorem tkn59 : tkn 59 := by decide
theorem tkn45 : tkn 45 := by decide
theorem tkn43 : tkn 43 := by decide
theorem semi_z {t : Nat → Int32} {n s : Nat} {Hc Hm : Hp} (hG : TG t n) (hS : SY t n Hc Hm s) : ∃ (b : Bool) (Hc' Hm' : Hp), s_X6_readSemicolon 27 Hc = some (bI b, Hc') ∧ s_X10_takes 66 59 Hm = some (bI b, Hm') ∧ FC Hc Hc' ∧ FM Hm Hm' ∧ (b = true → ∃ s', s < s' ∧ SY t n Hc' Hm' s') ∧ (b = false → FLz n Hc' Hm') := by
  obtain ⟨H1, e1, f1, m1, m2⟩ := takes_z hG hS tkn59
  obtain ⟨a, b, c, p, m4, d⟩ := hS
  obtain ⟨k1, k2⟩ := tk_char hG c tkn59
  unfold s_X6_readSemicolon
  by_cases q : s < n ∧ t s = 59
  · obtain ⟨H2, s', g1, g2, g3, g4⟩ := next_z hG a (f1.tm b) (k2 q) (m1 q) (by omega)
    rw [if_pos (k1.mpr q), g1, bnd_s]
    rw [decide_eq_true q] at e1
    exact ⟨true, H2, H1, rfl, e1, g2, f1, fun _ => ⟨s', by omega, g4⟩, fun w => by cases w⟩
  · rw [if_neg (fun w => q (k1.mp w))]
    rw [decide_eq_false q] at e1
    exact ⟨false, Hc, H1, rfl, e1, FC.rf, f1, fun w => (by cases w), fun _ => ⟨s, c.2.1, c.1, m2 q⟩⟩
theorem nd_one {t : Nat → Int32} {n s e q : Nat} (h : Nd t n s e) (hq : s ≤ q) (hn : q ≤ n) (h1 : ∀ j, s ≤ j → j < q → dg (t j)) (h2 : q < n → ¬ dg (t q)) : q = e := by
  rcases (show q < e ∨ q = e ∨ e < q by omega) with w | w | w
  · exact absurd (h.2.2.1 q hq w) (h2 (by have := h.2.1; omega))
  · exact w
  · exact absurd (h1 e (by have := h.1; omega) w) (h.2.2.2 (by omega))
theorem ts_rng {t : Nat → Int32} {n s : Nat} (hG : TG t n) : (if s < n then t s else (-9 : Int32)) ≠ -1 ∧ (if s < n then t s else (-9 : Int32)) ≠ -3 := by
  by_cases q : s < n
  · rw [if_pos q]
    have := (hG.2 s q).1
    constructor
    · intro w; rw [w] at this; exact absurd this (by decide)
    · intro w; rw [w] at this; exact absurd this (by decide)
  · rw [if_neg q]; decide
theorem number_z {t : Nat → Int32} {n s : Nat} {Hc Hm : Hp} {a1 a2 : Int32} (hG : TG t n) (hS : SY t n Hc Hm s) (h1 : 0 ≤ a1.toInt) (h2 : a2.toInt < 1000) : ∃ (b : Bool) (Hm' : Hp), s_X6_isNumber 27 a1 a2 Hc = some (bI b) ∧ s_X10_number 66 a1 a2 Hm = some (bI b, Hm') ∧ FM Hm Hm' ∧ (b = true → dg (t s) ∧ s < n ∧ ∃ e v, Hc.1 27 4 = nI e ∧ Hm'.1 66 44 = nI e ∧ s < e ∧ e ≤ n ∧ Hc.1 27 5 = nI v ∧ Hm'.1 66 45 = nI v ∧ a1.toInt ≤ v ∧ (v : Int) ≤ a2.toInt) ∧ (b = false → Hm'.1 66 44 = nI s) := by
  obtain ⟨H1, e1, f1, m1, S1⟩ := look_z hG hS
  obtain ⟨a, b, c, p, m4, d⟩ := hS
  have n90 := hG.1
  obtain ⟨c3, csn, -, e, e4, -, k⟩ := c
  have z48 : (48 : Int32).toInt = 48 := by decide
  have z57 : (57 : Int32).toInt = 57 := by decide
  unfold s_X10_number s_X6_isNumber
  rw [e1, bnd_s]
  dsimp only
  rw [in_z, z48, z57, bnd_s]
  by_cases q : s < n ∧ dg (t s)
  · obtain ⟨qs, qd⟩ := q
    rw [if_pos qs, decide_eq_true (show 48 ≤ (t s).toInt ∧ (t s).toInt ≤ 57 from qd), if_neg (show ¬ (bI true = 0) by decide), lt_red, lt_red, m1]
    obtain ⟨h3, h4, k⟩ : Nd t n s e ∧ Hc.1 27 5 = nI (vf t s (e - s)) ∧ Hc.1 27 2 = (if t s = 48 ∧ s + 1 < e then -3 else -1) := by
      rcases k with ⟨h1, h2, k⟩ | ⟨h1, h2, h3, h4, k⟩ | ⟨h1, h2, h3, k⟩
      · omega
      · exact ⟨h3, h4, k⟩
      · exact absurd qd h2
    obtain ⟨e9, he, w, F, q1, q2, q3⟩ := iter_fuel (f := fun z : Hp => s_X10_number_l26 66 a1 a2 (nI s) z)
      (fun z => ∃ q w, FM H1 z ∧ z.1 66 44 = nI q ∧ (s ≤ q ∧ q ≤ n) ∧ (∀ j, s ≤ j → j < q → dg (t j)) ∧ z.1 66 45 = nI w ∧ (min 1000 w = vf t s (q - s) ∧ w ≤ 10000))
      (fun z => n - (z.1 66 44).toInt.toNat)
      (fun z => ∃ w, FM H1 z ∧ z.1 66 44 = nI e ∧ z.1 66 45 = nI w ∧ (min 1000 w = vf t s (e - s) ∧ w ≤ 10000)) (by
        rintro z ⟨q, w, F, q1, q2, q3, q4, q5⟩
        have zM := F.tm (f1.tm b)
        try dsimp only
        unfold s_X10_number_l26 s_X10_number_b94
        rw [q1, zM.1]
        by_cases c : q < n
        · rw [if_pos (nI_lt c (by omega)), show (66 + 23 : Nat) = 89 from rfl, ldI_n (by omega) (by omega), zM.2 q c, in_z, z48, z57, bnd_s]
          by_cases d : dg (t q)
          · have dd := d
            unfold dg at dd
            have ev : vf t s (q + 1 - s) = min 1000 (vf t s (q - s) * 10 + ((t q).toInt.toNat - 48)) := by
              rw [show q + 1 - s = (q - s) + 1 by omega]
              show min 1000 (vf t s (q - s) * 10 + ((t (s + (q - s))).toInt.toNat - 48)) = _
              rw [show s + (q - s) = q by omega]
            rw [decide_eq_true (show 48 ≤ (t q).toInt ∧ (t q).toInt ≤ 57 from d), if_neg (by decide), q4, show (1000 : Int32) = nI 1000 from by decide]
            have done : ∀ w', min 1000 w' = vf t s (q + 1 - s) ∧ w' ≤ 10000 → (∃ s', (lt (sI z 66 45 (nI w')) fun h8 => lt (sI h8 66 44 (h8.1 66 44 + 1)) fun h9 => some (Sum.inl h9 : Hp ⊕ Hp)) = some (.inl s') ∧ (∃ q w, FM H1 s' ∧ s'.1 66 44 = nI q ∧ (s ≤ q ∧ q ≤ n) ∧ (∀ j, s ≤ j → j < q → dg (t j)) ∧ s'.1 66 45 = nI w ∧ (min 1000 w = vf t s (q - s) ∧ w ≤ 10000)) ∧ n - (s'.1 66 44).toInt.toNat < n - (nI q).toInt.toNat) := fun w' hw' => by
              rw [lt_red, lt_red]
              refine ⟨_, rfl, ⟨q + 1, w', F.tr ⟨(Fr.sI (by simp)).tr (Fr.sI (by simp)), (frk_sI (by simp)).tr (frk_sI (by simp))⟩, ?_, by omega, fun j h1 h2 => ?_, ?_, hw'⟩, ?_⟩
              · rw [sI_same, sI_ne (by omega), q1, nI_1]
              · rcases (show j < q ∨ j = q by omega) with y | rfl
                · exact q3 j h1 y
                · exact d
              · rw [sI_ne (by omega), sI_same]
              · rw [sI_same, sI_ne (by omega), q1, nI_1, nI_z (by omega), nI_z (by omega)]
                omega
            by_cases w1 : w < 1000
            · rw [if_pos (nI_lt w1 (by omega)), ldI_n (by omega) (by omega), zM.2 q c, (dig_add d (by omega)).2]
              exact Or.inl (done _ ⟨by rw [ev, ← q5.1]; omega, by omega⟩)
            · rw [if_neg (nI_nlt (by omega) (by omega))]
              exact Or.inl (done _ ⟨by rw [ev, ← q5.1]; omega, by omega⟩)
          · rw [decide_eq_false (show ¬ (48 ≤ (t q).toInt ∧ (t q).toInt ≤ 57) from d), if_pos (by decide)]
            have := nd_one h3 q2.1 q2.2 q3 (fun _ => d)
            subst this
            exact Or.inr ⟨_, rfl, w, F, q1, q4, q5⟩
        · rw [if_neg (nI_nlt (by omega) (by omega))]
          have := nd_one h3 q2.1 q2.2 q3 (fun w => absurd w c)
          subst this
          exact Or.inr ⟨_, rfl, w, F, q1, q4, q5⟩)
      (sI H1 66 45 0) ⟨s, 0, ⟨Fr.sI (by simp), frk_sI (by simp)⟩, by rw [sI_ne (by omega)]; exact m1, ⟨Nat.le_refl _, by omega⟩, fun j h1 h2 => by omega, sI_same _ _ _ _, by rw [Nat.sub_self]; exact ⟨rfl, by omega⟩⟩ (by omega)
    have es := h3.1
    have en := h3.2.1
    have zM := F.tm (f1.tm b)
    have hsub : nI e - nI s = nI (e - s) := by rw [nI_i32, nI_i32, i32_sub, nI_i32]; congr 1; omega
    rw [he, bnd_s, show (66 + 23 : Nat) = 89 from rfl, ldI_n (by omega) (by omega), zM.2 s qs, q1, hsub]
    unfold s_X10_number_b135 s_X10_number_b136 s_X10_number_b155
    have bad : ∃ (b' : Bool) (Hm' : Hp), (some (0 : Int32) : Option Int32) = some (bI b') ∧ (lt (sI e9 66 44 (nI s)) fun h13 => some ((0 : Int32), h13)) = some (bI b', Hm') ∧ FM Hm Hm' ∧ (b' = true → dg (t s) ∧ s < n ∧ ∃ e v, Hc.1 27 4 = nI e ∧ Hm'.1 66 44 = nI e ∧ s < e ∧ e ≤ n ∧ Hc.1 27 5 = nI v ∧ Hm'.1 66 45 = nI v ∧ a1.toInt ≤ v ∧ (v : Int) ≤ a2.toInt) ∧ (b' = false → Hm'.1 66 44 = nI s) :=
      ⟨false, _, rfl, rfl, (f1.tr F).tr FM.sI, fun w => (by cases w), fun _ => sI_same _ _ _ _⟩
    by_cases z : t s = 48 ∧ s + 1 < e
    · rw [if_pos z] at k
      rw [k, if_pos z.1, if_pos (show (1 : Int32) < nI (e - s) from nI_lt (a := 1) (by omega) (by omega)), if_neg (show ¬ ((-3 : Int32) = -1) by decide), if_neg (show ¬ ((1 : Int32) = 0) by decide)]
      exact bad
    · rw [if_neg z] at k
      rw [k, if_pos rfl]
      have hv := vf_le t s (e - s)
      have eqv : (a1.toInt ≤ (nI w).toInt ∧ (nI w).toInt ≤ a2.toInt) ↔ (a1.toInt ≤ (vf t s (e - s) : Int) ∧ (vf t s (e - s) : Int) ≤ a2.toInt) := by
        rw [nI_z (by omega)]
        omega
      have cls : (if Hc.1 27 5 < a1 then some (0 : Int32) else if a2 < Hc.1 27 5 then some 0 else some 1) = some (bI (decide (a1.toInt ≤ (vf t s (e - s) : Int) ∧ (vf t s (e - s) : Int) ≤ a2.toInt))) := by
        have := in_z (Hc.1 27 5) a1 a2 Hc
        unfold s_X10_in at this
        rw [this, h4, nI_z (by omega)]
      have mdl : (if t s = 48 then (if (1 : Int32) < nI (e - s) then (if (1 : Int32) = 0 then ((s_X10_in (e9.1 66 45) a1 a2 e9).bind fun y12 => if y12 = 0 then (lt (sI e9 66 44 (nI s)) fun h13 => some ((0 : Int32), h13)) else (some ((1 : Int32), e9))) else (lt (sI e9 66 44 (nI s)) fun h13 => some ((0 : Int32), h13))) else (if (0 : Int32) = 0 then ((s_X10_in (e9.1 66 45) a1 a2 e9).bind fun y12 => if y12 = 0 then (lt (sI e9 66 44 (nI s)) fun h13 => some ((0 : Int32), h13)) else (some ((1 : Int32), e9))) else (lt (sI e9 66 44 (nI s)) fun h13 => some ((0 : Int32), h13)))) else (if (0 : Int32) = 0 then ((s_X10_in (e9.1 66 45) a1 a2 e9).bind fun y12 => if y12 = 0 then (lt (sI e9 66 44 (nI s)) fun h13 => some ((0 : Int32), h13)) else (some ((1 : Int32), e9))) else (lt (sI e9 66 44 (nI s)) fun h13 => some ((0 : Int32), h13)))) = ((s_X10_in (e9.1 66 45) a1 a2 e9).bind fun y12 => if y12 = 0 then (lt (sI e9 66 44 (nI s)) fun h13 => some ((0 : Int32), h13)) else (some ((1 : Int32), e9))) := by
        by_cases u : t s = 48
        · have nz : ¬ s + 1 < e := fun w => z ⟨u, w⟩
          rw [if_pos u, if_neg (show ¬ (1 : Int32) < nI (e - s) from nI_nlt (a := 1) (by omega) (by omega)), if_pos rfl]
        · rw [if_neg u, if_pos rfl]
      rw [cls, mdl, q2, in_z, bnd_s]
      by_cases r : a1.toInt ≤ (vf t s (e - s) : Int) ∧ (vf t s (e - s) : Int) ≤ a2.toInt
      · rw [decide_eq_true r, decide_eq_true (eqv.mpr r), if_neg (show ¬ (bI true = 0) by decide)]
        refine ⟨true, e9, rfl, rfl, f1.tr F, fun _ => ⟨qd, qs, e, vf t s (e - s), e4, q1, es, en, h4, ?_, r.1, r.2⟩, fun w => by cases w⟩
        rw [q2]
        congr 1
        have := eqv.mpr r
        rw [nI_z (by omega)] at this
        omega
      · rw [decide_eq_false r, decide_eq_false (fun w => r (eqv.mp w)), if_pos (show bI false = 0 from rfl)]
        exact bad
  · have nd : ¬ (48 ≤ (if s < n then t s else (-9 : Int32)).toInt ∧ (if s < n then t s else (-9 : Int32)).toInt ≤ 57) := by
      by_cases w : s < n
      · rw [if_pos w]; exact fun y => q ⟨w, y⟩
      · rw [if_neg w]; decide
    rw [decide_eq_false nd, if_pos (show bI false = 0 from rfl)]
    have kn : ¬ Hc.1 27 2 = -1 := by
      rcases k with ⟨h1, h2, k⟩ | ⟨h1, h2, h3, h4, k⟩ | ⟨h1, h2, h3, ⟨h5, k⟩ | ⟨h5, k⟩⟩
      · rw [k]; decide
      · exact absurd ⟨h1, h2⟩ q
      · rw [k]; intro w; rw [w] at h5; exact absurd h5 (by decide)
      · rw [k]; decide
    rw [if_neg kn]
    exact ⟨false, H1, rfl, rfl, f1, fun w => (by cases w), fun _ => m1⟩
