/-! terms and sums of terms in step -/
def AC (nv nf : Nat) (Hc Hm : Hp) : Prop := (∀ v, v < 3 → Hc.1 29 v = Hm.1 90 (3 * nf + v)) ∧ ∀ v, nv ≤ v → v < 3 → Hc.1 29 v = 0
def FTc (H H' : Hp) : Prop := Fr [27, 29] H H' ∧ FrK 27 [2, 3, 4, 5] H H'
def FTm (nf : Nat) (H H' : Hp) : Prop := Fr [66, 90] H H' ∧ FrK 66 [44, 45] H H' ∧ ∀ j, j < 3 * nf → H'.1 90 j = H.1 90 j
theorem FTc.tr {a b c : Hp} (x : FTc a b) (y : FTc b c) : FTc a c := ⟨x.1.tr y.1, x.2.tr y.2⟩
theorem FTm.tr {nf : Nat} {a b c : Hp} (x : FTm nf a b) (y : FTm nf b c) : FTm nf a c := ⟨x.1.tr y.1, x.2.1.tr y.2.1, fun j hj => (y.2.2 j hj).trans (x.2.2 j hj)⟩
theorem FC.t {a b : Hp} (x : FC a b) : FTc a b := ⟨x.1.wid (by simp), x.2⟩
theorem FM.t {nf : Nat} {a b : Hp} (x : FM a b) : FTm nf a b := ⟨x.1.wid (by simp), x.2, fun j _ => by rw [(x.1 90 (by simp)).1]⟩
theorem FTc.rf {a : Hp} : FTc a a := FC.rf.t
theorem FTm.rf {nf : Nat} {a : Hp} : FTm nf a a := FM.rf.t
theorem AC.fr {nv nf : Nat} {Hc Hm Hc' Hm' : Hp} (hA : AC nv nf Hc Hm) (a : FC Hc Hc') (b : FM Hm Hm') : AC nv nf Hc' Hm' := ⟨fun v hv => by rw [(a.1 29 (by simp)).1, (b.1 90 (by simp)).1]; exact hA.1 v hv, fun v h1 h2 => by rw [(a.1 29 (by simp)).1]; exact hA.2 v h1 h2⟩
theorem v97 {x : Int32} {nv : Nat} (h3 : nv ≤ 3) (h : 0 ≤ (x - 97).toInt ∧ (x - 97).toInt < nv) : ∃ j, j < nv ∧ x = nI (97 + j) ∧ tkn x := by
  obtain ⟨j, hj⟩ : ∃ i : Nat, (x - 97).toInt = i := ⟨(x - 97).toInt.toNat, by omega⟩
  have e := of_nat hj
  have ex : x = nI (97 + j) := by
    have : x = (x - 97) + 97 := (Int32.sub_add_cancel x 97).symm
    rw [e] at this
    rw [this, show (97 : Int32) = nI 97 from by decide, nI_add, Nat.add_comm]
  refine ⟨j, by omega, ex, ?_⟩
  rw [ex]
  obtain rfl | rfl | rfl : j = 0 ∨ j = 1 ∨ j = 2 := by omega
  all_goals decide
/-- what a term needs to know of the problem told so far -/
def TP (nv nf : Nat) (Hc Hm : Hp) : Prop := Hc.1 7 0 = nI nv ∧ Hm.1 66 46 = nI nv ∧ (1 ≤ nv ∧ nv ≤ 3) ∧ Hm.1 66 47 = nI nf ∧ nf < 8
theorem TP.fr {nv nf : Nat} {Hc Hm Hc' Hm' : Hp} (h : TP nv nf Hc Hm) (a : FTc Hc Hc') (b : FTm nf Hm Hm') : TP nv nf Hc' Hm' := ⟨by rw [(a.1 7 (by simp)).1]; exact h.1, by rw [(b.2.1 46 (by simp)).1]; exact h.2.1, h.2.2.1, by rw [(b.2.1 47 (by simp)).1]; exact h.2.2.2.1, h.2.2.2.2⟩
def TE (t : Nat → Int32) (n nv nf s : Nat) (Hc Hm : Hp) (x y : Option (Int32 × Hp)) : Prop := ∃ (b : Bool) (Hc' Hm' : Hp), x = some (bI b, Hc') ∧ y = some (bI b, Hm') ∧ FTc Hc Hc' ∧ FTm nf Hm Hm' ∧ (b = true → ∃ s', s < s' ∧ SY t n Hc' Hm' s' ∧ AC nv nf Hc' Hm') ∧ (b = false → FLz n Hc' Hm')
theorem var_z {t : Nat → Int32} {n s nv nf : Nat} {Hc Hm : Hp} {σ a1 a2 : Int32} (hG : TG t n) (hS : SY t n Hc Hm s) (hP : TP nv nf Hc Hm) (hA : AC nv nf Hc Hm) (hσ : σ = a1 * a2) : TE t n nv nf s Hc Hm (s_X6_readTerm_b57 27 7 σ Hc) (s_X10_readsTerm_b32 66 a1 a2 Hm) := by
  obtain ⟨H1, e1, f1, m1, S1⟩ := look_z hG hS
  have P1 := hP.fr FTc.rf f1.t
  have A1 := hA.fr FC.rf f1
  obtain ⟨p1, p2, ⟨p3, p4⟩, p5, p6⟩ := P1
  obtain ⟨a, b, c, -⟩ := S1
  have sn := c.2.1
  have n90 := hG.1
  unfold s_X6_readTerm_b57 s_X10_readsTerm_b32
  rw [e1, bnd_s, lt_red]
  dsimp only
  rw [lt_red, hasV_z p1 p4, bnd_s, in_z, p2, show (0 : Int32).toInt = 0 from by decide, bnd_s]
  have ez : (nI nv - 1).toInt = (nv : Int) - 1 := by
    obtain ⟨w, rfl⟩ : ∃ w, nv = w + 1 := ⟨nv - 1, by omega⟩
    rw [nI_sub1, nI_z (by omega)]; omega
  rw [ez]
  by_cases q : ∃ j, j < nv ∧ s < n ∧ t s = nI (97 + j)
  · obtain ⟨j, j1, j2, j3⟩ := q
    have tk : tkn (t s) := by
      rw [j3]
      obtain rfl | rfl | rfl : j = 0 ∨ j = 1 ∨ j = 2 := by omega
      all_goals decide
    obtain ⟨k1, k2⟩ := tk_char hG c tk
    have kd := k1.mpr ⟨j2, rfl⟩
    have sb : nI (97 + j) - 97 = nI j := by
      rw [show (97 : Int32) = nI 97 from by decide, nI_i32, nI_i32, i32_sub, nI_i32]; congr 1; omega
    rw [kd, if_pos j2, j3, sb, nI_z (by omega), decide_eq_true (show (0 : Int) ≤ (j : Int) ∧ (j : Int) < nv by omega), decide_eq_true (show (0 : Int) ≤ (j : Int) ∧ (j : Int) ≤ (nv : Int) - 1 by omega), if_neg (show ¬ (bI true = 0) by decide), if_neg (show ¬ (bI true = 0) by decide), if_pos (show nI j < (3 : Int32) from nI_lt (b := 3) (by omega) (by omega)), ldI_n (by omega) (by omega), stI_n (by omega) (by omega), lt_red, m1, nI_1]
    have h47 : (sI H1 66 44 (nI (s + 1))).1 66 47 = nI nf := by rw [sI_ne (by omega)]; exact p5
    rw [h47, show (3 : Int32) * nI nf = nI (3 * nf) from by rw [li3, nI_mul], nI_add, show (66 + 24 : Nat) = 90 from rfl, ldI_n (by omega) (by omega), stI_n (by omega) (by omega), sI_cell (c := 66) (c' := 90) (by omega)]
    generalize gm : sI (sI H1 66 44 (nI (s + 1))) 90 (3 * nf + j) (H1.1 90 (3 * nf + j) + a1 * a2) = Hm2
    generalize gc : sI Hc 29 j (Hc.1 29 j + σ) = Hc2
    have Fm : FTm nf H1 Hm2 := by
      rw [← gm]
      refine ⟨(Fr.sI (by simp)).tr (Fr.sI (by simp)), fun k hk => ⟨?_, rfl⟩, fun k hk => ?_⟩
      · simp at hk
        rw [sI_cell (by omega), sI_ne hk.1]
      · rw [sI_ne (by omega), sI_cell (by omega)]
    have Fc : FTc Hc Hc2 := by
      rw [← gc]
      exact ⟨Fr.sI (by simp), fun k hk => ⟨by rw [sI_cell (by omega)], rfl⟩⟩
    have c29 : ∀ v, Hc2.1 29 v = if v = j then Hc.1 29 j + σ else Hc.1 29 v := fun v => by
      rw [← gc]
      by_cases w : v = j
      · rw [if_pos w, w, sI_same]
      · rw [if_neg w, sI_ne w]
    have m90 : ∀ v, Hm2.1 90 v = if v = 3 * nf + j then H1.1 90 (3 * nf + j) + a1 * a2 else H1.1 90 v := fun v => by
      rw [← gm]
      by_cases w : v = 3 * nf + j
      · rw [if_pos w, w, sI_same]
      · rw [if_neg w, sI_ne w, sI_cell (by omega)]
    have m44 : Hm2.1 66 44 = nI (s + 1) := by rw [← gm, sI_cell (by omega), sI_same]
    obtain ⟨Hc3, s', g1, g2, g3, g4⟩ := next_z (Hc := Hc2) (Hm := Hm2) (e := s + 1) hG (a.fr Fc.1 Fc.2 (by simp) (by simp)) (b.fr Fm.1 Fm.2.1 (by simp) (by simp)) (by rw [← gc, sI_cell (by omega)]; exact k2 ⟨j2, rfl⟩) m44 (by omega)
    rw [g1, bnd_s]
    refine ⟨true, Hc3, Hm2, rfl, rfl, Fc.tr g2.t, f1.t.tr Fm, fun _ => ⟨s', by omega, g4, AC.fr (Hc := Hc2) (Hm := Hm2) ⟨fun v hv => ?_, fun v h1 h2 => ?_⟩ g2 FM.rf⟩, fun w => (by cases w)⟩
    · rw [c29, m90]
      by_cases w : v = j
      · rw [if_pos w, if_pos (by omega), A1.1 j (by omega), hσ]
      · rw [if_neg w, if_neg (by omega), A1.1 v hv]
    · rw [c29, if_neg (by omega)]
      exact A1.2 v h1 h2
  · have nc : ¬ (0 ≤ (Hc.1 27 2 - 97).toInt ∧ (Hc.1 27 2 - 97).toInt < (nv : Int)) := fun w => by
      obtain ⟨j, j1, j2, j3⟩ := v97 p4 w
      have := (tk_char hG c j3).1.mp rfl
      exact q ⟨j, j1, this.1, this.2.trans j2⟩
    have nm : ¬ (0 ≤ ((if s < n then t s else (-9 : Int32)) - 97).toInt ∧ ((if s < n then t s else (-9 : Int32)) - 97).toInt ≤ (nv : Int) - 1) := fun w => by
      obtain ⟨j, j1, j2, j3⟩ := v97 (nv := nv) p4 ⟨w.1, by omega⟩
      have := (lk_char j3).mp rfl
      exact q ⟨j, j1, this.1, this.2.trans j2⟩
    rw [decide_eq_false nc, decide_eq_false nm, if_pos (show bI false = 0 from rfl), if_pos (show bI false = 0 from rfl)]
    exact ⟨false, Hc, H1, rfl, rfl, FTc.rf, f1.t, fun w => (by cases w), fun _ => ⟨s, sn, c.1, m1⟩⟩
theorem TE.pre {t : Nat → Int32} {n nv nf s s1 : Nat} {Hc Hm Hc1 Hm1 : Hp} {x y : Option (Int32 × Hp)} (h : TE t n nv nf s1 Hc1 Hm1 x y) (a : FTc Hc Hc1) (b : FTm nf Hm Hm1) (hs : s ≤ s1) : TE t n nv nf s Hc Hm x y := by
  obtain ⟨b', Hc', Hm', e1, e2, e3, e4, e5, e6⟩ := h
  refine ⟨b', Hc', Hm', e1, e2, a.tr e3, b.tr e4, fun w => ?_, e6⟩
  obtain ⟨s', u1, u2⟩ := e5 w
  exact ⟨s', by omega, u2⟩
theorem term_z {t : Nat → Int32} {n s nv nf : Nat} {Hc Hm : Hp} {σ : Int32} (hG : TG t n) (hS : SY t n Hc Hm s) (hP : TP nv nf Hc Hm) (hA : AC nv nf Hc Hm) : TE t n nv nf s Hc Hm (s_X6_readTerm_b37 27 7 σ Hc) (s_X10_readsTerm 66 σ Hm) := by
  obtain ⟨H1, e1, f1, m1, S1⟩ := look_z hG hS
  have P1 := hP.fr FTc.rf f1.t
  have A1 := hA.fr FC.rf f1
  obtain ⟨b, H2, n1, n2, f2, n3, n4⟩ := number_z (a1 := 1) (a2 := 3) hG S1 (by decide) (by decide)
  unfold s_X6_readTerm_b37 s_X10_readsTerm
  rw [n1, bnd_s, e1, bnd_s]
  dsimp only
  rw [in_z, show (48 : Int32).toInt = 48 from by decide, show (57 : Int32).toInt = 57 from by decide, bnd_s]
  by_cases q : s < n ∧ dg (t s)
  · rw [if_pos q.1, decide_eq_true (show 48 ≤ (t s).toInt ∧ (t s).toInt ≤ 57 from q.2), if_neg (show ¬ (bI true = 0) by decide), n2, bnd_s]
    cases b
    · rw [if_pos (show bI false = 0 from rfl), if_pos (show bI false = 0 from rfl)]
      have nc : ¬ (0 ≤ (Hc.1 27 2 - 97).toInt ∧ (Hc.1 27 2 - 97).toInt < (nv : Int)) := fun w => by
        obtain ⟨j, j1, j2, j3⟩ := v97 P1.2.2.1.2 w
        have := (tk_char hG S1.2.2.1 j3).1.mp rfl
        have d := q.2
        have nv3 := P1.2.2.1.2
        rw [this.2, j2, dg, nI_z (by omega)] at d
        omega
      unfold s_X6_readTerm_b57
      rw [lt_red, hasV_z P1.1 P1.2.2.1.2, bnd_s, decide_eq_false nc, if_pos (show bI false = 0 from rfl)]
      exact ⟨false, Hc, H2, rfl, rfl, FTc.rf, f1.t.tr f2.t, fun w => (by cases w), fun _ => ⟨s, S1.2.2.1.2.1, S1.2.2.1.1, n4 rfl⟩⟩
    · rw [if_neg (show ¬ (bI true = 0) by decide), if_neg (show ¬ (bI true = 0) by decide), lt_red, lt_red]
      obtain ⟨-, -, e, v, u1, u2, u3, u4, u5, u6, u7, u8⟩ := n3 rfl
      obtain ⟨Hc3, s', g1, g2, g3, g4⟩ := next_z hG S1.1 (f2.tm S1.2.1) u1 u2 u4
      rw [g1, bnd_s, u5, u6]
      exact (var_z hG g4 (P1.fr g2.t f2.t) (A1.fr g2 f2) rfl).pre g2.t (f1.t.tr f2.t) (by omega)
  · have nd : ¬ (48 ≤ (if s < n then t s else (-9 : Int32)).toInt ∧ (if s < n then t s else (-9 : Int32)).toInt ≤ 57) := by
      by_cases w : s < n
      · rw [if_pos w]; exact fun y => q ⟨w, y⟩
      · rw [if_neg w]; decide
    have eb : b = false := by
      cases b
      · rfl
      · obtain ⟨w1, w2, -⟩ := n3 rfl
        exact absurd ⟨w2, w1⟩ q
    subst eb
    rw [decide_eq_false nd, if_pos (show bI false = 0 from rfl), if_pos (show bI false = 0 from rfl)]
    exact (var_z hG S1 P1 A1 (Int32.mul_one σ).symm).pre FTc.rf f1.t (Nat.le_refl _)
/-- a sign before a term -/
theorem sign_z {t : Nat → Int32} {n s : Nat} {Hc Hm : Hp} (hG : TG t n) (hS : SY t n Hc Hm s) : (s < n ∧ (t s = 43 ∨ t s = 45) → ∀ Hm1, TM t n Hm1 → Hm1.1 66 44 = nI (s + 1) → ∃ Hc1 s1, s_X6_readTerm 27 7 Hc = s_X6_readTerm_b37 27 7 (if t s = 45 then -1 else 1) Hc1 ∧ FC Hc Hc1 ∧ s < s1 ∧ SY t n Hc1 Hm1 s1) ∧ (¬ (s < n ∧ (t s = 43 ∨ t s = 45)) → s_X6_readTerm 27 7 Hc = s_X6_readTerm_b37 27 7 1 Hc) := by
  obtain ⟨a, b, c, -⟩ := hS
  obtain ⟨k1, k2⟩ := tk_char hG c tkn43
  obtain ⟨l1, l2⟩ := tk_char hG c tkn45
  unfold s_X6_readTerm s_X6_readTerm_b14 s_X6_readTerm_b33
  constructor
  · rintro ⟨q1, q2⟩ Hm1 hM m44
    have e4 : Hc.1 27 4 = nI (s + 1) := by
      rcases q2 with q | q
      · exact k2 ⟨q1, q⟩
      · exact l2 ⟨q1, q⟩
    obtain ⟨Hc1, s1, g1, g2, g3, g4⟩ := next_z hG a hM e4 m44 (by omega)
    refine ⟨Hc1, s1, ?_, g2, by omega, g4⟩
    rcases q2 with q | q
    · rw [k1.mpr ⟨q1, q⟩, if_neg (by decide), if_pos rfl, g1, bnd_s, q, if_neg (by decide)]
    · rw [l1.mpr ⟨q1, q⟩, if_pos rfl, if_neg (by decide), if_pos rfl, g1, bnd_s, q, if_pos rfl]
  · intro q
    rw [if_neg (fun w => q (by have := l1.mp w; exact ⟨this.1, Or.inr this.2⟩)), if_neg (fun w => q (by have := k1.mp w; exact ⟨this.1, Or.inl this.2⟩)), if_neg (fun w => q (by have := l1.mp w; exact ⟨this.1, Or.inr this.2⟩))]
