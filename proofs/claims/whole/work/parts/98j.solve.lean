/-! Corners.equate and solve: Cramer's rule -/
def nmr (G : Nat → Nat → Int) (R : Nat → Int) (v : Nat) : Int := R 0 * cr G 1 2 v + R 1 * cr G 2 0 v + R 2 * cr G 0 1 v
/-- the three equations of a set of rows -/
def eqF (F : Nat → Nat → Int) (T : List Nat) : Nat → Nat → Int := fun c v => if c < T.length then F (T.getD c 0) v else if v = c then 1 else 0
def eqR (d : Nat → Int) (T : List Nat) : Nat → Int := fun c => if c < T.length then d (T.getD c 0) else 0
theorem push4_z {h : Hp} {R N : Nat} (hN : h.1 R 4 = nI N) (h12 : N < 12) (x y z : Int32) (w : Int64) : ∃ h', s_X7_push R x y z w 4 h = some h' ∧ h'.1 R 4 = nI (N + 1) ∧ (h'.1 (R + 1) (3 * N) = x ∧ h'.1 (R + 1) (3 * N + 1) = y ∧ h'.1 (R + 1) (3 * N + 2) = z ∧ ∀ k, k < 3 * N → h'.1 (R + 1) k = h.1 (R + 1) k) ∧ (h'.2 (R + 2) N = w ∧ ∀ k, k < N → h'.2 (R + 2) k = h.2 (R + 2) k) ∧ Fr [R, R + 1, R + 2, R + 3, R + 4] h h' := by
  obtain ⟨h', a1, a2, a3, ⟨b1, b2, b3, b4⟩, ⟨c1, c2⟩, -, -, f⟩ := push_z hN h12 (s := 4) (by omega) x y z w
  have t1 : tI 4 = 1 := rfl
  have m1 : ∀ x : Int32, tI 4 * x = x := fun x => by rw [t1, Int32.one_mul]
  have m2 : ∀ w : Int64, (tI 4).toInt64 * w = w := fun w => by
    rw [t1, show (1 : Int32).toInt64 = 1 from by decide, Int64.one_mul]
  exact ⟨h', a1, a2, ⟨by rw [b1, m1], by rw [b2, m1], by rw [b3, m1], b4⟩, ⟨by rw [c1, m2], c2⟩, f⟩
def SysAt (H : Hp) (n : Nat) (G : Nat → Nat → Int) (R : Nat → Int) : Prop := H.1 58 4 = nI n ∧ ∀ c, c < n → (∀ v, v < 3 → H.1 59 (3 * c + v) = i32 (G c v)) ∧ H.2 60 c = i64 (R c)
abbrev sysc : List Nat := [58, 59, 60, 61, 62]
theorem sys_push {H : Hp} {n : Nat} {G : Nat → Nat → Int} {R : Nat → Int} (hS : SysAt H n G R) (hn : n < 12) : ∃ H', s_X7_push 58 (i32 (G n 0)) (i32 (G n 1)) (i32 (G n 2)) (i64 (R n)) 4 H = some H' ∧ SysAt H' (n + 1) G R ∧ Fr sysc H H' := by
  obtain ⟨H', a1, a2, ⟨b1, b2, b3, b4⟩, ⟨c1, c2⟩, f⟩ := push4_z (R := 58) hS.1 hn (i32 (G n 0)) (i32 (G n 1)) (i32 (G n 2)) (i64 (R n))
  refine ⟨H', a1, ⟨a2, fun c hc => ?_⟩, f⟩
  rcases (show c < n ∨ c = n by omega) with q | rfl
  · refine ⟨fun v hv => ?_, ?_⟩
    · have := b4 (3 * c + v) (by omega)
      rw [this]; exact (hS.2 c q).1 v hv
    · have := c2 c q
      rw [this]; exact (hS.2 c q).2
  · refine ⟨fun v hv => ?_, c1⟩
    rcases (show v = 0 ∨ v = 1 ∨ v = 2 by omega) with rfl | rfl | rfl
    · exact b1
    · exact b2
    · exact b3
set_option maxHeartbeats 1000000 in
theorem equate_z {H : Hp} {m nv b : Nat} {Fr0 : Nat → Nat → Int} {d0 : Nat → Int} (h4 : H.1 32 4 = nI m) (hm : m ≤ 10) (hr : ∀ i, i < m → (∀ v, v < 3 → rF H 32 i v = Fr0 i v) ∧ (H.2 34 i).toInt = d0 i) (hl : (bl b m).length = nv) (h3 : nv ≤ 3) : ∃ H', s_X2_equate 55 32 (nI b) (nI nv) H = some H' ∧ Fr sysc H H' ∧ SysAt H' 3 (eqF Fr0 (bl b m)) (eqR d0 (bl b m)) := by
  unfold s_X2_equate
  obtain ⟨H0, r1, r2, r3, r4, r5⟩ := restart_z H 58 3
  have F0 : Fr sysc H H0 := fun c hc => by
    simp [sysc] at hc
    exact ⟨r4 c hc.1, by rw [r5]⟩
  rw [show (55 + 3 : Nat) = 58 from rfl, r1, bnd_s]
  obtain ⟨e, he, hp⟩ := iter_fuel (f := fun s : Int32 × Hp => s_X2_equate_l11 55 32 (nI b) (nI nv) s.1 s.2)
    (fun z => ∃ (i : Nat) (G : Hp), z = (nI i, G) ∧ i ≤ m ∧ Fr sysc H G ∧ SysAt G (bl b i).length (eqF Fr0 (bl b m)) (eqR d0 (bl b m)))
    (fun z => 20 - z.1.toNatClampNeg)
    (fun G => Fr sysc H G ∧ SysAt G nv (eqF Fr0 (bl b m)) (eqR d0 (bl b m))) (by
    rintro z ⟨i, G, rfl, hi, hF, hS⟩
    dsimp only
    unfold s_X2_equate_l11 s_X2_equate_b65
    have g4 : G.1 32 4 = nI m := by rw [(hF 32 (by simp [sysc])).1]; exact h4
    rw [g4]
    by_cases q : i < m
    · have mu : 20 - (nI (i + 1)).toNatClampNeg < 20 - (nI i).toNatClampNeg := by rw [nI_clamp (by omega), nI_clamp (by omega)]; omega
      rw [if_pos (nI_lt q (by omega)), sh1 _ (by omega), bt_nI _ _ (by omega)]
      cases hb : b.testBit i
      · rw [if_pos (by decide), lt_red, nI_1]
        have e1 : bl b (i + 1) = bl b i := by rw [bl_succ, hb]; simp
        exact Or.inl ⟨_, rfl, ⟨i + 1, G, rfl, by omega, hF, by rw [e1]; exact hS⟩, mu⟩
      · have e1 : (bl b (i + 1)).length = (bl b i).length + 1 := by rw [bl_succ, hb]; simp
        have hl1 := bl_mono_len b (show i + 1 ≤ m by omega)
        have hnew : (bl b m).getD (bl b i).length 0 = i := by
          have := bl_getD_new hb
          have app : ∀ d, (bl b (i + 1 + d)).getD (bl b i).length 0 = i := fun d => by
            induction d with
            | zero => exact this
            | succ d ih =>
              rw [← Nat.add_assoc, bl_getD_app b (i + 1 + d) (by have := bl_mono_len b (show i + 1 ≤ i + 1 + d by omega); omega)]; exact ih
          have h2 := app (m - (i + 1))
          rw [show i + 1 + (m - (i + 1)) = m by omega] at h2
          exact h2
        have ent : ∀ v, v < 3 → s_X7_entry 32 (nI i) (nI v) G = some (i32 (eqF Fr0 (bl b m) (bl b i).length v)) := fun v hv => by
          rw [entry_z g4 (by omega) q hv]
          unfold eqF
          rw [if_pos (by omega), hnew]
          have : rF G 32 i v = rF H 32 i v := by unfold rF; rw [(hF 33 (by simp [sysc])).1]
          rw [this, (hr i q).1 v hv]
        have E0 : s_X7_entry 32 (nI i) 0 G = some (i32 (eqF Fr0 (bl b m) (bl b i).length 0)) := ent 0 (by omega)
        have E1 : s_X7_entry 32 (nI i) 1 G = some (i32 (eqF Fr0 (bl b m) (bl b i).length 1)) := ent 1 (by omega)
        have E2 : s_X7_entry 32 (nI i) 2 G = some (i32 (eqF Fr0 (bl b m) (bl b i).length 2)) := ent 2 (by omega)
        have er : G.2 34 i = i64 (eqR d0 (bl b m) (bl b i).length) := by
          unfold eqR
          rw [if_pos (by omega), hnew, ← (hr i q).2, i64_of, (hF 34 (by simp [sysc])).2]
        rw [if_neg (by decide), E0, bnd_s, E1, bnd_s, E2, bnd_s, show (32 + 2 : Nat) = 34 from rfl, ldJ_n (by omega) (by omega), er, show (55 + 3 : Nat) = 58 from rfl]
        obtain ⟨G2, p1, p2, p3⟩ := sys_push hS (by omega)
        rw [p1, bnd_s, lt_red, nI_1]
        exact Or.inl ⟨_, rfl, ⟨i + 1, G2, rfl, by omega, hF.tr p3, by rw [e1]; exact p2⟩, mu⟩
    · rw [if_neg (nI_nlt (by omega) (by omega))]
      have : i = m := by omega
      subst this
      exact Or.inr ⟨_, rfl, hF, by rw [← hl]; exact hS⟩)
    (nI 0, H0) ⟨0, H0, rfl, by omega, F0, ⟨by rw [r2]; rfl, fun c hc => by simp [bl] at hc⟩⟩ (by dsimp only; rw [nI_clamp (by omega)]; omega)
  obtain ⟨hF1, hS1⟩ := hp
  rw [li0, he, bnd_s]
  obtain ⟨e2, he2, hp2⟩ := iter_fuel (f := fun s : Int32 × Hp => s_X2_equate_l74 55 32 s.1 s.2)
    (fun z => ∃ (v : Nat) (G : Hp), z = (nI v, G) ∧ nv ≤ v ∧ v ≤ 3 ∧ Fr sysc H G ∧ SysAt G v (eqF Fr0 (bl b m)) (eqR d0 (bl b m)))
    (fun z => 20 - z.1.toNatClampNeg)
    (fun G => Fr sysc H G ∧ SysAt G 3 (eqF Fr0 (bl b m)) (eqR d0 (bl b m))) (by
    rintro z ⟨v, G, rfl, hv1, hv2, hF, hS⟩
    dsimp only
    unfold s_X2_equate_l74 s_X2_equate_b94 s_X2_equate_b105 s_X2_equate_b116
    by_cases q : v < 3
    · have mu : 20 - (nI (v + 1)).toNatClampNeg < 20 - (nI v).toNatClampNeg := by rw [nI_clamp (by omega), nI_clamp (by omega)]; omega
      have eu : ∀ u, eqF Fr0 (bl b m) v u = if u = v then 1 else 0 := fun u => by unfold eqF; rw [if_neg (by omega)]
      have eR : eqR d0 (bl b m) v = 0 := by unfold eqR; rw [if_neg (by omega)]
      obtain ⟨G2, p1, p2, p3⟩ := sys_push hS (by omega)
      rw [eu, eu, eu, eR] at p1
      rw [if_pos (nI_ltn q (by omega) (by decide)), show (55 + 3 : Nat) = 58 from rfl]
      have fin : s_X7_push 58 (if v = 0 then 1 else 0) (if v = 1 then 1 else 0) (if v = 2 then 1 else 0) 0 4 G = some G2 := by
        rw [← p1]
        rcases (show v = 0 ∨ v = 1 ∨ v = 2 by omega) with rfl | rfl | rfl <;> rfl
      have done : (some G2).bind (fun y9 => lt (nI v + 1) fun v4_10 => some (Sum.inl (v4_10, y9) : (Int32 × Hp) ⊕ Hp)) = some (.inl (nI (v + 1), G2)) := by rw [bnd_s, lt_red, nI_1]
      rcases (show v = 0 ∨ v = 1 ∨ v = 2 by omega) with rfl | rfl | rfl
      · rw [if_pos (by decide), if_neg (by decide), if_neg (by decide), show s_X7_push 58 1 0 0 0 4 G = some G2 from fin, done]
        exact Or.inl ⟨_, rfl, ⟨1, G2, rfl, by omega, by omega, hF.tr p3, p2⟩, mu⟩
      · rw [if_neg (by decide), if_pos (by decide), if_neg (by decide), show s_X7_push 58 0 1 0 0 4 G = some G2 from fin, done]
        exact Or.inl ⟨_, rfl, ⟨2, G2, rfl, by omega, by omega, hF.tr p3, p2⟩, mu⟩
      · rw [if_neg (by decide), if_neg (by decide), if_pos (by decide), show s_X7_push 58 0 0 1 0 4 G = some G2 from fin, done]
        exact Or.inl ⟨_, rfl, ⟨3, G2, rfl, by omega, by omega, hF.tr p3, p2⟩, mu⟩
    · have : v = 3 := by omega
      subst this
      rw [if_neg (nI_nltn (by decide))]
      exact Or.inr ⟨_, rfl, hF, hS⟩)
    (nI nv, e) ⟨nv, e, rfl, Nat.le_refl _, h3, hF1, hS1⟩ (by dsimp only; rw [nI_clamp (by omega)]; omega)
  rw [he2, bnd_s]
  exact ⟨e2, rfl, hp2⟩
theorem rat_div_neg (x d : Rat) : (-x) / (-d) = x / d := by
  by_cases c : d = 0
  · subst c
    have : -(0 : Rat) = 0 := by grind
    rw [this, Rat.div_def, Rat.div_def, Rat.inv_zero]; grind
  · have e1 : x / d * d = x := Rat.div_mul_cancel c
    have e2 : (-x) / (-d) * (-d) = -x := Rat.div_mul_cancel (by grind)
    generalize x / d = y at *
    generalize (-x) / (-d) = z at *
    rcases Rat.mul_eq_zero.mp (show (z - y) * d = 0 by grind) with w | w
    · grind
    · exact absurd w c
theorem mkp_neg (a b c d : Int) : mkp (-a) (-b) (-c) (-d) = mkp a b c d := by
  unfold mkp
  push_cast
  rw [rat_div_neg, rat_div_neg, rat_div_neg]
theorem nmr_bd {G : Nat → Nat → Int} {R : Nat → Int} (hG : Bd G 3) (hR : ∀ c, c < 3 → -50 ≤ R c ∧ R c ≤ 50) {v : Nat} (hv : v < 3) : (-900 ≤ R 0 * cr G 1 2 v ∧ R 0 * cr G 1 2 v ≤ 900) ∧ (-900 ≤ R 1 * cr G 2 0 v ∧ R 1 * cr G 2 0 v ≤ 900) ∧ (-900 ≤ R 2 * cr G 0 1 v ∧ R 2 * cr G 0 1 v ≤ 900) := by
  have m := fun a i j (ha : a < 3) (hi : i < 3) (hj : j < 3) => mulb (A := 50) (B := 18) (hR a ha).1 (hR a ha).2 (cr_bd hG hi hj hv).1 (cr_bd hG hi hj hv).2
  exact ⟨m 0 1 2 (by omega) (by omega) (by omega), m 1 2 0 (by omega) (by omega) (by omega), m 2 0 1 (by omega) (by omega) (by omega)⟩
set_option maxHeartbeats 1000000 in
theorem solve_z {H : Hp} {G : Nat → Nat → Int} {R : Nat → Int} (hS : SysAt H 3 G R) (hG : Bd G 3) (hR : ∀ c, c < 3 → -50 ≤ R c ∧ R c ≤ 50) : ∃ r H', s_X2_solve 55 H = some (r, H') ∧ Fr [55, 63] H H' ∧ FrK 55 [5] H H' ∧ ((r = 0 ∧ dt G 0 1 2 = 0) ∨ (r = 1 ∧ dt G 0 1 2 ≠ 0 ∧ NewP H' (mkp (nmr G R 0) (nmr G R 1) (nmr G R 2) (dt G 0 1 2)))) := by
  have z0l : (0 : Int64).toInt = 0 := by decide
  have eF : ∀ c, c < 3 → ∀ v, v < 3 → rF H 58 c v = G c v := fun c hc v hv => by
    unfold rF
    have := (hS.2 c hc).1 v hv
    show (H.1 59 (3 * c + v)).toInt = G c v
    rw [this, i32_z (by have := hG c hc v hv; omega) (by have := hG c hc v hv; omega)]
  have ecr : ∀ i j v, i < 3 → j < 3 → v < 3 → cr (rF H 58) i j v = cr G i j v := fun i j v hi hj hv => by
    have a1 : nx v < 3 := by unfold nx; split <;> omega
    have a2 : th v < 3 := by unfold th; split <;> omega
    unfold cr
    rw [eF i hi _ a1, eF i hi _ a2, eF j hj _ a1, eF j hj _ a2]
  have edt : dt (rF H 58) 0 1 2 = dt G 0 1 2 := by
    unfold dt
    rw [eF 0 (by omega) 0 (by omega), eF 0 (by omega) 1 (by omega), eF 0 (by omega) 2 (by omega), eF 1 (by omega) 0 (by omega), eF 1 (by omega) 1 (by omega), eF 1 (by omega) 2 (by omega), eF 2 (by omega) 0 (by omega), eF 2 (by omega) 1 (by omega), eF 2 (by omega) 2 (by omega)]
  have db := dt_bd hG (i := 0) (j := 1) (k := 2) (by omega) (by omega) (by omega)
  unfold s_X2_solve
  have D0 : s_X7_determinant 58 0 1 2 H = some (i32 (dt G 0 1 2)) := by
    have := det_z (R := 58) (i := 0) (j := 1) (k := 2) hS.1 (by omega) (by omega) (by omega) (by omega)
    rw [edt] at this; exact this
  rw [show (55 + 3 : Nat) = 58 from rfl, D0, bnd_s, lt_red, sJ_same]
  have eD : (i32 (dt G 0 1 2)).toInt64 = i64 (dt G 0 1 2) := by
    apply eql_z.mpr
    rw [tl_z, i32_z (by omega) (by omega), i64_z (by omega) (by omega)]
  rw [eD]
  have vD : (i64 (dt G 0 1 2)).toInt = dt G 0 1 2 := i64_z (by omega) (by omega)
  generalize gH1 : sJ H 55 5 (i64 (dt G 0 1 2)) = H1
  have F1 : Fr [55, 63] H H1 := by rw [← gH1]; exact Fr.sJ (by simp)
  have K1 : FrK 55 [5] H H1 := fun k hk => by rw [← gH1]; exact ⟨rfl, sJ_ne (by simpa using hk)⟩
  have e5 : H1.2 55 5 = i64 (dt G 0 1 2) := by rw [← gH1, sJ_same]
  by_cases c : dt G 0 1 2 = 0
  · rw [if_pos ((i64_0 (by omega) (by omega)).mpr c)]
    exact ⟨0, H1, rfl, F1, K1, Or.inl ⟨rfl, c⟩⟩
  · rw [if_neg (fun y => c ((i64_0 (by omega) (by omega)).mp y))]
    have S1 : ∀ c, c < 3 → H1.2 60 c = i64 (R c) := fun c hc => by rw [(F1 60 (by simp)).2]; exact (hS.2 c hc).2
    have nb : ∀ v, v < 3 → -2700 ≤ nmr G R v ∧ nmr G R v ≤ 2700 := fun v hv => by
      have := nmr_bd hG hR hv
      unfold nmr; omega
    obtain ⟨H2, l1, lF, l63⟩ : ∃ H2, iter (fun s : Int32 × Hp => s_X2_solve_l28 55 s.1 s.2) FUEL ((0 : Int32), H1) = some H2 ∧ Fr [63] H1 H2 ∧ ∀ v, v < 3 → H2.2 63 v = i64 (nmr G R v) := by
      obtain ⟨e, he, hp⟩ := iter_fuel (f := fun s : Int32 × Hp => s_X2_solve_l28 55 s.1 s.2)
        (fun z => ∃ (v : Nat) (Q : Hp), z = (nI v, Q) ∧ v ≤ 3 ∧ Fr [63] H1 Q ∧ ∀ u, u < v → Q.2 63 u = i64 (nmr G R u))
        (fun z => 20 - z.1.toNatClampNeg)
        (fun Q => Fr [63] H1 Q ∧ ∀ v, v < 3 → Q.2 63 v = i64 (nmr G R v)) (by
        rintro z ⟨v, Q, rfl, hv, hF, hQ⟩
        dsimp only
        unfold s_X2_solve_l28
        by_cases y : v < 3
        · have Q58 : Q.1 58 4 = nI 3 := by rw [(hF 58 (by simp)).1, (F1 58 (by simp)).1]; exact hS.1
          have crQ : ∀ i j, i < 3 → j < 3 → s_X7_cross 58 (nI i) (nI j) (nI v) Q = some (i32 (cr G i j v)) := fun i j hi hj => by
            rw [cross_z (R := 58) Q58 (by omega) hi hj y]
            have : rF Q 58 = rF H 58 := by unfold rF; rw [(hF 59 (by simp)).1, (F1 59 (by simp)).1]
            rw [this, ecr i j v hi hj y]
          have c12 : s_X7_cross 58 1 2 (nI v) Q = some (i32 (cr G 1 2 v)) := crQ 1 2 (by omega) (by omega)
          have c20 : s_X7_cross 58 2 0 (nI v) Q = some (i32 (cr G 2 0 v)) := crQ 2 0 (by omega) (by omega)
          have c01 : s_X7_cross 58 0 1 (nI v) Q = some (i32 (cr G 0 1 v)) := crQ 0 1 (by omega) (by omega)
          have toL : ∀ i j, i < 3 → j < 3 → (i32 (cr G i j v)).toInt64 = i64 (cr G i j v) := fun i j hi hj => by
            have := cr_bd hG hi hj y
            apply eql_z.mpr
            rw [tl_z, i32_z (by omega) (by omega), i64_z (by omega) (by omega)]
          rw [if_pos (nI_ltn y (by omega) (by decide)), show (55 + 3 : Nat) = 58 from rfl, show (58 + 2 : Nat) = 60 from rfl, show (55 + 8 : Nat) = 63 from rfl, c12, c20, c01]
          simp only [bnd_s]
          rw [li0, ldJ_n (by omega) (by omega), li1, ldJ_n (by omega) (by omega), li2, ldJ_n (by omega) (by omega), (hF 60 (by simp)).2, S1 0 (by omega), S1 1 (by omega), S1 2 (by omega), toL 1 2 (by omega) (by omega), toL 2 0 (by omega) (by omega), toL 0 1 (by omega) (by omega), i64_mul, i64_mul, i64_mul, i64_add, i64_add, stJ_n (by omega) (by omega), lt_red, ← li1, nI_1]
          refine Or.inl ⟨_, rfl, ⟨v + 1, _, rfl, by omega, hF.tr (Fr.sJ (by simp)), fun u hu => ?_⟩, by rw [nI_clamp (by omega), nI_clamp (by omega)]; omega⟩
          by_cases w : u = v
          · subst w; rw [sJ_same]; rfl
          · rw [sJ_ne w]; exact hQ u (by omega)
        · have : v = 3 := by omega
          subst this
          rw [if_neg (nI_nltn (by decide))]
          exact Or.inr ⟨_, rfl, hF, hQ⟩)
        (nI 0, H1) ⟨0, H1, rfl, by omega, Fr.rf, fun u hu => by omega⟩ (by dsimp only; rw [nI_clamp (by omega)]; omega)
      exact ⟨e, by rw [li0]; exact he, hp⟩
    rw [l1, bnd_s, (lF 55 (by simp)).2, e5]
    have vN : ∀ v, v < 3 → (i64 (nmr G R v)).toInt = nmr G R v := fun v hv => i64_z (by have := nb v hv; omega) (by have := nb v hv; omega)
    have n0 := nb 0 (by omega)
    have n1 := nb 1 (by omega)
    have n2 := nb 2 (by omega)
    by_cases d : dt G 0 1 2 < 0
    · rw [if_pos (show i64 (dt G 0 1 2) < (0 : Int64) from ltl_z.mpr (by rw [z0l, vD]; exact d)), lt_red]
      generalize gH3 : sJ H2 55 5 (-(i64 (dt G 0 1 2))) = H3
      have F3 : Fr [55] H2 H3 := by rw [← gH3]; exact Fr.sJ (by simp)
      have K3 : FrK 55 [5] H2 H3 := fun k hk => by rw [← gH3]; exact ⟨rfl, sJ_ne (by simpa using hk)⟩
      have e53 : H3.2 55 5 = i64 (- dt G 0 1 2) := by rw [← gH3, sJ_same, i64_neg]
      have e633 : ∀ v, v < 3 → H3.2 63 v = i64 (nmr G R v) := fun v hv => by rw [(F3 63 (by simp)).2]; exact l63 v hv
      obtain ⟨H4, k1, kF, k63⟩ : ∃ H4, iter (fun s : Int32 × Hp => s_X2_solve_l130 55 s.1 s.2) FUEL ((0 : Int32), H3) = some H4 ∧ Fr [63] H3 H4 ∧ ∀ v, v < 3 → H4.2 63 v = i64 (- nmr G R v) := by
        obtain ⟨e, he, hp⟩ := iter_fuel (f := fun s : Int32 × Hp => s_X2_solve_l130 55 s.1 s.2)
          (fun z => ∃ (v : Nat) (Q : Hp), z = (nI v, Q) ∧ v ≤ 3 ∧ Fr [63] H3 Q ∧ ∀ u, u < 3 → Q.2 63 u = i64 (if u < v then - nmr G R u else nmr G R u))
          (fun z => 20 - z.1.toNatClampNeg)
          (fun Q => Fr [63] H3 Q ∧ ∀ v, v < 3 → Q.2 63 v = i64 (- nmr G R v)) (by
          rintro z ⟨v, Q, rfl, hv, hF, hQ⟩
          dsimp only
          unfold s_X2_solve_l130
          by_cases y : v < 3
          · rw [if_pos (nI_ltn y (by omega) (by decide)), show (55 + 8 : Nat) = 63 from rfl, ldJ_n (by omega) (by omega), hQ v y, if_neg (by omega), i64_neg, stJ_n (by omega) (by omega), lt_red, nI_1]
            refine Or.inl ⟨_, rfl, ⟨v + 1, _, rfl, by omega, hF.tr (Fr.sJ (by simp)), fun u hu => ?_⟩, by rw [nI_clamp (by omega), nI_clamp (by omega)]; omega⟩
            by_cases w : u = v
            · subst w; rw [sJ_same, if_pos (by omega)]
            · rw [sJ_ne w, hQ u hu]
              by_cases w2 : u < v
              · rw [if_pos w2, if_pos (by omega)]
              · rw [if_neg w2, if_neg (by omega)]
          · have : v = 3 := by omega
            subst this
            rw [if_neg (nI_nltn (by decide))]
            exact Or.inr ⟨_, rfl, hF, fun u hu => by rw [hQ u hu, if_pos hu]⟩)
          (nI 0, H3) ⟨0, H3, rfl, by omega, Fr.rf, fun u hu => by rw [if_neg (by omega)]; exact e633 u hu⟩ (by dsimp only; rw [nI_clamp (by omega)]; omega)
        exact ⟨e, by rw [li0]; exact he, hp⟩
      rw [k1, bnd_s]
      have vN' : ∀ v, v < 3 → (i64 (- nmr G R v)).toInt = - nmr G R v := fun v hv => i64_z (by have := nb v hv; omega) (by have := nb v hv; omega)
      have vD' : (i64 (- dt G 0 1 2)).toInt = - dt G 0 1 2 := i64_z (by omega) (by omega)
      refine ⟨1, H4, rfl, F1.tr ((lF.wid (by simp)).tr ((F3.wid (by simp)).tr (kF.wid (by simp)))), K1.tr ((FrK.of lF (by simp)).tr (K3.tr (FrK.of kF (by simp)))), Or.inr ⟨rfl, c, ?_, ?_⟩⟩
      · unfold QB
        rw [k63 0 (by omega), k63 1 (by omega), k63 2 (by omega), (kF 55 (by simp)).2, e53, vN' 0 (by omega), vN' 1 (by omega), vN' 2 (by omega), vD']
        omega
      · unfold q4
        rw [k63 0 (by omega), k63 1 (by omega), k63 2 (by omega), (kF 55 (by simp)).2, e53, vN' 0 (by omega), vN' 1 (by omega), vN' 2 (by omega), vD', mkp_neg]
    · rw [if_neg (show ¬ i64 (dt G 0 1 2) < (0 : Int64) from fun y => d (by have := ltl_z.mp y; rw [z0l, vD] at this; exact this))]
      refine ⟨1, H2, rfl, F1.tr (lF.wid (by simp)), K1.tr (FrK.of lF (by simp)), Or.inr ⟨rfl, c, ?_, ?_⟩⟩
      · unfold QB
        rw [l63 0 (by omega), l63 1 (by omega), l63 2 (by omega), (lF 55 (by simp)).2, e5, vN 0 (by omega), vN 1 (by omega), vN 2 (by omega), vD]
        omega
      · unfold q4
        rw [l63 0 (by omega), l63 1 (by omega), l63 2 (by omega), (lF 55 (by simp)).2, e5, vN 0 (by omega), vN 1 (by omega), vN 2 (by omega), vD]
