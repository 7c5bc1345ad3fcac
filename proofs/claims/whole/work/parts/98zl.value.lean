/-! the value of a form at the sample point -/
theorem rn_bd {x y : Int} (hy : 0 < y) {M : Int} (hx : -M ≤ x ∧ x ≤ M) : (-M ≤ rn x y ∧ rn x y ≤ M) ∧ (0 < rd x y ∧ rd x y ≤ y) ∧ rn x y * y = x * rd x y := by
  have gp := gcd_pos (n := x) hy
  have e1 : x = rn x y * (Int.gcd x y : Int) := (Int.ediv_mul_cancel (Int.gcd_dvd_left _ _)).symm
  have e2 : y = rd x y * (Int.gcd x y : Int) := (Int.ediv_mul_cancel (Int.gcd_dvd_right _ _)).symm
  generalize rn x y = a at *
  generalize rd x y = b at *
  generalize (Int.gcd x y : Int) = g at *
  have bp : 0 < b := pos_l gp (by rw [← e2]; exact hy)
  refine ⟨?_, ⟨bp, ?_⟩, ?_⟩
  · rcases (show 0 ≤ a ∨ a < 0 by omega) with w | w
    · have := Int.mul_le_mul_of_nonneg_left (show 1 ≤ g by omega) w
      rw [Int.mul_one, ← e1] at this; omega
    · have := Int.mul_le_mul_of_nonneg_left (show 1 ≤ g by omega) (show 0 ≤ -a by omega)
      rw [Int.mul_one, Int.neg_mul, ← e1] at this; omega
  · have := Int.mul_le_mul_of_nonneg_left (show 1 ≤ g by omega) (Int.le_of_lt bp)
    rw [Int.mul_one, ← e2] at this; exact this
  · have a1 : a * y = a * (b * g) := by rw [← e2]
    have a2 : x * b = a * g * b := by rw [← e1]
    rw [a1, a2]; grind
theorem rn_same {x y : Int} (hy : 0 < y) : rn (rn x y) (rd x y) = rn x y ∧ rd (rn x y) (rd x y) = rd x y := by
  obtain ⟨-, b, c⟩ := rn_bd hy (M := x.natAbs) (x := x) (by omega)
  exact red_one b.1 hy c
def sq (K P Q : Nat → Int) : Nat → Int × Int
  | 0 => (0, 1)
  | v + 1 => (rn ((sq K P Q v).1 * Q v + (sq K P Q v).2 * K v * P v) ((sq K P Q v).2 * Q v), rd ((sq K P Q v).1 * Q v + (sq K P Q v).2 * K v * P v) ((sq K P Q v).2 * Q v))
theorem sq_next {n d q k p DB NB QB PB : Int} (hd : 0 < d ∧ d ≤ DB) (hn : -NB ≤ n ∧ n ≤ NB) (hq : 0 < q ∧ q ≤ QB) (hk : -3 ≤ k ∧ k ≤ 3) (hp : -PB ≤ p ∧ p ≤ PB) : (0 < d * q ∧ d * q ≤ DB * QB) ∧ (-(NB * QB + DB * (3 * PB)) ≤ n * q + d * k * p ∧ n * q + d * k * p ≤ NB * QB + DB * (3 * PB)) := by
  have m1 := mulb (A := NB) (B := QB) (a := n) (b := q) hn.1 hn.2 (by omega) hq.2
  have m2 := mulb (A := 3) (B := PB) (a := k) (b := p) hk.1 hk.2 hp.1 hp.2
  have m3 := mulb (A := DB) (B := 3 * PB) (a := d) (b := k * p) (by omega) hd.2 m2.1 m2.2
  have m4 := mulb (A := DB) (B := QB) (a := d) (b := q) (by omega) hd.2 (by omega) hq.2
  have e : d * k * p = d * (k * p) := Int.mul_assoc _ _ _
  rw [e]
  exact ⟨⟨Int.mul_pos hd.1 hq.1, m4.2⟩, by omega, by omega⟩
def nB (v : Nat) : Int := if v = 0 then 0 else if v = 1 then 66744 else if v = 2 then 1745978328 else 90000000000000000
def SqB (K P Q : Nat → Int) (v : Nat) : Prop := (0 < (sq K P Q v).2 ∧ (sq K P Q v).2 ≤ cB v) ∧ (-(nB v) ≤ (sq K P Q v).1 ∧ (sq K P Q v).1 ≤ nB v)
theorem sq_st {K P Q : Nat → Int} {v : Nat} (hv : v < 3) (hB : SBd P Q) (hK : ∀ v, v < 3 → -3 ≤ K v ∧ K v ≤ 3) (h : SqB K P Q v) : (0 < (sq K P Q v).2 * Q v ∧ (sq K P Q v).2 * Q v ≤ cB (v + 1)) ∧ (-(nB (v + 1)) ≤ (sq K P Q v).1 * Q v + (sq K P Q v).2 * K v * P v ∧ (sq K P Q v).1 * Q v + (sq K P Q v).2 * K v * P v ≤ nB (v + 1)) := by
  obtain ⟨⟨a1, a2, a3, a4⟩, ⟨b1, b2, b3, b4⟩, ⟨c1, c2, c3, c4⟩⟩ := hB
  obtain ⟨h1, h2⟩ := h
  rcases (show v = 0 ∨ v = 1 ∨ v = 2 by omega) with rfl | rfl | rfl
  · have h1' : 0 < (sq K P Q 0).2 ∧ (sq K P Q 0).2 ≤ 1 := h1
    have h2' : -0 ≤ (sq K P Q 0).1 ∧ (sq K P Q 0).1 ≤ 0 := h2
    obtain ⟨u, w⟩ := sq_next h1' h2' ⟨a1, a2⟩ (hK 0 hv) ⟨a3, a4⟩
    refine ⟨⟨u.1, ?_⟩, ?_, ?_⟩
    · show _ ≤ (324 : Int); omega
    · show (-66744 : Int) ≤ _; omega
    · show _ ≤ (66744 : Int); omega
  · have h1' : 0 < (sq K P Q 1).2 ∧ (sq K P Q 1).2 ≤ 324 := h1
    have h2' : -66744 ≤ (sq K P Q 1).1 ∧ (sq K P Q 1).1 ≤ 66744 := h2
    obtain ⟨u, w⟩ := sq_next h1' h2' ⟨b1, b2⟩ (hK 1 hv) ⟨b3, b4⟩
    refine ⟨⟨u.1, ?_⟩, ?_, ?_⟩
    · show _ ≤ (3779136 : Int); omega
    · show (-1745978328 : Int) ≤ _; omega
    · show _ ≤ (1745978328 : Int); omega
  · have h1' : 0 < (sq K P Q 2).2 ∧ (sq K P Q 2).2 ≤ 3779136 := h1
    have h2' : -1745978328 ≤ (sq K P Q 2).1 ∧ (sq K P Q 2).1 ≤ 1745978328 := h2
    obtain ⟨u, w⟩ := sq_next h1' h2' ⟨c1, c2⟩ (hK 2 hv) ⟨c3, c4⟩
    refine ⟨⟨u.1, ?_⟩, ?_, ?_⟩
    · show _ ≤ (85691213438976 : Int); omega
    · show (-90000000000000000 : Int) ≤ _; omega
    · show _ ≤ (90000000000000000 : Int); omega
theorem sq_bd {K P Q : Nat → Int} (hB : SBd P Q) (hK : ∀ v, v < 3 → -3 ≤ K v ∧ K v ≤ 3) : ∀ v, v ≤ 3 → SqB K P Q v := by
  intro v
  induction v with
  | zero =>
    intro _
    show ((0 : Int) < 1 ∧ (1 : Int) ≤ 1) ∧ ((-0 : Int) ≤ 0 ∧ (0 : Int) ≤ 0)
    omega
  | succ v ih =>
    intro hv
    obtain ⟨s1, s2⟩ := sq_st (by omega) hB hK (ih (by omega))
    obtain ⟨r1, r2, -⟩ := rn_bd s1.1 s2
    exact ⟨⟨r2.1, by have := s1.2; show rd _ _ ≤ _; omega⟩, r1⟩
theorem sq_red {K P Q : Nat → Int} (hB : SBd P Q) (hK : ∀ v, v < 3 → -3 ≤ K v ∧ K v ≤ 3) : ∀ v, v ≤ 3 → rn (sq K P Q v).1 (sq K P Q v).2 = (sq K P Q v).1 ∧ rd (sq K P Q v).1 (sq K P Q v).2 = (sq K P Q v).2 := by
  intro v hv
  cases v with
  | zero =>
    show rn 0 1 = 0 ∧ rd 0 1 = 1
    decide
  | succ v => exact rn_same (sq_st (by omega) hB hK (sq_bd hB hK v (by omega))).1.1
theorem sq_stay {K P Q : Nat → Int} {nv : Nat} (hB : SBd P Q) (hK : ∀ v, v < 3 → -3 ≤ K v ∧ K v ≤ 3) (hPQ : ∀ v, v < 3 → nv ≤ v → P v = 0 ∧ Q v = 1) : ∀ v, v ≤ 3 → nv ≤ v → sq K P Q v = sq K P Q nv := by
  intro v
  induction v with
  | zero => intro _ h; rw [show nv = 0 by omega]
  | succ v ih =>
    intro hv hn
    by_cases y : nv = v + 1
    · rw [y]
    · rw [← ih (by omega) (by omega)]
      obtain ⟨z1, z2⟩ := hPQ v (by omega) (by omega)
      obtain ⟨r1, r2⟩ := sq_red (K := K) hB hK v (by omega)
      show (rn ((sq K P Q v).1 * Q v + (sq K P Q v).2 * K v * P v) ((sq K P Q v).2 * Q v), rd ((sq K P Q v).1 * Q v + (sq K P Q v).2 * K v * P v) ((sq K P Q v).2 * Q v)) = sq K P Q v
      rw [z1, z2, Int.mul_zero, Int.mul_one, Int.mul_one, Int.add_zero, r1, r2]
/-- the class adds a fraction -/
theorem addTo_z {h : Hp} {n d t q : Int} (e12 : h.2 0 12 = i64 n) (e13 : h.2 0 13 = i64 d) (hd : 0 < d ∧ d ≤ 100000000000000) (hq : 0 < q ∧ q ≤ 100000000000000) (hdq : d * q ≤ 400000000000000) {M : Int} (hM : M ≤ 4000000000000000000) (hx : -M ≤ n * q + d * t ∧ n * q + d * t ≤ M) : s_X9_addToFound 0 (i64 t) (i64 q) h = some (sJ (sJ h 0 12 (i64 (rn (n * q + d * t) (d * q)))) 0 13 (i64 (rd (n * q + d * t) (d * q)))) := by
  have ed : (i64 d).toInt = d := i64_z (by omega) (by omega)
  have eq : (i64 q).toInt = q := i64_z (by omega) (by omega)
  have hg : s_X9_commonDivisor (i64 d) (i64 q) h = some (i64 ((Int.gcd d q : Nat) : Int)) := by
    rw [cd_z (by rw [ed]; omega) (by rw [eq]; omega), ed, eq]
  have gp := gcd_pos (n := d) hq.1
  have gl := gcd_le (n := d) hq.1
  have d1 : ((Int.gcd d q : Nat) : Int) ∣ d := Int.gcd_dvd_left _ _
  have d2 : ((Int.gcd d q : Nat) : Int) ∣ q := Int.gcd_dvd_right _ _
  generalize ((Int.gcd d q : Nat) : Int) = g at *
  obtain ⟨d', hd'⟩ := d1
  obtain ⟨q', hq'⟩ := d2
  have dp : 0 < d' := pos_l gp (by rw [Int.mul_comm, ← hd']; exact hd.1)
  have qp : 0 < q' := pos_l gp (by rw [Int.mul_comm, ← hq']; exact hq.1)
  have eg : (i64 g).toInt = g := i64_z (by omega) (by omega)
  have g0 : ¬ i64 g = 0 := fun z => by
    have := eql_z.mp z
    rw [eg, show (0 : Int64).toInt = 0 from by decide] at this; omega
  have gpos : (0 : Int64) < i64 g := ltl_z.mpr (by rw [eg, show (0 : Int64).toInt = 0 from by decide]; exact gp)
  have q1 : i64 q / i64 g = i64 q' := by
    rw [← i64_of (i64 q / i64 g), div_exact eq eg gp ⟨q', hq'⟩ (by omega), hq', Int.mul_ediv_cancel_left _ (by omega)]
  have q2 : i64 d / i64 g = i64 d' := by
    rw [← i64_of (i64 d / i64 g), div_exact ed eg gp ⟨d', hd'⟩ (by omega), hd', Int.mul_ediv_cancel_left _ (by omega)]
  have xe : n * q + d * t = g * (n * q' + t * d') := by rw [hd', hq']; grind
  have ye : d * q = g * (d * q') := by rw [hq']; grind
  have yp : 0 < d * q' := Int.mul_pos hd.1 qp
  have yl : d * q' ≤ d * q := by
    have := Int.mul_le_mul_of_nonneg_right (show 1 ≤ g by omega) (Int.le_of_lt yp)
    rw [← ye, Int.one_mul] at this; exact this
  have xb : -M ≤ n * q' + t * d' ∧ n * q' + t * d' ≤ M := by
    rw [xe] at hx
    generalize n * q' + t * d' = x at *
    rcases (show 0 ≤ x ∨ x < 0 by omega) with w | w
    · have := Int.mul_le_mul_of_nonneg_right (show 1 ≤ g by omega) w
      rw [Int.one_mul] at this; omega
    · have := Int.mul_le_mul_of_nonneg_right (show 1 ≤ g by omega) (show 0 ≤ -x by omega)
      rw [Int.one_mul, Int.mul_neg] at this; omega
  have ex : (i64 (n * q' + t * d')).toInt = n * q' + t * d' := i64_z (by omega) (by omega)
  have ey : (i64 (d * q')).toInt = d * q' := i64_z (by omega) (by omega)
  obtain ⟨o1, o2⟩ := red_one (n := n * q + d * t) (d := d * q) (n' := n * q' + t * d') (d' := d * q') (by omega) yp (by rw [xe, ye]; grind)
  unfold s_X9_addToFound nzJ
  rw [e12, e13, hg, bnd_s, if_pos gpos, if_neg g0, lt_red, if_neg g0, q1, q2, i64_mul, i64_mul, i64_add, i64_mul, find_z (by rw [ex]; omega) (by rw [ey]; omega), bnd_s, ex, ey, o1, o2]
/-- the class's loop -/
theorem cval_z {h : Hp} {nv nf g : Nat} {K P Q : Nat → Int} (h3 : nv ≤ 3) (h8 : nf ≤ 8) (hg : g < nf) (e0 : h.1 1 0 = nI nv) (e1 : h.1 1 1 = nI nf) (hk2 : ∀ v, v < 3 → h.1 2 (3 * g + v) = i32 (K v)) (hz : ∀ v, v < 3 → nv ≤ v → K v = 0) (hB : SBd P Q) (hK : ∀ v, v < 3 → -3 ≤ K v ∧ K v ≤ 3) (hp : ∀ v, v < 3 → h.2 53 v = i64 (P v) ∧ h.2 54 v = i64 (Q v)) (e12 : h.2 0 12 = i64 0) (e13 : h.2 0 13 = i64 1) : ∃ e, iter (fun s : Int32 × Hp => s_X9_value_l49 0 (nI g) s.1 s.2) FUEL ((0 : Int32), h) = some e ∧ Fr [0] h e ∧ FrK 0 [12, 13] h e ∧ e.2 0 12 = i64 (sq K P Q 3).1 ∧ e.2 0 13 = i64 (sq K P Q 3).2 := by
  obtain ⟨e, he, hp⟩ := iter_fuel (f := fun s : Int32 × Hp => s_X9_value_l49 0 (nI g) s.1 s.2)
    (fun z => ∃ (v : Nat) (H : Hp), z = (nI v, H) ∧ v ≤ 3 ∧ Fr [0] h H ∧ FrK 0 [12, 13] h H ∧ H.2 0 12 = i64 (sq K P Q v).1 ∧ H.2 0 13 = i64 (sq K P Q v).2)
    (fun z => 3 - z.1.toNatClampNeg)
    (fun e => Fr [0] h e ∧ FrK 0 [12, 13] h e ∧ e.2 0 12 = i64 (sq K P Q 3).1 ∧ e.2 0 13 = i64 (sq K P Q 3).2) (by
    rintro z ⟨v, H, rfl, hv, hF, hKK, n1, n2⟩
    dsimp only
    unfold s_X9_value_l49
    simp only [Nat.zero_add, show (42 + 11 : Nat) = 53 from rfl, show (42 + 12 : Nat) = 54 from rfl]
    by_cases q : v < 3
    · obtain ⟨s1, s2⟩ := sq_st q hB hK (sq_bd hB hK v (by omega))
      obtain ⟨b1, b2⟩ := sq_bd (K := K) hB hK v (by omega)
      have E := entry5_z (h := H) (v := v) (K := K) (by rw [(hF 1 (by simp)).1]; exact e0) (by rw [(hF 1 (by simp)).1]; exact e1) h3 h8 hg q (fun w hw => by rw [(hF 2 (by simp)).1]; exact hk2 w hw) hz
      have kb := hK v q
      have qb : 0 < Q v ∧ Q v ≤ 22674816 := by
        obtain ⟨⟨a1, a2, a3, a4⟩, ⟨b1, b2, b3, b4⟩, ⟨c1, c2, c3, c4⟩⟩ := hB
        rcases (show v = 0 ∨ v = 1 ∨ v = 2 by omega) with rfl | rfl | rfl <;> omega
      have cb : cB v ≤ 3779136 ∧ cB (v + 1) ≤ 85691213438976 ∧ nB (v + 1) ≤ 90000000000000000 := by rcases (show v = 0 ∨ v = 1 ∨ v = 2 by omega) with rfl | rfl | rfl <;> decide
      have et : (i32 (K v)).toInt64 * i64 (P v) = i64 (K v * P v) := by rw [tl64, i32_z (by omega) (by omega), i64_mul]
      have as : (sq K P Q v).2 * K v * P v = (sq K P Q v).2 * (K v * P v) := Int.mul_assoc _ _ _
      rw [as] at s2
      have ad := addTo_z (h := H) (t := K v * P v) (q := Q v) n1 n2 ⟨b1.1, by omega⟩ ⟨qb.1, by omega⟩ (by omega) (by omega) s2
      rw [if_pos (nI_ltn q (by omega) (by decide)), E, bnd_s, ldJ_n (by omega) (by omega), (hF 53 (by simp)).2, (hp v q).1, ldJ_n (by omega) (by omega), (hF 54 (by simp)).2, (hp v q).2, et, ad, bnd_s, lt_red, nI_1]
      refine Or.inl ⟨_, rfl, ⟨v + 1, _, rfl, by omega, hF.tr ((Fr.sJ (by simp)).tr (Fr.sJ (by simp))), hKK.tr (fun k hk => ?_), ?_, ?_⟩, by rw [nI_clamp (by omega), nI_clamp (by omega)]; omega⟩
      · simp at hk
        exact ⟨rfl, by rw [sJ_ne hk.2, sJ_ne hk.1]⟩
      · rw [sJ_ne (by omega), sJ_same, ← as]; rfl
      · rw [sJ_same, ← as]; rfl
    · have : v = 3 := by omega
      subst this
      rw [if_neg (nI_nltn (by decide))]
      exact Or.inr ⟨_, rfl, hF, hKK, n1, n2⟩)
    (nI 0, h) ⟨0, h, rfl, by omega, Fr.rf, FrK.rf, e12, e13⟩ (by dsimp only; rw [nI_clamp (by omega)]; omega)
  rw [li0]
  exact ⟨e, he, hp⟩
/-- the model's loop -/
theorem mval_z {h : Hp} {nv nf g : Nat} {K P Q : Nat → Int} (h3 : nv ≤ 3) (h8 : nf ≤ 8) (hg : g < nf) (e0 : h.1 66 0 = nI nv) (hk2 : ∀ v, v < 3 → (h.1 67 (3 * g + v)).toInt = K v) (hB : SBd P Q) (hK : ∀ v, v < 3 → -3 ≤ K v ∧ K v ≤ 3) (hp : ∀ v, v < nv → h.2 85 v = i64 (P v) ∧ h.2 86 v = i64 (Q v)) : iter (fun s : Int64 × Int64 × Int32 => s_X10_value_l28 66 (nI g) s.1 s.2.1 s.2.2 h) FUEL ((0 : Int64), (1 : Int64), (0 : Int32)) = some (i64 (sq K P Q nv).1, i64 (sq K P Q nv).2) := by
  obtain ⟨e, he, hp⟩ := iter_fuel (f := fun s : Int64 × Int64 × Int32 => s_X10_value_l28 66 (nI g) s.1 s.2.1 s.2.2 h)
    (fun z => ∃ v : Nat, z = (i64 (sq K P Q v).1, i64 (sq K P Q v).2, nI v) ∧ v ≤ nv)
    (fun z => nv - z.2.2.toNatClampNeg)
    (fun e => e = (i64 (sq K P Q nv).1, i64 (sq K P Q nv).2)) (by
    rintro z ⟨v, rfl, hv⟩
    dsimp only
    unfold s_X10_value_l28 nzJ
    simp only [show (66 + 20 : Nat) = 86 from rfl, show (66 + 1 : Nat) = 67 from rfl, show (66 + 19 : Nat) = 85 from rfl]
    rw [e0]
    by_cases q : v < nv
    · obtain ⟨s1, s2⟩ := sq_st (by omega) hB hK (sq_bd hB hK v (by omega))
      have cb : cB (v + 1) ≤ 85691213438976 ∧ nB (v + 1) ≤ 90000000000000000 := by rcases (show v = 0 ∨ v = 1 ∨ v = 2 by omega) with rfl | rfl | rfl <;> decide
      have ei : (3 : Int32) * nI g + nI v = nI (3 * g + v) := by rw [li3, nI_mul, nI_add]
      have ek : (h.1 67 (3 * g + v)).toInt64 = i64 (K v) := by rw [tl64, hk2 v (by omega)]
      have xn : i64 (sq K P Q v).1 * i64 (Q v) + i64 (sq K P Q v).2 * i64 (K v) * i64 (P v) = i64 ((sq K P Q v).1 * Q v + (sq K P Q v).2 * K v * P v) := by rw [i64_mul, i64_mul, i64_mul, i64_add]
      generalize hx : (sq K P Q v).1 * Q v + (sq K P Q v).2 * K v * P v = x at *
      generalize hy : (sq K P Q v).2 * Q v = y at *
      have ex : (i64 x).toInt = x := i64_z (by omega) (by omega)
      have ey : (i64 y).toInt = y := i64_z (by omega) (by omega)
      have gp := gcd_pos (n := x) s1.1
      have gl := gcd_le (n := x) s1.1
      have eg : (i64 ((Int.gcd x y : Nat) : Int)).toInt = (Int.gcd x y : Int) := i64_z (by omega) (by omega)
      have g0 : ¬ i64 ((Int.gcd x y : Nat) : Int) = 0 := fun z => by
        have := eql_z.mp z
        rw [eg, show (0 : Int64).toInt = 0 from by decide] at this; omega
      have r1 : i64 x / i64 ((Int.gcd x y : Nat) : Int) = i64 (rn x y) := by
        rw [← i64_of (i64 x / _), div_exact ex eg gp (Int.gcd_dvd_left _ _) (by omega)]; rfl
      have r2 : i64 y / i64 ((Int.gcd x y : Nat) : Int) = i64 (rd x y) := by
        rw [← i64_of (i64 y / _), div_exact ey eg gp (Int.gcd_dvd_right _ _) (by omega)]; rfl
      rw [if_pos (nI_lt q (by omega)), ldJ_n (by omega) (by omega), (hp v q).2, ei, ldI_n (by omega) (by omega), ek, ldJ_n (by omega) (by omega), (hp v q).1, lt_red, xn, ldJ_n (by omega) (by omega), (hp v q).2, lt_red, i64_mul, hy, mg_z (by rw [ex]; omega) (by rw [ey]; omega), bnd_s, ex, ey, if_neg g0, lt_red, r1, if_neg g0, lt_red, r2, lt_red, nI_1]
      refine Or.inl ⟨_, rfl, ⟨v + 1, ?_, by omega⟩, by rw [nI_clamp (by omega), nI_clamp (by omega)]; omega⟩
      rw [← hx, ← hy]; rfl
    · have : v = nv := by omega
      subst this
      rw [if_neg (nI_nlt (by omega) (by omega))]
      exact Or.inr ⟨_, rfl, rfl⟩)
    (i64 0, i64 1, nI 0) ⟨0, rfl, by omega⟩ (by dsimp only; rw [nI_clamp (by omega)]; omega)
  rw [li0, show (0 : Int64) = i64 0 from by decide, show (1 : Int64) = i64 1 from by decide, he, hp]
set_option maxHeartbeats 1000000 in
theorem value_step {h : Hp} {nv nf m lv : Nat} (hP : ProbR h nv nf m lv) (hn1 : 1 ≤ nv) (hc : CIM h nv m) (a1 : Int32) : ∃ r : Int32, ∃ h1 h2 : Hp, s_X9_value 0 a1 h = some (r, h1) ∧ s_X10_value 66 a1 h1 = some (r, h2) ∧ QS h h2 nv nf m lv := by
  have h3 := hP.1.2.2
  have h8 := hP.2.1.2.2.1
  have A := hasF_z (P := 1) hP.2.1.1 h8 a1
  have B : ∀ H : Hp, H.1 66 1 = nI nf → s_X10_isForm 66 a1 H = some (bI (decide (0 ≤ a1.toInt ∧ a1.toInt < nf))) := fun H e => isF_z e h8 a1
  unfold s_X9_value
  simp only [Nat.zero_add]
  by_cases c1 : 0 ≤ a1.toInt ∧ a1.toInt < nf
  rotate_left
  · refine ⟨-1, h, h, ?_, ?_, rf_q hP hc⟩
    · rw [A, decide_eq_false c1]; rfl
    · unfold s_X10_value
      rw [B h hP.2.1.2.1, decide_eq_false c1]; rfl
  rw [A, decide_eq_true c1, bnd_s, if_neg (by decide), satis_z hP hn1 hc, bnd_s]
  cases hs : sB h m (aI m)
  · obtain ⟨H, n1, n2, n3⟩ := setSample_no hP.2.2.2.1.2.1 (no_F hP hs)
    refine ⟨-2, h, H, by rw [if_pos (by decide)], ?_, no_q hP hc n2 n3⟩
    unfold s_X10_value
    rw [B h hP.2.1.2.1, decide_eq_true c1, bnd_s, if_neg (by decide), n1, bnd_s]
    rfl
  · obtain ⟨g, hg⟩ : ∃ i : Nat, a1.toInt = i := ⟨a1.toInt.toNat, by omega⟩
    have hgn : g < nf := by omega
    have ea := of_nat hg
    subst ea
    obtain ⟨P, Q, e, y1, y2, y3, y4, y5, y6⟩ := both_z hP hn1 hc hs
    have gK := fun v hv => hP.2.2.2.1.2.1.2.2.1 g v hgn hv
    have gz := fun v hv hn => (hP.2.2.1 g hgn).2 v hn hv
    have f0 : s_X9_find 0 (0 : Int64) (1 : Int64) e = some (sJ (sJ e 0 12 (i64 0)) 0 13 (i64 1)) := by
      have := find_z (h := e) (c := 0) (x := (0 : Int64)) (y := (1 : Int64)) (by decide) (by decide)
      rw [this]
      rfl
    rw [if_neg (by decide), y1, bnd_s, f0, bnd_s]
    generalize gH1 : sJ (sJ e 0 12 (i64 0)) 0 13 (i64 1) = H1
    have F1 : Fr [0] e H1 := by rw [← gH1]; exact (Fr.sJ (by simp)).tr (Fr.sJ (by simp))
    have K1 : FrK 0 [12, 13] e H1 := fun k hk => by
      simp at hk
      rw [← gH1]
      exact ⟨rfl, by rw [sJ_ne hk.2, sJ_ne hk.1]⟩
    have e12 : H1.2 0 12 = i64 0 := by rw [← gH1, sJ_ne (by omega), sJ_same]
    have e13 : H1.2 0 13 = i64 1 := by rw [← gH1, sJ_same]
    have F01 : Fr (0 :: smpc) h H1 := (y2.wid (by simp)).tr (F1.wid (by simp))
    obtain ⟨H2, s1, F2, K2, n1, n2⟩ := cval_z (h := H1) (nv := nv) (nf := nf) (g := g) (K := mK h 66 g) (P := P) (Q := Q) h3 h8 hgn (by rw [(F01 1 (by simp [smpc])).1]; exact hP.1.1) (by rw [(F01 1 (by simp [smpc])).1]; exact hP.2.1.1) (fun v hv => by rw [(F01 2 (by simp [smpc])).1, hP.2.1.2.2.2 _ (by omega)]; exact (i32_of _).symm) gz y4 gK (fun v hv => by rw [(F1 53 (by simp)).2, (F1 54 (by simp)).2]; exact y3 v hv) e12 e13
    rw [s1, bnd_s]
    have F02 : Fr (0 :: smpc) h H2 := F01.tr (F2.wid (by simp))
    obtain ⟨H4, m1, m2, m3, m4⟩ := y6 H2 F02
    have F67 : H4.1 67 = h.1 67 := by rw [(m2 67 (by simp [smc, scr])).1, (F02 67 (by simp [smpc])).1]
    have ml := mval_z (h := H4) (nv := nv) (nf := nf) (g := g) (K := mK h 66 g) (P := P) (Q := Q) h3 h8 hgn (by rw [(m3 0 (by simp [scrK, iks])).1, (F02 66 (by simp [smpc])).1]; exact hP.1.2.1) (fun v hv => by rw [F67]; rfl) y4 gK m4
    have st := sq_stay (K := mK h 66 g) y4 gK y5 3 (by omega) h3
    have sb := sq_bd (K := mK h 66 g) y4 gK nv h3
    have sr := sq_red (K := mK h 66 g) y4 gK nv h3
    have cb : cB nv ≤ 85691213438976 ∧ nB nv ≤ 90000000000000000 := by rcases (show nv = 1 ∨ nv = 2 ∨ nv = 3 by omega) with rfl | rfl | rfl <;> decide
    obtain ⟨sb1, sb2⟩ := sb
    generalize sq (mK h 66 g) P Q nv = z at *
    rw [st] at n1 n2
    have zn : (i64 z.1).toInt = z.1 := i64_z (by omega) (by omega)
    have zd : (i64 z.2).toInt = z.2 := i64_z (by omega) (by omega)
    have md : s_X10_value 66 (nI g) H2 = (s_X10_says 66 (i64 z.1) (i64 z.2) 1 H4).bind fun y => some (y.1, y.2) := by
      unfold s_X10_value
      rw [B H2 (by rw [(F02 66 (by simp [smpc])).1]; exact hP.2.1.2.1), decide_eq_true c1, bnd_s, if_neg (by decide), m1, bnd_s, if_neg (show ¬ (1 : Int32) = 0 from by decide)]
      dsimp only
      rw [ml, bnd_s]
    obtain ⟨H5, sy, qs⟩ := says_q (h := h) (H4 := H4) (r := 1) (x := i64 z.1) (y := i64 z.2) (x' := i64 z.1) (y' := i64 z.2) hP hc ((F02.wid (by simp [smq])).tr (m2.wid (by simp [smq, smc, scr]))) ((((FrK.of y2 (by simp [smpc])).tr K1).tr K2).tr (FrK.of m2 (by simp [smc, scr]))) ((FrK.of F02 (by simp [smpc])).tr (m3.wid (by simp [rngK, scrK, iks]))) (by rw [zn]; omega) (by rw [zd]; omega) (by rw [zd]; omega) rfl (by rw [(m2 0 (by simp [smc, scr])).2, zn, zd, sr.1]; exact n1) (by rw [(m2 0 (by simp [smc, scr])).2, zn, zd, sr.2]; exact n2)
    exact ⟨1, H2, H5, rfl, by rw [md, sy, bnd_s], qs⟩
