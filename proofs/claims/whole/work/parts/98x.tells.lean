/-! the tells step -/
def newM (h : Hp) : Hp := sI (sI (sI (sI h 66 44 0) 66 46 2) 66 47 0) 66 49 0
theorem newM_z (h : Hp) : FIm h (newM h) ∧ (newM h).1 66 44 = nI 0 ∧ (newM h).1 66 46 = nI 2 ∧ (newM h).1 66 47 = nI 0 ∧ (newM h).1 66 49 = nI 0 := by
  unfold newM
  refine ⟨⟨((Fr.sI (by simp)).tr (Fr.sI (by simp))).tr ((Fr.sI (by simp)).tr (Fr.sI (by simp))), ((frk_sI (by simp)).tr (frk_sI (by simp))).tr ((frk_sI (by simp)).tr (frk_sI (by simp)))⟩, ?_, ?_, ?_, ?_⟩
  · rw [sI_ne (by omega), sI_ne (by omega), sI_ne (by omega), sI_same]; decide
  · rw [sI_ne (by omega), sI_ne (by omega), sI_same]; decide
  · rw [sI_ne (by omega), sI_same]; decide
  · rw [sI_same]; decide
/-- how a text read by the class ends, and what the model then says over any heap with that text -/
theorem read_z {t : Nat → Int32} {n : Nat} {h : Hp} (hG : TG t n) (hC : TC t n h) {hm : Hp} (hM : TM t n hm) : ∃ r Hc, s_X6_read 27 7 h = some (r, Hc) ∧ FIc h Hc ∧ ∃ r' Hm, iter (fun z : Int32 × Hp => s_X10_tells_l22 66 z.1 z.2) FUEL ((0 : Int32), newM hm) = some r' ∧ FIm hm Hm ∧ ((¬ r < 0 ∧ r' = .inl (r, Hm) ∧ DX Hc Hm) ∨ (r < 0 ∧ r' = .inr (r, Hm))) := by
  have n90 := hG.1
  obtain ⟨g0, g1, g2, g3, g4⟩ := newM_z hm
  unfold s_X6_read s_X5_reset
  rw [lt_red, lt_red, lt_red, lt_red, bnd_s, lt_red]
  generalize gc : sI (sI (sI (sI (sI h 7 0 2) 7 1 0) 7 2 0) 7 3 0) 27 4 0 = H0
  have I0 : FIc h H0 := by
    rw [← gc]
    refine ⟨(((Fr.sI (by simp)).tr (Fr.sI (by simp))).tr ((Fr.sI (by simp)).tr (Fr.sI (by simp)))).tr (Fr.sI (by simp)), fun k hk => ⟨?_, rfl⟩⟩
    simp at hk
    rw [sI_ne (by omega), sI_cell (by omega), sI_cell (by omega), sI_cell (by omega), sI_cell (by omega)]
  have e4 : H0.1 27 4 = nI 0 := by rw [← gc, sI_same]; decide
  have e70 : H0.1 7 0 = nI 2 := by rw [← gc, sI_cell (by omega), sI_ne (by omega), sI_ne (by omega), sI_ne (by omega), sI_same]; decide
  have e71 : H0.1 7 1 = nI 0 := by rw [← gc, sI_cell (by omega), sI_ne (by omega), sI_ne (by omega), sI_same]; decide
  have e72 : H0.1 7 2 = nI 0 := by rw [← gc, sI_cell (by omega), sI_ne (by omega), sI_same]; decide
  have e73 : H0.1 7 3 = nI 0 := by rw [← gc, sI_cell (by omega), sI_same]; decide
  have D0 : DR 2 0 0 H0 (newM hm) := ⟨⟨e70, g2, by omega, by omega⟩, ⟨e71, g3, by omega, fun j hj => by omega⟩, fun g hg => by omega, ⟨e72, g4, by omega, fun k hk => by omega⟩, e73⟩
  obtain ⟨H1, s1, h1, h2, h3, S1⟩ := next_z (Hc := H0) (Hm := newM hm) (e := 0) hG (hC.fr I0.1 I0.2 (by simp) (by simp)) (hM.fr g0.1 g0.2 (by simp) (by simp)) e4 g1 (by omega)
  rw [h1, bnd_s]
  obtain ⟨r, r', c1, c2, c3⟩ := loop_z hG S1 (D0.fc h2 FM.rf)
  rw [c1, bnd_s]
  obtain ⟨a2, a3, Hc⟩ := r
  dsimp only
  rcases r' with ⟨x, Hm⟩ | ⟨x, Hm⟩
  · obtain ⟨rfl, ⟨k, k90, rfl, rfl⟩, d, fc, fm⟩ := c3
    rw [if_neg (show ¬ ((1 : Int32) = 0) by decide)]
    refine ⟨nI k, Hc, rfl, (I0.tr h2.i).tr fc, _, Hm, c2, g0.tr fm, Or.inl ⟨?_, rfl, d⟩⟩
    rw [lt_z, nI_z (by omega), show (0 : Int32).toInt = 0 from by decide]; omega
  · obtain ⟨rfl, ⟨s, s1, s2, rfl⟩, fc, fm⟩ := c3
    rw [if_pos rfl, s2]
    refine ⟨-10 - nI s, Hc, rfl, (I0.tr h2.i).tr fc, _, Hm, c2, g0.tr fm, Or.inr ⟨?_, rfl⟩⟩
    rw [lt_z, show (-10 : Int32) = i32 (-10) from by decide, nI_i32, i32_sub, i32_z (by omega) (by omega), show (0 : Int32).toInt = 0 from by decide]; omega
/-- a problem told: what stands where it was copied to -/
theorem DR.prob {nv nf m : Nat} {Hc Hm V : Hp} (h : DR nv nf m Hc Hm) (a1 : ∀ k, k < 4 → V.1 1 k = Hc.1 7 k) (a2 : ∀ k, k < 24 → V.1 2 k = Hc.1 8 k) (a3 : ∀ k, k < 10 → V.1 3 k = Hc.1 9 k) (a4 : ∀ k, k < 10 → V.1 4 k = Hc.1 10 k) (a5 : ∀ k, k < 10 → V.1 5 k = Hc.1 11 k) (b0 : V.1 66 0 = Hm.1 66 46) (b1 : V.1 66 1 = Hm.1 66 47) (b3 : V.1 66 3 = Hm.1 66 49) (b5 : V.1 66 5 = nI 0) (b7 : ∀ k, k < 24 → V.1 67 k = Hm.1 90 k) (b8 : ∀ k, k < 30 → V.1 68 k = Hm.1 91 k) : ProbR V nv nf m 0 := by
  obtain ⟨⟨c1, c2, c3, c4⟩, ⟨d1, d2, d3, d4⟩, e, ⟨f1, f2, f3, f4⟩, g⟩ := h
  have K : ∀ g v, g < nf → v < 3 → mK V 66 g v = (Hm.1 90 (3 * g + v)).toInt := fun g v hg hv => by
    show (V.1 67 (3 * g + v)).toInt = _
    rw [b7 _ (by omega)]
  have R : ∀ k, k < m → ∃ (g s : Nat) (d : Int), V.1 68 (3 * k) = nI g ∧ g < nf ∧ V.1 68 (3 * k + 1) = nI s ∧ s ≤ 4 ∧ V.1 68 (3 * k + 2) = i32 d ∧ -50 ≤ d ∧ d ≤ 50 := fun k hk => by
    rw [b8 _ (by omega), b8 _ (by omega), b8 _ (by omega)]
    exact (f4 k hk).2
  refine ⟨⟨by rw [a1 0 (by omega)]; exact c1, by rw [b0]; exact c2, c4⟩, ⟨by rw [a1 1 (by omega)]; exact d1, by rw [b1]; exact d2, d3, fun j hj => by rw [a2 j (by omega), b7 j (by omega)]; exact d4 j hj⟩, fun g hg => ?_, ⟨by rw [a1 2 (by omega)]; exact f1, ⟨by rw [b3]; exact f2, ⟨f3, d3⟩, fun g v hg hv => ?_, fun k hk => ?_⟩, fun k hk => ?_⟩, ⟨by rw [a1 3 (by omega)]; exact g, b5, by omega, fun _ => 0, fun k hk => by omega, fun i j _ hj => by omega⟩⟩
  · obtain ⟨⟨v, w1, w2⟩, w3, w4⟩ := e g hg
    exact ⟨⟨v, w1, by rw [K g v hg w1]; exact w2⟩, fun v h1 h2 => by rw [K g v hg h2]; exact w3 v h1 h2⟩
  · rw [K g v hg hv]; exact (e g hg).2.2 v hv
  · obtain ⟨g, s, d, r1, r2, r3, r4, r5, r6, r7⟩ := R k hk
    have eG : mG V 66 k = g := by
      show (V.1 68 (3 * k)).toInt.toNat = g
      rw [r1, nI_z (by omega)]; omega
    have eS : mS V 66 k = s := by
      show (V.1 68 (3 * k + 1)).toInt.toNat = s
      rw [r3, nI_z (by omega)]; omega
    have eD : mD V 66 k = d := by
      show (V.1 68 (3 * k + 2)).toInt = d
      rw [r5, i32_z (by omega) (by omega)]
    rw [eG, eS, eD]
    exact ⟨⟨r1, r2⟩, ⟨r3, r4⟩, r6, r7⟩
  · obtain ⟨g, s, d, r1, r2, -⟩ := R k hk
    have eG : mG V 66 k = g := by
      show (V.1 68 (3 * k)).toInt.toNat = g
      rw [r1, nI_z (by omega)]; omega
    rw [eG, a3 k (by omega), a4 k (by omega), a5 k (by omega), b8 _ (by omega), b8 _ (by omega), b8 _ (by omega)]
    exact ⟨(f4 k hk).1.1, (f4 k hk).1.2.1, (f4 k hk).1.2.2, r2⟩
def vrt (Hc Hm : Hp) : Hp := (fun c => if c = 1 then Hc.1 7 else if c = 2 then Hc.1 8 else if c = 3 then Hc.1 9 else if c = 4 then Hc.1 10 else if c = 5 then Hc.1 11 else if c = 66 then (fun k => if k = 0 then Hm.1 66 46 else if k = 1 then Hm.1 66 47 else if k = 3 then Hm.1 66 49 else nI 0) else if c = 67 then Hm.1 90 else if c = 68 then Hm.1 91 else Hc.1 c, Hc.2)
theorem vrt_prob {nv nf m : Nat} {Hc Hm : Hp} (h : DR nv nf m Hc Hm) : ProbR (vrt Hc Hm) nv nf m 0 := h.prob (fun k _ => by simp [vrt]) (fun k _ => by simp [vrt]) (fun k _ => by simp [vrt]) (fun k _ => by simp [vrt]) (fun k _ => by simp [vrt]) (by simp [vrt]) (by simp [vrt]) (by simp [vrt]) (by simp [vrt]) (fun k _ => by simp [vrt]) (fun k _ => by simp [vrt])
/-- the class forgets what it saved -/
theorem forget_z (r : Int32) (H : Hp) : ∃ H', iter (fun z : Int32 × Hp => s_X9_tells_l28 0 r z.1 z.2) FUEL ((0 : Int32), H) = some H' ∧ Fr [26] H H' ∧ ∀ v, v < 2 → H'.1 26 v = 0 := by
  obtain ⟨H', he, h1, h2⟩ := iter_fuel (f := fun z : Int32 × Hp => s_X9_tells_l28 0 r z.1 z.2)
    (fun z => ∃ (k : Nat) (H2 : Hp), z = (nI k, H2) ∧ k ≤ 2 ∧ Fr [26] H H2 ∧ ∀ v, v < k → H2.1 26 v = 0)
    (fun z => 40 - z.1.toNatClampNeg)
    (fun H2 => Fr [26] H H2 ∧ ∀ v, v < 2 → H2.1 26 v = 0) (by
      rintro z ⟨k, H2, rfl, h3, h4, h5⟩
      dsimp only
      unfold s_X9_tells_l28
      rw [show (0 + 26 : Nat) = 26 from rfl]
      by_cases c : k < 2
      · rw [if_pos (show nI k < (2 : Int32) from nI_lt (b := 2) c (by omega)), stI_n c (by omega), lt_red, nI_1]
        refine Or.inl ⟨_, rfl, ⟨k + 1, _, rfl, by omega, h4.tr (Fr.sI (by simp)), fun v hv => ?_⟩, by dsimp only; rw [nI_clamp (by omega), nI_clamp (by omega)]; omega⟩
        rcases (show v < k ∨ v = k by omega) with w | rfl
        · rw [sI_ne (by omega)]; exact h5 v w
        · exact sI_same _ _ _ _
      · rw [if_neg (show ¬ nI k < (2 : Int32) from nI_nlt (b := 2) (by omega) (by omega))]
        exact Or.inr ⟨_, rfl, h4, fun v hv => h5 v (by omega)⟩)
    ((0 : Int32), H) ⟨0, H, rfl, by omega, Fr.rf, fun v hv => by omega⟩ (by dsimp only; omega)
  exact ⟨H', he, h1, h2⟩
abbrev telc : List Nat := [7, 8, 9, 10, 11, 26, 27, 29, 66, 70, 90, 91] ++ probc ++ rowc
/-- the model's last acts -/
theorem mtell_z (x : Int32) (H : Hp) : ∃ h', (lt (sI H 66 0 (H.1 66 46)) fun h10 => lt (sI h10 66 1 (h10.1 66 47)) fun h11 => lt (sI h11 66 3 (h11.1 66 49)) fun h12 => lt (sI h12 66 5 (0 : Int32)) fun h13 => stI h13 (66 + 4) 2 (0 : Int32) (0 : Int32) fun h14 => stI h14 (66 + 4) 2 (1 : Int32) (0 : Int32) fun h15 => lt (sI h15 66 43 (0 : Int32)) fun h16 => (iter (fun s : Int32 × Hp => s_X10_tells_l103 66 x s.1 s.2) FUEL ((0 : Int32), h16)).bind fun e20 => (iter (fun s : Int32 × Hp => s_X10_tells_l129 66 x s.1 s.2) FUEL ((0 : Int32), e20)).bind fun e24 => some (x, e24)) = some (x, h') ∧ Fr [66, 67, 68, 70] H h' ∧ FrK 66 [0, 1, 3, 5, 43] H h' ∧ h'.1 66 0 = H.1 66 46 ∧ h'.1 66 1 = H.1 66 47 ∧ h'.1 66 3 = H.1 66 49 ∧ h'.1 66 5 = nI 0 ∧ h'.1 66 43 = nI 0 ∧ (∀ v, v < 2 → h'.1 70 v = 0) ∧ (∀ k, k < 24 → h'.1 67 k = H.1 90 k) ∧ (∀ k, k < 30 → h'.1 68 k = H.1 91 k) := by
  simp only [lt_red]
  rw [show (66 + 4 : Nat) = 70 from rfl, show ∀ (β : Type) (G : Hp) (k : Hp → Option β), stI G 70 2 0 0 k = k (sI G 70 0 0) from fun β G k => stI_z (j := 0) (by decide) (by omega), show ∀ (β : Type) (G : Hp) (k : Hp → Option β), stI G 70 2 1 0 k = k (sI G 70 1 0) from fun β G k => stI_z (j := 1) (by decide) (by omega)]
  rw [sI_ne (h := H) (k := 0) (k' := 47) (by omega), sI_ne (k := 1) (k' := 49) (by omega), sI_ne (h := H) (k := 0) (k' := 49) (by omega)]
  generalize gh : sI (sI (sI (sI (sI (sI (sI H 66 0 (H.1 66 46)) 66 1 (H.1 66 47)) 66 3 (H.1 66 49)) 66 5 0) 70 0 0) 70 1 0) 66 43 0 = H1
  have F1 : Fr [66, 70] H H1 := by
    rw [← gh]
    exact ((((((Fr.sI (by simp)).tr (Fr.sI (by simp))).tr (Fr.sI (by simp))).tr (Fr.sI (by simp))).tr (Fr.sI (by simp))).tr (Fr.sI (by simp))).tr (Fr.sI (by simp))
  have K1 : FrK 66 [0, 1, 3, 5, 43] H H1 := fun k hk => by
    simp at hk
    rw [← gh]
    exact ⟨by rw [sI_ne (by omega), sI_cell (by omega), sI_cell (by omega), sI_ne (by omega), sI_ne (by omega), sI_ne (by omega), sI_ne (by omega)], rfl⟩
  have p0 : H1.1 66 0 = H.1 66 46 := by rw [← gh, sI_ne (by omega), sI_cell (by omega), sI_cell (by omega), sI_ne (by omega), sI_ne (by omega), sI_ne (by omega), sI_same]
  have p1 : H1.1 66 1 = H.1 66 47 := by rw [← gh, sI_ne (by omega), sI_cell (by omega), sI_cell (by omega), sI_ne (by omega), sI_ne (by omega), sI_same]
  have p3 : H1.1 66 3 = H.1 66 49 := by rw [← gh, sI_ne (by omega), sI_cell (by omega), sI_cell (by omega), sI_ne (by omega), sI_same]
  have p5 : H1.1 66 5 = nI 0 := by rw [← gh, sI_ne (by omega), sI_cell (by omega), sI_cell (by omega), sI_same]; decide
  have p43 : H1.1 66 43 = nI 0 := by rw [← gh, sI_same]; decide
  have p70 : ∀ v, v < 2 → H1.1 70 v = 0 := fun v hv => by
    rw [← gh, sI_cell (by omega)]
    rcases (show v = 0 ∨ v = 1 by omega) with rfl | rfl
    · rw [sI_ne (by omega), sI_same]
    · rw [sI_same]
  obtain ⟨H2, b1, b2, b3, b4⟩ := cploop (f := fun s : Int32 × Hp => s_X10_tells_l103 66 x s.1 s.2) (n := 24) (src := 90) (dst := 67) (so := 0) (to := 0) (by omega) (by omega) (fun k H hk => by
    dsimp only
    unfold s_X10_tells_l103
    rw [if_pos (nI_ltn hk (by omega) (by decide)), show (66 + 24 : Nat) = 90 from rfl, ldI_n (by omega) (by omega), stI_n (by omega) (by omega), lt_red, nI_1, Nat.zero_add]) (fun H => by
    dsimp only
    unfold s_X10_tells_l103
    rw [if_neg (nI_nltn (by decide))]) H1
  rw [show (0 : Int32) = nI 0 from by decide, b1, bnd_s]
  obtain ⟨H3, c1, c2, c3, c4⟩ := cploop (f := fun s : Int32 × Hp => s_X10_tells_l129 66 x s.1 s.2) (n := 30) (src := 91) (dst := 68) (so := 0) (to := 0) (by omega) (by omega) (fun k H hk => by
    dsimp only
    unfold s_X10_tells_l129
    rw [if_pos (nI_ltn hk (by omega) (by decide)), show (66 + 25 : Nat) = 91 from rfl, ldI_n (by omega) (by omega), stI_n (by omega) (by omega), lt_red, nI_1, Nat.zero_add]) (fun H => by
    dsimp only
    unfold s_X10_tells_l129
    rw [if_neg (nI_nltn (by decide))]) H2
  rw [c1, bnd_s]
  have e66 : H3.1 66 = H1.1 66 := by rw [(c4 66 (by simp)).1, (b4 66 (by simp)).1]
  have e66J : H3.2 66 = H1.2 66 := by rw [(c4 66 (by simp)).2, (b4 66 (by simp)).2]
  refine ⟨H3, rfl, (F1.wid (by simp)).tr ((b4.wid (by simp)).tr (c4.wid (by simp))), fun k hk => by rw [e66, e66J]; exact K1 k hk, by rw [e66, p0], by rw [e66, p1], by rw [e66, p3], by rw [e66, p5], by rw [e66, p43], fun v hv => ?_, fun k hk => ?_, fun k hk => ?_⟩
  · rw [(c4 70 (by simp)).1, (b4 70 (by simp)).1, p70 v hv]
    decide
  · have := b2 k hk
    rw [Nat.zero_add] at this
    rw [(c4 67 (by simp)).1, this, (F1 90 (by simp)).1]
  · have := c2 k hk
    rw [Nat.zero_add] at this
    rw [this, (b4 91 (by simp)).1, (F1 91 (by simp)).1]
