abbrev telK : List Nat := [0, 1, 3, 5, 43, 44, 45, 46, 47, 49]
set_option maxHeartbeats 1000000 in
theorem tells_step {h : Hp} {nv nf m lv : Nat} (hT : TextI h) (hP : ProbR h nv nf m lv) (hn1 : 1 ≤ nv) (hc : CIM h nv m) (hS : SavI h) : ∃ r : Int32, ∃ h1 h2 : Hp, s_X9_tells 0 h = some (r, h1) ∧ s_X10_tells 66 h1 = some (r, h2) ∧ TextI h2 ∧ SavI h2 ∧ (∃ nv' nf' m' lv', 1 ≤ nv' ∧ ProbR h2 nv' nf' m' lv' ∧ CIM h2 nv' m') ∧ Fr telc h h2 ∧ FrK 66 telK h h2 := by
  have hT0 := hT
  obtain ⟨n, n90, t1, t2, t3⟩ := hT
  have hG : TG (fun i => h.1 28 i) n := ⟨n90, fun i hi => (t3 i hi).2⟩
  have hC : TC (fun i => h.1 28 i) n h := ⟨t1, fun i _ => rfl⟩
  have hM : TM (fun i => h.1 28 i) n h := ⟨t2, fun i hi => (t3 i hi).1.symm⟩
  obtain ⟨r, Hc, e1, fc, r', Hm, e2, fm, alt⟩ := read_z hG hC hM
  have det : ∀ hm, TM (fun i => h.1 28 i) n hm → ∃ r' Hm, iter (fun z : Int32 × Hp => s_X10_tells_l22 66 z.1 z.2) FUEL ((0 : Int32), newM hm) = some r' ∧ FIm hm Hm ∧ ((¬ r < 0 ∧ r' = .inl (r, Hm) ∧ DX Hc Hm) ∨ (r < 0 ∧ r' = .inr (r, Hm))) := fun hm hM' => by
    obtain ⟨r2, Hc2, e1', -, r2', Hm2, a1, a2, a3⟩ := read_z hG hC hM'
    rw [e1] at e1'
    cases e1'
    exact ⟨r2', Hm2, a1, a2, a3⟩
  have cls : s_X9_tells 0 h = (if r < 0 then (some (r, Hc)) else (lt (sI Hc 27 1 (0 : Int32)) fun h2 => (iter (fun s : Int32 × Hp => s_X9_tells_l28 0 r s.1 s.2) FUEL ((0 : Int32), h2)).bind fun e5 => (s_X5_copy 1 7 e5).bind fun y6 => (s_X9_loadRows 0 y6).bind fun y7 => some (r, y7))) := by
    unfold s_X9_tells
    simp only [Nat.zero_add]
    rw [e1, bnd_s]
  rcases alt with ⟨r0, -, dx⟩ | ⟨r0, -⟩
  · -- a good text
    obtain ⟨nv1, nf1, m1, d1⟩ := dx
    rw [if_neg r0, lt_red] at cls
    have F2 : Fr [27] Hc (sI Hc 27 1 0) := Fr.sI (by simp)
    have g27 : (sI Hc 27 1 0).1 27 1 = nI 0 := by rw [sI_same]; decide
    generalize sI Hc 27 1 0 = H2 at *
    obtain ⟨H3, a1, a2, a3⟩ := forget_z r H2
    rw [a1, bnd_s] at cls
    obtain ⟨H4, b1, b2, b3, b4, b5, b6, b7, b8⟩ := copy_z (h := H3) (P := 1) (Q := 7) (by omega)
    rw [b1, bnd_s] at cls
    have F4 : Fr [1, 2, 3, 4, 5, 6] H3 H4 := b2
    have c1 : ∀ k, k < 4 → H4.1 1 k = Hc.1 7 k := fun k hk => by rw [b3 k hk, (a2 7 (by simp)).1, (F2 7 (by simp)).1]
    have c2 : ∀ k, k < 24 → H4.1 2 k = Hc.1 8 k := fun k hk => by have := b4 k hk; rw [show (1 + 1 : Nat) = 2 from rfl] at this; rw [this, show (7 + 1 : Nat) = 8 from rfl, (a2 8 (by simp)).1, (F2 8 (by simp)).1]
    have c3 : ∀ k, k < 10 → H4.1 3 k = Hc.1 9 k := fun k hk => by have := b5 k hk; rw [show (1 + 2 : Nat) = 3 from rfl] at this; rw [this, show (7 + 2 : Nat) = 9 from rfl, (a2 9 (by simp)).1, (F2 9 (by simp)).1]
    have c4 : ∀ k, k < 10 → H4.1 4 k = Hc.1 10 k := fun k hk => by have := b6 k hk; rw [show (1 + 3 : Nat) = 4 from rfl] at this; rw [this, show (7 + 3 : Nat) = 10 from rfl, (a2 10 (by simp)).1, (F2 10 (by simp)).1]
    have c5 : ∀ k, k < 10 → H4.1 5 k = Hc.1 11 k := fun k hk => by have := b7 k hk; rw [show (1 + 4 : Nat) = 5 from rfl] at this; rw [this, show (7 + 4 : Nat) = 11 from rfl, (a2 11 (by simp)).1, (F2 11 (by simp)).1]
    have FA : Fr [1, 2, 3, 4, 5, 6, 7, 8, 9, 10, 11, 26, 27, 29] h H4 := (((fc.1.wid (by simp)).tr (F2.wid (by simp))).tr (a2.wid (by simp))).tr (F4.wid (by simp))
    have z40 : H4.1 40 0 = nI 0 ∧ BJ H4 := ⟨by rw [(FA 40 (by simp)).1]; exact (CI.zero hc).1, (CI.zero hc).2.fr FA (by simp) (by simp)⟩
    obtain ⟨H5, l1, l2, -⟩ := load_of (V := vrt Hc Hm) (vrt_prob d1) d1.1.2.2.1 (fun k hk => by rw [c1 k hk]; simp [vrt]) (fun k hk => by rw [c2 k hk]; simp [vrt]) (fun k hk => by rw [c3 k hk]; simp [vrt]) (fun k hk => by rw [c4 k hk]; simp [vrt]) (fun k hk => by rw [c5 k hk]; simp [vrt]) z40
    rw [l1, bnd_s] at cls
    have FB : Fr ([1, 2, 3, 4, 5, 6, 7, 8, 9, 10, 11, 26, 27, 29] ++ rowc) h H5 := (FA.wid (by simp)).tr (l2.wid (by simp [rowc]))
    obtain ⟨r2', Hm5, i1, i2, i3⟩ := det H5 (hM.fr FB (FrK.of FB (by simp [rowc]) (ks := [])) (by simp [rowc]) (by simp))
    rcases i3 with ⟨-, rfl, dx⟩ | ⟨w, -⟩
    rotate_left
    · exact absurd w r0
    obtain ⟨nv5, nf5, m5, d5⟩ := dx
    obtain ⟨h', j1, j2, j3, j4, j5, j6, j7, j8, j9, j10, j11⟩ := mtell_z r Hm5
    have md : s_X10_tells 66 H5 = some (r, h') := by
      unfold s_X10_tells
      rw [lt_red, lt_red, lt_red, lt_red]
      show (iter (fun z : Int32 × Hp => s_X10_tells_l22 66 z.1 z.2) FUEL ((0 : Int32), newM H5)).bind _ = _
      rw [i1, bnd_s]
      exact j1
    have F5 : Fr [66, 67, 68, 70, 90, 91] H5 h' := (i2.1.wid (by simp)).tr (j2.wid (by simp))
    have F4' : ∀ c, c ∉ rowc → c ∉ [66, 67, 68, 70, 90, 91] → h'.1 c = H4.1 c := fun c q1 q2 => by rw [(F5 c q2).1, (l2 c q1).1]
    have P' : ProbR h' nv5 nf5 m5 0 := d5.prob (fun k hk => by rw [F4' 1 (by simp [rowc]) (by simp)]; exact c1 k hk) (fun k hk => by rw [F4' 2 (by simp [rowc]) (by simp)]; exact c2 k hk) (fun k hk => by rw [F4' 3 (by simp [rowc]) (by simp)]; exact c3 k hk) (fun k hk => by rw [F4' 4 (by simp [rowc]) (by simp)]; exact c4 k hk) (fun k hk => by rw [F4' 5 (by simp [rowc]) (by simp)]; exact c5 k hk) j4 j5 j6 j7 j10 j11
    obtain ⟨H5', l1', -, l3'⟩ := load_of (h := H4) P' d5.1.2.2.1 (fun k hk => by rw [F4' 1 (by simp [rowc]) (by simp)]) (fun k hk => by rw [F4' 2 (by simp [rowc]) (by simp)]) (fun k hk => by rw [F4' 3 (by simp [rowc]) (by simp)]) (fun k hk => by rw [F4' 4 (by simp [rowc]) (by simp)]) (fun k hk => by rw [F4' 5 (by simp [rowc]) (by simp)]) z40
    rw [l1] at l1'
    cases l1'
    have C' : CIM h' nv5 m5 := CI.fr l3' F5 (by simp) (by simp) (by simp) (by simp) (by simp) (by simp) (by simp)
    have FC : Fr telc h h' := (FB.wid (by simp [telc, rowc, probc])).tr (F5.wid (by simp [telc, rowc, probc]))
    refine ⟨r, H5, h', cls, md, ⟨0, by omega, ?_, j8, fun i hi => by omega⟩, fun i hi => Or.inl ⟨?_, j9 i hi⟩, ⟨nv5, nf5, m5, 0, d5.1.2.2.1, P', C'⟩, FC, ?_⟩
    · rw [F4' 27 (by simp [rowc]) (by simp), (F4 27 (by simp)).1, (a2 27 (by simp)).1]; exact g27
    · rw [F4' 26 (by simp [rowc]) (by simp), (F4 26 (by simp)).1]; exact a3 i hi
    · exact ((FrK.of FB (by simp [rowc])).tr (i2.2.wid (by simp))).tr (j3.wid (by simp))
  · -- a bad one
    rw [if_pos r0] at cls
    obtain ⟨r2', Hm5, i1, i2, i3⟩ := det Hc (hM.fr fc.1 (FrK.of fc.1 (by simp) (ks := [])) (by simp) (by simp))
    rcases i3 with ⟨w, -⟩ | ⟨-, rfl⟩
    · exact absurd r0 w
    have md : s_X10_tells 66 Hc = some (r, Hm5) := by
      unfold s_X10_tells
      rw [lt_red, lt_red, lt_red, lt_red]
      show (iter (fun z : Int32 × Hp => s_X10_tells_l22 66 z.1 z.2) FUEL ((0 : Int32), newM Hc)).bind _ = _
      rw [i1, bnd_s]
      rfl
    have FA : Fr [7, 8, 9, 10, 11, 27, 29, 66, 90, 91] h Hm5 := (fc.1.wid (by simp)).tr (i2.1.wid (by simp))
    have KA : FrK 66 [44, 45, 46, 47, 49] h Hm5 := (FrK.of fc.1 (by simp)).tr i2.2
    obtain ⟨P', C'⟩ := PC.fr hP hc FA KA (by simp) (by simp)
    refine ⟨r, Hc, Hm5, cls, md, ⟨n, n90, ?_, ?_, fun i hi => ?_⟩, hS.fr FA (by simp), ⟨nv, nf, m, lv, hn1, P', C'⟩, FA.wid (by simp [telc]), KA.wid (by simp)⟩
    · rw [(i2.1 27 (by simp)).1, (fc.2 1 (by simp)).1]; exact t1
    · rw [(KA 43 (by simp)).1]; exact t2
    · rw [(FA 28 (by simp)).1, (FA 89 (by simp)).1]; exact t3 i hi
