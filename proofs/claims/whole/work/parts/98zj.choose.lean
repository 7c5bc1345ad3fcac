/-! the class's sample point -/
theorem cpyJ_q {β : Type} {h : Hp} {b c n : Nat} {N : Int32} {k : Hp → Option β} (hn : N.toNatClampNeg = n) (h0 : ¬ N < 0) : cpyJ h b n 0 c n 0 N k = k (cpJ h b c 0 0 n) := by
  have z : (0 : Int32).toNatClampNeg = 0 := by decide
  unfold cpyJ
  rw [if_pos ⟨by decide, by decide, h0, by rw [z, hn]; omega, by rw [z, hn]; omega⟩, z, hn]
theorem cpJ_I {h : Hp} {b c sp dp n : Nat} : (cpJ h b c sp dp n).1 = h.1 := rfl
theorem copyl_z {h : Hp} (hb : BJ h) : ∃ e, iter (fun s : Int32 × Hp => s_X7_copy_l54 44 32 s.1 s.2) FUEL ((0 : Int32), h) = some e ∧ Fr [47, 48] h e ∧ ∀ j, j < 12 → e.1 47 j = h.1 35 j ∧ e.1 48 j = h.1 36 j := by
  obtain ⟨e, he, hp⟩ := iter_fuel (f := fun s : Int32 × Hp => s_X7_copy_l54 44 32 s.1 s.2)
    (fun z => ∃ (i : Nat) (H : Hp), z = (nI i, H) ∧ i ≤ 12 ∧ Fr [47, 48] h H ∧ ∀ j, j < i → H.1 47 j = h.1 35 j ∧ H.1 48 j = h.1 36 j)
    (fun z => 12 - z.1.toNatClampNeg)
    (fun e => Fr [47, 48] h e ∧ ∀ j, j < 12 → e.1 47 j = h.1 35 j ∧ e.1 48 j = h.1 36 j) (by
    rintro z ⟨i, H, rfl, hi, hF, hr⟩
    dsimp only
    unfold s_X7_copy_l54
    simp only [show (32 + 3 : Nat) = 35 from rfl, show (32 + 4 : Nat) = 36 from rfl, show (44 + 3 : Nat) = 47 from rfl, show (44 + 4 : Nat) = 48 from rfl]
    by_cases q : i < 12
    · have e35 : H.1 35 i = h.1 35 i := by rw [(hF 35 (by simp)).1]
      have e36 : (sI H 47 i (h.1 35 i)).1 36 i = h.1 36 i := by rw [sI_cell (by omega), (hF 36 (by simp)).1]
      rw [if_pos (nI_ltn q (by omega) (by decide)), ldI_n (by omega) (by omega), e35]
      unfold ckB
      rw [if_pos (hb i).1, stI_n (by omega) (by omega), ldI_n (by omega) (by omega), e36, if_pos (hb i).2, stI_n (by omega) (by omega), lt_red, nI_1]
      refine Or.inl ⟨_, rfl, ⟨i + 1, _, rfl, by omega, hF.tr ((Fr.sI (by simp)).tr (Fr.sI (by simp))), fun j hj => ?_⟩, by rw [nI_clamp (by omega), nI_clamp (by omega)]; omega⟩
      by_cases y : j = i
      · rw [y, sI_cell (c' := 47) (by omega), sI_same, sI_same]; exact ⟨rfl, rfl⟩
      · rw [sI_ne y, sI_ne y, sI_ne y, sI_ne y]; exact hr j (by omega)
    · have : i = 12 := by omega
      subst this
      rw [if_neg (nI_nltn (by decide))]
      exact Or.inr ⟨_, rfl, hF, hr⟩)
    (nI 0, h) ⟨0, h, rfl, by omega, Fr.rf, fun j hj => by omega⟩ (by dsimp only; rw [nI_clamp (by omega)]; omega)
  rw [li0]
  exact ⟨e, he, hp⟩
theorem copy7_z {h : Hp} (hb : BJ h) : ∃ h', s_X7_copy 44 32 h = some h' ∧ Fr [44, 45, 46, 47, 48] h h' ∧ h'.1 44 4 = h.1 32 4 ∧ (∀ k, k < 36 → h'.1 45 k = h.1 33 k) ∧ (∀ k, k < 12 → h'.2 46 k = h.2 34 k) ∧ ∀ k, k < 12 → h'.1 47 k = h.1 35 k ∧ h'.1 48 k = h.1 36 k := by
  unfold s_X7_copy
  simp only [show (32 + 1 : Nat) = 33 from rfl, show (32 + 2 : Nat) = 34 from rfl, show (44 + 1 : Nat) = 45 from rfl, show (44 + 2 : Nat) = 46 from rfl]
  rw [lt_red, lt_red]
  generalize gH : sI (sI h 44 4 (h.1 32 4)) 44 5 ((sI h 44 4 (h.1 32 4)).1 32 5) = H
  have F1 : Fr [44] h H := by rw [← gH]; exact (Fr.sI (by simp)).tr (Fr.sI (by simp))
  have e4 : H.1 44 4 = h.1 32 4 := by rw [← gH, sI_ne (by omega), sI_same]
  rw [cpyI_p (by decide) (by decide), cpyJ_q (by decide) (by decide)]
  generalize gK : cpJ (cpI H 33 45 0 0 36) 34 46 0 0 12 = K
  have c1 : ∀ c, c ≠ 45 → K.1 c = H.1 c := fun c hc => by rw [← gK, cpJ_I, cp_cell hc]
  have c2 : ∀ c, c ≠ 46 → K.2 c = H.2 c := fun c hc => by rw [← gK, cpJ_cell hc, cp_J]
  have k45 : ∀ k, k < 36 → K.1 45 k = H.1 33 k := fun k hk => by rw [← gK, cpJ_I, cp_at hk]
  have k46 : ∀ k, k < 12 → K.2 46 k = H.2 34 k := fun k hk => by
    rw [← gK, cpJ_at, if_pos (by omega), cp_J, show 0 + (k - 0) = k by omega]
  have F2 : Fr [44, 45, 46, 47, 48] h K := fun c hc => by
    simp at hc
    rw [c1 c (by omega), c2 c (by omega)]
    exact F1 c (by simp; omega)
  obtain ⟨e, he, eF, er⟩ := copyl_z (h := K) (hb.fr F2 (by simp) (by simp))
  rw [he, bnd_s]
  refine ⟨e, rfl, F2.tr (eF.wid (by simp)), ?_, fun k hk => ?_, fun k hk => ?_, fun k hk => ?_⟩
  · rw [(eF 44 (by simp)).1, c1 44 (by omega)]; exact e4
  · rw [(eF 45 (by simp)).1, k45 k hk, (F1 33 (by simp)).1]
  · rw [(eF 46 (by simp)).2, k46 k hk, (F1 34 (by simp)).2]
  · rw [(er k hk).1, (er k hk).2, (F2 35 (by simp)).1, (F2 36 (by simp)).1]; exact ⟨rfl, rfl⟩
def cB (v : Nat) : Int := if v = 0 then 1 else if v = 1 then 324 else if v = 2 then 3779136 else 85691213438976
def dB (v : Nat) : Int := if v = 0 then 50 else if v = 1 then 82944 else if v = 2 then 1934935128 else 90000000000000000
abbrev smpc : List Nat := [42, 43, 44, 45, 46, 47, 48, 49, 50, 51, 52, 53, 54]
theorem Rst.cg {G G' : Hp} {N v : Nat} {Y : Sys} {c D : Int} {X : Nat → Rat} (hR : Rst G N Y v c X D) (e4 : G'.1 44 4 = G.1 44 4) (e45 : G'.1 45 = G.1 45) (e46 : G'.2 46 = G.2 46) (e47 : G'.1 47 = G.1 47) (e48 : G'.1 48 = G.1 48) (e : G'.2 42 2 = G.2 42 2) : Rst G' N Y v c X D := by
  have rr : ∀ i w, rF G' 44 i w = rF G 44 i w := fun i w => by
    unfold rF
    show (G'.1 45 _).toInt = (G.1 45 _).toInt
    rw [e45]
  refine hR.same ⟨by rw [e4]; exact hR.1.1, hR.1.2.1, fun i hi w hw => by rw [rr]; exact hR.1.2.2.1 i hi w hw, fun i hi => ?_⟩ (fun i hi => ⟨fun w _ => rr i w, ?_, ?_, ?_⟩) e
  · obtain ⟨w1, w2, w3, w4, w5⟩ := hR.1.2.2.2 i hi
    refine ⟨?_, ?_, ?_, ?_, ?_⟩
    · show G'.1 47 i = 0 ∨ G'.1 47 i = 1
      rw [e47]; exact w1
    · show G'.1 48 i = 0 ∨ G'.1 48 i = 1
      rw [e48]; exact w2
    · show G'.1 47 i = 1 → G'.1 48 i = 0
      rw [e47, e48]; exact w3
    · show -D ≤ (G'.2 46 i).toInt
      rw [e46]; exact w4
    · show (G'.2 46 i).toInt ≤ D
      rw [e46]; exact w5
  · show G'.2 46 i = G.2 46 i
    rw [e46]
  · show G'.1 47 i = G.1 47 i
    rw [e47]
  · show G'.1 48 i = G.1 48 i
    rw [e48]
theorem LimV.mono {G G' : Hp} {L : Nat} {B T B' T' : Int} (h : LimV G L B T) (hB : B ≤ B') (hT : T ≤ T') (e : G'.1 L = G.1 L ∧ G'.2 L = G.2 L) : LimV G' L B' T' := by
  obtain ⟨a, b, c, d⟩ := h
  unfold LimV
  rw [e.1, e.2]
  exact ⟨a, ⟨b.1, by omega⟩, ⟨by omega, by omega⟩, d⟩
theorem samp_sat {Hd : (Nat → Rat) → Prop} {nv v : Nat} {P Q : Nat → Int} (hS : Samp Hd nv P Q) (hs : ∃ p, Hd p) (hv : v ≤ nv) : ∃ p, Hd p ∧ ∀ w, w < v → p w = frc (P w) (Q w) := by
  cases v with
  | zero => obtain ⟨p, hp⟩ := hs; exact ⟨p, hp, fun w hw => by omega⟩
  | succ u =>
    obtain ⟨p, p1, p2, p3⟩ := (hS u (by omega)).2.1
    refine ⟨p, p1, fun w hw => ?_⟩
    by_cases y : w = u
    · rw [y]; exact p3
    · exact p2 w (by omega)
theorem settle_v {K : Hp} {N v : Nat} {Y : Sys} {c : Int} {X : Nat → Rat} {P Q : Nat → Int} (hv : v < 3) (hB : SBd P Q) (hR : Rst K N Y v c X (dB v)) (hc : 0 < c ∧ c ≤ cB v) (h53 : K.2 53 v = i64 (P v)) (h54 : K.2 54 v = i64 (Q v)) (hX : X v = frc (P v) (Q v)) : ∃ (G' : Hp) (c' : Int), s_X8_settle 42 (nI v) K = some G' ∧ Fr [42, 45, 46] K G' ∧ (0 < c' ∧ c' ≤ cB (v + 1)) ∧ Rst G' N Y (v + 1) c' X (dB (v + 1)) := by
  obtain ⟨⟨a1, a2, a3, a4⟩, ⟨b1, b2, b3, b4⟩, ⟨c1, c2, c3, c4⟩⟩ := hB
  rcases (show v = 0 ∨ v = 1 ∨ v = 2 by omega) with rfl | rfl | rfl
  · obtain ⟨G', c', w1, w2, w3, w4⟩ := settle_z (D := 50) (CB := 1) (QB := 324) (PB := 22248) (D' := 82944) hv hR (by omega) h53 h54 hc ⟨a1, a2⟩ ⟨a3, a4⟩ hX (by omega) (by omega) (by omega) (by omega) (by omega)
    exact ⟨G', c', w1, w2, ⟨w3.1, by show c' ≤ 324; omega⟩, w4⟩
  · obtain ⟨G', c', w1, w2, w3, w4⟩ := settle_z (D := 82944) (CB := 324) (QB := 11664) (PB := 995346) (D' := 1934935128) hv hR (by omega) h53 h54 hc ⟨b1, b2⟩ ⟨b3, b4⟩ hX (by omega) (by omega) (by omega) (by omega) (by omega)
    exact ⟨G', c', w1, w2, ⟨w3.1, by show c' ≤ 3779136; omega⟩, w4⟩
  · obtain ⟨G', c', w1, w2, w3, w4⟩ := settle_z (D := 1934935128) (CB := 3779136) (QB := 22674816) (PB := 4000000000) (D' := 90000000000000000) hv hR (by omega) h53 h54 hc ⟨c1, c2⟩ ⟨c3, c4⟩ hX (by omega) (by omega) (by omega) (by omega) (by omega)
    exact ⟨G', c', w1, w2, ⟨w3.1, by show c' ≤ 85691213438976; omega⟩, w4⟩
theorem nI_subn {a b : Nat} (h : b ≤ a) : nI a - nI b = nI (a - b) := by
  rw [nI_i32, nI_i32, i32_sub, nI_i32]
  congr 1
  omega
set_option maxHeartbeats 1000000 in
theorem choose_step {H : Hp} {N nv v : Nat} {Y : Sys} {c : Int} {P Q : Nat → Int} (hv : v < 3) (hN : N < 12) (hn3 : nv ≤ 3) (hz : ∀ i, i < N → ∀ w, w < 3 → nv ≤ w → Y.1 i w = 0) (hsat : ∃ p, HdY N Y p) (hS : Samp (HdY N Y) nv P Q) (hB : SBd P Q) (hPQ : ∀ v, v < 3 → nv ≤ v → P v = 0 ∧ Q v = 1) (hR : Rst H N Y v c (fun w => frc (P w) (Q w)) (dB v)) (hc : 0 < c ∧ c ≤ cB v) (hw : ∀ w, w < v → H.2 53 w = i64 (P w) ∧ H.2 54 w = i64 (Q w)) : ∃ (H' : Hp) (c' : Int), s_X8_choose_l15 42 32 (nI nv) (nI v) H = some (.inl (nI (v + 1), H')) ∧ Fr smpc H H' ∧ Rst H' N Y (v + 1) c' (fun w => frc (P w) (Q w)) (dB (v + 1)) ∧ (0 < c' ∧ c' ≤ cB (v + 1)) ∧ ∀ w, w < v + 1 → H'.2 53 w = i64 (P w) ∧ H'.2 54 w = i64 (Q w) := by
  have cb : cB v ≤ 3779136 := by rcases (show v = 0 ∨ v = 1 ∨ v = 2 by omega) with rfl | rfl | rfl <;> decide
  have db : 0 ≤ dB v ∧ dB v ≤ 1934935128 := by rcases (show v = 0 ∨ v = 1 ∨ v = 2 by omega) with rfl | rfl | rfl <;> decide
  have pb : (-4000000000 ≤ P v ∧ P v ≤ 4000000000) ∧ Q v ≤ 22674816 := by
    obtain ⟨⟨a1, a2, a3, a4⟩, ⟨b1, b2, b3, b4⟩, ⟨c1, c2, c3, c4⟩⟩ := hB
    rcases (show v = 0 ∨ v = 1 ∨ v = 2 by omega) with rfl | rfl | rfl <;> omega
  -- the end of a pass
  have fin : ∀ K : Hp, Fr smpc H K → (K.2 53 = H.2 53 ∧ K.2 54 = H.2 54) → Rst K N Y v c (fun w => frc (P w) (Q w)) (dB v) → K.2 42 5 = i64 (P v) → K.2 42 6 = i64 (Q v) → ∃ (H' : Hp) (c' : Int), s_X8_choose_b69 42 32 (nI nv) (nI v) K = some (.inl (nI (v + 1), H')) ∧ Fr smpc H H' ∧ Rst H' N Y (v + 1) c' (fun w => frc (P w) (Q w)) (dB (v + 1)) ∧ (0 < c' ∧ c' ≤ cB (v + 1)) ∧ ∀ w, w < v + 1 → H'.2 53 w = i64 (P w) ∧ H'.2 54 w = i64 (Q w) := fun K FK hK RK k5 k6 => by
    unfold s_X8_choose_b69
    simp only [show (42 + 11 : Nat) = 53 from rfl, show (42 + 12 : Nat) = 54 from rfl]
    have k6' : (sJ K 53 v (i64 (P v))).2 42 6 = i64 (Q v) := by rw [sJ_cell (by omega)]; exact k6
    rw [stJ_n hv (by omega), k5, stJ_n hv (by omega), k6']
    generalize gK2 : sJ (sJ K 53 v (i64 (P v))) 54 v (i64 (Q v)) = K2
    have F2 : Fr [53, 54] K K2 := by rw [← gK2]; exact (Fr.sJ (by simp)).tr (Fr.sJ (by simp))
    have e53 : ∀ w, K2.2 53 w = if w = v then i64 (P v) else K.2 53 w := fun w => by
      rw [← gK2, sJ_cell (by omega)]
      by_cases y : w = v
      · rw [if_pos y, y, sJ_same]
      · rw [if_neg y, sJ_ne y]
    have e54 : ∀ w, K2.2 54 w = if w = v then i64 (Q v) else K.2 54 w := fun w => by
      rw [← gK2]
      by_cases y : w = v
      · rw [if_pos y, y, sJ_same]
      · rw [if_neg y, sJ_ne y, sJ_cell (by omega)]
    have R2 := RK.cg (G' := K2) (by rw [(F2 44 (by simp)).1]) (F2 45 (by simp)).1 (F2 46 (by simp)).2 (F2 47 (by simp)).1 (F2 48 (by simp)).1 (by rw [(F2 42 (by simp)).2])
    obtain ⟨G', c', w1, w2, w3, w4⟩ := settle_v hv hB R2 hc (by rw [e53, if_pos rfl]) (by rw [e54, if_pos rfl]) rfl
    rw [w1, bnd_s, lt_red, nI_1]
    refine ⟨G', c', rfl, (FK.tr (F2.wid (by simp [smpc]))).tr (w2.wid (by simp [smpc])), w4, w3, fun w hwv => ?_⟩
    rw [(w2 53 (by simp)).2, (w2 54 (by simp)).2, e53, e54]
    by_cases y : w = v
    · rw [if_pos y, if_pos y, y]; exact ⟨rfl, rfl⟩
    · rw [if_neg y, if_neg y, hK.1, hK.2]; exact hw w (by omega)
  unfold s_X8_choose_l15
  simp only [show (42 + 2 : Nat) = 44 from rfl, show (42 + 9 : Nat) = 51 from rfl, show (42 + 10 : Nat) = 52 from rfl]
  rw [if_pos (nI_ltn hv (by omega) (by decide)), lt_red, lt_red]
  generalize gH4 : sJ (sJ H 42 5 0) 42 6 1 = H4
  have F4 : Fr [42] H H4 := by rw [← gH4]; exact (Fr.sJ (by simp)).tr (Fr.sJ (by simp))
  have h45 : H4.2 42 5 = 0 := by rw [← gH4, sJ_ne (by omega), sJ_same]
  have h46 : H4.2 42 6 = 1 := by rw [← gH4, sJ_same]
  have h42 : H4.2 42 2 = H.2 42 2 := by rw [← gH4, sJ_ne (by omega), sJ_ne (by omega)]
  have R4 := hR.cg (G' := H4) (by rw [(F4 44 (by simp)).1]) (F4 45 (by simp)).1 (F4 46 (by simp)).2 (F4 47 (by simp)).1 (F4 48 (by simp)).1 h42
  by_cases c1 : v < nv
  · rw [if_pos (nI_lt c1 (by omega)), lt_red, nI_subn (by omega)]
    generalize gH5 : sI H4 44 5 (nI (nv - v)) = H5
    have F5 : Fr [44] H4 H5 := by rw [← gH5]; exact Fr.sI (by simp)
    have e5 : H5.1 44 5 = nI (nv - v) := by rw [← gH5, sI_same]
    have e4 : H5.1 44 4 = H4.1 44 4 := by rw [← gH5, sI_ne (by omega)]
    have R5 := R4.cg (G' := H5) e4 (F5 45 (by simp)).1 (F5 46 (by simp)).2 (F5 47 (by simp)).1 (F5 48 (by simp)).1 (by rw [(F5 42 (by simp)).2])
    have hst := samp_sat hS hsat (v := v) (by omega)
    obtain ⟨G1, s1, f1, r1, n1, l1, t1⟩ := seek8_z (Lm := 51) (tz := 1) (Or.inl rfl) R5 ⟨hc.1, by omega⟩ ⟨db.1, by omega⟩ c1 hn3 e5 hN hz hst (Or.inl rfl)
    obtain ⟨G2, s2, f2, r2, n2, l2, t2⟩ := seek8_z (Lm := 52) (tz := -1) (Or.inr rfl) r1 ⟨hc.1, by omega⟩ ⟨db.1, by omega⟩ c1 hn3 n1 hN hz hst (Or.inr rfl)
    have s1' : s_X8_seek 42 51 (nI v) (1 : Int32) H5 = some G1 := by rw [show (1 : Int32) = i32 1 from by decide]; exact s1
    have s2' : s_X8_seek 42 52 (nI v) (-1 : Int32) G1 = some G2 := by rw [show (-1 : Int32) = i32 (-1) from by decide]; exact s2
    have f51 := f2 51 (by simp [cirk])
    have l1' : LimV G2 51 612220032 2000000000000 := l1.mono (by omega) (by omega) f51
    have l2' : LimV G2 52 612220032 2000000000000 := l2.mono (by omega) (by omega) ⟨rfl, rfl⟩
    have t1' : ∀ t, LimI G2 51 t ↔ ∃ p, HdY N Y p ∧ (∀ w, w < v → p w = frc (P w) (Q w)) ∧ t ≤ ((1 : Int) : Rat) * p v := fun t => by
      rw [← t1 t]; unfold LimI; rw [f51.1, f51.2]
    have F42 : Fr smpc H G2 := (((F4.wid (by simp [smpc])).tr (F5.wid (by simp [smpc]))).tr (f1.wid (by simp [smpc, cirk]))).tr (f2.wid (by simp [smpc, cirk]))
    have a42 : G2.2 42 = H4.2 42 := by rw [(f2 42 (by simp [cirk])).2, (f1 42 (by simp [cirk])).2, (F5 42 (by simp)).2]
    obtain ⟨G3, p1, p2, p3, p4, p5, p6⟩ := pick_c l1' l2' t1' t2 (hS v c1) pb.1 pb.2 (by rw [a42]; exact h45) (by rw [a42]; exact h46)
    rw [s1', bnd_s, s2', bnd_s, p1, bnd_s]
    refine fin G3 (F42.tr (p2.wid (by simp [smpc]))) ?_ ?_ p3 p4
    · refine ⟨?_, ?_⟩
      · rw [(p2 53 (by simp)).2, (f2 53 (by simp [cirk])).2, (f1 53 (by simp [cirk])).2, (F5 53 (by simp)).2, (F4 53 (by simp)).2]
      · rw [(p2 54 (by simp)).2, (f2 54 (by simp [cirk])).2, (f1 54 (by simp [cirk])).2, (F5 54 (by simp)).2, (F4 54 (by simp)).2]
    · exact r2.cg (by rw [(p2 44 (by simp)).1]) (p2 45 (by simp)).1 (p2 46 (by simp)).2 (p2 47 (by simp)).1 (p2 48 (by simp)).1 (p5 2 (by omega) (by omega))
  · rw [if_neg (nI_nlt (by omega) (by omega))]
    obtain ⟨z1, z2⟩ := hPQ v hv (by omega)
    exact fin H4 (F4.wid (by simp [smpc])) ⟨(F4 53 (by simp)).2, (F4 54 (by simp)).2⟩ R4 (by rw [h45, z1]; decide) (by rw [h46, z2]; decide)
theorem choose_z {h : Hp} {N nv : Nat} {P Q : Nat → Int} (hW : RowsWF h 32 N 50) (hb : BJ h) (hN : N < 12) (hn3 : nv ≤ 3) (hz : ∀ i, i < N → ∀ w, w < 3 → nv ≤ w → (rY h 32).1 i w = 0) (hsat : ∃ p, HdY N (rY h 32) p) (hS : Samp (HdY N (rY h 32)) nv P Q) (hB : SBd P Q) (hPQ : ∀ v, v < 3 → nv ≤ v → P v = 0 ∧ Q v = 1) : ∃ e, s_X8_choose 42 32 (nI nv) h = some e ∧ Fr smpc h e ∧ ∀ v, v < 3 → e.2 53 v = i64 (P v) ∧ e.2 54 v = i64 (Q v) := by
  obtain ⟨H1, a1, a2, a3, a4, a5, a6⟩ := copy7_z hb
  unfold s_X8_choose
  simp only [show (42 + 2 : Nat) = 44 from rfl]
  rw [a1, bnd_s, lt_red]
  generalize gH : sJ H1 42 2 1 = H2
  have F2 : Fr [42] H1 H2 := by rw [← gH]; exact Fr.sJ (by simp)
  have e2 : H2.2 42 2 = i64 1 := by rw [← gH, sJ_same]; decide
  have R2 : Rst H2 N (rY h 32) 0 1 (fun w => frc (P w) (Q w)) (dB 0) := by
    have rr : ∀ i, i < N → ∀ w, w < 3 → rF H2 44 i w = rF h 32 i w := fun i hi w hw => by
      unfold rF
      show (H2.1 45 (3 * i + w)).toInt = (h.1 33 (3 * i + w)).toInt
      rw [(F2 45 (by simp)).1, a4 _ (by omega)]
    have r6 : ∀ i, i < N → H2.2 46 i = h.2 34 i := fun i hi => by rw [(F2 46 (by simp)).2, a5 i (by omega)]
    have r7 : ∀ i, i < N → H2.1 47 i = h.1 35 i ∧ H2.1 48 i = h.1 36 i := fun i hi => by
      rw [(F2 47 (by simp)).1, (F2 48 (by simp)).1]; exact a6 i (by omega)
    refine ⟨⟨?_, hW.2.1, fun i hi w hw => by rw [rr i hi w hw]; exact hW.2.2.1 i hi w hw, fun i hi => ?_⟩, fun i hi => ⟨fun w hw => ?_, ?_, ?_, ?_⟩, e2⟩
    · rw [(F2 44 (by simp)).1, a3]; exact hW.1
    · obtain ⟨w1, w2, w3, w4, w5⟩ := hW.2.2.2 i hi
      refine ⟨?_, ?_, ?_, ?_, ?_⟩
      · show H2.1 47 i = 0 ∨ H2.1 47 i = 1
        rw [(r7 i hi).1]; exact w1
      · show H2.1 48 i = 0 ∨ H2.1 48 i = 1
        rw [(r7 i hi).2]; exact w2
      · show H2.1 47 i = 1 → H2.1 48 i = 0
        rw [(r7 i hi).1, (r7 i hi).2]; exact w3
      · show -50 ≤ (H2.2 46 i).toInt
        rw [r6 i hi]; exact w4
      · show (H2.2 46 i).toInt ≤ 50
        rw [r6 i hi]; exact w5
    · rw [rr i hi w hw, if_neg (by omega)]; rfl
    · rw [r6 i hi]
      show ((h.2 34 i).toInt : Rat) = ((1 : Int) : Rat) * (((h.2 34 i).toInt : Rat) - 0)
      push_cast; grind
    · rw [(r7 i hi).1]; rfl
    · rw [(r7 i hi).2]; rfl
  obtain ⟨e, he, hp⟩ := iter_fuel (f := fun s : Int32 × Hp => s_X8_choose_l15 42 32 (nI nv) s.1 s.2)
    (fun z => ∃ (v : Nat) (H : Hp) (c : Int), z = (nI v, H) ∧ v ≤ 3 ∧ Fr smpc H2 H ∧ Rst H N (rY h 32) v c (fun w => frc (P w) (Q w)) (dB v) ∧ (0 < c ∧ c ≤ cB v) ∧ ∀ w, w < v → H.2 53 w = i64 (P w) ∧ H.2 54 w = i64 (Q w))
    (fun z => 3 - z.1.toNatClampNeg)
    (fun e => Fr smpc H2 e ∧ ∀ w, w < 3 → e.2 53 w = i64 (P w) ∧ e.2 54 w = i64 (Q w)) (by
    rintro z ⟨v, H, c, rfl, hv, hF, hR, hc, hw⟩
    dsimp only
    by_cases q : v < 3
    · obtain ⟨H', c', b1, b2, b3, b4, b5⟩ := choose_step q hN hn3 hz hsat hS hB hPQ hR hc hw
      rw [b1]
      exact Or.inl ⟨_, rfl, ⟨v + 1, H', c', rfl, by omega, hF.tr b2, b3, b4, b5⟩, by rw [nI_clamp (by omega), nI_clamp (by omega)]; omega⟩
    · have : v = 3 := by omega
      subst this
      unfold s_X8_choose_l15
      rw [if_neg (nI_nltn (by decide))]
      exact Or.inr ⟨_, rfl, hF, hw⟩)
    (nI 0, H2) ⟨0, H2, 1, rfl, by omega, Fr.rf, R2, ⟨by omega, by decide⟩, fun w hw => by omega⟩ (by dsimp only; rw [nI_clamp (by omega)]; omega)
  rw [li0, he, bnd_s]
  exact ⟨e, rfl, (a2.wid (by simp [smpc])).tr ((F2.wid (by simp [smpc])).tr hp.1), hp.2⟩
