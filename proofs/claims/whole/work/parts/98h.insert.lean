/-! Corners.insert -/
theorem cmp_z {p q : P3} {r : Int32} (h : cmp3 p q r) : (r < 0 ↔ ltp p q) ∧ (r = 0 ↔ p = q) ∧ (0 < r ↔ ltp q p) := by
  rcases h with ⟨rfl, w⟩ | ⟨rfl, w⟩ | ⟨rfl, w⟩
  · refine ⟨⟨fun _ => w, fun _ => by decide⟩, ⟨fun z => absurd z (by decide), fun z => ?_⟩, ⟨fun z => absurd z (by decide), fun z => absurd (ltp_tr w z) (ltp_irr _)⟩⟩
    subst z; exact absurd w (ltp_irr _)
  · subst w
    exact ⟨⟨fun z => absurd z (by decide), fun z => absurd z (ltp_irr _)⟩, ⟨fun _ => rfl, fun _ => rfl⟩, ⟨fun z => absurd z (by decide), fun z => absurd z (ltp_irr _)⟩⟩
  · refine ⟨⟨fun z => absurd z (by decide), fun z => absurd (ltp_tr w z) (ltp_irr _)⟩, ⟨fun z => absurd z (by decide), fun z => ?_⟩, ⟨fun _ => w, fun _ => by decide⟩⟩
    subst z; exact absurd w (ltp_irr _)
theorem sorted_get {L : List P3} (hS : L.Pairwise ltp) {i j : Nat} (hi : i < L.length) (hj : j < L.length) (h : i < j) : ltp L[i] L[j] := List.pairwise_iff_getElem.mp hS i j hi hj h
/-- the loop that makes room -/
theorem shift_z {H : Hp} {n q : Nat} (h0 : n < 120) (hq : q ≤ n) : ∃ H', iter (fun s : Int32 × Hp => s_X2_insert_l54 55 (nI q) s.1 s.2) FUEL (nI n, H) = some H' ∧ Fr [56, 57] H H' ∧ (∀ k, k ≤ q → H'.2 57 k = H.2 57 k ∧ ∀ v, v < 3 → H'.2 56 (3 * k + v) = H.2 56 (3 * k + v)) ∧ ∀ k, q < k → k ≤ n → H'.2 57 k = H.2 57 (k - 1) ∧ ∀ v, v < 3 → H'.2 56 (3 * k + v) = H.2 56 (3 * (k - 1) + v) := by
  obtain ⟨e, he, hp⟩ := iter_fuel (f := fun s : Int32 × Hp => s_X2_insert_l54 55 (nI q) s.1 s.2)
    (fun z => ∃ (i : Nat) (G : Hp), z = (nI i, G) ∧ q ≤ i ∧ i ≤ n ∧ Fr [56, 57] H G ∧ (∀ k, k ≤ i → G.2 57 k = H.2 57 k ∧ ∀ v, v < 3 → G.2 56 (3 * k + v) = H.2 56 (3 * k + v)) ∧ ∀ k, i < k → k ≤ n → G.2 57 k = H.2 57 (k - 1) ∧ ∀ v, v < 3 → G.2 56 (3 * k + v) = H.2 56 (3 * (k - 1) + v))
    (fun z => z.1.toNatClampNeg)
    (fun G => Fr [56, 57] H G ∧ (∀ k, k ≤ q → G.2 57 k = H.2 57 k ∧ ∀ v, v < 3 → G.2 56 (3 * k + v) = H.2 56 (3 * k + v)) ∧ ∀ k, q < k → k ≤ n → G.2 57 k = H.2 57 (k - 1) ∧ ∀ v, v < 3 → G.2 56 (3 * k + v) = H.2 56 (3 * (k - 1) + v)) (by
    rintro z ⟨i, G, rfl, h1, h2, hF, hA, hB⟩
    dsimp only
    unfold s_X2_insert_l54
    by_cases c : q < i
    · obtain ⟨i', rfl⟩ : ∃ i', i = i' + 1 := ⟨i - 1, by omega⟩
      rw [if_pos (nI_lt c (by omega)), nI_sub1, show (55 + 2 : Nat) = 57 from rfl, ldJ_n (by omega) (by omega), stJ_n (by omega) (by omega)]
      generalize gG1 : sJ G 57 (i' + 1) (G.2 57 i') = G1
      have F1 : Fr [56, 57] H G1 := hF.tr (by rw [← gG1]; exact Fr.sJ (by simp))
      have e56 : G1.2 56 = G.2 56 := by rw [← gG1, sJ_cell (by omega)]
      have e57 : ∀ k, G1.2 57 k = if k = i' + 1 then H.2 57 i' else G.2 57 k := fun k => by
        rw [← gG1]
        by_cases w : k = i' + 1
        · subst w; rw [sJ_same, if_pos rfl]; exact (hA i' (by omega)).1
        · rw [sJ_ne w, if_neg w]
      obtain ⟨e, he, hp⟩ := iter_fuel (f := fun s : Int32 × Hp => s_X2_insert_l75 55 (nI q) (nI (i' + 1)) s.1 s.2)
        (fun z => ∃ (v : Nat) (G2 : Hp), z = (nI v, G2) ∧ v ≤ 3 ∧ Fr [56] G1 G2 ∧ ∀ j, G2.2 56 j = if 3 * (i' + 1) ≤ j ∧ j < 3 * (i' + 1) + v then G.2 56 (j - 3) else G.2 56 j)
        (fun z => 20 - z.1.toNatClampNeg)
        (fun G2 => Fr [56] G1 G2 ∧ ∀ j, G2.2 56 j = if 3 * (i' + 1) ≤ j ∧ j < 3 * (i' + 1) + 3 then G.2 56 (j - 3) else G.2 56 j) (by
        rintro z ⟨v, G2, rfl, hv, hF2, h56⟩
        dsimp only
        unfold s_X2_insert_l75
        by_cases y : v < 3
        · rw [if_pos (nI_ltn y (by omega) (by decide)), nI_sub1, show (55 + 1 : Nat) = 56 from rfl, ix3, ix3, ldJ_n (by omega) (by omega), stJ_n (by omega) (by omega), lt_red, nI_1]
          refine Or.inl ⟨_, rfl, ⟨v + 1, _, rfl, by omega, hF2.tr (Fr.sJ (by simp)), fun j => ?_⟩, by rw [nI_clamp (by omega), nI_clamp (by omega)]; omega⟩
          by_cases w : j = 3 * (i' + 1) + v
          · subst w
            rw [sJ_same, h56, if_neg (by omega), if_pos (by omega), show 3 * (i' + 1) + v - 3 = 3 * i' + v by omega]
          · rw [sJ_ne w, h56]
            by_cases w2 : 3 * (i' + 1) ≤ j ∧ j < 3 * (i' + 1) + v
            · rw [if_pos w2, if_pos (by omega)]
            · rw [if_neg w2, if_neg (by omega)]
        · have : v = 3 := by omega
          subst this
          rw [if_neg (nI_nltn (by decide))]
          exact Or.inr ⟨_, rfl, hF2, h56⟩)
        (nI 0, G1) ⟨0, G1, rfl, by omega, Fr.rf, fun j => by rw [if_neg (by omega), e56]⟩ (by dsimp only; rw [nI_clamp (by omega)]; omega)
      obtain ⟨hF2, h56⟩ := hp
      rw [li0, he, bnd_s, lt_red, nI_back, nI_sub1]
      refine Or.inl ⟨_, rfl, ⟨i', e, rfl, by omega, by omega, F1.tr (hF2.wid (by simp)), fun k hk => ?_, fun k hk1 hk2 => ?_⟩, by rw [nI_clamp (by omega), nI_clamp (by omega)]; omega⟩
      · rw [(hF2 57 (by simp)).2, e57, if_neg (by omega)]
        refine ⟨(hA k (by omega)).1, fun v hv => ?_⟩
        rw [h56, if_neg (by omega)]; exact (hA k (by omega)).2 v hv
      · rw [(hF2 57 (by simp)).2, e57]
        by_cases w : k = i' + 1
        · subst w
          rw [if_pos rfl]
          refine ⟨rfl, fun v hv => ?_⟩
          rw [h56, if_pos (by omega), show 3 * (i' + 1) + v - 3 = 3 * i' + v by omega, (hA i' (by omega)).2 v hv]
          rfl
        · rw [if_neg w]
          refine ⟨(hB k (by omega) hk2).1, fun v hv => ?_⟩
          rw [h56, if_neg (by omega)]; exact (hB k (by omega) hk2).2 v hv
    · have : i = q := by omega
      subst this
      rw [if_neg (nI_nlt (by omega) (by omega))]
      exact Or.inr ⟨_, rfl, hF, hA, hB⟩)
    (nI n, H) ⟨n, H, rfl, hq, Nat.le_refl _, Fr.rf, fun k _ => ⟨rfl, fun _ _ => rfl⟩, fun k h1 h2 => by omega⟩ (by dsimp only; rw [nI_clamp (by omega)]; omega)
  exact ⟨e, he, hp⟩
theorem cpyJ_p {β : Type} {h : Hp} {q : Nat} {k : Hp → Option β} (hq : q < 120) : cpyJ h 63 3 (0 : Int32) 56 360 (nI (3 * q)) (3 : Int32) k = k (cpJ h 63 56 0 (3 * q) 3) := by
  have z : (0 : Int32).toNatClampNeg = 0 := by decide
  have z3 : (3 : Int32).toNatClampNeg = 3 := by decide
  have zq : (nI (3 * q)).toNatClampNeg = 3 * q := nI_clamp (by omega)
  unfold cpyJ
  rw [if_pos ⟨by decide, nI_npos _ (by omega), by decide, by rw [z, z3]; omega, by rw [zq, z3]; omega⟩, z, z3, zq]
theorem cpJ_cell {h : Hp} {b c c' sp dp n : Nat} (e : c' ≠ c) : (cpJ h b c sp dp n).2 c' = h.2 c' := by funext j; simp [cpJ, e]
theorem cpJ_at (h : Hp) (b c sp dp n j : Nat) : (cpJ h b c sp dp n).2 c j = if dp ≤ j ∧ j < dp + n then h.2 b (sp + (j - dp)) else h.2 c j := by simp [cpJ, va_cpy]
set_option maxHeartbeats 1000000 in
theorem insert_z {H : Hp} {L : List P3} {p : P3} (hC : CL H L) (hN : NewP H p) (h120 : L.length < 120) : ∃ H' L', s_X2_insert 55 H = some H' ∧ CL H' L' ∧ (∀ x, x ∈ L' ↔ x ∈ L ∨ x = p) ∧ L'.length ≤ L.length + 1 ∧ Fr [55, 56, 57] H H' ∧ FrK 55 [0] H H' := by
  have hC0 := hC
  obtain ⟨c1, c2, c3, c4⟩ := hC
  unfold s_X2_insert
  rw [lt_red, c1]
  obtain ⟨e, he, hp⟩ := iter_fuel (f := fun s : Int32 => s_X2_insert_l5 55 s H)
    (fun z => ∃ q, z = nI q ∧ q ≤ L.length ∧ ∀ k (hk : k < L.length), q ≤ k → ltp p L[k])
    (fun z => z.toNatClampNeg)
    (fun e => ∃ q, e = nI q ∧ q ≤ L.length ∧ (∀ k (hk : k < L.length), q ≤ k → ltp p L[k]) ∧ (∀ (h : 0 < q) (hk : q - 1 < L.length), ¬ ltp p L[q - 1])) (by
    rintro z ⟨q, rfl, h1, h2⟩
    unfold s_X2_insert_l5
    by_cases c : 0 < q
    · obtain ⟨q', rfl⟩ : ∃ q', q = q' + 1 := ⟨q - 1, by omega⟩
      obtain ⟨r, er, hr⟩ := compareWith_z hC0 hN (k := q') (by omega)
      have cz := cmp_z hr
      rw [if_pos (show (0 : Int32) < nI (q' + 1) from by rw [li0]; exact nI_lt c (by omega)), nI_sub1, er, bnd_s]
      by_cases d : r < 0
      · rw [if_pos d, lt_red, nI_back, nI_sub1]
        refine Or.inl ⟨_, rfl, ⟨q', rfl, by omega, fun k hk hqk => ?_⟩, by rw [nI_clamp (by omega), nI_clamp (by omega)]; omega⟩
        rcases (show k = q' ∨ q' + 1 ≤ k by omega) with y | y
        · subst y; exact cz.1.mp d
        · exact h2 k hk y
      · rw [if_neg d]
        refine Or.inr ⟨_, rfl, q' + 1, rfl, h1, h2, fun _ hk y => d (cz.1.mpr y)⟩
    · have : q = 0 := by omega
      subst this
      rw [if_neg (by decide)]
      exact Or.inr ⟨_, rfl, 0, rfl, h1, h2, fun h => absurd h (by omega)⟩)
    (nI L.length) ⟨L.length, rfl, Nat.le_refl _, fun k hk h => by omega⟩ (by rw [nI_clamp (by omega)]; omega)
  obtain ⟨q, rfl, hq1, hq2, hq3⟩ := hp
  rw [he, bnd_s, if_pos (show nI L.length < (120 : Int32) from nI_ltn h120 (by omega) (by decide))]
  -- the place is free: make room
  have room : (∀ k (hk : k < L.length), k < q → ltp L[k] p) → ∃ H' L', s_X2_insert_b49 55 (nI q) H = some H' ∧ CL H' L' ∧ (∀ x, x ∈ L' ↔ x ∈ L ∨ x = p) ∧ L'.length ≤ L.length + 1 ∧ Fr [55, 56, 57] H H' ∧ FrK 55 [0] H H' := fun hlow => by
    unfold s_X2_insert_b49
    obtain ⟨H1, s1, sF, sA, sB⟩ := shift_z (H := H) h120 hq1
    rw [lt_red, c1, s1, bnd_s, show (55 + 2 : Nat) = 57 from rfl, show (55 + 8 : Nat) = 63 from rfl, show (55 + 1 : Nat) = 56 from rfl, stJ_n (by omega) (by omega), ix30, cpyJ_p (by omega), lt_red]
    generalize gH2 : sJ H1 57 q (H1.2 55 5) = H2
    generalize gH3 : cpJ H2 63 56 0 (3 * q) 3 = H3
    have i3 : H3.1 = H1.1 := by rw [← gH3, ← gH2]; rfl
    have e55 : H3.1 55 0 = nI L.length := by rw [i3, (sF 55 (by simp)).1]; exact c1
    rw [e55, nI_1]
    have j57 : ∀ k, H3.2 57 k = if k = q then H.2 55 5 else H1.2 57 k := fun k => by
      rw [← gH3, cpJ_cell (by omega), ← gH2]
      by_cases w : k = q
      · subst w; rw [sJ_same, if_pos rfl, (sF 55 (by simp)).2]
      · rw [sJ_ne w, if_neg w]
    have j63 : H2.2 63 = H.2 63 := by rw [← gH2, sJ_cell (by omega), (sF 63 (by simp)).2]
    have j56 : ∀ j, H3.2 56 j = if 3 * q ≤ j ∧ j < 3 * q + 3 then H.2 63 (j - 3 * q) else H1.2 56 j := fun j => by
      rw [← gH3, cpJ_at]
      by_cases w : 3 * q ≤ j ∧ j < 3 * q + 3
      · rw [if_pos w, if_pos w, j63, Nat.zero_add]
      · rw [if_neg w, if_neg w, ← gH2, sJ_cell (by omega)]
    have F3 : Fr [55, 56, 57] H H3 := (sF.wid (by simp)).tr (fun c hc => by
      simp at hc
      refine ⟨by rw [i3], ?_⟩
      rw [← gH3, cpJ_cell hc.2.1, ← gH2, sJ_cell hc.2.2])
    have J55 : H3.2 55 = H.2 55 := by
      have : H3.2 55 = H1.2 55 := by
        rw [← gH3, cpJ_cell (by omega), ← gH2, sJ_cell (by omega)]
      rw [this, (sF 55 (by simp)).2]
    refine ⟨_, L.take q ++ p :: L.drop q, rfl, ⟨?_, ?_, ins_sorted c3 hq1 hlow hq2, fun k hk => ?_⟩, fun x => ins_mem, by rw [ins_len hq1]; omega, F3.tr (Fr.sI (by simp)), fun k hk => ?_⟩
    · rw [sI_same, ins_len hq1]
    · rw [ins_len hq1]; omega
    · rw [sI_J]
      have hk2 : k < L.length + 1 := by rw [ins_len hq1] at hk; exact hk
      obtain ⟨g1, g2, g3⟩ := ins_get (p := p) hq1 k hk
      rcases Nat.lt_trichotomy k q with y | y | y
      · have e0 := sA k (by omega)
        rw [j57, if_neg (by omega), j56, if_neg (by omega), j56, if_neg (by omega), j56, if_neg (by omega), e0.1, show H1.2 56 (3 * k) = H.2 56 (3 * k) from e0.2 0 (by omega), e0.2 1 (by omega), e0.2 2 (by omega), g1 y]
        exact c4 k (by omega)
      · subst y
        rw [j57, if_pos rfl, j56, if_pos (by omega), j56, if_pos (by omega), j56, if_pos (by omega), g2 rfl, show 3 * k - 3 * k = 0 by omega, show 3 * k + 1 - 3 * k = 1 by omega, show 3 * k + 2 - 3 * k = 2 by omega]
        exact hN
      · have e0 := sB k y (by omega)
        rw [j57, if_neg (by omega), j56, if_neg (by omega), j56, if_neg (by omega), j56, if_neg (by omega), e0.1, show H1.2 56 (3 * k) = H.2 56 (3 * (k - 1)) from e0.2 0 (by omega), e0.2 1 (by omega), e0.2 2 (by omega), g3 y]
        exact c4 (k - 1) (by omega)
    · simp at hk
      rw [sI_ne hk, sI_J, J55, i3, (sF 55 (by simp)).1]
      exact ⟨rfl, rfl⟩
  by_cases c : 0 < q
  · rw [if_pos (show (0 : Int32) < nI q from by rw [li0]; exact nI_lt c (by omega))]
    obtain ⟨q', rfl⟩ : ∃ q', q = q' + 1 := ⟨q - 1, by omega⟩
    obtain ⟨r, er, hr⟩ := compareWith_z hC0 hN (k := q') (by omega)
    have cz := cmp_z hr
    rw [nI_sub1, er, bnd_s]
    have hnl : ¬ ltp p L[q'] := hq3 c (by omega)
    by_cases d : r = 0
    · rw [if_pos d]
      have ep := cz.2.1.mp d
      refine ⟨H, L, rfl, hC0, fun x => ⟨fun h => Or.inl h, fun h => ?_⟩, by omega, Fr.rf, FrK.rf⟩
      rcases h with h | h
      · exact h
      · rw [h, ep]; exact List.getElem_mem _
    · rw [if_neg d]
      have lt2 : ltp L[q'] p := by
        rcases ltp_tri p L[q'] with y | y | y
        · exact absurd y hnl
        · exact absurd (cz.2.1.mpr y) d
        · exact y
      refine room (fun k hk hkq => ?_)
      rcases (show k < q' ∨ k = q' by omega) with y | rfl
      · exact ltp_tr (sorted_get c3 hk (by omega) y) lt2
      · exact lt2
  · have : q = 0 := by omega
    subst this
    rw [if_neg (by decide)]
    exact room (fun k hk h => by omega)
