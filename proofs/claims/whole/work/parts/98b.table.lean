/-! the model's table: setTable, swapsRows, clears -/
def Tb (h : Hp) (A : Nat → Nat → Int) (n : Nat) : Prop := h.1 66 29 = nI n ∧ n ≤ 4 ∧ ∀ v j, v < 3 → j < n → h.2 82 (10 * v + j) = i64 (A v j)
theorem ix10 (a k : Nat) : (10 : Int32) * nI a + nI k = nI (10 * a + k) := by
  rw [show (10 : Int32) = nI 10 from by decide, nI_mul, nI_add]
theorem Tb.cg {h h' : Hp} {A A' : Nat → Nat → Int} {n : Nat} (hT : Tb h A n) (e1 : h'.1 66 29 = h.1 66 29) (e2 : ∀ v j, v < 3 → j < n → h'.2 82 (10 * v + j) = h.2 82 (10 * v + j)) (e3 : ∀ v j, v < 3 → j < n → A' v j = A v j) : Tb h' A' n := ⟨by rw [e1]; exact hT.1, hT.2.1, fun v j hv hj => by rw [e2 v j hv hj, e3 v j hv hj]; exact hT.2.2 v j hv hj⟩
theorem swapsRows_z {h : Hp} {A : Nat → Nat → Int} {n a b : Nat} (hT : Tb h A n) (ha : a < 3) (hb : b < 3) : ∃ h', s_X10_swapsRows 66 (nI a) (nI b) h = some h' ∧ Tb h' (swp A a b) n ∧ Fr [82] h h' := by
  have hn := hT.2.1
  unfold s_X10_swapsRows
  obtain ⟨e, he, hp⟩ := iter_fuel (f := fun s : Int32 × Hp => s_X10_swapsRows_l2 66 (nI a) (nI b) s.1 s.2)
    (fun z => ∃ (k : Nat) (H : Hp), z = (nI k, H) ∧ k ≤ n ∧ Fr [82] h H ∧ ∀ v j, v < 3 → j < n → H.2 82 (10 * v + j) = i64 (if j < k then swp A a b v j else A v j))
    (fun z => 20 - z.1.toNatClampNeg)
    (fun e => Fr [82] h e ∧ ∀ v j, v < 3 → j < n → e.2 82 (10 * v + j) = i64 (swp A a b v j)) (by
    rintro z ⟨k, H, rfl, hk, hF, hA⟩
    dsimp only
    unfold s_X10_swapsRows_l2
    rw [(hF 66 (by simp)).1, hT.1]
    by_cases q : k < n
    · have r1 : H.2 82 (10 * a + k) = i64 (A a k) := by rw [hA a k ha q, if_neg (by omega)]
      have r2 : H.2 82 (10 * b + k) = i64 (A b k) := by rw [hA b k hb q, if_neg (by omega)]
      rw [if_pos (nI_lt q (by omega)), ix10, ix10, show (66 + 16 : Nat) = 82 from rfl, ldJ_n (by omega) (by omega), ldJ_n (by omega) (by omega), r1, r2, stJ_n (by omega) (by omega), stJ_n (by omega) (by omega), lt_red, nI_1]
      refine Or.inl ⟨_, rfl, ⟨k + 1, _, rfl, by omega, hF.tr ((Fr.sJ (by simp)).tr (Fr.sJ (by simp))), fun v j hv hj => ?_⟩, by rw [nI_clamp (by omega), nI_clamp (by omega)]; omega⟩
      by_cases c : j = k
      · subst c
        rw [if_pos (by omega)]
        unfold swp
        by_cases d : v = b
        · subst d
          rw [sJ_same]
          by_cases e : v = a
          · rw [if_pos e, e]
          · rw [if_neg e, if_pos rfl]
        · rw [sJ_ne (by omega)]
          by_cases e : v = a
          · subst e; rw [sJ_same, if_pos rfl]
          · rw [sJ_ne (by omega), if_neg e, if_neg d, hA v j hv hj, if_neg (by omega)]
      · rw [sJ_ne (by omega), sJ_ne (by omega), hA v j hv hj]
        by_cases d : j < k
        · rw [if_pos d, if_pos (by omega)]
        · rw [if_neg d, if_neg (by omega)]
    · rw [if_neg (nI_nlt (by omega) (by omega))]
      refine Or.inr ⟨_, rfl, hF, fun v j hv hj => ?_⟩
      rw [hA v j hv hj, if_pos (by omega)])
    (nI 0, h) ⟨0, h, rfl, by omega, Fr.rf, fun v j hv hj => by rw [if_neg (by omega)]; exact hT.2.2 v j hv hj⟩ (by dsimp only; rw [nI_clamp (by omega)]; omega)
  rw [li0, he, bnd_s]
  exact ⟨e, rfl, ⟨by rw [(hp.1 66 (by simp)).1]; exact hT.1, hn, hp.2⟩, hp.1⟩
theorem i64_0 {z : Int} (h1 : -4000000000000000000 ≤ z) (h2 : z ≤ 4000000000000000000) : i64 z = 0 ↔ z = 0 := by
  rw [eql_z, i64_z (by omega) (by omega), show (0 : Int64).toInt = 0 from by decide]
theorem clears_z {h : Hp} {A : Nat → Nat → Int} {n P j : Nat} (hT : Tb h A n) (hP : P < 3) (hj : j < n) (hb : ∀ v, v < 3 → -4000000000000000000 ≤ A v j ∧ A v j ≤ 4000000000000000000) : ∃ h', s_X10_clears 66 (nI P) (nI j) h = some h' ∧ Tb h' (clr A P j) n ∧ Fr [82] h h' := by
  have hn := hT.2.1
  unfold s_X10_clears
  obtain ⟨e, he, hp⟩ := iter_fuel (f := fun s : Int32 × Hp => s_X10_clears_l2 66 (nI P) (nI j) s.1 s.2)
    (fun z => ∃ (u : Nat) (H : Hp), z = (nI u, H) ∧ u ≤ 3 ∧ Fr [82] h H ∧ ∀ v k, v < 3 → k < n → H.2 82 (10 * v + k) = i64 (if v < u then clr A P j v k else A v k))
    (fun z => 20 - z.1.toNatClampNeg)
    (fun e => Fr [82] h e ∧ ∀ v k, v < 3 → k < n → e.2 82 (10 * v + k) = i64 (clr A P j v k)) (by
    rintro z ⟨u, H, rfl, hu, hF, hA⟩
    dsimp only
    unfold s_X10_clears_l2 s_X10_clears_b106
    by_cases q : u < 3
    · have mu : 20 - (nI (u + 1)).toNatClampNeg < 20 - (nI u).toNatClampNeg := by rw [nI_clamp (by omega), nI_clamp (by omega)]; omega
      have rP : ∀ k, k < n → H.2 82 (10 * P + k) = i64 (A P k) := fun k hk => by
        rw [hA P k hP hk]
        by_cases c : P < u
        · rw [if_pos c]; unfold clr; rw [if_neg (by simp)]
        · rw [if_neg c]
      have rU : ∀ k, k < n → H.2 82 (10 * u + k) = i64 (A u k) := fun k hk => by rw [hA u k q hk, if_neg (by omega)]
      rw [if_pos (nI_ltn q (by omega) (by decide)), ix10, show (66 + 16 : Nat) = 82 from rfl, ldJ_n (by omega) (by omega), rU j hj]
      have skip : (u = P ∨ A u j = 0) → ∀ v k, v < 3 → k < n → H.2 82 (10 * v + k) = i64 (if v < u + 1 then clr A P j v k else A v k) := fun hs v k hv hk => by
        rw [hA v k hv hk]
        by_cases c : v = u
        · subst c
          rw [if_neg (by omega), if_pos (by omega)]
          unfold clr
          rw [if_neg (by intro y; rcases hs with z | z; exact y.1 z; exact y.2 z)]
        · by_cases d : v < u
          · rw [if_pos d, if_pos (by omega)]
          · rw [if_neg d, if_neg (by omega)]
      by_cases c : u = P
      · rw [if_pos (by rw [c]), lt_red, nI_1]
        exact Or.inl ⟨_, rfl, ⟨u + 1, H, rfl, by omega, hF, skip (Or.inl c)⟩, mu⟩
      · rw [if_neg (by rw [nI_eq (by omega) (by omega)]; exact c)]
        by_cases d : A u j = 0
        · rw [if_pos ((i64_0 (hb u q).1 (hb u q).2).mpr d), lt_red, nI_1]
          exact Or.inl ⟨_, rfl, ⟨u + 1, H, rfl, by omega, hF, skip (Or.inr d)⟩, mu⟩
        · rw [if_neg (fun y => d ((i64_0 (hb u q).1 (hb u q).2).mp y)), ix10, ldJ_n (by omega) (by omega), rP j hj]
          obtain ⟨e, he, hp⟩ := iter_fuel (f := fun s : Int32 × Hp => s_X10_clears_l48 66 (nI P) (nI j) (nI u) (i64 (A u j)) (i64 (A P j)) s.1 s.2)
            (fun z => ∃ (k : Nat) (G : Hp), z = (nI k, G) ∧ k ≤ n ∧ Fr [82] h G ∧ ∀ v l, v < 3 → l < n → G.2 82 (10 * v + l) = i64 (if v = u ∧ l < k then A u l * A P j - A P l * A u j else if v < u then clr A P j v l else A v l))
            (fun z => 20 - z.1.toNatClampNeg)
            (fun e => Fr [82] h e ∧ ∀ v l, v < 3 → l < n → e.2 82 (10 * v + l) = i64 (if v = u then A u l * A P j - A P l * A u j else if v < u then clr A P j v l else A v l)) (by
            rintro z ⟨k, G, rfl, hk, hG, hGA⟩
            dsimp only
            unfold s_X10_clears_l48
            rw [(hG 66 (by simp)).1, hT.1]
            by_cases y : k < n
            · have g1 : G.2 82 (10 * u + k) = i64 (A u k) := by rw [hGA u k q y, if_neg (by omega), if_neg (by omega)]
              have g2 : G.2 82 (10 * P + k) = i64 (A P k) := by
                rw [hGA P k hP y, if_neg (by omega)]
                by_cases w : P < u
                · rw [if_pos w]; unfold clr; rw [if_neg (by simp)]
                · rw [if_neg w]
              rw [if_pos (nI_lt y (by omega)), ix10, ix10, show (66 + 16 : Nat) = 82 from rfl, ldJ_n (by omega) (by omega), ldJ_n (by omega) (by omega), stJ_n (by omega) (by omega), lt_red, nI_1, g1, g2, i64_mul, i64_mul, i64_sub]
              refine Or.inl ⟨_, rfl, ⟨k + 1, _, rfl, by omega, hG.tr (Fr.sJ (by simp)), fun v l hv hl => ?_⟩, by rw [nI_clamp (by omega), nI_clamp (by omega)]; omega⟩
              by_cases w : v = u ∧ l = k
              · obtain ⟨rfl, rfl⟩ := w
                rw [sJ_same, if_pos ⟨rfl, by omega⟩]
              · rw [sJ_ne (by omega), hGA v l hv hl]
                by_cases w2 : v = u ∧ l < k
                · rw [if_pos w2, if_pos ⟨w2.1, by omega⟩]
                · rw [if_neg w2, if_neg (show ¬ (v = u ∧ l < k + 1) by omega)]
            · rw [if_neg (nI_nlt (by omega) (by omega))]
              refine Or.inr ⟨_, rfl, hG, fun v l hv hl => ?_⟩
              rw [hGA v l hv hl]
              by_cases w : v = u
              · rw [if_pos ⟨w, by omega⟩, if_pos w]
              · rw [if_neg (by omega), if_neg w])
            (nI 0, H) ⟨0, H, rfl, by omega, hF, fun v l hv hl => by rw [if_neg (by omega)]; exact hA v l hv hl⟩ (by dsimp only; rw [nI_clamp (by omega)]; omega)
          rw [li0, he, bnd_s, lt_red, nI_1]
          refine Or.inl ⟨_, rfl, ⟨u + 1, e, rfl, by omega, hp.1, fun v k hv hk => ?_⟩, mu⟩
          rw [hp.2 v k hv hk]
          by_cases w : v = u
          · subst w
            rw [if_pos rfl, if_pos (by omega)]
            unfold clr
            rw [if_pos ⟨c, d⟩]
          · rw [if_neg w]
            by_cases w2 : v < u
            · rw [if_pos w2, if_pos (by omega)]
            · rw [if_neg w2, if_neg (by omega)]
    · have : u = 3 := by omega
      subst this
      rw [if_neg (nI_nltn (by decide))]
      refine Or.inr ⟨_, rfl, hF, fun v k hv hk => ?_⟩
      rw [hA v k hv hk, if_pos hv])
    (nI 0, h) ⟨0, h, rfl, by omega, Fr.rf, fun v k hv hk => by rw [if_neg (by omega)]; exact hT.2.2 v k hv hk⟩ (by dsimp only; rw [nI_clamp (by omega)]; omega)
  rw [li0, he, bnd_s]
  exact ⟨e, rfl, ⟨by rw [(hp.1 66 (by simp)).1]; exact hT.1, hn, hp.2⟩, hp.1⟩
theorem mturn_z {h : Hp} {nq m k : Nat} (hM : MB h 66 nq m) (hk : k < m) : s_X10_turn 66 (nI k) h = some (tI (mS h 66 k)) := by
  have hm := hM.2.1
  obtain ⟨-, ⟨w3, w4⟩, -⟩ := hM.2.2.2 k hk
  unfold s_X10_turn
  have w3' : h.1 68 (3 * k + 1) = nI (mS h 66 k) := w3
  rw [show (3 : Int32) * nI k = nI (3 * k) from by rw [li3, nI_mul], show nI (3 * k) + 1 = nI (3 * k + 1) from nI_1 _, show (66 + 2 : Nat) = 68 from rfl, ldI_n (by omega) (by omega), w3']
  rcases (show mS h 66 k = 0 ∨ mS h 66 k = 1 ∨ mS h 66 k = 2 ∨ mS h 66 k = 3 ∨ mS h 66 k = 4 by omega) with e | e | e | e | e <;> rw [e] <;> rfl
theorem bl_getD_app (b k : Nat) {c : Nat} (hc : c < (bl b k).length) : (bl b (k + 1)).getD c 0 = (bl b k).getD c 0 := by
  rw [bl_succ, List.getD_eq_getElem?_getD, List.getD_eq_getElem?_getD, List.getElem?_append_left hc]
theorem bl_getD_new {b k : Nat} (hb : b.testBit k = true) : (bl b (k + 1)).getD (bl b k).length 0 = k := by
  rw [bl_succ, if_pos hb, List.getD_eq_getElem?_getD, List.getElem?_append_right (Nat.le_refl _), Nat.sub_self]; rfl
theorem bl_mono_len (b : Nat) {k m : Nat} (h : k ≤ m) : (bl b k).length ≤ (bl b m).length := by
  induction m with
  | zero => rw [show k = 0 by omega]; exact Nat.le_refl _
  | succ m ih =>
    rcases (show k ≤ m ∨ k = m + 1 by omega) with q | rfl
    · have := ih q
      rw [bl_succ, List.length_append]; omega
    · exact Nat.le_refl _
set_option maxHeartbeats 1000000 in
theorem setTable_z {h : Hp} {nq m b : Nat} (hM : MB h 66 nq m) (hb : b < 2 ^ m) (h4 : (bl b m).length ≤ 4) : ∃ h', s_X10_setTable 66 (nI b) h = some h' ∧ Fr [66, 81, 82] h h' ∧ FrK 66 [29] h h' ∧ (∀ c, c < (bl b m).length → h'.1 81 c = nI ((bl b m).getD c 0)) ∧ Tb h' (fun v c => tz (mS h 66 ((bl b m).getD c 0)) * fF h ((bl b m).getD c 0) v) (bl b m).length := by
  have hm := hM.2.1
  unfold s_X10_setTable
  rw [lt_red]
  have hF0 : Fr [66, 81, 82] h (sI h 66 29 0) := Fr.sI (by simp)
  have hK0 : FrK 66 [29] h (sI h 66 29 0) := fun k hk => ⟨sI_ne (by simpa using hk), rfl⟩
  have hmb : ∀ H : Hp, Fr [66, 81, 82] h H → FrK 66 [29] h H → MB H 66 nq m ∧ mG H 66 = mG h 66 ∧ mS H 66 = mS h 66 ∧ mD H 66 = mD h 66 ∧ mK H 66 = mK h 66 := fun H f k => hM.fr f k (by simp) (by simp) (by simp)
  obtain ⟨e, he, hp⟩ := iter_fuel (f := fun s : Int32 × Hp => s_X10_setTable_l7 66 (nI b) s.1 s.2)
    (fun z => ∃ (k : Nat) (H : Hp), z = (nI k, H) ∧ k ≤ m ∧ Fr [66, 81, 82] h H ∧ FrK 66 [29] h H ∧ H.1 66 29 = nI (bl b k).length ∧ (∀ c, c < (bl b k).length → H.1 81 c = nI ((bl b k).getD c 0)) ∧ ∀ v c, v < 3 → c < (bl b k).length → H.2 82 (10 * v + c) = i64 (tz (mS h 66 ((bl b k).getD c 0)) * fF h ((bl b k).getD c 0) v))
    (fun z => 20 - z.1.toNatClampNeg)
    (fun H => Fr [66, 81, 82] h H ∧ FrK 66 [29] h H ∧ H.1 66 29 = nI (bl b m).length ∧ (∀ c, c < (bl b m).length → H.1 81 c = nI ((bl b m).getD c 0)) ∧ ∀ v c, v < 3 → c < (bl b m).length → H.2 82 (10 * v + c) = i64 (tz (mS h 66 ((bl b m).getD c 0)) * fF h ((bl b m).getD c 0) v)) (by
    rintro z ⟨k, H, rfl, hk, hF, hK, h29, h81, h82⟩
    dsimp only
    unfold s_X10_setTable_l7 s_X10_setTable_b84
    have hMH := hmb H hF hK
    rw [hMH.1.1]
    by_cases q : k < m
    · have mu : 20 - (nI (k + 1)).toNatClampNeg < 20 - (nI k).toNatClampNeg := by rw [nI_clamp (by omega), nI_clamp (by omega)]; omega
      have hl1 := bl_mono_len b (show k + 1 ≤ m by omega)
      have hl0 : (bl b k).length ≤ (bl b (k + 1)).length := bl_mono_len b (by omega)
      rw [if_pos (nI_lt q (by omega)), sh1 _ (by omega), bt_nI _ _ (by omega)]
      cases hb2 : b.testBit k
      · rw [if_neg (by decide), lt_red, nI_1]
        have e1 : bl b (k + 1) = bl b k := by rw [bl_succ, hb2]; simp
        exact Or.inl ⟨_, rfl, ⟨k + 1, H, rfl, by omega, hF, hK, by rw [e1]; exact h29, by rw [e1]; exact h81, by rw [e1]; exact h82⟩, mu⟩
      · have e1 : (bl b (k + 1)).length = (bl b k).length + 1 := by rw [bl_succ, hb2]; simp
        have hnew := bl_getD_new hb2
        rw [if_pos (by decide), show (66 + 15 : Nat) = 81 from rfl, h29, stI_n (by omega) (by omega)]
        generalize gH2 : sI H 81 (bl b k).length (nI k) = H2
        have F2 : Fr [66, 81, 82] h H2 := hF.tr (by rw [← gH2]; exact Fr.sI (by simp))
        have K2 : FrK 66 [29] h H2 := hK.tr (by rw [← gH2]; exact fun k hk => ⟨by rw [sI_cell (by omega)], rfl⟩)
        have h29b : H2.1 66 29 = nI (bl b k).length := by rw [← gH2, sI_cell (by omega)]; exact h29
        have h82b : H2.2 82 = H.2 82 := by rw [← gH2]; rfl
        obtain ⟨e, he, hp⟩ := iter_fuel (f := fun s : Int32 × Hp => s_X10_setTable_l36 66 (nI b) (nI k) s.1 s.2)
          (fun z => ∃ (u : Nat) (G : Hp), z = (nI u, G) ∧ u ≤ 3 ∧ Fr [82] H2 G ∧ ∀ v c, v < 3 → c < 10 → G.2 82 (10 * v + c) = if v < u ∧ c = (bl b k).length then i64 (tz (mS h 66 k) * fF h k v) else H.2 82 (10 * v + c))
          (fun z => 20 - z.1.toNatClampNeg)
          (fun G => Fr [82] H2 G ∧ ∀ v c, v < 3 → c < 10 → G.2 82 (10 * v + c) = if c = (bl b k).length then i64 (tz (mS h 66 k) * fF h k v) else H.2 82 (10 * v + c)) (by
          rintro z ⟨u, G, rfl, hu, hG, hGA⟩
          dsimp only
          unfold s_X10_setTable_l36
          by_cases y : u < 3
          · have FG : Fr [66, 81, 82] h G := F2.tr (hG.wid (by simp))
            have KG : FrK 66 [29] h G := K2.tr (FrK.of hG (by simp))
            have hMG := hmb G FG KG
            have e29 : G.1 66 29 = nI (bl b k).length := by rw [(hG 66 (by simp)).1]; exact h29b
            have ec : fF G k u = fF h k u := by
              show mK G 66 (mG G 66 k) u = mK h 66 (mG h 66 k) u
              rw [hMG.2.1, hMG.2.2.2.2]
            have bd : -3 ≤ fF h k u ∧ fF h k u ≤ 3 := hM.2.2.1 _ u (hM.2.2.2 k q).1.2 y
            have ev : (tI (mS h 66 k) * i32 (fF h k u)).toInt64 = i64 (tz (mS h 66 k) * fF h k u) := by
              apply eql_z.mpr
              rw [tl_z, mul3_z (B := 3) bd (by omega), i64_z (by have := tz_bd (s := mS h 66 k) bd; omega) (by have := tz_bd (s := mS h 66 k) bd; omega)]
            rw [if_pos (nI_ltn y (by omega) (by decide)), mturn_z hMG.1 q, hMG.2.2.1, bnd_s, coef_i hMG.1 q y, ec, bnd_s, e29, ix10, show (66 + 16 : Nat) = 82 from rfl, stJ_n (by omega) (by omega), lt_red, nI_1, ev]
            refine Or.inl ⟨_, rfl, ⟨u + 1, _, rfl, by omega, hG.tr (Fr.sJ (by simp)), fun v c hv hc => ?_⟩, by rw [nI_clamp (by omega), nI_clamp (by omega)]; omega⟩
            by_cases w : v = u ∧ c = (bl b k).length
            · obtain ⟨rfl, rfl⟩ := w
              rw [sJ_same, if_pos ⟨by omega, rfl⟩]
            · rw [sJ_ne (by omega), hGA v c hv hc]
              by_cases w2 : v < u ∧ c = (bl b k).length
              · rw [if_pos w2, if_pos ⟨by omega, w2.2⟩]
              · rw [if_neg w2, if_neg (by omega)]
          · have : u = 3 := by omega
            subst this
            rw [if_neg (nI_nltn (by decide))]
            refine Or.inr ⟨_, rfl, hG, fun v c hv hc => ?_⟩
            rw [hGA v c hv hc]
            by_cases w : c = (bl b k).length
            · rw [if_pos ⟨hv, w⟩, if_pos w]
            · rw [if_neg (by omega), if_neg w])
          (nI 0, H2) ⟨0, H2, rfl, by omega, Fr.rf, fun v c hv hc => by rw [if_neg (by omega), h82b]⟩ (by dsimp only; rw [nI_clamp (by omega)]; omega)
        obtain ⟨hG, hGA⟩ := hp
        have e29 : e.1 66 29 = nI (bl b k).length := by rw [(hG 66 (by simp)).1]; exact h29b
        rw [li0, he, bnd_s, lt_red, lt_red, e29, nI_1, nI_1]
        have FG : Fr [66, 81, 82] h e := F2.tr (hG.wid (by simp))
        have KG : FrK 66 [29] h e := K2.tr (FrK.of hG (by simp))
        refine Or.inl ⟨_, rfl, ⟨k + 1, _, rfl, by omega, FG.tr (Fr.sI (by simp)), KG.tr (fun j hj => ⟨sI_ne (by simpa using hj), rfl⟩), by rw [sI_same, e1], fun c hc => ?_, fun v c hv hc => ?_⟩, mu⟩
        · rw [sI_cell (by omega), (hG 81 (by simp)).1, ← gH2]
          by_cases w : c = (bl b k).length
          · subst w; rw [sI_same, hnew]
          · rw [sI_ne w, h81 c (by omega), bl_getD_app b k (by omega)]
        · rw [sI_J, hGA v c hv (by omega)]
          by_cases w : c = (bl b k).length
          · rw [if_pos w, w, hnew]
          · rw [if_neg w, h82 v c hv (by omega), bl_getD_app b k (by omega)]
    · rw [if_neg (nI_nlt (by omega) (by omega))]
      have : k = m := by omega
      subst this
      exact Or.inr ⟨_, rfl, hF, hK, h29, h81, h82⟩)
    (nI 0, sI h 66 29 0) ⟨0, _, rfl, by omega, hF0, hK0, by rw [sI_same]; rfl, fun c hc => by simp [bl] at hc, fun v c hv hc => by simp [bl] at hc⟩ (by dsimp only; rw [nI_clamp (by omega)]; omega)
  obtain ⟨a1, a2, a3, a4, a5⟩ := hp
  rw [show ((0 : Int32), sI h 66 29 0) = (nI 0, sI h 66 29 0) from by rw [show nI 0 = (0 : Int32) from by decide], he, bnd_s]
  exact ⟨e, rfl, a1, a2, a4, a3, h4, a5⟩
