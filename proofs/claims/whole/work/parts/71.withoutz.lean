/-! withoutZ: the flat list is elim 2 of the rows -/
def RB (A D : Int) (r : Rw) : Prop := (∀ v, v < 3 → -A ≤ r.1 v ∧ r.1 v ≤ A) ∧ -D ≤ r.2.1 ∧ r.2.1 ≤ D
theorem cmb_l {x y a b : Int64} {A B : Int} (hAB : A * B ≤ 4000000000000000000) (hA : A ≤ 4000000000000000000) (hx : -A ≤ x.toInt ∧ x.toInt ≤ A) (hy : -A ≤ y.toInt ∧ y.toInt ≤ A) (ha : -B ≤ a.toInt ∧ a.toInt ≤ B) (hb : -B ≤ b.toInt ∧ b.toInt ≤ B) : ((-x) * a + y * b).toInt = (- x.toInt) * a.toInt + y.toInt * b.toInt := by
  have n1 : (-x).toInt = - x.toInt := negl_z (by omega)
  have m1 := mulb (A := A) (B := B) (a := - x.toInt) (b := a.toInt) (by omega) (by omega) (by omega) (by omega)
  have m2 := mulb (A := A) (B := B) (a := y.toInt) (b := b.toInt) (by omega) (by omega) (by omega) (by omega)
  have z1 : ((-x) * a).toInt = (- x.toInt) * a.toInt := by rw [mull_z (by rw [n1]; omega) (by rw [n1]; omega), n1]
  have z2 : (y * b).toInt = y.toInt * b.toInt := mull_z (by omega) (by omega)
  rw [addl_z (by rw [z1, z2]; omega) (by rw [z1, z2]; omega), z1, z2]
theorem take_flt {L : List Rw} {v j : Nat} (hj : j < L.length) : ngs v (L.take (j + 1)) = ngs v (L.take j) ++ (if L[j].1 v < 0 then [L[j]] else []) := by
  unfold ngs
  rw [List.take_succ_eq_append_getElem hj, List.filter_append]
  by_cases q : L[j].1 v < 0 <;> simp [q]
theorem take_ngs_len (v j : Nat) (L : List Rw) : (ngs v (L.take j)).length ≤ (ngs v L).length := by
  unfold ngs
  exact ((List.take_sublist j L).filter _).length_le
theorem withoutZ_z {h : Hp} {C : Nat} {L : List Rw} {A B : Int} (hL : RowL h C L) (hAB : A * B ≤ 4000000000000000000) (hAA : A * A ≤ 4000000000000000000) (hA : A ≤ 4000000000000000000) (hb : ∀ r ∈ L, RB A B r) : ∃ h', s_X10_withoutZ C h = some h' ∧ Fr [C, C + 11, C + 12, C + 13, C + 14] h h' ∧ FrK C [15] h h' ∧ FlatL h' C (elim 2 L) := by
  have h20 := hL.2.1
  unfold s_X10_withoutZ
  rw [lt_red]
  generalize gS : [C, C + 11, C + 12, C + 13, C + 14] = S
  have hrow : ∀ H : Hp, Fr S h H → FrK C [15] h H → RowL H C L := fun H f k => hL.fr f k (by simp) (by subst gS; simp) (by subst gS; simp) (by subst gS; simp) (by subst gS; simp) (by subst gS; simp)
  have hbd : ∀ i (hi : i < L.length), RB A B L[i] := fun i hi => hb _ (List.getElem_mem hi)
  obtain ⟨e, he, hp⟩ := iter_fuel (f := fun s : Int32 × Hp => s_X10_withoutZ_l7 C s.1 s.2)
    (fun z => ∃ (i : Nat) (H : Hp), z = (nI i, H) ∧ i ≤ L.length ∧ Fr S h H ∧ FrK C [15] h H ∧ FlatL H C ((L.take i).flatMap (gel 2 L)))
    (fun z => L.length - z.1.toNatClampNeg)
    (fun e => Fr S h e ∧ FrK C [15] h e ∧ FlatL e C (elim 2 L)) (by
    rintro z ⟨i, H, rfl, hi, hF, hK, hfl⟩
    dsimp only
    unfold s_X10_withoutZ_l7
    have hR := hrow H hF hK
    rw [hR.1]
    by_cases q : i < L.length
    · obtain ⟨x0, x1, x2, xd, xs⟩ := hR.2.2 i q
      have h100 := gel_100 (v := 2) h20 q
      have bi := hbd i q
      have mu : L.length - (nI (i + 1)).toNatClampNeg < L.length - (nI i).toNatClampNeg := by
        rw [nI_clamp (by omega), nI_clamp (by omega)]; omega
      -- the inner loop
      have inner : ∀ (H1 : Hp) (P : List Rw), Fr S h H1 → FrK C [15] h H1 → FlatL H1 C P → P.length + (if 0 < L[i].1 2 then (ngs 2 L).length else 0) ≤ 100 → ∃ H2, s_X10_withoutZ_b54 C (nI i) H1 = some (.inl (nI (i + 1), H2)) ∧ Fr S h H2 ∧ FrK C [15] h H2 ∧ FlatL H2 C (P ++ (if 0 < L[i].1 2 then (ngs 2 L).map (cmb 2 L[i]) else [])) := by
        intro H1 P f1 k1 fl1 hlen
        unfold s_X10_withoutZ_b54
        obtain ⟨e, he, hp⟩ := iter_fuel (f := fun s : Int32 × Hp => s_X10_withoutZ_l56 C (nI i) s.1 s.2)
          (fun z => ∃ (j : Nat) (H : Hp), z = (nI j, H) ∧ j ≤ L.length ∧ Fr S h H ∧ FrK C [15] h H ∧ FlatL H C (P ++ (if 0 < L[i].1 2 then (ngs 2 (L.take j)).map (cmb 2 L[i]) else [])))
          (fun z => L.length - z.1.toNatClampNeg)
          (fun e => Fr S h e ∧ FrK C [15] h e ∧ FlatL e C (P ++ (if 0 < L[i].1 2 then (ngs 2 L).map (cmb 2 L[i]) else []))) (by
          rintro z ⟨j, H, rfl, hj, hF, hK, hfl⟩
          dsimp only
          unfold s_X10_withoutZ_l56 s_X10_withoutZ_b173
          have hR := hrow H hF hK
          rw [hR.1]
          by_cases w : j < L.length
          · obtain ⟨x0, x1, x2, xd, xs⟩ := hR.2.2 i q
            obtain ⟨y0, y1, y2, yd, ys⟩ := hR.2.2 j w
            have bj := hbd j w
            have mu : L.length - (nI (j + 1)).toNatClampNeg < L.length - (nI j).toNatClampNeg := by
              rw [nI_clamp (by omega), nI_clamp (by omega)]; omega
            rw [if_pos (nI_lt w (by omega)), ldJ_n (by omega) (by omega)]
            by_cases c : 0 < L[i].1 2
            · rw [if_pos (ltl_z.mpr (by rw [x2]; exact c)), ldJ_n (by omega) (by omega)]
              rw [if_pos c] at hfl hlen
              have htk := take_flt (v := 2) w
              by_cases d : L[j].1 2 < 0
              · rw [if_pos (ltl_z.mpr (by rw [y2]; exact d)), ldJ_n (by omega) (by omega), lt_red, ldJ_n (by omega) (by omega), ldJ_n (by omega) (by omega), ldJ_n (by omega) (by omega), ldJ_n (by omega) (by omega), ldJ_n (by omega) (by omega), ldJ_n (by omega) (by omega), ldJ_n (by omega) (by omega), ldI_n (by omega) (by omega), ldI_n (by omega) (by omega), xs, ys, bI_or]
                rw [if_pos d] at htk
                have hl1 : (ngs 2 (L.take (j + 1))).length = (ngs 2 (L.take j)).length + 1 := by rw [htk]; simp
                have hl2 := take_ngs_len 2 (j + 1) L
                obtain ⟨H2, e2, f2, k2, fl2⟩ := comesFlat_z (r := cmb 2 L[i] L[j]) hfl (by rw [List.length_append, List.length_map]; omega)
                  (a := -H.2 (C + 8) j * H.2 (C + 6) i + H.2 (C + 8) i * H.2 (C + 6) j)
                  (b := -H.2 (C + 8) j * H.2 (C + 7) i + H.2 (C + 8) i * H.2 (C + 7) j)
                  (d := -H.2 (C + 8) j * H.2 (C + 9) i + H.2 (C + 8) i * H.2 (C + 9) j)
                  (by rw [cmb_l hAA hA (by rw [y2]; exact bj.1 2 (by omega)) (by rw [x2]; exact bi.1 2 (by omega)) (by rw [x0]; exact bi.1 0 (by omega)) (by rw [y0]; exact bj.1 0 (by omega)), x0, x2, y0, y2]; rfl)
                  (by rw [cmb_l hAA hA (by rw [y2]; exact bj.1 2 (by omega)) (by rw [x2]; exact bi.1 2 (by omega)) (by rw [x1]; exact bi.1 1 (by omega)) (by rw [y1]; exact bj.1 1 (by omega)), x1, x2, y1, y2]; rfl)
                  (by rw [cmb_l hAB hA (by rw [y2]; exact bj.1 2 (by omega)) (by rw [x2]; exact bi.1 2 (by omega)) (by rw [xd]; exact bi.2) (by rw [yd]; exact bj.2), xd, x2, yd, y2]; rfl)
                  (s := bI (L[i].2.2 || L[j].2.2)) rfl
                rw [e2, bnd_s, lt_red, nI_1]
                refine Or.inl ⟨_, rfl, ⟨j + 1, H2, rfl, by omega, hF.tr (by rw [← gS]; exact f2), hK.tr k2, ?_⟩, mu⟩
                rw [if_pos c, htk, List.map_append, ← List.append_assoc]
                exact fl2
              · rw [if_neg (fun z => d (by have := ltl_z.mp z; rw [y2] at this; exact this)), lt_red, nI_1]
                rw [if_neg d, List.append_nil] at htk
                refine Or.inl ⟨_, rfl, ⟨j + 1, H, rfl, by omega, hF, hK, ?_⟩, mu⟩
                rw [if_pos c, htk]
                exact hfl
            · rw [if_neg (fun z => c (by have := ltl_z.mp z; rw [x2] at this; exact this))]
              rw [if_neg c] at hfl
              exact Or.inr ⟨_, rfl, hF, hK, by rw [if_neg c]; exact hfl⟩
          · rw [if_neg (nI_nlt (by omega) (by omega))]
            have : j = L.length := by omega
            subst this
            rw [List.take_length] at hfl
            exact Or.inr ⟨_, rfl, hF, hK, hfl⟩)
          (nI 0, H1) ⟨0, H1, rfl, by omega, f1, k1, by simpa [ngs] using fl1⟩ (by dsimp only; rw [nI_clamp (by omega)]; omega)
        rw [li0, he, bnd_s, lt_red, nI_1]
        exact ⟨e, rfl, hp⟩
      have hnext : (L.take (i + 1)).flatMap (gel 2 L) = (L.take i).flatMap (gel 2 L) ++ gel 2 L L[i] := by
        rw [List.take_succ_eq_append_getElem q, List.flatMap_append]; simp
      have hgl : (gel 2 L L[i]).length = (if L[i].1 2 = 0 then 1 else 0) + (if 0 < L[i].1 2 then (ngs 2 L).length else 0) := by
        unfold gel
        rw [List.length_append]
        by_cases a : L[i].1 2 = 0 <;> by_cases b : 0 < L[i].1 2 <;> simp [a, b]
      rw [if_pos (nI_lt q (by omega)), ldJ_n (by omega) (by omega)]
      by_cases c : L[i].1 2 = 0
      · rw [if_pos (eql_z.mpr (by rw [x2]; exact c)), ldJ_n (by omega) (by omega), ldJ_n (by omega) (by omega), ldJ_n (by omega) (by omega), ldI_n (by omega) (by omega)]
        rw [if_pos c] at hgl
        obtain ⟨H2, e2, f2, k2, fl2⟩ := comesFlat_z (r := L[i]) hfl (by omega) x0 x1 xd xs
        obtain ⟨H3, e3, f3, k3, fl3⟩ := inner H2 _ (hF.tr (by rw [← gS]; exact f2)) (hK.tr k2) fl2 (by rw [List.length_append]; simp only [List.length_singleton]; omega)
        rw [e2, bnd_s, e3]
        refine Or.inl ⟨_, rfl, ⟨i + 1, H3, rfl, by omega, f3, k3, ?_⟩, mu⟩
        rw [hnext]
        unfold gel
        rw [if_pos c, ← List.append_assoc]
        exact fl3
      · rw [if_neg (fun z => c (by have := eql_z.mp z; rw [x2] at this; exact this))]
        rw [if_neg c] at hgl
        obtain ⟨H3, e3, f3, k3, fl3⟩ := inner H _ hF hK hfl (by omega)
        rw [e3]
        refine Or.inl ⟨_, rfl, ⟨i + 1, H3, rfl, by omega, f3, k3, ?_⟩, mu⟩
        rw [hnext]
        unfold gel
        rw [if_neg c, List.nil_append]
        exact fl3
    · rw [if_neg (nI_nlt (by omega) (by omega))]
      have : i = L.length := by omega
      subst this
      rw [List.take_length] at hfl
      exact Or.inr ⟨_, rfl, hF, hK, hfl⟩)
    (nI 0, sI h C 15 0) ⟨0, _, rfl, by omega, Fr.sI (by subst gS; simp), fun k hk => ⟨sI_ne (by simpa using hk), by rw [sI_J]⟩, ⟨by rw [sI_same]; rfl, by simp, fun i hi => by simp at hi⟩⟩ (by dsimp only; rw [nI_clamp (by omega)]; omega)
  rw [li0] at he ⊢
  rw [he, bnd_s]
  exact ⟨e, rfl, hp⟩
