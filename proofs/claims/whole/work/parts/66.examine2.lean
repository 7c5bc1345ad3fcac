theorem list2 {T : List Nat} (h : T.length = 2) : ∃ i j, T = [i, j] := by
  match T, h with
  | [i, j], _ => exact ⟨i, j, rfl⟩
theorem list3 {T : List Nat} (h : T.length = 3) : ∃ i j k, T = [i, j, k] := by
  match T, h with
  | [i, j, k], _ => exact ⟨i, j, k, rfl⟩
theorem list4 {T : List Nat} (h : T.length = 4) : ∃ i j k l, T = [i, j, k, l] := by
  match T, h with
  | [i, j, k, l], _ => exact ⟨i, j, k, l, rfl⟩
/-- behind a dependence: turn, and the answer -/
theorem afterDep {h H h1 : Hp} {C N : Nat} {D : Int} {T : List Nat} (hW : RowsWF h (C + 1) N D) (hD0 : 0 ≤ D) (hD : D ≤ 1000000000000) (hTN : ∀ i ∈ T, i < N) (hT4 : T.length ≤ 4) (hH : Fr [C, C + 6] h H) (hm : H.1 C 3 = nI T.length) (hM : ∀ p, p < T.length → H.1 (C + 6) p = nI (T.getD p 0)) (h1F : Fr [C + 7] H h1) {r1 : Int32} (hd : (∃ f, fac (rF h (C + 1)) T = some f ∧ r1 = 1 ∧ ∀ p, p < T.length → h1.1 (C + 7) p = i32 (f (T.getD p 0))) ∨ (fac (rF h (C + 1)) T = none ∧ r1 = 0)) :
    ∃ r h', (if r1 = 0 then some ((0 : Int32), h1) else ((s_X0_turn C h1).bind fun y => if y.1 = 0 then some ((0 : Int32), y.2) else some ((1 : Int32), y.2))) = some (r, h') ∧ Fr [C, C + 6, C + 7] h h' ∧ ExPost (rY h (C + 1)) C T r h' := by
  have hF1 : Fr [C, C + 6, C + 7] h h1 := (hH.wid (by simp; try omega)).tr (h1F.wid (by simp))
  rcases hd with ⟨f, hf, rfl, hfac⟩ | ⟨hf, rfl⟩
  · have hbd := fac_bd hW.2.2.1 hTN hf
    have hW1 : RowsWF h1 (C + 1) N D := hW.fr hF1 (by simp; try omega) (by simp; try omega) (by simp; try omega) (by simp; try omega) (by simp; try omega)
    have hY1 : rY h1 (C + 1) = rY h (C + 1) := rY_fr hF1 (by simp; try omega) (by simp; try omega) (by simp; try omega) (by simp; try omega)
    have htN : ∀ p, p < T.length → T.getD p 0 < N := fun p hp => by
      rw [List.getD_eq_getElem?_getD, List.getElem?_eq_getElem hp]
      exact hTN _ (List.getElem_mem hp)
    obtain ⟨r, h', e1, gF, g3, gr⟩ := turn_z hW1 hD0 hD (m := T.length) (by rw [(h1F C (by simp)).1]; exact hm) hT4 (fun p => T.getD p 0) htN (fun p hp => by rw [(h1F (C + 6) (by simp)).1]; exact hM p hp) f (fun p _ => hbd _) hfac
    rw [tl_getD, hY1] at gr
    rw [if_neg (by decide), e1]
    have gFF : Fr [C, C + 6, C + 7] h h' := hF1.tr (gF.wid (by simp))
    have hcirc : circ (rY h (C + 1)) T = trn (rY h (C + 1)) T f := by
      unfold circ
      rw [show fac (rY h (C + 1)).1 T = some f from hf]; rfl
    rcases gr with ⟨g, g1, rfl, g2, g4, g5, g6⟩ | ⟨g1, rfl⟩
    · refine ⟨1, h', by rfl, gFF, Or.inl ⟨g, by rw [hcirc]; exact g1, rfl, g3, fun p hp => ⟨?_, g2 p hp⟩, g4, g5, fun i hi => ?_⟩⟩
      · rw [(gF (C + 6) (by simp)).1, (h1F (C + 6) (by simp)).1]; exact hM p hp
      · obtain ⟨p, hp, rfl⟩ := List.getElem_of_mem hi
        have := g6 p hp
        rw [List.getD_eq_getElem?_getD, List.getElem?_eq_getElem hp] at this
        have hb := hbd T[p]
        have this : g T[p] = f T[p] ∨ g T[p] = - f T[p] := this
        omega
    · exact ⟨0, h', by rfl, gFF, Or.inr ⟨by rw [hcirc]; exact g1, rfl⟩⟩
  · rw [if_pos rfl]
    exact ⟨0, h1, rfl, hF1, Or.inr ⟨by unfold circ; rw [show fac (rY h (C + 1)).1 T = none from hf]; rfl, rfl⟩⟩
theorem examine_z {h : Hp} {C N b : Nat} {D : Int} (hW : RowsWF h (C + 1) N D) (hD0 : 0 ≤ D) (hD : D ≤ 1000000000000) (hb : b < 2 ^ N) : ∃ r h', s_X0_examine C (nI b) h = some (r, h') ∧ Fr [C, C + 6, C + 7] h h' ∧ ExPost (rY h (C + 1)) C (bl b N) r h' := by
  have hN := hW.1
  have h12 := hW.2.1
  have hb12 : b < 4096 := Nat.lt_of_lt_of_le hb (Nat.pow_le_pow_right (by omega) h12 : 2 ^ N ≤ 2 ^ 12)
  have hbl : bl b 12 = bl b N := by
    have := bl_big hb (12 - N)
    rwa [show N + (12 - N) = 12 by omega] at this
  have hno : ¬ ((bl b N).length = 2 ∨ (bl b N).length = 3 ∨ (bl b N).length = 4) → circ (rY h (C + 1)) (bl b N) = none := fun q => by
    unfold circ; rw [fac_len q]; rfl
  have hlen : (bl b N).length ≤ 12 := by
    have := List.length_filter_le (fun i => b.testBit i) (List.range N)
    rw [List.length_range] at this
    unfold bl; omega
  unfold s_X0_examine
  rw [bc_z hb12, hbl]
  show ∃ r h', (if (4 : Int32) < nI (bl b N).length then _ else _) = some (r, h') ∧ _
  by_cases c4 : 4 < (bl b N).length
  · rw [li4, if_pos (nI_lt c4 (by omega))]
    exact ⟨0, h, rfl, Fr.rf, Or.inr ⟨hno (by omega), rfl⟩⟩
  · rw [li4, if_neg (nI_nlt (by omega) (by omega)), lt_red]
    obtain ⟨H, e1, gF, g3, gM⟩ := members_z (h := sI h C 3 0) (C := C) (N := N) (b := b) (by rw [sI_cell (by omega)]; exact hN) h12 hb (by omega) (sI_same _ _ _ _)
    have gF : Fr [C, C + 6] h H := Fr.tr (Fr.sI (by simp)) gF
    rw [e1]
    have hTN : ∀ i ∈ bl b N, i < N := fun i hi => (mem_bl.mp hi).1
    have hnd := bl_nodup b N
    have hWH : RowsWF H (C + 1) N D := hW.fr gF (by simp; try omega) (by simp; try omega) (by simp; try omega) (by simp; try omega) (by simp; try omega)
    have hrF : rF H (C + 1) = rF h (C + 1) := by unfold rF; rw [(gF (C + 1 + 1) (by simp; try omega)).1]
    show ∃ r h', (if H.1 C 3 = 2 then _ else (if H.1 C 3 = 3 then _ else (if H.1 C 3 = nI 4 then _ else _))) = some (r, h') ∧ _
    generalize hT : bl b N = T at *
    rw [g3]
    by_cases l2 : T.length = 2
    · obtain ⟨i, j, rfl⟩ := list2 l2
      have hij : i ≠ j := by simpa using hnd
      have m0 : H.1 (C + 6) 0 = nI i := gM 0 (by simp)
      have m1 : H.1 (C + 6) 1 = nI j := gM 1 (by simp)
      rw [if_pos (by rw [l2]; rfl), li0, ldI_n (by omega) (by omega), li1, ldI_n (by omega) (by omega), m0, m1]
      obtain ⟨r1, h1, e2, f1, f2⟩ := depTwo_z hWH.1 h12 hWH.2.2.1 (by rw [g3]; rfl) (hTN i (by simp)) (hTN j (by simp)) hij
      rw [e2]
      rw [hrF] at f2
      have ad := afterDep hW hD0 hD hTN (by simp) gF g3 gM f1 (r1 := r1) (by
        rcases f2 with ⟨f, q1, q2, q3, q4⟩ | ⟨q1, q2⟩
        · refine Or.inl ⟨f, q1, q2, fun p hp => ?_⟩
          rcases (show p = 0 ∨ p = 1 by simp at hp; omega) with rfl | rfl
          · exact q3
          · exact q4
        · exact Or.inr ⟨q1, q2⟩)
      exact ad
    · rw [if_neg (by rw [li2, nI_eq (by omega) (by omega)]; exact l2)]
      by_cases l3 : T.length = 3
      · obtain ⟨i, j, k, rfl⟩ := list3 l3
        obtain ⟨hij, hik, hjk⟩ : i ≠ j ∧ i ≠ k ∧ j ≠ k := by simp at hnd; exact ⟨hnd.1.1, hnd.1.2, hnd.2⟩
        have m0 : H.1 (C + 6) 0 = nI i := gM 0 (by simp)
        have m1 : H.1 (C + 6) 1 = nI j := gM 1 (by simp)
        have m2 : H.1 (C + 6) 2 = nI k := gM 2 (by simp)
        rw [if_pos (by rw [l3]; rfl), li0, ldI_n (by omega) (by omega), li1, ldI_n (by omega) (by omega), li2, ldI_n (by omega) (by omega), m0, m1, m2]
        obtain ⟨r1, h1, e2, f1, f2⟩ := depThree_z hWH.1 h12 hWH.2.2.1 (by rw [g3]; rfl) (hTN i (by simp)) (hTN j (by simp)) (hTN k (by simp)) hij hik hjk
        rw [e2]
        rw [hrF] at f2
        have ad := afterDep hW hD0 hD hTN (by simp) gF g3 gM f1 (r1 := r1) (by
          rcases f2 with ⟨f, q1, q2, q3, q4, q5⟩ | ⟨q1, q2⟩
          · refine Or.inl ⟨f, q1, q2, fun p hp => ?_⟩
            rcases (show p = 0 ∨ p = 1 ∨ p = 2 by simp at hp; omega) with rfl | rfl | rfl
            · exact q3
            · exact q4
            · exact q5
          · exact Or.inr ⟨q1, q2⟩)
        exact ad
      · rw [if_neg (by rw [li3, nI_eq (by omega) (by omega)]; exact l3)]
        by_cases l4 : T.length = 4
        · obtain ⟨i, j, k, l, rfl⟩ := list4 l4
          obtain ⟨hij, hik, hil, hjk, hjl, hkl⟩ : i ≠ j ∧ i ≠ k ∧ i ≠ l ∧ j ≠ k ∧ j ≠ l ∧ k ≠ l := by simp at hnd; exact ⟨hnd.1.1, hnd.1.2.1, hnd.1.2.2, hnd.2.1.1, hnd.2.1.2, hnd.2.2⟩
          have m0 : H.1 (C + 6) 0 = nI i := gM 0 (by simp)
          have m1 : H.1 (C + 6) 1 = nI j := gM 1 (by simp)
          have m2 : H.1 (C + 6) 2 = nI k := gM 2 (by simp)
          have m3 : H.1 (C + 6) 3 = nI l := gM 3 (by simp)
          rw [if_pos (by rw [l4]), li0, ldI_n (by omega) (by omega), li1, ldI_n (by omega) (by omega), li2, ldI_n (by omega) (by omega), li3, ldI_n (by omega) (by omega), m0, m1, m2, m3]
          obtain ⟨r1, h1, e2, f1, f2⟩ := depFour_z hWH.1 h12 hWH.2.2.1 (by rw [g3]; rfl) (hTN i (by simp)) (hTN j (by simp)) (hTN k (by simp)) (hTN l (by simp)) hij hik hil hjk hjl hkl
          rw [e2]
          rw [hrF] at f2
          have ad := afterDep hW hD0 hD hTN (by simp) gF g3 gM f1 (r1 := r1) (by
            rcases f2 with ⟨f, q1, q2, q3, q4, q5, q6⟩ | ⟨q1, q2⟩
            · refine Or.inl ⟨f, q1, q2, fun p hp => ?_⟩
              rcases (show p = 0 ∨ p = 1 ∨ p = 2 ∨ p = 3 by simp at hp; omega) with rfl | rfl | rfl | rfl
              · exact q3
              · exact q4
              · exact q5
              · exact q6
            · exact Or.inr ⟨q1, q2⟩)
          exact ad
        · rw [if_neg (by rw [nI_eq (by omega) (by omega)]; exact l4)]
          exact ⟨0, H, rfl, gF.wid (by simp; try omega), Or.inr ⟨hno (by omega), rfl⟩⟩
