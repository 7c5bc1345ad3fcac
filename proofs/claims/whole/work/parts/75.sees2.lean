/-! sees over the heap -/
theorem FlatL.fr {h h' : Hp} {C : Nat} {L : List Rw} {S ks : List Nat} (a : FlatL h C L) (f : Fr S h h') (k : FrK C ks h h') (h9 : 15 ∉ ks) (h6 : C + 11 ∉ S) (h7 : C + 12 ∉ S) (h8 : C + 13 ∉ S) (hl : C + 14 ∉ S) : FlatL h' C L := by
  refine ⟨by rw [(k 15 h9).1]; exact a.1, a.2.1, fun i hi => ?_⟩
  have := a.2.2 i hi
  unfold flatAt at this ⊢
  rw [(f _ h6).2, (f _ h7).2, (f _ h8).2, (f _ hl).1]
  exact this
theorem forall_app {P : Rw → Prop} {A B : List Rw} : (∀ r ∈ A ++ B, P r) ↔ (∀ r ∈ A, P r) ∧ ∀ r ∈ B, P r := by
  simp only [List.mem_append]
  exact ⟨fun h => ⟨fun r hr => h r (Or.inl hr), fun r hr => h r (Or.inr hr)⟩, fun h r hr => hr.elim (h.1 r) (h.2 r)⟩
abbrev iks : List Nat := [20, 21, 22, 23, 24, 25, 26, 27, 28]
theorem seesLoop {BA BE : Int} {h : Hp} {C : Nat} {F : List Rw} {A D : Int} (hAA : A * A ≤ 4000000000000000000) (hAD : A * D ≤ 4000000000000000000) (hA : A ≤ 4000000000000000000) (hBE : BE * BA ≤ 4000000000000000000) (hBA : BA ≤ 4000000000000000000) (hE : BE ≤ 4000000000000000000) (hF : FlatL h C F) (hb : ∀ r ∈ F, RB A D r) (hG : ∀ r ∈ elim 1 F, RB BA BE r) (hI : WFI BA BE h C) (hT : ∀ t, inI h C t) : ∃ h', iter (fun s : Int32 × Hp => s_X10_sees_l21 C s.1 s.2) FUEL ((0 : Int32), h) = some h' ∧ Fr [C] h h' ∧ FrK C iks h h' ∧ WFI BA BE h' C ∧ ∀ t, inI h' C t ↔ ∀ r ∈ elim 1 F, sat r (pt t) := by
  have h120 := hF.2.1
  have hflat : ∀ H : Hp, Fr [C] h H → FrK C iks h H → FlatL H C F := fun H f k => hF.fr f k (by simp [iks]) (by simp) (by simp) (by simp) (by simp)
  have hbd : ∀ i (hi : i < F.length), RB A D F[i] := fun i hi => hb _ (List.getElem_mem hi)
  obtain ⟨e, he, hp⟩ := iter_fuel (f := fun s : Int32 × Hp => s_X10_sees_l21 C s.1 s.2)
    (fun z => ∃ (i : Nat) (H : Hp), z = (nI i, H) ∧ i ≤ F.length ∧ Fr [C] h H ∧ FrK C iks h H ∧ WFI BA BE H C ∧ ∀ t, inI H C t ↔ ∀ r ∈ (F.take i).flatMap (gel 1 F), sat r (pt t))
    (fun z => F.length - z.1.toNatClampNeg)
    (fun e => Fr [C] h e ∧ FrK C iks h e ∧ WFI BA BE e C ∧ ∀ t, inI e C t ↔ ∀ r ∈ elim 1 F, sat r (pt t)) (by
    rintro z ⟨i, H, rfl, hi, hf, hK, hW, ht⟩
    dsimp only
    unfold s_X10_sees_l21
    have hR := hflat H hf hK
    rw [hR.1]
    by_cases q : i < F.length
    · obtain ⟨x0, x1, xd, xs⟩ := hR.2.2 i q
      have bi := hbd i q
      have bi0 := bi.1 0 (by omega)
      have bi1 := bi.1 1 (by omega)
      have mu : F.length - (nI (i + 1)).toNatClampNeg < F.length - (nI i).toNatClampNeg := by
        rw [nI_clamp (by omega), nI_clamp (by omega)]; omega
      have inner : ∀ (H1 : Hp) (P : List Rw), Fr [C] h H1 → FrK C iks h H1 → WFI BA BE H1 C → (∀ t, inI H1 C t ↔ ∀ r ∈ P, sat r (pt t)) → ∃ H2, s_X10_sees_b62 C (nI i) H1 = some (.inl (nI (i + 1), H2)) ∧ Fr [C] h H2 ∧ FrK C iks h H2 ∧ WFI BA BE H2 C ∧ ∀ t, inI H2 C t ↔ ∀ r ∈ P ++ (if 0 < F[i].1 1 then (ngs 1 F).map (cmb 1 F[i]) else []), sat r (pt t) := by
        intro H1 P f1 k1 w1 t1
        unfold s_X10_sees_b62
        obtain ⟨e, he, hp⟩ := iter_fuel (f := fun s : Int32 × Hp => s_X10_sees_l64 C (nI i) s.1 s.2)
          (fun z => ∃ (j : Nat) (H : Hp), z = (nI j, H) ∧ j ≤ F.length ∧ Fr [C] h H ∧ FrK C iks h H ∧ WFI BA BE H C ∧ ∀ t, inI H C t ↔ ∀ r ∈ P ++ (if 0 < F[i].1 1 then (ngs 1 (F.take j)).map (cmb 1 F[i]) else []), sat r (pt t))
          (fun z => F.length - z.1.toNatClampNeg)
          (fun e => Fr [C] h e ∧ FrK C iks h e ∧ WFI BA BE e C ∧ ∀ t, inI e C t ↔ ∀ r ∈ P ++ (if 0 < F[i].1 1 then (ngs 1 F).map (cmb 1 F[i]) else []), sat r (pt t)) (by
          rintro z ⟨j, H, rfl, hj, hf, hK, hW, ht⟩
          dsimp only
          unfold s_X10_sees_l64 s_X10_sees_b163
          have hR := hflat H hf hK
          rw [hR.1]
          by_cases w : j < F.length
          · obtain ⟨x0, x1, xd, xs⟩ := hR.2.2 i q
            obtain ⟨y0, y1, yd, ys⟩ := hR.2.2 j w
            have bj := hbd j w
            have bj0 := bj.1 0 (by omega)
            have bj1 := bj.1 1 (by omega)
            have mu : F.length - (nI (j + 1)).toNatClampNeg < F.length - (nI j).toNatClampNeg := by
              rw [nI_clamp (by omega), nI_clamp (by omega)]; omega
            rw [if_pos (nI_lt w (by omega)), ldJ_n (by omega) (by omega)]
            by_cases c : 0 < F[i].1 1
            · rw [if_pos (ltl_z.mpr (by rw [x1]; exact c)), ldJ_n (by omega) (by omega)]
              rw [if_pos c] at ht
              have htk := take_flt (v := 1) w
              by_cases d : F[j].1 1 < 0
              · rw [if_pos (ltl_z.mpr (by rw [y1]; exact d)), ldJ_n (by omega) (by omega), lt_red, ldJ_n (by omega) (by omega), ldJ_n (by omega) (by omega), ldJ_n (by omega) (by omega), ldJ_n (by omega) (by omega), ldJ_n (by omega) (by omega), ldI_n (by omega) (by omega), ldI_n (by omega) (by omega), xs, ys, bI_or]
                rw [if_pos d] at htk
                have bm := hG (cmb 1 F[i] F[j]) (by
                  unfold elim
                  refine List.mem_flatMap.mpr ⟨F[i], List.getElem_mem q, List.mem_append.mpr (Or.inr ?_)⟩
                  rw [if_pos c]
                  exact List.mem_map.mpr ⟨F[j], List.mem_filter.mpr ⟨List.getElem_mem w, by simpa using d⟩, rfl⟩)
                have ea : (-H.2 (C + 12) j * H.2 (C + 11) i + H.2 (C + 12) i * H.2 (C + 11) j).toInt = (cmb 1 F[i] F[j]).1 0 := by
                  rw [cmb_l hAA hA (by rw [y1]; exact bj1) (by rw [x1]; exact bi1) (by rw [x0]; exact bi0) (by rw [y0]; exact bj0), x0, x1, y0, y1]; rfl
                have ed : (-H.2 (C + 12) j * H.2 (C + 13) i + H.2 (C + 12) i * H.2 (C + 13) j).toInt = (cmb 1 F[i] F[j]).2.1 := by
                  rw [cmb_l hAD hA (by rw [y1]; exact bj1) (by rw [x1]; exact bi1) (by rw [xd]; exact bi.2) (by rw [yd]; exact bj.2), xd, x1, yd, y1]; rfl
                obtain ⟨H2, e2, f2, k2, w2, t2⟩ := cuts_z (h := H) (C := C) hBE hBA hE hW (a := -H.2 (C + 12) j * H.2 (C + 11) i + H.2 (C + 12) i * H.2 (C + 11) j) (d := -H.2 (C + 12) j * H.2 (C + 13) i + H.2 (C + 12) i * H.2 (C + 13) j) (s := F[i].2.2 || F[j].2.2) (by rw [ea]; exact bm.1 0 (by omega)) (by rw [ed]; exact bm.2)
                rw [e2, bnd_s, lt_red, nI_1]
                refine Or.inl ⟨_, rfl, ⟨j + 1, H2, rfl, by omega, hf.tr f2, hK.tr k2, w2, fun t => ?_⟩, mu⟩
                rw [t2, ht, if_pos c, htk, List.map_append, ← List.append_assoc, forall_app (A := P ++ _), ea, ed]
                refine and_congr Iff.rfl ?_
                simp only [List.map_cons, List.map_nil, List.mem_singleton, forall_eq]
                exact (sat_pt _ t).symm
              · rw [if_neg (fun z => d (by have := ltl_z.mp z; rw [y1] at this; exact this)), lt_red, nI_1]
                rw [if_neg d, List.append_nil] at htk
                refine Or.inl ⟨_, rfl, ⟨j + 1, H, rfl, by omega, hf, hK, hW, ?_⟩, mu⟩
                rw [if_pos c, htk]
                exact ht
            · rw [if_neg (fun z => c (by have := ltl_z.mp z; rw [x1] at this; exact this))]
              rw [if_neg c] at ht
              exact Or.inr ⟨_, rfl, hf, hK, hW, by rw [if_neg c]; exact ht⟩
          · rw [if_neg (nI_nlt (by omega) (by omega))]
            have : j = F.length := by omega
            subst this
            rw [List.take_length] at ht
            exact Or.inr ⟨_, rfl, hf, hK, hW, ht⟩)
          (nI 0, H1) ⟨0, H1, rfl, by omega, f1, k1, w1, by simpa [ngs] using t1⟩ (by dsimp only; rw [nI_clamp (by omega)]; omega)
        rw [li0, he, bnd_s, lt_red, nI_1]
        exact ⟨e, rfl, hp⟩
      have hnext : (F.take (i + 1)).flatMap (gel 1 F) = (F.take i).flatMap (gel 1 F) ++ gel 1 F F[i] := by
        rw [List.take_succ_eq_append_getElem q, List.flatMap_append]; simp
      rw [if_pos (nI_lt q (by omega)), ldJ_n (by omega) (by omega)]
      by_cases c : F[i].1 1 = 0
      · rw [if_pos (eql_z.mpr (by rw [x1]; exact c)), ldJ_n (by omega) (by omega), ldJ_n (by omega) (by omega), ldI_n (by omega) (by omega), xs]
        have bg := hG F[i] (by
          unfold elim
          refine List.mem_flatMap.mpr ⟨F[i], List.getElem_mem q, List.mem_append.mpr (Or.inl ?_)⟩
          rw [if_pos c]; exact List.mem_singleton.mpr rfl)
        obtain ⟨H2, e2, f2, k2, w2, t2⟩ := cuts_z (h := H) (C := C) hBE hBA hE hW (a := H.2 (C + 11) i) (d := H.2 (C + 13) i) (s := F[i].2.2) (by rw [x0]; exact bg.1 0 (by omega)) (by rw [xd]; exact bg.2)
        obtain ⟨H3, e3, f3, k3, w3, t3⟩ := inner H2 ((F.take i).flatMap (gel 1 F) ++ [F[i]]) (hf.tr f2) (hK.tr k2) w2 (fun t => by
          rw [t2, ht, forall_app, x0, xd]
          refine and_congr Iff.rfl ?_
          simp only [List.mem_singleton, forall_eq]
          exact (sat_pt _ t).symm)
        rw [e2, bnd_s, e3]
        refine Or.inl ⟨_, rfl, ⟨i + 1, H3, rfl, by omega, f3, k3, w3, ?_⟩, mu⟩
        rw [hnext]
        unfold gel at t3 ⊢
        rw [if_pos c, ← List.append_assoc]
        exact t3
      · rw [if_neg (fun z => c (by have := eql_z.mp z; rw [x1] at this; exact this))]
        obtain ⟨H3, e3, f3, k3, w3, t3⟩ := inner H _ hf hK hW ht
        rw [e3]
        refine Or.inl ⟨_, rfl, ⟨i + 1, H3, rfl, by omega, f3, k3, w3, ?_⟩, mu⟩
        rw [hnext]
        unfold gel at t3 ⊢
        rw [if_neg c, List.nil_append]
        exact t3
    · rw [if_neg (nI_nlt (by omega) (by omega))]
      have : i = F.length := by omega
      subst this
      rw [List.take_length] at ht
      exact Or.inr ⟨_, rfl, hf, hK, hW, ht⟩)
    (nI 0, h) ⟨0, h, rfl, by omega, Fr.rf, FrK.rf, hI, fun t => ⟨fun _ => by simp, fun _ => hT t⟩⟩ (by dsimp only; rw [nI_clamp (by omega)]; omega)
  rw [li0, he]
  exact ⟨e, rfl, hp⟩
