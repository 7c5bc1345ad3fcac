/-! the model's rows: lists of rows in its arrays; withoutZ is elim 2 -/
def rowAt (h : Hp) (C i : Nat) (r : Rw) : Prop := (h.2 (C + 6) i).toInt = r.1 0 ∧ (h.2 (C + 7) i).toInt = r.1 1 ∧ (h.2 (C + 8) i).toInt = r.1 2 ∧ (h.2 (C + 9) i).toInt = r.2.1 ∧ h.1 (C + 10) i = bI r.2.2
def flatAt (h : Hp) (C i : Nat) (r : Rw) : Prop := (h.2 (C + 11) i).toInt = r.1 0 ∧ (h.2 (C + 12) i).toInt = r.1 1 ∧ (h.2 (C + 13) i).toInt = r.2.1 ∧ h.1 (C + 14) i = bI r.2.2
def RowL (h : Hp) (C : Nat) (L : List Rw) : Prop := h.1 C 9 = nI L.length ∧ L.length ≤ 20 ∧ ∀ i (hi : i < L.length), rowAt h C i L[i]
def FlatL (h : Hp) (C : Nat) (L : List Rw) : Prop := h.1 C 15 = nI L.length ∧ L.length ≤ 120 ∧ ∀ i (hi : i < L.length), flatAt h C i L[i]
def FrK (C : Nat) (ks : List Nat) (h h' : Hp) : Prop := ∀ k, k ∉ ks → h'.1 C k = h.1 C k ∧ h'.2 C k = h.2 C k
theorem FrK.rf {C : Nat} {ks : List Nat} {h : Hp} : FrK C ks h h := fun _ _ => ⟨rfl, rfl⟩
theorem FrK.tr {C : Nat} {ks : List Nat} {h h1 h2 : Hp} (a : FrK C ks h h1) (b : FrK C ks h1 h2) : FrK C ks h h2 := fun k hk => ⟨(b k hk).1.trans (a k hk).1, (b k hk).2.trans (a k hk).2⟩
theorem FrK.wid {C : Nat} {ks ks' : List Nat} {h h1 : Hp} (a : FrK C ks h h1) (hs : ∀ c ∈ ks, c ∈ ks') : FrK C ks' h h1 := fun c hc => a c (fun q => hc (hs c q))
theorem FrK.of {C : Nat} {S ks : List Nat} {h h1 : Hp} (a : Fr S h h1) (hC : C ∉ S) : FrK C ks h h1 := fun k _ => ⟨by rw [(a C hC).1], by rw [(a C hC).2]⟩
theorem RowL.fr {h h' : Hp} {C : Nat} {L : List Rw} {S ks : List Nat} (a : RowL h C L) (f : Fr S h h') (k : FrK C ks h h') (h9 : 9 ∉ ks) (h6 : C + 6 ∉ S) (h7 : C + 7 ∉ S) (h8 : C + 8 ∉ S) (hd : C + 9 ∉ S) (hl : C + 10 ∉ S) : RowL h' C L := by
  refine ⟨by rw [(k 9 h9).1]; exact a.1, a.2.1, fun i hi => ?_⟩
  have := a.2.2 i hi
  unfold rowAt at this ⊢
  rw [(f _ h6).2, (f _ h7).2, (f _ h8).2, (f _ hd).2, (f _ hl).1]
  exact this
theorem comesRow_z {h : Hp} {C : Nat} {L : List Rw} {a b c d : Int64} {s : Int32} {r : Rw} (hL : RowL h C L) (hn : L.length < 20) (e0 : a.toInt = r.1 0) (e1 : b.toInt = r.1 1) (e2 : c.toInt = r.1 2) (ed : d.toInt = r.2.1) (es : s = bI r.2.2) : ∃ h', s_X10_comesRow C a b c d s h = some h' ∧ Fr [C, C + 6, C + 7, C + 8, C + 9, C + 10] h h' ∧ FrK C [9] h h' ∧ RowL h' C (L ++ [r]) := by
  obtain ⟨h9, h20, hr⟩ := hL
  unfold s_X10_comesRow
  rw [h9, stJ_n (by omega) (by omega), show (sJ h (C + 6) L.length a).1 = h.1 from rfl, h9, stJ_n (by omega) (by omega)]
  generalize g1 : sJ (sJ h (C + 6) L.length a) (C + 7) L.length b = H1
  have i1 : H1.1 = h.1 := by subst g1; rfl
  rw [i1, h9, stJ_n (by omega) (by omega)]
  generalize g2 : sJ H1 (C + 8) L.length c = H2
  have i2 : H2.1 = h.1 := by subst g2; exact i1
  rw [i2, h9, stJ_n (by omega) (by omega)]
  generalize g3 : sJ H2 (C + 9) L.length d = H3
  have i3 : H3.1 = h.1 := by subst g3; exact i2
  rw [i3, h9, stI_n (by omega) (by omega), lt_red, sI_cell (by omega), i3, h9, nI_1]
  have F1 : Fr [C, C + 6, C + 7, C + 8, C + 9, C + 10] h H1 := by subst g1; exact (Fr.sJ (by simp)).tr (Fr.sJ (by simp))
  have F2 : Fr [C, C + 6, C + 7, C + 8, C + 9, C + 10] h H2 := by subst g2; exact F1.tr (Fr.sJ (by simp))
  have F3 : Fr [C, C + 6, C + 7, C + 8, C + 9, C + 10] h H3 := by subst g3; exact F2.tr (Fr.sJ (by simp))
  have j6 : H3.2 (C + 6) = (sJ h (C + 6) L.length a).2 (C + 6) := by subst g3 g2 g1; rw [sJ_cell (by omega), sJ_cell (by omega), sJ_cell (by omega)]
  have j7 : H3.2 (C + 7) = (sJ h (C + 7) L.length b).2 (C + 7) := by subst g3 g2 g1; rw [sJ_cell (by omega), sJ_cell (by omega)]; funext k; simp [sJ]
  have j8 : H3.2 (C + 8) = (sJ h (C + 8) L.length c).2 (C + 8) := by subst g3 g2 g1; rw [sJ_cell (by omega)]; funext k; simp [sJ]
  have j9 : H3.2 (C + 9) = (sJ h (C + 9) L.length d).2 (C + 9) := by subst g3 g2 g1; funext k; simp [sJ]
  have jC : H3.2 C = h.2 C := by subst g3 g2 g1; rw [sJ_cell (by omega), sJ_cell (by omega), sJ_cell (by omega), sJ_cell (by omega)]
  refine ⟨_, rfl, (F3.tr (Fr.sI (by simp))).tr (Fr.sI (by simp)), fun k hk => ⟨?_, ?_⟩, ?_, ?_, fun i hi => ?_⟩
  · rw [sI_ne (by simpa using hk), sI_cell (by omega), i3]
  · rw [sI_J, sI_J, jC]
  · rw [sI_same]; simp
  · simp; omega
  · unfold rowAt
    rw [sI_J, sI_J, sI_cell (by omega), j6, j7, j8, j9]
    simp at hi
    rcases Nat.lt_or_ge i L.length with q | q
    · have hrr := hr i q
      rw [List.getElem_append_left q, sJ_ne (by omega), sJ_ne (by omega), sJ_ne (by omega), sJ_ne (by omega), sI_ne (by omega), i3]
      exact hrr
    · have : i = L.length := by omega
      subst this
      rw [sJ_same, sJ_same, sJ_same, sJ_same, sI_same]
      simp
      exact ⟨e0, e1, e2, ed, es⟩
theorem comesFlat_z {h : Hp} {C : Nat} {L : List Rw} {a b d : Int64} {s : Int32} {r : Rw} (hL : FlatL h C L) (hn : L.length < 120) (e0 : a.toInt = r.1 0) (e1 : b.toInt = r.1 1) (ed : d.toInt = r.2.1) (es : s = bI r.2.2) : ∃ h', s_X10_comesFlat C a b d s h = some h' ∧ Fr [C, C + 11, C + 12, C + 13, C + 14] h h' ∧ FrK C [15] h h' ∧ FlatL h' C (L ++ [r]) := by
  obtain ⟨h9, h20, hr⟩ := hL
  unfold s_X10_comesFlat
  rw [h9, stJ_n (by omega) (by omega), show (sJ h (C + 11) L.length a).1 = h.1 from rfl, h9, stJ_n (by omega) (by omega)]
  generalize g1 : sJ (sJ h (C + 11) L.length a) (C + 12) L.length b = H1
  have i1 : H1.1 = h.1 := by subst g1; rfl
  rw [i1, h9, stJ_n (by omega) (by omega)]
  generalize g2 : sJ H1 (C + 13) L.length d = H3
  have i3 : H3.1 = h.1 := by subst g2; exact i1
  rw [i3, h9, stI_n (by omega) (by omega), lt_red, sI_cell (by omega), i3, h9, nI_1]
  have F1 : Fr [C, C + 11, C + 12, C + 13, C + 14] h H1 := by subst g1; exact (Fr.sJ (by simp)).tr (Fr.sJ (by simp))
  have F3 : Fr [C, C + 11, C + 12, C + 13, C + 14] h H3 := by subst g2; exact F1.tr (Fr.sJ (by simp))
  have j6 : H3.2 (C + 11) = (sJ h (C + 11) L.length a).2 (C + 11) := by subst g2 g1; rw [sJ_cell (by omega), sJ_cell (by omega)]
  have j7 : H3.2 (C + 12) = (sJ h (C + 12) L.length b).2 (C + 12) := by subst g2 g1; rw [sJ_cell (by omega)]; funext k; simp [sJ]
  have j8 : H3.2 (C + 13) = (sJ h (C + 13) L.length d).2 (C + 13) := by subst g2 g1; funext k; simp [sJ]
  have jC : H3.2 C = h.2 C := by subst g2 g1; rw [sJ_cell (by omega), sJ_cell (by omega), sJ_cell (by omega)]
  refine ⟨_, rfl, (F3.tr (Fr.sI (by simp))).tr (Fr.sI (by simp)), fun k hk => ⟨?_, ?_⟩, ?_, ?_, fun i hi => ?_⟩
  · rw [sI_ne (by simpa using hk), sI_cell (by omega), i3]
  · rw [sI_J, sI_J, jC]
  · rw [sI_same]; simp
  · simp; omega
  · unfold flatAt
    rw [sI_J, sI_J, sI_cell (by omega), j6, j7, j8]
    simp at hi
    rcases Nat.lt_or_ge i L.length with q | q
    · have hrr := hr i q
      rw [List.getElem_append_left q, sJ_ne (by omega), sJ_ne (by omega), sJ_ne (by omega), sI_ne (by omega), i3]
      exact hrr
    · have : i = L.length := by omega
      subst this
      rw [sJ_same, sJ_same, sJ_same, sI_same]
      simp
      exact ⟨e0, e1, ed, es⟩
/-! how long the list behind elim is -/
def ngs (v : Nat) (L : List Rw) : List Rw := L.filter (fun q => decide (q.1 v < 0))
def gel (v : Nat) (L : List Rw) (p : Rw) : List Rw := (if p.1 v = 0 then [p] else []) ++ (if 0 < p.1 v then (ngs v L).map (cmb v p) else [])
theorem elim_gel (v : Nat) (L : List Rw) : elim v L = L.flatMap (gel v L) := rfl
theorem gel_len (v : Nat) (L M : List Rw) : (M.flatMap (gel v L)).length ≤ (M.countP (fun q => ! decide (q.1 v < 0))) * ((ngs v L).length + 1) ∧ ((ngs v L).length = 0 ∨ (M.flatMap (gel v L)).length ≤ (M.countP (fun q => ! decide (q.1 v < 0))) * (ngs v L).length) := by
  induction M with
  | nil => simp
  | cons p M ih =>
    rw [List.flatMap_cons, List.length_append, List.countP_cons]
    have hg : (gel v L p).length = (if p.1 v = 0 then 1 else 0) + (if 0 < p.1 v then (ngs v L).length else 0) := by
      unfold gel
      rw [List.length_append]
      by_cases a : p.1 v = 0 <;> by_cases b : 0 < p.1 v <;> simp [a, b]
    rw [hg]
    generalize (ngs v L).length = n at *
    generalize List.countP (fun q => ! decide (q.1 v < 0)) M = k at *
    generalize (M.flatMap (gel v L)).length = m at *
    by_cases a : p.1 v < 0
    · have b : ¬ 0 < p.1 v := by omega
      have c : ¬ p.1 v = 0 := by omega
      simp [a, b, c]; exact ih
    · simp only [a, decide_false, Bool.not_false, if_true]
      rw [Nat.add_mul, Nat.add_mul]
      by_cases c : p.1 v = 0
      · have b : ¬ 0 < p.1 v := by omega
        rw [if_pos c, if_neg b]
        omega
      · rw [if_neg c]
        by_cases b : 0 < p.1 v
        · rw [if_pos b]; omega
        · rw [if_neg b]; omega
theorem cnt_len (v : Nat) (L : List Rw) : L.countP (fun q => ! decide (q.1 v < 0)) + (ngs v L).length = L.length := by
  induction L with
  | nil => rfl
  | cons p L ih =>
    unfold ngs at *
    rw [List.countP_cons, List.filter_cons, List.length_cons]
    by_cases a : p.1 v < 0 <;> simp [a] <;> omega
theorem tbl20 : ∀ k n : Nat, k + n ≤ 20 → k * n ≤ 100 := by
  intro k n h
  have := (by decide +kernel : ∀ k, k < 21 → ∀ n, n < 21 → k + n ≤ 20 → k * n ≤ 100) k (by omega) n (by omega) h
  exact this
theorem gel_100 {v : Nat} {L : List Rw} (h20 : L.length ≤ 20) {i : Nat} (hi : i < L.length) : ((L.take i).flatMap (gel v L)).length + (gel v L L[i]).length ≤ 100 := by
  have h1 := gel_len v L (L.take (i + 1))
  have h2 := cnt_len v L
  have h3 : (L.take (i + 1)).countP (fun q => ! decide (q.1 v < 0)) ≤ L.countP (fun q => ! decide (q.1 v < 0)) := (List.take_sublist (i + 1) L).countP_le
  have h4 : ((L.take (i + 1)).flatMap (gel v L)).length = ((L.take i).flatMap (gel v L)).length + (gel v L L[i]).length := by
    rw [List.take_succ_eq_append_getElem hi, List.flatMap_append, List.length_append]; simp
  rw [← h4]
  generalize ((L.take (i + 1)).flatMap (gel v L)).length = m at *
  generalize List.countP (fun q => ! decide (q.1 v < 0)) L = K at *
  generalize List.countP (fun q => ! decide (q.1 v < 0)) (L.take (i + 1)) = k at *
  generalize (ngs v L).length = n at *
  rcases h1.2 with q | q
  · subst q; have := h1.1; omega
  · have := tbl20 k n (by omega); omega
