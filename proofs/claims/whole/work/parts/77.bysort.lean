/-! comesBySort, setRows, canBe -/
def ngF (F : Nat → Int) : Nat → Int := fun v => - F v
def sR (s : Nat) (F : Nat → Int) (d : Int) : List Rw := (if s = 0 ∨ s = 1 ∨ s = 4 then [(F, d, decide (s = 1))] else []) ++ (if s = 2 ∨ s = 3 ∨ s = 4 then [(ngF F, -d, decide (s = 3))] else [])
theorem sR_len (s : Nat) (F : Nat → Int) (d : Int) : (sR s F d).length ≤ 2 := by
  unfold sR
  by_cases a : (s = 0 ∨ s = 1 ∨ s = 4) <;> by_cases b : (s = 2 ∨ s = 3 ∨ s = 4) <;> simp [a, b]
theorem sR_bd {s : Nat} {F : Nat → Int} {d A D : Int} (hF : ∀ v, v < 3 → -A ≤ F v ∧ F v ≤ A) (hd : -D ≤ d ∧ d ≤ D) : ∀ r ∈ sR s F d, RB A D r := by
  intro r hr
  unfold sR at hr
  rcases List.mem_append.mp hr with q | q
  · split at q
    · simp at q; subst q; exact ⟨hF, hd⟩
    · simp at q
  · split at q
    · simp at q; subst q
      refine ⟨fun v hv => ?_, ?_⟩
      · have := hF v hv
        show -A ≤ - F v ∧ - F v ≤ A
        omega
      · show -D ≤ - d ∧ - d ≤ D
        omega
    · simp at q
theorem comesBySort_z {h : Hp} {C : Nat} {L : List Rw} {a b c d : Int64} {s : Nat} {F : Nat → Int} {D : Int} (hL : RowL h C L) (hn : L.length + 2 ≤ 20) (hs : s ≤ 4) (e0 : a.toInt = F 0) (e1 : b.toInt = F 1) (e2 : c.toInt = F 2) (ed : d.toInt = D) (b0 : -4000000000000000000 ≤ F 0) (b1 : -4000000000000000000 ≤ F 1) (b2 : -4000000000000000000 ≤ F 2) (b3 : -4000000000000000000 ≤ D) : ∃ h', s_X10_comesBySort C (nI s) a b c d h = some h' ∧ Fr [C, C + 6, C + 7, C + 8, C + 9, C + 10] h h' ∧ FrK C [9] h h' ∧ RowL h' C (L ++ sR s F D) := by
  have n0 : (-a).toInt = ngF F 0 := by rw [negl_z (by omega), e0]; rfl
  have n1 : (-b).toInt = ngF F 1 := by rw [negl_z (by omega), e1]; rfl
  have n2 : (-c).toInt = ngF F 2 := by rw [negl_z (by omega), e2]; rfl
  have nd : (-d).toInt = - D := by rw [negl_z (by omega), ed]
  unfold s_X10_comesBySort s_X10_comesBySort_b14 s_X10_comesBySort_b32 s_X10_comesBySort_b35 s_X10_comesBySort_b50 s_X10_comesBySort_b72
  rcases (show s = 0 ∨ s = 1 ∨ s = 2 ∨ s = 3 ∨ s = 4 by omega) with rfl | rfl | rfl | rfl | rfl
  · obtain ⟨h1, q1, f1, k1, l1⟩ := comesRow_z (r := (F, D, false)) hL (by omega) e0 e1 e2 ed (s := 0) rfl
    rw [if_pos (by decide), if_neg (by decide), q1, bnd_s, if_neg (by decide), if_neg (by decide), if_neg (by decide)]
    exact ⟨h1, rfl, f1, k1, by simpa [sR] using l1⟩
  · obtain ⟨h1, q1, f1, k1, l1⟩ := comesRow_z (r := (F, D, true)) hL (by omega) e0 e1 e2 ed (s := 1) rfl
    rw [if_neg (by decide), if_pos (by decide), if_pos (by decide), q1, bnd_s, if_neg (by decide), if_neg (by decide), if_neg (by decide)]
    exact ⟨h1, rfl, f1, k1, by simpa [sR] using l1⟩
  · obtain ⟨h1, q1, f1, k1, l1⟩ := comesRow_z (r := (ngF F, -D, false)) hL (by omega) n0 n1 n2 nd (s := 0) rfl
    rw [if_neg (by decide), if_neg (by decide), if_neg (by decide), if_pos (by decide), if_neg (by decide), q1, bnd_s]
    exact ⟨h1, rfl, f1, k1, by simpa [sR] using l1⟩
  · obtain ⟨h1, q1, f1, k1, l1⟩ := comesRow_z (r := (ngF F, -D, true)) hL (by omega) n0 n1 n2 nd (s := 1) rfl
    rw [if_neg (by decide), if_neg (by decide), if_neg (by decide), if_neg (by decide), if_pos (by decide), if_pos (by decide), q1, bnd_s]
    exact ⟨h1, rfl, f1, k1, by simpa [sR] using l1⟩
  · obtain ⟨h1, q1, f1, k1, l1⟩ := comesRow_z (r := (F, D, false)) hL (by omega) e0 e1 e2 ed (s := 0) rfl
    obtain ⟨h2, q2, f2, k2, l2⟩ := comesRow_z (r := (ngF F, -D, false)) l1 (by simp; omega) n0 n1 n2 nd (s := 0) rfl
    rw [if_neg (by decide), if_neg (by decide), if_pos (by decide), if_neg (by decide), q1, bnd_s, if_neg (by decide), if_neg (by decide), if_pos (by decide), if_neg (by decide), q2, bnd_s]
    exact ⟨h2, rfl, f1.tr f2, k1.tr k2, by simpa [sR] using l2⟩
/-! the bounds of the model -/
def mG (h : Hp) (C k : Nat) : Nat := (h.1 (C + 2) (3 * k)).toInt.toNat
def mS (h : Hp) (C k : Nat) : Nat := (h.1 (C + 2) (3 * k + 1)).toInt.toNat
def mD (h : Hp) (C k : Nat) : Int := (h.1 (C + 2) (3 * k + 2)).toInt
def mK (h : Hp) (C g : Nat) : Nat → Int := fun v => (h.1 (C + 1) (3 * g + v)).toInt
def MB (h : Hp) (C nq m : Nat) : Prop := h.1 C 3 = nI m ∧ (m ≤ 10 ∧ nq ≤ 8) ∧ (∀ g v, g < nq → v < 3 → -3 ≤ mK h C g v ∧ mK h C g v ≤ 3) ∧ ∀ k, k < m → (h.1 (C + 2) (3 * k) = nI (mG h C k) ∧ mG h C k < nq) ∧ (h.1 (C + 2) (3 * k + 1) = nI (mS h C k) ∧ mS h C k ≤ 4) ∧ -50 ≤ mD h C k ∧ mD h C k ≤ 50
theorem MB.fr {h h' : Hp} {C nq m : Nat} {S ks : List Nat} (a : MB h C nq m) (f : Fr S h h') (k : FrK C ks h h') (h3 : 3 ∉ ks) (h1 : C + 1 ∉ S) (h2 : C + 2 ∉ S) : MB h' C nq m ∧ mG h' C = mG h C ∧ mS h' C = mS h C ∧ mD h' C = mD h C ∧ mK h' C = mK h C := by
  have e1 := (f _ h1).1
  have e2 := (f _ h2).1
  have g1 : mG h' C = mG h C := by funext k; unfold mG; rw [e2]
  have g2 : mS h' C = mS h C := by funext k; unfold mS; rw [e2]
  have g3 : mD h' C = mD h C := by funext k; unfold mD; rw [e2]
  have g4 : mK h' C = mK h C := by funext k v; unfold mK; rw [e1]
  refine ⟨?_, g1, g2, g3, g4⟩
  unfold MB
  rw [g1, g2, g3, g4, e2, (k 3 h3).1]
  exact a
theorem coef_z {h : Hp} {C nq m k v : Nat} (hM : MB h C nq m) (hk : k < m) (hv : v < 3) : s_X10_coefficientOf C (nI k) (nI v) h = some (h.1 (C + 1) (3 * mG h C k + v)) := by
  have hm := hM.2.1
  obtain ⟨⟨a1, a2⟩, -⟩ := hM.2.2.2 k hk
  unfold s_X10_coefficientOf
  rw [li3, nI_mul, ldI_n (by omega) (by omega), a1, nI_mul, nI_add, ldI_n (by omega) (by omega)]
def mset (h : Hp) (C : Nat) (x : Int32) (m : Nat) : List Rw := ((List.range m).filter (fun k => bt x k)).flatMap (fun k => sR (mS h C k) (mK h C (mG h C k)) (mD h C k))
theorem mset_succ (h : Hp) (C : Nat) (x : Int32) (m : Nat) : mset h C x (m + 1) = mset h C x m ++ (if bt x m = true then sR (mS h C m) (mK h C (mG h C m)) (mD h C m) else []) := by
  unfold mset
  rw [List.range_succ, List.filter_append, List.flatMap_append]
  by_cases q : bt x m = true <;> simp [q]
theorem mset_len (h : Hp) (C : Nat) (x : Int32) (m : Nat) : (mset h C x m).length ≤ 2 * m := by
  induction m with
  | zero => simp [mset]
  | succ m ih =>
    rw [mset_succ, List.length_append]
    have := sR_len (mS h C m) (mK h C (mG h C m)) (mD h C m)
    by_cases q : bt x m = true
    · rw [if_pos q]; omega
    · rw [if_neg q]; simp; omega
