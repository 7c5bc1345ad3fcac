/-! whether a set of constraints can be satisfied: class and model alike; met, core -/
noncomputable def sB (h : Hp) (m : Nat) (x : Int32) : Bool := @decide (∃ p, mHold h 66 x m p) (Classical.propDecidable _)
theorem sB_iff {h : Hp} {m : Nat} {x : Int32} : sB h m x = true ↔ ∃ p, mHold h 66 x m p := by
  unfold sB
  exact @decide_eq_true_iff _ (Classical.propDecidable _)
theorem bool_eq {a b : Bool} (h : a = true ↔ b = true) : a = b := by
  cases a <;> cases b <;> simp_all
theorem within_m {h : Hp} {nv nf m lv : Nat} (hP : ProbR h nv nf m lv) (hn1 : 1 ≤ nv) (hc : CIM h nv m) (x : Int32) : s_X1_within 30 x h = some (bI (!sB h m x)) := by
  obtain ⟨b, e, hb⟩ := CI.within hc hP.rw hn1 hP.1.2.2 x
  rw [e]
  congr 2
  apply bool_eq
  have k : (∃ p, pH m (fF h) (mS h 66) (mD h 66) (bt x) p) ↔ ∃ p, mHold h 66 x m p := by
    constructor
    · rintro ⟨p, q⟩; exact ⟨p, (mHold_iff hP.2.2.2.1.2.1 x p).mpr q⟩
    · rintro ⟨p, q⟩; exact ⟨p, (mHold_iff hP.2.2.2.1.2.1 x p).mp q⟩
  rw [k, ← sB_iff] at hb
  cases b <;> cases hs : sB h m x <;> simp_all
theorem MB.sB {h h' : Hp} {nq m : Nat} {S ks : List Nat} (a : MB h 66 nq m) (f : Fr S h h') (k : FrK 66 ks h h') (h3 : 3 ∉ ks) (h1 : 67 ∉ S) (h2 : 68 ∉ S) (x : Int32) : sB h' m x = sB h m x := by
  obtain ⟨-, g1, g2, g3, g4⟩ := a.fr f k h3 h1 h2
  apply bool_eq
  rw [sB_iff, sB_iff]
  unfold mHold
  rw [mset_congr g1 g2 g3 g4]
theorem canBe_m {h : Hp} {nq m : Nat} (hM : MB h 66 nq m) (x : Int32) : ∃ h' : Hp, s_X10_canBe 66 x h = some (bI (sB h m x), h') ∧ Fr (scr 66) h h' ∧ FrK 66 scrK h h' := by
  obtain ⟨b, h', e, f, k, w⟩ := canBe_z hM x
  refine ⟨h', ?_, f, k⟩
  rw [e]
  have : b = sB h m x := bool_eq (w.trans sB_iff.symm)
  rw [this]
/-- all constraints, as bits -/
abbrev aI (m : Nat) : Int32 := ((1 : Int32) <<< (nI m &&& 31)) - (1 : Int32)
theorem allC_z {h : Hp} {m : Nat} (e : h.1 1 2 = nI m) : s_X9_allConstraints 0 h = some (aI m) := by
  unfold s_X9_allConstraints
  simp only [Nat.zero_add]
  rw [e]
theorem allB_z {h : Hp} {m : Nat} (e : h.1 66 3 = nI m) : s_X10_allBounds 66 h = some (aI m) := by
  unfold s_X10_allBounds
  rw [e]
theorem satis_z {h : Hp} {nv nf m lv : Nat} (hP : ProbR h nv nf m lv) (hn1 : 1 ≤ nv) (hc : CIM h nv m) : s_X9_satisfiable 0 h = some (bI (sB h m (aI m))) := by
  unfold s_X9_satisfiable
  simp only [Nat.zero_add]
  rw [allC_z hP.2.2.2.1.1, bnd_s, within_m hP hn1 hc, bnd_s]
  cases sB h m (aI m) <;> rfl
theorem met_step {h : Hp} {nv nf m lv : Nat} (hP : ProbR h nv nf m lv) (hn1 : 1 ≤ nv) (hc : CIM h nv m) : ∃ r : Int32, ∃ h2 : Hp, s_X9_met 0 h = some r ∧ s_X10_met 66 h = some (r, h2) ∧ Fr (scr 66) h h2 ∧ FrK 66 scrK h h2 := by
  have hM := hP.2.2.2.1.2.1
  obtain ⟨h2, e, f, k⟩ := canBe_m hM (aI m)
  refine ⟨bI (sB h m (aI m)), h2, ?_, ?_, f, k⟩
  · unfold s_X9_met
    rw [satis_z hP hn1 hc, bnd_s]
    cases sB h m (aI m) <;> rfl
  · unfold s_X10_met
    rw [allB_z hM.1, bnd_s, e, bnd_s]
    cases sB h m (aI m) <;> rfl
/-- from the last to the first: away with what is not wanted -/
abbrev wo (x : Int32) (k : Int32) : Int32 := x &&& (((1 : Int32) <<< (k &&& 31)) ^^^ (-1 : Int32))
def shr (g : Int32 → Bool) : Nat → Int32 → Int32
  | 0, x => x
  | k + 1, x => shr g k (if g (wo x (nI k)) = true then wo x (nI k) else x)
theorem shr_succ (g : Int32 → Bool) (k : Nat) (x : Int32) : shr g (k + 1) x = shr g k (if g (wo x (nI k)) = true then wo x (nI k) else x) := rfl
theorem nI_back (j : Nat) : nI j + (-1 : Int32) = nI j - 1 := (Int32.sub_eq_add_neg _ _).symm
theorem nI_neg1 : nI 0 - 1 < (0 : Int32) := by decide
theorem nI_sub1 (k : Nat) : nI (k + 1) - 1 = nI k := nI_pred k
theorem nI_npos (k : Nat) (h : k < 2147483648) : ¬ nI k < (0 : Int32) := nI_pos h
theorem sub1_z {k : Nat} (h : k < 1000) : ((nI k - 1).toInt + 1).toNat = k := by
  have z1 : (1 : Int32).toInt = 1 := by decide
  rw [sub_z (by rw [nI_z (by omega), z1]; omega) (by rw [nI_z (by omega), z1]; omega), nI_z (by omega), z1]; omega
theorem coreSet_z {h : Hp} {nv nf m lv : Nat} (hP : ProbR h nv nf m lv) (hn1 : 1 ≤ nv) (hc : CIM h nv m) : s_X9_coreSet 0 h = some (shr (fun y => !sB h m y) m (aI m)) := by
  have hm := hP.2.2.2.1.2.1.2.1
  unfold s_X9_coreSet
  simp only [Nat.zero_add]
  rw [allC_z hP.2.2.2.1.1, bnd_s, lt_red, hP.2.2.2.1.1]
  obtain ⟨e, he, hp⟩ := iter_fuel (f := fun s : Int32 × Int32 => s_X9_coreSet_l15 0 s.1 s.2 h)
    (fun z => ∃ (k : Nat) (x : Int32), z = (x, nI k - 1) ∧ k ≤ m ∧ shr (fun y => !sB h m y) k x = shr (fun y => !sB h m y) m (aI m))
    (fun z => (z.2.toInt + 1).toNat)
    (fun e => e = shr (fun y => !sB h m y) m (aI m)) (by
    rintro z ⟨k, x, rfl, hk, hx⟩
    dsimp only
    unfold s_X9_coreSet_l15 s_X9_coreSet_b44
    simp only [Nat.zero_add]
    cases k with
    | zero =>
      rw [if_pos nI_neg1]
      exact Or.inr ⟨_, rfl, hx⟩
    | succ k =>
      have s1 := sub1_z (k := k) (by omega)
      have s2 := sub1_z (k := k + 1) (by omega)
      rw [nI_sub1] at s2
      rw [nI_sub1, if_neg (nI_npos k (by omega)), within_m hP hn1 hc, bnd_s]
      rw [shr_succ] at hx
      cases hs : sB h m (wo x (nI k))
      · rw [if_neg (by decide), lt_red, lt_red, nI_back]
        refine Or.inl ⟨_, rfl, ⟨k, _, rfl, by omega, ?_⟩, ?_⟩
        · rw [hs] at hx; exact hx
        · dsimp only; rw [s1, s2]; omega
      · rw [if_pos (by decide), lt_red, nI_back]
        refine Or.inl ⟨_, rfl, ⟨k, _, rfl, by omega, ?_⟩, ?_⟩
        · rw [hs] at hx; exact hx
        · dsimp only; rw [s1, s2]; omega)
    (aI m, nI m - 1) ⟨m, _, rfl, by omega, rfl⟩ (by dsimp only; rw [sub1_z (by omega)]; omega)
  rw [he, bnd_s, hp]
theorem coreOf_z {h : Hp} {nq m : Nat} (hM : MB h 66 nq m) : ∃ h2, s_X10_coreOf 66 h = some (if sB h m (aI m) = true then 0 else shr (fun y => !sB h m y) m (aI m), h2) ∧ Fr (scr 66) h h2 ∧ FrK 66 scrK h h2 := by
  have hm := hM.2.1
  obtain ⟨H, e, f, k⟩ := canBe_m hM (aI m)
  unfold s_X10_coreOf
  rw [allB_z hM.1, bnd_s, e, bnd_s]
  dsimp only
  cases hs0 : sB h m (aI m)
  · rw [if_pos (by decide), lt_red, (k 3 (by simp [scrK, iks])).1, hM.1]
    obtain ⟨e, he, hp⟩ := iter_fuel (f := fun s : Int32 × Int32 × Hp => s_X10_coreOf_l22 66 s.1 s.2.1 s.2.2)
      (fun z => ∃ (k : Nat) (x : Int32) (H : Hp), z = (x, nI k - 1, H) ∧ k ≤ m ∧ shr (fun y => !sB h m y) k x = shr (fun y => !sB h m y) m (aI m) ∧ Fr (scr 66) h H ∧ FrK 66 scrK h H)
      (fun z => (z.2.1.toInt + 1).toNat)
      (fun e => e.1 = shr (fun y => !sB h m y) m (aI m) ∧ Fr (scr 66) h e.2 ∧ FrK 66 scrK h e.2) (by
      rintro z ⟨k, x, H, rfl, hk, hx, hF, hK⟩
      dsimp only
      unfold s_X10_coreOf_l22 s_X10_coreOf_b51
      cases k with
      | zero =>
        rw [if_pos nI_neg1]
        exact Or.inr ⟨_, rfl, hx, hF, hK⟩
      | succ k =>
        have s1 := sub1_z (k := k) (by omega)
        have s2 := sub1_z (k := k + 1) (by omega)
        rw [nI_sub1] at s2
        have hMH := (hM.fr hF hK (by simp [scrK, iks]) (by simp [scr]) (by simp [scr])).1
        obtain ⟨H2, e2, f2, k2⟩ := canBe_m hMH (wo x (nI k))
        rw [hM.sB hF hK (by simp [scrK, iks]) (by simp [scr]) (by simp [scr])] at e2
        rw [nI_sub1, if_neg (nI_npos k (by omega)), e2, bnd_s]
        dsimp only
        rw [shr_succ] at hx
        cases hs : sB h m (wo x (nI k))
        · rw [if_pos (by decide), lt_red, nI_back]
          refine Or.inl ⟨_, rfl, ⟨k, _, _, rfl, by omega, ?_, hF.tr f2, hK.tr k2⟩, ?_⟩
          · rw [hs] at hx; exact hx
          · dsimp only; rw [s1, s2]; omega
        · rw [if_neg (by decide), lt_red, nI_back]
          refine Or.inl ⟨_, rfl, ⟨k, _, _, rfl, by omega, ?_, hF.tr f2, hK.tr k2⟩, ?_⟩
          · rw [hs] at hx; exact hx
          · dsimp only; rw [s1, s2]; omega)
      (aI m, nI m - 1, H) ⟨m, _, _, rfl, by omega, rfl, f, k⟩ (by dsimp only; rw [sub1_z (by omega)]; omega)
    rw [he, bnd_s]
    exact ⟨e.2, by rw [hp.1]; rfl, hp.2⟩
  · rw [if_neg (by decide)]
    exact ⟨H, rfl, f, k⟩
theorem core_step {h : Hp} {nv nf m lv : Nat} (hP : ProbR h nv nf m lv) (hn1 : 1 ≤ nv) (hc : CIM h nv m) : ∃ r : Int32, ∃ h2 : Hp, s_X9_core 0 h = some r ∧ s_X10_core 66 h = some (r, h2) ∧ Fr (scr 66) h h2 ∧ FrK 66 scrK h h2 := by
  have hM := hP.2.2.2.1.2.1
  obtain ⟨h2, e, f, k⟩ := coreOf_z hM
  refine ⟨if sB h m (aI m) = true then 0 else shr (fun y => !sB h m y) m (aI m), h2, ?_, ?_, f, k⟩
  · unfold s_X9_core
    rw [satis_z hP hn1 hc, bnd_s]
    cases hs : sB h m (aI m)
    · rw [if_pos (by decide), coreSet_z hP hn1 hc, bnd_s]; rfl
    · rfl
  · unfold s_X10_core
    rw [e, bnd_s]
