/-! the steps follows, since, why -/
theorem aI_bits {m : Nat} (hm : m ≤ 10) {n : Nat} (hn : n ≤ m) : ∀ j, m ≤ j → j < 32 → bt (aI n) j = false := by
  intro j h1 h2
  rw [aI_n n (by omega), bt_nI _ _ h2, Nat.testBit_two_pow_sub_one]
  exact decide_eq_false (by omega)
theorem wo_bits {m : Nat} {x k : Int32} (hx : ∀ j, m ≤ j → j < 32 → bt x j = false) : ∀ j, m ≤ j → j < 32 → bt (wo x k) j = false := by
  intro j h1 h2
  rw [b_and, hx j h1 h2, Bool.false_and]
/-- the class's side: refused, or denied, asked, cut -/
theorem ask_class {h : Hp} {nv nf m lv : Nat} (hP : ProbR h nv nf m lv) (hn1 : 1 ≤ nv) (hc : CIM h nv m) (a1 a2 a3 : Int32) : (okB nf a1 a2 a3 = false) ∨ (okB nf a1 a2 a3 = true ∧ ∃ (g s : Nat) (w : Int) (h1 h2 : Hp), a1 = nI g ∧ a2 = nI s ∧ a3 = i32 w ∧ g < nf ∧ s ≤ 4 ∧ (-50 ≤ w ∧ w ≤ 50) ∧ s_X9_deny 0 a1 a2 a3 h = some h1 ∧ Fr rowc h h1 ∧ DC h h1 nv m g s w ∧ s_X7_cut 32 (h1.1 1 2) h1 = some h2 ∧ Fr rowc h h2 ∧ CIM h2 nv m) := by
  cases ok : okB nf a1 a2 a3
  · exact Or.inl rfl
  right
  refine ⟨rfl, ?_⟩
  have ok2 : (0 ≤ a1.toInt ∧ a1.toInt < nf) ∧ (0 ≤ a2.toInt ∧ a2.toInt ≤ 4) ∧ (-50 ≤ a3.toInt ∧ a3.toInt ≤ 50) := of_decide_eq_true ok
  obtain ⟨g, hg⟩ : ∃ i : Nat, a1.toInt = i := ⟨a1.toInt.toNat, by omega⟩
  obtain ⟨s, hs⟩ : ∃ i : Nat, a2.toInt = i := ⟨a2.toInt.toNat, by omega⟩
  obtain ⟨h1, e1, f1, d1⟩ := deny_z (g := g) (s := s) (w := a3.toInt) hP hn1 hc (by omega) (by omega) ok2.2.2
  obtain ⟨h2, e2, f2, c2⟩ := cutback_z hP f1 d1
  rw [i32_of, ← of_nat hg, ← of_nat hs] at e1
  exact ⟨g, s, a3.toInt, h1, h2, of_nat hg, of_nat hs, (i32_of _).symm, by omega, by omega, ok2.2.2, e1, f1, d1, e2, f2, c2⟩
theorem ProbR.ask {h h2 : Hp} {nv nf m lv : Nat} (hP : ProbR h nv nf m lv) (f : Fr rowc h h2) : ProbR h2 nv nf m lv := hP.fr f (FrK.of f (by simp [rowc]) (ks := [])) (FrK.of f (by simp [rowc]) (ks := [])) (by simp [rowc]) (by simp) (by simp)
abbrev askc : List Nat := rowc ++ scr 66
/-- behind the class's side: the model's -/
theorem ask_inv {h h1 h2 : Hp} {nv nf m lv : Nat} (hP : ProbR h nv nf m lv) (f1 : Fr rowc h h1) (c1 : CIM h1 nv m) (f2 : Fr (scr 66) h1 h2) (k2 : FrK 66 scrK h1 h2) : ProbR h2 nv nf m lv ∧ CIM h2 nv m ∧ Fr askc h h2 ∧ FrK 66 scrK h h2 := by
  have P1 := hP.ask f1
  have P2 : ProbR h2 nv nf m lv := P1.fr f2 (FrK.of f2 (by simp [scr]) (ks := [])) k2 (by simp [scr]) (by simp) (by simp [scrK, iks])
  refine ⟨P2, ?_, (f1.wid (by simp [askc, rowc])).tr (f2.wid (by simp [askc, rowc, scr])), (FrK.of f1 (by simp [rowc])).tr k2⟩
  obtain ⟨-, g1, g2, g3, g4⟩ := P1.2.2.2.1.2.1.fr f2 k2 (by simp [scrK, iks]) (by simp [scr]) (by simp [scr])
  show CI h2 nv m (fun i => mK h2 66 (mG h2 66 i)) (mS h2 66) (mD h2 66)
  rw [g1, g2, g3, g4]
  exact CI.fr c1 f2 (by simp [scr]) (by simp [scr]) (by simp [scr]) (by simp [scr]) (by simp [scr]) (by simp [scr]) (by simp [scr])
theorem fB_row {h h1 : Hp} {nv nf m lv : Nat} (hP : ProbR h nv nf m lv) (f1 : Fr rowc h h1) (x : Int32) (g s : Nat) (w : Int) : fB h1 m x g s w = fB h m x g s w := hP.2.2.2.1.2.1.fB f1 (FrK.of f1 (by simp [rowc]) (ks := [])) (by simp) (by simp [rowc]) (by simp [rowc]) x g s w
theorem follows_step {h : Hp} {nv nf m lv : Nat} (hP : ProbR h nv nf m lv) (hn1 : 1 ≤ nv) (hc : CIM h nv m) (a1 a2 a3 : Int32) : ∃ r : Int32, ∃ h1 h2 : Hp, s_X9_follows 0 a1 a2 a3 h = some (r, h1) ∧ s_X10_follows 66 a1 a2 a3 h1 = some (r, h2) ∧ ProbR h2 nv nf m lv ∧ CIM h2 nv m ∧ Fr askc h h2 ∧ FrK 66 scrK h h2 := by
  have f1 := hP.2.1.1
  have f2 := hP.2.1.2.1
  have f3 := hP.2.1.2.2.1
  have hm := hP.2.2.2.1.2.1.2.1
  have A := allowsC_z (P := 1) f1 f3 a1 a2 a3
  have B : ∀ H : Hp, H.1 66 1 = nI nf → s_X10_isTold 66 a1 a2 a3 H = some (bI (okB nf a1 a2 a3)) := fun H e => isTold_z e f3 a1 a2 a3
  rcases ask_class hP hn1 hc a1 a2 a3 with ok | ⟨ok, g, s, w, H1, H2, rfl, rfl, rfl, hg, hs, hw, e1, F1, D1, e2, F2, C2⟩
  · refine ⟨-1, h, h, ?_, ?_, hP, hc, Fr.rf, FrK.rf⟩
    · unfold s_X9_follows; simp only [Nat.zero_add]; rw [A, ok]; rfl
    · unfold s_X10_follows; rw [B h f2, ok]; rfl
  have P2 := hP.ask F2
  obtain ⟨H3, e3, F3, K3⟩ := doesFollow_z (x := aI m) P2.2.2.2.1.2.1 hg (P2.2.2.1 g hg).1 hs hw
  rw [fB_row hP F2] at e3
  obtain ⟨q1, q2, q3, q4⟩ := ask_inv hP F2 C2 F3 K3
  refine ⟨bI (fB h m (aI m) g s w), H2, H3, ?_, ?_, q1, q2, q3, q4⟩
  · unfold s_X9_follows s_X9_follows_b38
    simp only [Nat.zero_add]
    rw [A, ok, bnd_s, if_neg (by decide), e1, bnd_s, allC_z (by rw [(F1 1 (by simp [rowc])).1]; exact hP.2.2.2.1.1), bnd_s, followsFrom_z hP hn1 hg hs hw F1 D1 (aI_bits hm.1 (Nat.le_refl _)), bnd_s, e2, bnd_s, bnd_s]
    cases fB h m (aI m) g s w <;> rfl
  · unfold s_X10_follows
    rw [B H2 P2.2.1.2.1, ok, bnd_s, if_neg (by decide), allB_z P2.2.2.2.1.2.1.1, bnd_s, e3, bnd_s]
    cases fB h m (aI m) g s w <;> rfl
def Fst (P : Nat → Bool) (m : Nat) (r : Int32) : Prop := (∃ n, n ≤ m ∧ P n = true ∧ (∀ j, j < n → P j = false) ∧ r = nI n) ∨ ((∀ n, n ≤ m → P n = false) ∧ r = -9)
theorem fst_one {P : Nat → Bool} {m : Nat} {r r' : Int32} (a : Fst P m r) (b : Fst P m r') : r = r' := by
  rcases a with ⟨n, a1, a2, a3, rfl⟩ | ⟨a1, rfl⟩
  · rcases b with ⟨n', b1, b2, b3, rfl⟩ | ⟨b1, rfl⟩
    · rcases Nat.lt_trichotomy n n' with q | q | q
      · rw [b3 n q] at a2; cases a2
      · rw [q]
      · rw [a3 n' q] at b2; cases b2
    · rw [b1 n a1] at a2; cases a2
  · rcases b with ⟨n', b1, b2, b3, rfl⟩ | ⟨b1, rfl⟩
    · rw [a1 n' b1] at b2; cases b2
    · rfl
theorem since_step {h : Hp} {nv nf m lv : Nat} (hP : ProbR h nv nf m lv) (hn1 : 1 ≤ nv) (hc : CIM h nv m) (a1 a2 a3 : Int32) : ∃ r : Int32, ∃ h1 h2 : Hp, s_X9_since 0 a1 a2 a3 h = some (r, h1) ∧ s_X10_since 66 a1 a2 a3 h1 = some (r, h2) ∧ ProbR h2 nv nf m lv ∧ CIM h2 nv m ∧ Fr askc h h2 ∧ FrK 66 scrK h h2 := by
  have f1 := hP.2.1.1
  have f2 := hP.2.1.2.1
  have f3 := hP.2.1.2.2.1
  have hm := hP.2.2.2.1.2.1.2.1
  have A := allowsC_z (P := 1) f1 f3 a1 a2 a3
  have B : ∀ H : Hp, H.1 66 1 = nI nf → s_X10_isTold 66 a1 a2 a3 H = some (bI (okB nf a1 a2 a3)) := fun H e => isTold_z e f3 a1 a2 a3
  rcases ask_class hP hn1 hc a1 a2 a3 with ok | ⟨ok, g, s, w, H1, H2, rfl, rfl, rfl, hg, hs, hw, e1, F1, D1, e2, F2, C2⟩
  · refine ⟨-1, h, h, ?_, ?_, hP, hc, Fr.rf, FrK.rf⟩
    · unfold s_X9_since; simp only [Nat.zero_add]; rw [A, ok]; rfl
    · unfold s_X10_since; rw [B h f2, ok]; rfl
  have P2 := hP.ask F2
  have e12 : H1.1 1 2 = nI m := by rw [(F1 1 (by simp [rowc])).1]; exact hP.2.2.2.1.1
  -- the class's loop
  obtain ⟨r, he, hr⟩ := iter_fuel (f := fun z : Int32 × Int32 => s_X9_since_l29 0 z.1 z.2 H1)
    (fun z => (∃ n, z = (-9, nI n) ∧ n ≤ m + 1 ∧ ∀ j, j < n → fB h m (aI j) g s w = false) ∨ (∃ n, z = (nI n, nI (n + 1)) ∧ n ≤ m ∧ fB h m (aI n) g s w = true ∧ ∀ j, j < n → fB h m (aI j) g s w = false))
    (fun z => if z.1 = -9 then 40 - z.2.toNatClampNeg else 0)
    (fun r => Fst (fun n => fB h m (aI n) g s w) m r) (by
    rintro z (⟨n, rfl, hn, hz⟩ | ⟨n, rfl, hn, hz1, hz2⟩)
    · dsimp only
      unfold s_X9_since_l29 s_X9_since_b65
      rw [Nat.zero_add, e12]
      by_cases q : n ≤ m
      · rw [if_neg (by rw [nI_le_iff (by omega) (by omega)]; omega), if_pos rfl]
        have ff := followsFrom_z (x := aI n) hP hn1 hg hs hw F1 D1 (aI_bits hm.1 q)
        rw [ff, bnd_s]
        cases hb : fB h m (aI n) g s w
        · rw [if_pos (by decide), lt_red, nI_1]
          refine Or.inl ⟨_, rfl, Or.inl ⟨n + 1, rfl, by omega, fun j hj => ?_⟩, ?_⟩
          · rcases Nat.lt_or_ge j n with y | y
            · exact hz j y
            · rw [show j = n by omega]; exact hb
          · rw [if_pos rfl, if_pos rfl, nI_clamp (by omega), nI_clamp (by omega)]; omega
        · rw [if_neg (by decide), lt_red, nI_1]
          refine Or.inl ⟨_, rfl, Or.inr ⟨n, rfl, q, hb, hz⟩, ?_⟩
          rw [if_pos rfl, if_neg (by
            intro y
            have := eq_z.mp y
            rw [nI_z (by omega), show (-9 : Int32).toInt = -9 from by decide] at this
            omega), nI_clamp (by omega)]
          omega
      · rw [if_pos (by rw [nI_le_iff (by omega) (by omega)]; omega)]
        exact Or.inr ⟨_, rfl, Or.inr ⟨fun j hj => hz j (by omega), rfl⟩⟩
    · dsimp only
      unfold s_X9_since_l29
      rw [Nat.zero_add, e12]
      by_cases q : n + 1 ≤ m
      · rw [if_neg (by rw [nI_le_iff (by omega) (by omega)]; omega), if_neg (by
            intro y
            have := eq_z.mp y
            rw [nI_z (by omega), show (-9 : Int32).toInt = -9 from by decide] at this
            omega)]
        exact Or.inr ⟨_, rfl, Or.inl ⟨n, hn, hz1, hz2, rfl⟩⟩
      · rw [if_pos (by rw [nI_le_iff (by omega) (by omega)]; omega)]
        exact Or.inr ⟨_, rfl, Or.inl ⟨n, hn, hz1, hz2, rfl⟩⟩)
    ((-9 : Int32), nI 0) (Or.inl ⟨0, rfl, by omega, fun j hj => by omega⟩) (by dsimp only; rw [if_pos rfl]; omega)
  -- the model's
  obtain ⟨e, he2, hp2⟩ := iter_fuel (f := fun z : Int32 × Hp => s_X10_since_l15 66 (nI g) (nI s) (i32 w) z.1 z.2)
    (fun z => ∃ (n : Nat) (H : Hp), z = (nI n, H) ∧ n ≤ m + 1 ∧ Fr (scr 66) H2 H ∧ FrK 66 scrK H2 H ∧ ∀ j, j < n → fB h m (aI j) g s w = false)
    (fun z => 40 - z.1.toNatClampNeg)
    (fun e => ∃ (r : Int32) (H : Hp), Sum.elim (fun t5 => some ((-9 : Int32), t5)) (fun t6 => some t6) e = some (r, H) ∧ Fst (fun n => fB h m (aI n) g s w) m r ∧ Fr (scr 66) H2 H ∧ FrK 66 scrK H2 H) (by
    rintro z ⟨n, H, rfl, hn, hF, hK, hz⟩
    dsimp only
    unfold s_X10_since_l15
    have hM2 := P2.2.2.2.1.2.1
    have hMH := hM2.fr hF hK (by simp [scrK, iks]) (by simp [scr]) (by simp [scr])
    rw [hMH.1.1]
    by_cases q : n ≤ m
    · rw [if_neg (by rw [nI_le_iff (by omega) (by omega)]; omega)]
      obtain ⟨H3, e3, F3, K3⟩ := doesFollow_z (h := H) (x := aI n) hMH.1 hg (by rw [hMH.2.2.2.2]; exact (P2.2.2.1 g hg).1) hs hw
      rw [hM2.fB hF hK (by simp [scrK, iks]) (by simp [scr]) (by simp [scr]), fB_row hP F2] at e3
      rw [e3, bnd_s]
      dsimp only
      cases hb : fB h m (aI n) g s w
      · rw [if_pos (by decide), lt_red, nI_1]
        refine Or.inl ⟨_, rfl, ⟨n + 1, H3, rfl, by omega, hF.tr F3, hK.tr K3, fun j hj => ?_⟩, by rw [nI_clamp (by omega), nI_clamp (by omega)]; omega⟩
        rcases Nat.lt_or_ge j n with y | y
        · exact hz j y
        · rw [show j = n by omega]; exact hb
      · rw [if_neg (by decide)]
        exact Or.inr ⟨_, rfl, nI n, H3, rfl, Or.inl ⟨n, q, hb, hz, rfl⟩, hF.tr F3, hK.tr K3⟩
    · rw [if_pos (by rw [nI_le_iff (by omega) (by omega)]; omega)]
      exact Or.inr ⟨_, rfl, -9, H, rfl, Or.inr ⟨fun j hj => hz j (by omega), rfl⟩, hF, hK⟩)
    (nI 0, H2) ⟨0, H2, rfl, by omega, Fr.rf, FrK.rf, fun j hj => by omega⟩ (by dsimp only; rw [nI_clamp (by omega)]; omega)
  obtain ⟨r2, H3, e3, hr2, F3, K3⟩ := hp2
  have := fst_one hr hr2
  subst this
  obtain ⟨q1, q2, q3, q4⟩ := ask_inv hP F2 C2 F3 K3
  refine ⟨r, H2, H3, ?_, ?_, q1, q2, q3, q4⟩
  · unfold s_X9_since
    simp only [Nat.zero_add]
    rw [A, ok, bnd_s, if_neg (by decide), e1, bnd_s, li0, he, bnd_s, e2, bnd_s]
  · unfold s_X10_since
    rw [B H2 P2.2.1.2.1, ok, bnd_s, if_neg (by decide), li0, he2, bnd_s]
    exact e3
theorem why_step {h : Hp} {nv nf m lv : Nat} (hP : ProbR h nv nf m lv) (hn1 : 1 ≤ nv) (hc : CIM h nv m) (a1 a2 a3 : Int32) : ∃ r : Int32, ∃ h1 h2 : Hp, s_X9_why 0 a1 a2 a3 h = some (r, h1) ∧ s_X10_why 66 a1 a2 a3 h1 = some (r, h2) ∧ ProbR h2 nv nf m lv ∧ CIM h2 nv m ∧ Fr askc h h2 ∧ FrK 66 scrK h h2 := by
  have f1 := hP.2.1.1
  have f2 := hP.2.1.2.1
  have f3 := hP.2.1.2.2.1
  have hm := hP.2.2.2.1.2.1.2.1
  have A := allowsC_z (P := 1) f1 f3 a1 a2 a3
  have B : ∀ H : Hp, H.1 66 1 = nI nf → s_X10_isTold 66 a1 a2 a3 H = some (bI (okB nf a1 a2 a3)) := fun H e => isTold_z e f3 a1 a2 a3
  rcases ask_class hP hn1 hc a1 a2 a3 with ok | ⟨ok, g, s, w, H1, H2, rfl, rfl, rfl, hg, hs, hw, e1, F1, D1, e2, F2, C2⟩
  · refine ⟨-1, h, h, ?_, ?_, hP, hc, Fr.rf, FrK.rf⟩
    · unfold s_X9_why; simp only [Nat.zero_add]; rw [A, ok]; rfl
    · unfold s_X10_why; rw [B h f2, ok]; rfl
  have P2 := hP.ask F2
  have hM2 := P2.2.2.2.1.2.1
  have e12 : H1.1 1 2 = nI m := by rw [(F1 1 (by simp [rowc])).1]; exact hP.2.2.2.1.1
  have ff0 := followsFrom_z (x := aI m) hP hn1 hg hs hw F1 D1 (aI_bits hm.1 (Nat.le_refl _))
  obtain ⟨H3, e3, F3, K3⟩ := doesFollow_z (x := aI m) P2.2.2.2.1.2.1 hg (P2.2.2.1 g hg).1 hs hw
  rw [fB_row hP F2] at e3
  cases hb0 : fB h m (aI m) g s w
  · obtain ⟨q1, q2, q3, q4⟩ := ask_inv hP F2 C2 F3 K3
    refine ⟨-9, H2, H3, ?_, ?_, q1, q2, q3, q4⟩
    · unfold s_X9_why
      simp only [Nat.zero_add]
      rw [A, ok, bnd_s, if_neg (by decide), e1, bnd_s, allC_z e12, bnd_s, ff0, bnd_s, lt_red, hb0, e12]
      obtain ⟨e, he, -⟩ := iter_fuel (f := fun z : Int32 × Int32 => s_X9_why_l47 0 z.1 (bI false) z.2 H1) (fun _ => True) (fun _ => 0) (fun _ => True) (by
        rintro z -
        unfold s_X9_why_l47
        by_cases q : z.2 < 0
        · rw [if_pos q]; exact Or.inr ⟨_, rfl, trivial⟩
        · rw [if_neg q, if_pos (by decide)]; exact Or.inr ⟨_, rfl, trivial⟩) (aI m, nI m - 1) trivial (by omega)
      rw [he, bnd_s, ← e12, e2, bnd_s, if_pos (by decide)]
    · unfold s_X10_why
      rw [B H2 P2.2.1.2.1, ok, bnd_s, if_neg (by decide), allB_z hM2.1, bnd_s, e3, bnd_s, hb0]
      rfl
  · obtain ⟨e, he, hp⟩ := iter_fuel (f := fun z : Int32 × Int32 => s_X9_why_l47 0 z.1 (bI true) z.2 H1)
      (fun z => ∃ (k : Nat) (x : Int32), z = (x, nI k - 1) ∧ k ≤ m ∧ (∀ j, m ≤ j → j < 32 → bt x j = false) ∧ shr (fun y => fB h m y g s w) k x = shr (fun y => fB h m y g s w) m (aI m))
      (fun z => (z.2.toInt + 1).toNat)
      (fun e => e = shr (fun y => fB h m y g s w) m (aI m)) (by
      rintro z ⟨k, x, rfl, hk, hxb, hx⟩
      dsimp only
      unfold s_X9_why_l47 s_X9_why_b84
      cases k with
      | zero =>
        rw [if_pos nI_neg1]
        exact Or.inr ⟨_, rfl, hx⟩
      | succ k =>
        have s1 := sub1_z (k := k) (by omega)
        have s2 := sub1_z (k := k + 1) (by omega)
        rw [nI_sub1] at s2
        have ff := followsFrom_z (x := wo x (nI k)) hP hn1 hg hs hw F1 D1 (wo_bits hxb)
        rw [nI_sub1, if_neg (nI_npos k (by omega)), if_neg (by decide), ff, bnd_s]
        rw [shr_succ] at hx
        cases hb : fB h m (wo x (nI k)) g s w
        · rw [if_pos (by decide), lt_red, nI_back]
          refine Or.inl ⟨_, rfl, ⟨k, _, rfl, by omega, hxb, ?_⟩, ?_⟩
          · rw [hb] at hx; exact hx
          · dsimp only; rw [s1, s2]; omega
        · rw [if_neg (by decide), lt_red, lt_red, nI_back]
          refine Or.inl ⟨_, rfl, ⟨k, _, rfl, by omega, wo_bits hxb, ?_⟩, ?_⟩
          · rw [hb] at hx; exact hx
          · dsimp only; rw [s1, s2]; omega)
      (aI m, nI m - 1) ⟨m, _, rfl, by omega, aI_bits hm.1 (Nat.le_refl _), rfl⟩ (by dsimp only; rw [sub1_z (by omega)]; omega)
    obtain ⟨e', he', hp'⟩ := iter_fuel (f := fun z : Int32 × Int32 × Hp => s_X10_why_l41 66 (nI g) (nI s) (i32 w) z.1 z.2.1 z.2.2)
      (fun z => ∃ (k : Nat) (x : Int32) (H : Hp), z = (x, nI k - 1, H) ∧ k ≤ m ∧ shr (fun y => fB h m y g s w) k x = shr (fun y => fB h m y g s w) m (aI m) ∧ Fr (scr 66) H2 H ∧ FrK 66 scrK H2 H)
      (fun z => (z.2.1.toInt + 1).toNat)
      (fun e => e.1 = shr (fun y => fB h m y g s w) m (aI m) ∧ Fr (scr 66) H2 e.2 ∧ FrK 66 scrK H2 e.2) (by
      rintro z ⟨k, x, H, rfl, hk, hx, hF, hK⟩
      dsimp only
      unfold s_X10_why_l41 s_X10_why_b79
      cases k with
      | zero =>
        rw [if_pos nI_neg1]
        exact Or.inr ⟨_, rfl, hx, hF, hK⟩
      | succ k =>
        have s1 := sub1_z (k := k) (by omega)
        have s2 := sub1_z (k := k + 1) (by omega)
        rw [nI_sub1] at s2
        have hMH := hM2.fr hF hK (by simp [scrK, iks]) (by simp [scr]) (by simp [scr])
        obtain ⟨H4, e4, F4, K4⟩ := doesFollow_z (h := H) (x := wo x (nI k)) hMH.1 hg (by rw [hMH.2.2.2.2]; exact (P2.2.2.1 g hg).1) hs hw
        rw [hM2.fB hF hK (by simp [scrK, iks]) (by simp [scr]) (by simp [scr]), fB_row hP F2] at e4
        rw [nI_sub1, if_neg (nI_npos k (by omega)), e4, bnd_s]
        dsimp only
        rw [shr_succ] at hx
        cases hb : fB h m (wo x (nI k)) g s w
        · rw [if_pos (by decide), lt_red, nI_back]
          refine Or.inl ⟨_, rfl, ⟨k, _, _, rfl, by omega, ?_, hF.tr F4, hK.tr K4⟩, ?_⟩
          · rw [hb] at hx; exact hx
          · dsimp only; rw [s1, s2]; omega
        · rw [if_neg (by decide), lt_red, nI_back]
          refine Or.inl ⟨_, rfl, ⟨k, _, _, rfl, by omega, ?_, hF.tr F4, hK.tr K4⟩, ?_⟩
          · rw [hb] at hx; exact hx
          · dsimp only; rw [s1, s2]; omega)
      (aI m, nI m - 1, H3) ⟨m, _, _, rfl, by omega, rfl, F3, K3⟩ (by dsimp only; rw [sub1_z (by omega)]; omega)
    obtain ⟨q1, q2, q3, q4⟩ := ask_inv hP F2 C2 hp'.2.1 hp'.2.2
    refine ⟨shr (fun y => fB h m y g s w) m (aI m), H2, e'.2, ?_, ?_, q1, q2, q3, q4⟩
    · unfold s_X9_why
      simp only [Nat.zero_add]
      rw [A, ok, bnd_s, if_neg (by decide), e1, bnd_s, allC_z e12, bnd_s, ff0, bnd_s, lt_red, hb0, e12, he, bnd_s, ← e12, e2, bnd_s, if_neg (by decide), hp]
    · unfold s_X10_why
      rw [B H2 P2.2.1.2.1, ok, bnd_s, if_neg (by decide), allB_z hM2.1, bnd_s, e3, bnd_s, hb0]
      dsimp only
      rw [if_neg (by decide), lt_red, (K3 3 (by simp [scrK, iks])).1, hM2.1, he', bnd_s, hp'.1]
