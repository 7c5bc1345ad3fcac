/-! setRows and canBe -/
theorem mset_congr {h h' : Hp} {C : Nat} (g1 : mG h' C = mG h C) (g2 : mS h' C = mS h C) (g3 : mD h' C = mD h C) (g4 : mK h' C = mK h C) (x : Int32) (m : Nat) : mset h' C x m = mset h C x m := by
  unfold mset; rw [g1, g2, g3, g4]
theorem mset_bd {h : Hp} {C nq m : Nat} (hM : MB h C nq m) (x : Int32) : ∀ r ∈ mset h C x m, RB 3 50 r := by
  intro r hr
  unfold mset at hr
  obtain ⟨k, hk, hr⟩ := List.mem_flatMap.mp hr
  have hkm : k < m := by simpa using (List.mem_filter.mp hk).1
  obtain ⟨⟨a1, a2⟩, -, a3⟩ := hM.2.2.2 k hkm
  exact sR_bd (fun v hv => hM.2.2.1 _ v a2 hv) a3 r hr
theorem setRows_z {h : Hp} {C nq m : Nat} (hM : MB h C nq m) (x : Int32) : ∃ h', s_X10_setRows C x h = some h' ∧ Fr [C, C + 6, C + 7, C + 8, C + 9, C + 10] h h' ∧ FrK C [9] h h' ∧ RowL h' C (mset h C x m) := by
  have hm := hM.2.1
  unfold s_X10_setRows
  rw [lt_red]
  generalize gS : [C, C + 6, C + 7, C + 8, C + 9, C + 10] = S
  have hmb : ∀ H : Hp, Fr S h H → FrK C [9] h H → MB H C nq m ∧ mG H C = mG h C ∧ mS H C = mS h C ∧ mD H C = mD h C ∧ mK H C = mK h C := fun H f k => hM.fr f k (by simp) (by subst gS; simp) (by subst gS; simp)
  obtain ⟨e, he, hp⟩ := iter_fuel (f := fun s : Int32 × Hp => s_X10_setRows_l7 C x s.1 s.2)
    (fun z => ∃ (i : Nat) (H : Hp), z = (nI i, H) ∧ i ≤ m ∧ Fr S h H ∧ FrK C [9] h H ∧ RowL H C (mset h C x i))
    (fun z => m - z.1.toNatClampNeg)
    (fun e => Fr S h e ∧ FrK C [9] h e ∧ RowL e C (mset h C x m)) (by
    rintro z ⟨i, H, rfl, hi, hF, hK, hR⟩
    dsimp only
    unfold s_X10_setRows_l7 s_X10_setRows_b70
    obtain ⟨hH, g1, g2, g3, g4⟩ := hmb H hF hK
    rw [hH.1]
    by_cases q : i < m
    · rw [if_pos (nI_lt q (by omega)), sh1 x (by omega)]
      have mu : m - (nI (i + 1)).toNatClampNeg < m - (nI i).toNatClampNeg := by
        rw [nI_clamp (by omega), nI_clamp (by omega)]; omega
      have hsu := mset_succ h C x i
      cases hb : bt x i
      · rw [if_neg (by decide), lt_red, nI_1]
        refine Or.inl ⟨_, rfl, ⟨i + 1, H, rfl, by omega, hF, hK, ?_⟩, mu⟩
        rw [hsu, hb]
        simpa using hR
      · obtain ⟨⟨a1, a2⟩, ⟨a3, a4⟩, a5⟩ := hH.2.2.2 i q
        have hl := mset_len h C x i
        have k0 := hH.2.2.1 _ 0 a2 (by omega)
        have k1 := hH.2.2.1 _ 1 a2 (by omega)
        have k2 := hH.2.2.1 _ 2 a2 (by omega)
        obtain ⟨H2, e2, f2, k2, l2⟩ := comesBySort_z (F := mK H C (mG H C i)) (D := mD H C i) (s := mS H C i) hR (by omega) a4 (tl_z (H.1 (C + 1) (3 * mG H C i + 0))) (tl_z (H.1 (C + 1) (3 * mG H C i + 1))) (tl_z (H.1 (C + 1) (3 * mG H C i + 2))) (tl_z (H.1 (C + 2) (3 * i + 2))) (by omega) (by omega) (by omega) (by omega)
        rw [if_pos (by decide), li3, nI_mul, li1, nI_add, li2, nI_add, li0, coef_z hH q (by omega), coef_z hH q (by omega), coef_z hH q (by omega), ldI_n (by omega) (by omega), bnd_s, bnd_s, bnd_s, ldI_n (by omega) (by omega), a3, e2, bnd_s, lt_red, nI_add]
        refine Or.inl ⟨_, rfl, ⟨i + 1, H2, rfl, by omega, hF.tr (by rw [← gS]; exact f2), hK.tr k2, ?_⟩, mu⟩
        rw [hsu, if_pos hb, ← g1, ← g2, ← g3, ← g4]
        exact l2
    · rw [if_neg (nI_nlt (by omega) (by omega))]
      have : i = m := by omega
      subst this
      exact Or.inr ⟨_, rfl, hF, hK, hR⟩)
    (nI 0, sI h C 9 0) ⟨0, _, rfl, by omega, Fr.sI (by subst gS; simp), fun k hk => ⟨sI_ne (by simpa using hk), by rw [sI_J]⟩, ⟨by rw [sI_same]; rfl, by simp [mset], fun i hi => by simp [mset] at hi⟩⟩ (by dsimp only; rw [nI_clamp (by omega)]; omega)
  rw [li0] at he ⊢
  rw [he, bnd_s]
  exact ⟨e, rfl, hp⟩
/-- what a set of bounds asks of a point -/
def mHold (h : Hp) (C : Nat) (x : Int32) (m : Nat) (p : Nat → Rat) : Prop := ∀ r ∈ mset h C x m, sat r p
abbrev scr (C : Nat) : List Nat := [C, C + 6, C + 7, C + 8, C + 9, C + 10, C + 11, C + 12, C + 13, C + 14]
abbrev scrK : List Nat := 9 :: 15 :: iks
def CanP (h : Hp) (C m : Nat) (x : Int32) (b : Bool) (h' : Hp) : Prop := Fr (scr C) h h' ∧ FrK C scrK h h' ∧ (b = true ↔ ∃ p, mHold h C x m p) ∧ (b = true ↔ h'.1 C 28 = 0) ∧ WFI 648 10800 h' C ∧ ∀ t, inI h' C t ↔ ∃ p, mHold h C x m p ∧ p 0 = t
theorem canBe_w {h : Hp} {C nq m : Nat} (hM : MB h C nq m) (x : Int32) : ∃ (b : Bool) (h' : Hp), s_X10_canBe C x h = some (bI b, h') ∧ CanP h C m x b h' := by
  unfold s_X10_canBe
  obtain ⟨h1, e1, f1, k1, l1⟩ := setRows_z hM x
  obtain ⟨h2, e2, f2, k2, w2, t2, n2⟩ := sees_3 l1 (mset_bd hM x)
  rw [e1, bnd_s, e2, bnd_s]
  have hin : ∀ t, inI h2 C t ↔ ∃ p, mHold h C x m p ∧ p 0 = t := fun t => by
    rw [t2 t]
    constructor
    · rintro ⟨y, z, hz⟩
      exact ⟨_, hz, rfl⟩
    · rintro ⟨p, hp, rfl⟩
      refine ⟨p 1, p 2, fun r hr => (sat_ext (fun w hw => ?_)).mp (hp r hr)⟩
      rcases (show w = 0 ∨ w = 1 ∨ w = 2 by omega) with rfl | rfl | rfl <;> simp [p3]
  have hex : (∃ t, inI h2 C t) ↔ ∃ p, mHold h C x m p := by
    constructor
    · rintro ⟨t, ht⟩
      obtain ⟨p, hp, -⟩ := (hin t).mp ht
      exact ⟨p, hp⟩
    · rintro ⟨p, hp⟩
      exact ⟨p 0, (hin _).mpr ⟨p, hp, rfl⟩⟩
  have F : Fr (scr C) h h2 := (f1.wid (by simp [scr])).tr (f2.wid (by simp [scr]))
  have K : FrK C scrK h h2 := (k1.wid (by simp [scrK])).tr (k2.wid (by simp [scrK]))
  by_cases c : h2.1 C 28 = 0
  · rw [if_pos c]
    exact ⟨true, h2, rfl, F, K, ⟨fun _ => hex.mp (n2.mp c), fun _ => rfl⟩, ⟨fun _ => c, fun _ => rfl⟩, w2, hin⟩
  · rw [if_neg c]
    exact ⟨false, h2, rfl, F, K, ⟨(fun z => nomatch z), fun z => absurd (n2.mpr (hex.mpr z)) c⟩, ⟨(fun z => nomatch z), fun z => absurd z c⟩, w2, hin⟩
theorem canBe_z {h : Hp} {C nq m : Nat} (hM : MB h C nq m) (x : Int32) : ∃ (b : Bool) (h' : Hp), s_X10_canBe C x h = some (bI b, h') ∧ Fr (scr C) h h' ∧ FrK C scrK h h' ∧ (b = true ↔ ∃ p, mHold h C x m p) := by
  obtain ⟨b, h', e, f, k, w, -⟩ := canBe_w hM x
  exact ⟨b, h', e, f, k, w⟩
