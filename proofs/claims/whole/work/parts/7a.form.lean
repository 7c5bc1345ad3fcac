/-! seesForm: the interval is that of the form's values -/
def rel (s : Nat) (u v : Rat) : Prop := (s = 0 → u ≤ v) ∧ (s = 1 → u < v) ∧ (s = 2 → v ≤ u) ∧ (s = 3 → v < u) ∧ (s = 4 → u = v)
theorem lin_ng (F : Nat → Int) (p : Nat → Rat) : lin (ngF F) p = - lin F p := by
  unfold lin ngF; push_cast; grind
theorem sR_iff {s : Nat} (hs : s ≤ 4) (F : Nat → Int) (d : Int) (p : Nat → Rat) : (∀ r ∈ sR s F d, sat r p) ↔ rel s (lin F p) (d : Rat) := by
  have hn := lin_ng F p
  have hd : ((-d : Int) : Rat) = - (d : Rat) := by push_cast; rfl
  rcases (show s = 0 ∨ s = 1 ∨ s = 2 ∨ s = 3 ∨ s = 4 by omega) with rfl | rfl | rfl | rfl | rfl <;> simp [sR, sat, rel, hn] <;> try (constructor <;> intro z <;> grind)
theorem rel_scale {s : Nat} {c u v : Rat} (hc : 0 < c) : rel s (c * u) (c * v) ↔ rel s u v := by
  obtain ⟨z1, z2⟩ := sgn_eq (a := 1) (by decide) hc (x := c * v - c * u) (y := v - u) (by grind)
  obtain ⟨z3, z4⟩ := sgn_eq (a := 1) (by decide) hc (x := c * u - c * v) (y := u - v) (by grind)
  have a1 : c * u < c * v ↔ u < v := ⟨fun q => by have := z1.mp (by grind); grind, fun q => by have := z1.mpr (by grind); grind⟩
  have a2 : c * v < c * u ↔ v < u := ⟨fun q => by have := z3.mp (by grind); grind, fun q => by have := z3.mpr (by grind); grind⟩
  have a3 : c * u = c * v ↔ u = v := ⟨fun q => by have := z2.mp (by grind); grind, fun q => by rw [q]⟩
  have a4 : c * u ≤ c * v ↔ u ≤ v := by rw [← Rat.not_lt, ← Rat.not_lt, a2]
  have a5 : c * v ≤ c * u ↔ v ≤ u := by rw [← Rat.not_lt, ← Rat.not_lt, a1]
  unfold rel
  rw [a1, a2, a3, a4, a5]
theorem mHold_iff {h : Hp} {C nq m : Nat} (hM : MB h C nq m) (x : Int32) (p : Nat → Rat) : mHold h C x m p ↔ ∀ k, k < m → bt x k = true → rel (mS h C k) (lin (mK h C (mG h C k)) p) (mD h C k : Rat) := by
  unfold mHold mset
  constructor
  · intro z k hk hb
    rw [← sR_iff (hM.2.2.2 k hk).2.1.2]
    intro r hr
    exact z r (List.mem_flatMap.mpr ⟨k, List.mem_filter.mpr ⟨List.mem_range.mpr hk, hb⟩, hr⟩)
  · intro z r hr
    obtain ⟨k, hk, hr⟩ := List.mem_flatMap.mp hr
    obtain ⟨h1, h2⟩ := List.mem_filter.mp hk
    have hkm := List.mem_range.mp h1
    exact (sR_iff (hM.2.2.2 k hkm).2.1.2 _ _ p).mpr (z k hkm h2) r hr
def Perm3 (i3 i4 i5 : Nat) : Prop := (i3 = 0 ∧ i4 = 1 ∧ i5 = 2) ∨ (i3 = 1 ∧ i4 = 0 ∧ i5 = 2) ∨ (i3 = 2 ∧ i4 = 0 ∧ i5 = 1)
theorem lin_p3 {i3 i4 i5 : Nat} (hp : Perm3 i3 i4 i5) (F : Nat → Int) (p : Nat → Rat) : lin F p = (F i3 : Rat) * p i3 + (F i4 : Rat) * p i4 + (F i5 : Rat) * p i5 := by
  unfold lin
  rcases hp with ⟨rfl, rfl, rfl⟩ | ⟨rfl, rfl, rfl⟩ | ⟨rfl, rfl, rfl⟩ <;> grind
theorem lin_tr {i3 i4 i5 : Nat} (hp : Perm3 i3 i4 i5) (sg : Int) (K F : Nat → Int) (p : Nat → Rat) : lin (trF sg K i3 i4 i5 F) (p3 (lin K p) (p i4) (p i5)) = ((sg * K i3 : Int) : Rat) * lin F p := by
  rw [lin_p3 hp K p, lin_p3 hp F p]
  simp [lin, trF, p3]
  push_cast
  grind
theorem form_iff {h : Hp} {C nq m g : Nat} (hM : MB h C nq m) (x : Int32) {sg : Int} {i3 i4 i5 : Nat} (hp : Perm3 i3 i4 i5) (hpos : 0 < sg * mK h C g i3) (t : Rat) : (∃ y z, ∀ r ∈ fset h C x g sg i3 i4 i5 m, sat r (p3 t y z)) ↔ ∃ p, mHold h C x m p ∧ lin (mK h C g) p = t := by
  have cpos : (0 : Rat) < ((sg * mK h C g i3 : Int) : Rat) := by exact_mod_cast hpos
  have hne : mK h C g i3 ≠ 0 := fun z => by rw [z] at hpos; simp at hpos
  have hner : ((mK h C g i3 : Int) : Rat) ≠ 0 := fun z => hne (by exact_mod_cast z)
  have key : ∀ p : Nat → Rat, lin (mK h C g) p = t → ((∀ r ∈ fset h C x g sg i3 i4 i5 m, sat r (p3 t (p i4) (p i5))) ↔ mHold h C x m p) := by
    intro p hpt
    rw [mHold_iff hM]
    unfold fset
    have one : ∀ k, k < m → ((∀ r ∈ sR (mS h C k) (trF sg (mK h C g) i3 i4 i5 (mK h C (mG h C k))) (sg * mK h C g i3 * mD h C k), sat r (p3 t (p i4) (p i5))) ↔ rel (mS h C k) (lin (mK h C (mG h C k)) p) (mD h C k : Rat)) := fun k hk => by
      rw [sR_iff (hM.2.2.2 k hk).2.1.2, ← hpt, lin_tr hp, show ((sg * mK h C g i3 * mD h C k : Int) : Rat) = ((sg * mK h C g i3 : Int) : Rat) * (mD h C k : Rat) by push_cast; rfl, rel_scale cpos]
    constructor
    · intro z k hk hb
      exact (one k hk).mp (fun r hr => z r (List.mem_flatMap.mpr ⟨k, List.mem_filter.mpr ⟨List.mem_range.mpr hk, hb⟩, hr⟩))
    · intro z r hr
      obtain ⟨k, hk, hr⟩ := List.mem_flatMap.mp hr
      obtain ⟨h1, h2⟩ := List.mem_filter.mp hk
      have hkm := List.mem_range.mp h1
      exact (one k hkm).mpr (z k hkm h2) r hr
  constructor
  · rintro ⟨y, z, hz⟩
    have hd : i4 ≠ i3 ∧ i5 ≠ i3 ∧ i5 ≠ i4 := by unfold Perm3 at hp; omega
    have v3 : setp (setp (fun _ => z) i4 y) i3 ((t - (mK h C g i4 : Rat) * y - (mK h C g i5 : Rat) * z) / (mK h C g i3 : Rat)) i3 = (t - (mK h C g i4 : Rat) * y - (mK h C g i5 : Rat) * z) / (mK h C g i3 : Rat) := by simp [setp]
    have v4 : setp (setp (fun _ => z) i4 y) i3 ((t - (mK h C g i4 : Rat) * y - (mK h C g i5 : Rat) * z) / (mK h C g i3 : Rat)) i4 = y := by simp [setp, hd.1]
    have v5 : setp (setp (fun _ => z) i4 y) i3 ((t - (mK h C g i4 : Rat) * y - (mK h C g i5 : Rat) * z) / (mK h C g i3 : Rat)) i5 = z := by simp [setp, hd.2.1, hd.2.2]
    have hl : lin (mK h C g) (setp (setp (fun _ => z) i4 y) i3 ((t - (mK h C g i4 : Rat) * y - (mK h C g i5 : Rat) * z) / (mK h C g i3 : Rat))) = t := by
      rw [lin_p3 hp, v3, v4, v5]
      have := Rat.div_mul_cancel (a := t - (mK h C g i4 : Rat) * y - (mK h C g i5 : Rat) * z) hner
      grind
    refine ⟨_, (key _ hl).mp ?_, hl⟩
    rw [v4, v5]; exact hz
  · rintro ⟨p, hp1, hp2⟩
    exact ⟨p i4, p i5, (key p hp2).mpr hp1⟩
def SFP (h : Hp) (C m g : Nat) (x : Int32) (r : Option Hp) : Prop := ∃ h', r = some h' ∧ Fr (scr C) h h' ∧ FrK C scrK h h' ∧ WFI 839808 6998400 h' C ∧ (∀ t, inI h' C t ↔ ∃ p, mHold h C x m p ∧ lin (mK h C g) p = t) ∧ (h'.1 C 28 = 0 ↔ ∃ t, inI h' C t)
theorem seesForm_b55_z {h : Hp} {C nq m g : Nat} (hM : MB h C nq m) (hg : g < nq) (x : Int32) {i3 i4 i5 : Nat} (hp : Perm3 i3 i4 i5) (hne : mK h C g i3 ≠ 0) : SFP h C m g x (s_X10_seesForm_b55 C x (nI g) (nI i3) (nI i4) (nI i5) h) := by
  have hq8 := hM.2.1
  have h3 : i3 < 3 ∧ i4 < 3 ∧ i5 < 3 := by unfold Perm3 at hp; omega
  unfold s_X10_seesForm_b55
  rw [li3, nI_mul, nI_add, ldI_n (by omega) (by omega)]
  have z0 : (0 : Int32).toInt = 0 := by decide
  by_cases c : mK h C g i3 < 0
  · rw [if_pos (lt_z.mpr (by rw [z0]; exact c))]
    obtain ⟨h', e, f, k, w, t, n⟩ := sfl_z hM hg x (sg := -1) (Or.inr rfl) h3.1 h3.2.1 h3.2.2 (a7 := -1) (by decide) (a6 := h.1 (C + 1) (3 * g + i3)) rfl
    exact ⟨h', e, f, k, w, fun u => (t u).trans (form_iff hM x hp (by omega) u), n⟩
  · rw [if_neg (fun q => c (by have := lt_z.mp q; rw [z0] at this; exact this))]
    obtain ⟨h', e, f, k, w, t, n⟩ := sfl_z hM hg x (sg := 1) (Or.inl rfl) h3.1 h3.2.1 h3.2.2 (a7 := 1) (by decide) (a6 := h.1 (C + 1) (3 * g + i3)) rfl
    exact ⟨h', e, f, k, w, fun u => (t u).trans (form_iff hM x hp (by omega) u), n⟩
theorem seesForm_z {h : Hp} {C nq m g : Nat} (hM : MB h C nq m) (hg : g < nq) (x : Int32) (hne : ∃ v, v < 3 ∧ mK h C g v ≠ 0) : SFP h C m g x (s_X10_seesForm C x (nI g) h) := by
  have hq8 := hM.2.1
  have z0 : (0 : Int32).toInt = 0 := by decide
  have hz : ∀ v, h.1 (C + 1) (3 * g + v) = 0 ↔ mK h C g v = 0 := fun v => by rw [eq_z, z0]; rfl
  unfold s_X10_seesForm s_X10_seesForm_b33 s_X10_seesForm_b43
  rw [li3, nI_mul, ldI_n (by omega) (by omega)]
  have hz0 : h.1 (C + 1) (3 * g) = 0 ↔ mK h C g 0 = 0 := hz 0
  by_cases c0 : mK h C g 0 = 0
  · rw [if_pos (hz0.mpr c0), li1, nI_add, ldI_n (by omega) (by omega)]
    by_cases c1 : mK h C g 1 = 0
    · rw [if_pos ((hz 1).mpr c1), if_neg (by decide), if_pos (by decide)]
      obtain ⟨v, hv, hv2⟩ := hne
      have : v = 2 := by
        rcases (show v = 0 ∨ v = 1 ∨ v = 2 by omega) with rfl | rfl | rfl
        · exact absurd c0 hv2
        · exact absurd c1 hv2
        · rfl
      subst this
      exact seesForm_b55_z hM hg x (i3 := 2) (i4 := 0) (i5 := 1) (by unfold Perm3; omega) hv2
    · rw [if_neg (fun q => c1 ((hz 1).mp q)), if_neg (by decide), if_neg (by decide)]
      exact seesForm_b55_z hM hg x (i3 := 1) (i4 := 0) (i5 := 2) (by unfold Perm3; omega) c1
  · rw [if_neg (fun q => c0 (hz0.mp q)), if_pos (by decide), if_neg (by decide)]
    exact seesForm_b55_z hM hg x (i3 := 0) (i4 := 1) (i5 := 2) (by unfold Perm3; omega) c0
