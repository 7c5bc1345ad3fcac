/-! deny, followsFrom -/
def dn (s : Nat) : List Nat := if s = 0 then [3] else if s = 4 then [3, 1] else if s = 2 then [1] else if s = 1 then [2] else [0]
theorem dn_len (s : Nat) : 1 ≤ (dn s).length ∧ (dn s).length ≤ 2 := by
  unfold dn
  by_cases a : s = 0 <;> by_cases b : s = 4 <;> by_cases c : s = 2 <;> by_cases d : s = 1 <;> simp [a, b, c, d]
theorem dn_le (s : Nat) : ∀ q ∈ dn s, q ≤ 4 := by
  unfold dn
  by_cases a : s = 0 <;> by_cases b : s = 4 <;> by_cases c : s = 2 <;> by_cases d : s = 1 <;> simp [a, b, c, d]
theorem rel_dn {s : Nat} (hs : s ≤ 4) (u w : Rat) : (∀ q ∈ dn s, ¬ rel q u w) ↔ rel s u w := by
  rcases (show s = 0 ∨ s = 1 ∨ s = 2 ∨ s = 3 ∨ s = 4 by omega) with rfl | rfl | rfl | rfl | rfl <;> simp [dn, rel] <;> grind
def xf {α : Type} (f : Nat → α) (m : Nat) (g : Nat → α) : Nat → α := fun i => if i < m then f i else g (i - m)
theorem xf_lt {α : Type} {f g : Nat → α} {m i : Nat} (h : i < m) : xf f m g i = f i := if_pos h
theorem xf_ge {α : Type} {f g : Nat → α} {m i : Nat} (h : m ≤ i) : xf f m g i = g (i - m) := if_neg (by omega)
/-- the rows behind deny -/
def DC (h h' : Hp) (nv m g s : Nat) (w : Int) : Prop := CI h' nv (m + (dn s).length) (xf (fF h) m (fun _ => mK h 66 g)) (xf (mS h 66) m (fun j => (dn s).getD j 0)) (xf (mD h 66) m (fun _ => w))
theorem DC.rw {h : Hp} {nv nf m lv g s : Nat} {w : Int} (hP : ProbR h nv nf m lv) (hg : g < nf) (hw : -50 ≤ w ∧ w ≤ 50) : RW nv (m + (dn s).length) (xf (fF h) m (fun _ => mK h 66 g)) (xf (mS h 66) m (fun j => (dn s).getD j 0)) (xf (mD h 66) m (fun _ => w)) := by
  intro i hi
  by_cases q : i < m
  · rw [xf_lt q, xf_lt q, xf_lt q]; exact hP.rw i q
  · rw [xf_ge (by omega), xf_ge (by omega), xf_ge (by omega)]
    obtain ⟨-, -, g1, ⟨-, c2, -⟩, -⟩ := hP
    refine ⟨?_, hw, fun v hv => c2.2.2.1 g v hg hv, fun v hv hn => (g1 g hg).2 v hn hv, (g1 g hg).1⟩
    rw [List.getD_eq_getElem?_getD, List.getElem?_eq_getElem (by omega)]
    exact dn_le s _ (List.getElem_mem _)
theorem push_of {h H : Hp} {nv nf m lv g q N : Nat} {w : Int} {F : Nat → Nat → Int} {s : Nat → Nat} {d : Nat → Int} (hP : ProbR h nv nf m lv) (hn1 : 1 ≤ nv) (hg : g < nf) (hw : -50 ≤ w ∧ w ≤ 50) (hq : q ≤ 4) (hF : Fr rowc h H) (hc : CI H nv N F s d) (hr : RW nv N F s d) (hN : N < 12) : ∃ h', s_X9_pushRow 0 (nI g) (nI q) (i32 w) H = some h' ∧ Fr rowc h h' ∧ CI h' nv (N + 1) (upn F N (mK h 66 g)) (upn s N q) (upn d N w) := by
  obtain ⟨⟨v1, v2, v3⟩, ⟨f1, f2, f3, f4⟩, g1, ⟨c1, c2, c3⟩, -⟩ := hP
  obtain ⟨h', e, f, c⟩ := pushRow_z (h := H) (nf := nf) (g := g) (sg := q) (K := mK h 66 g) (w := w) hc hr hn1 v3 hN (by rw [(hF 1 (by simp [rowc])).1]; exact v1) (by rw [(hF 1 (by simp [rowc])).1]; exact f1) f3 hg (fun v hv => by
    rw [(hF 2 (by simp [rowc])).1, f4 _ (by omega)]
    exact (i32_of _).symm) (fun v hv => c2.2.2.1 g v hg hv) (fun v hv hn => (g1 g hg).2 v hn hv) (g1 g hg).1 hq hw
  exact ⟨h', e, hF.tr f, c⟩
theorem deny_z {h : Hp} {nv nf m lv g s : Nat} {w : Int} (hP : ProbR h nv nf m lv) (hn1 : 1 ≤ nv) (hc : CIM h nv m) (hg : g < nf) (hs : s ≤ 4) (hw : -50 ≤ w ∧ w ≤ 50) : ∃ h', s_X9_deny 0 (nI g) (nI s) (i32 w) h = some h' ∧ Fr rowc h h' ∧ DC h h' nv m g s w := by
  have hm := hP.2.2.2.1.2.1.2.1
  have hP0 := hP
  obtain ⟨-, -, g1, ⟨-, c2, -⟩, -⟩ := hP0
  have one : ∀ q, q ≤ 4 → ∃ h', s_X9_pushRow 0 (nI g) (nI q) (i32 w) h = some h' ∧ Fr rowc h h' ∧ CI h' nv (m + 1) (upn (fF h) m (mK h 66 g)) (upn (mS h 66) m q) (upn (mD h 66) m w) := fun q hq => push_of hP hn1 hg hw hq Fr.rf hc hP.rw (by omega)
  have put1 : ∀ (q : Nat) (h' : Hp), dn s = [q] → CI h' nv (m + 1) (upn (fF h) m (mK h 66 g)) (upn (mS h 66) m q) (upn (mD h 66) m w) → DC h h' nv m g s w := fun q h' e c => by
    unfold DC
    rw [e]
    refine CI.same c (fun i hi => ?_) (fun i hi => ?_) (fun i hi => ?_)
    · have hi : i < m + 1 := hi
      by_cases z : i = m
      · subst z; rw [upn_same, xf_ge (by omega)]
      · rw [upn_ne z, xf_lt (by omega)]
    · have hi : i < m + 1 := hi
      by_cases z : i = m
      · subst z; rw [upn_same, xf_ge (by omega), Nat.sub_self]; rfl
      · rw [upn_ne z, xf_lt (by omega)]
    · have hi : i < m + 1 := hi
      by_cases z : i = m
      · subst z; rw [upn_same, xf_ge (by omega)]
      · rw [upn_ne z, xf_lt (by omega)]
  unfold s_X9_deny s_X9_deny_b9 s_X9_deny_b16 s_X9_deny_b26 s_X9_deny_b33 s_X9_deny_b45
  rcases (show s = 0 ∨ s = 1 ∨ s = 2 ∨ s = 3 ∨ s = 4 by omega) with rfl | rfl | rfl | rfl | rfl
  · obtain ⟨h', e, f, c⟩ := one 3 (by omega)
    rw [if_pos (by decide), show (3 : Int32) = nI 3 from li3, e, bnd_s, if_neg (by decide), if_neg (by decide), if_neg (by decide), if_neg (by decide)]
    exact ⟨h', rfl, f, put1 3 h' rfl c⟩
  · obtain ⟨h', e, f, c⟩ := one 2 (by omega)
    rw [if_neg (by decide), if_neg (by decide), if_neg (by decide), if_neg (by decide), if_pos (by decide), show s_X9_pushRow 0 (nI g) 2 (i32 w) h = some h' from e, bnd_s, if_neg (by decide)]
    exact ⟨h', rfl, f, put1 2 h' rfl c⟩
  · obtain ⟨h', e, f, c⟩ := one 1 (by omega)
    rw [if_neg (by decide), if_neg (by decide), if_pos (by decide), show s_X9_pushRow 0 (nI g) 1 (i32 w) h = some h' from e, bnd_s, if_neg (by decide), if_neg (by decide)]
    exact ⟨h', rfl, f, put1 1 h' rfl c⟩
  · obtain ⟨h', e, f, c⟩ := one 0 (by omega)
    rw [if_neg (by decide), if_neg (by decide), if_neg (by decide), if_neg (by decide), if_neg (by decide), if_pos (by decide), show s_X9_pushRow 0 (nI g) 0 (i32 w) h = some h' from e, bnd_s]
    exact ⟨h', rfl, f, put1 0 h' rfl c⟩
  · obtain ⟨h1, e, f, c⟩ := one 3 (by omega)
    have hr1 := hP.rw.upn (K := mK h 66 g) (sg := 3) (w := w) (by omega) hw (fun v hv => c2.2.2.1 g v hg hv) (fun v hv hn => (g1 g hg).2 v hn hv) (g1 g hg).1
    obtain ⟨h2, e2, f2, c22⟩ := push_of (q := 1) hP hn1 hg hw (by omega) f c hr1 (by omega)
    rw [if_neg (by decide), if_pos (by decide), show s_X9_pushRow 0 (nI g) 3 (i32 w) h = some h1 from e, bnd_s, if_neg (by decide), if_pos (by decide), show s_X9_pushRow 0 (nI g) 1 (i32 w) h1 = some h2 from e2, bnd_s, if_neg (by decide), if_neg (by decide)]
    refine ⟨h2, rfl, f2, ?_⟩
    unfold DC
    refine CI.same c22 (fun i hi => ?_) (fun i hi => ?_) (fun i hi => ?_)
    · have hi : i < m + 2 := hi
      by_cases z : i = m + 1
      · subst z; rw [upn_same, xf_ge (by omega)]
      · rw [upn_ne z]
        by_cases y : i = m
        · subst y; rw [upn_same, xf_ge (by omega)]
        · rw [upn_ne y, xf_lt (by omega)]
    · have hi : i < m + 2 := hi
      by_cases z : i = m + 1
      · subst z; rw [upn_same, xf_ge (by omega), show m + 1 - m = 1 by omega]; rfl
      · rw [upn_ne z]
        by_cases y : i = m
        · subst y; rw [upn_same, xf_ge (by omega), Nat.sub_self]; rfl
        · rw [upn_ne y, xf_lt (by omega)]
    · have hi : i < m + 2 := hi
      by_cases z : i = m + 1
      · subst z; rw [upn_same, xf_ge (by omega)]
      · rw [upn_ne z]
        by_cases y : i = m
        · subst y; rw [upn_same, xf_ge (by omega)]
        · rw [upn_ne y, xf_lt (by omega)]
theorem bt_one {i j : Nat} (hi : i < 32) (hj : j < 32) : bt ((1 : Int32) <<< (nI i &&& 31)) j = decide (j = i) := by
  rw [b_shl i hi 1 hj]
  have b1 : ∀ k, k < 32 → bt 1 k = decide (k = 0) := by decide +kernel
  by_cases q : i ≤ j
  · rw [decide_eq_true q, Bool.true_and, b1 _ (by omega)]
    by_cases z : j = i
    · rw [decide_eq_true z, decide_eq_true (by omega)]
    · rw [decide_eq_false z, decide_eq_false (by omega)]
  · rw [decide_eq_false q, Bool.false_and, decide_eq_false (by omega)]
theorem followsFrom_z {h h' : Hp} {nv nf m lv g s : Nat} {w : Int} (hP : ProbR h nv nf m lv) (hn1 : 1 ≤ nv) (hg : g < nf) (hs : s ≤ 4) (hw : -50 ≤ w ∧ w ≤ 50) (hF : Fr rowc h h') (hD : DC h h' nv m g s w) {x : Int32} (hx : ∀ j, m ≤ j → j < 32 → bt x j = false) : s_X9_followsFrom 0 x h' = some (bI (fB h m x g s w)) := by
  have hM := hP.2.2.2.1.2.1
  have hm := hM.2.1
  have hl := dn_len s
  have e12 : h'.1 1 2 = nI m := by rw [(hF 1 (by simp [rowc])).1]; exact hP.2.2.2.1.1
  have e32 : h'.1 32 4 = nI (m + (dn s).length) := hD.1.1
  have hrw := DC.rw (s := s) hP hg hw
  -- one row that denies
  have row : ∀ j, j < (dn s).length → s_X1_within 30 (x ||| ((1 : Int32) <<< (nI (m + j) &&& 31))) h' = some (bI (@decide (∀ p, mHold h 66 x m p → ¬ rel ((dn s).getD j 0) (lin (mK h 66 g) p) (w : Rat)) (Classical.propDecidable _))) := fun j hj => by
    obtain ⟨b, e, hb⟩ := CI.within hD hrw hn1 hP.1.2.2 (x ||| ((1 : Int32) <<< (nI (m + j) &&& 31)))
    rw [e]
    congr 2
    apply bool_eq
    rw [@decide_eq_true_iff _ (Classical.propDecidable _)]
    have k : (∃ p, pH (m + (dn s).length) (xf (fF h) m (fun _ => mK h 66 g)) (xf (mS h 66) m (fun j => (dn s).getD j 0)) (xf (mD h 66) m (fun _ => w)) (bt (x ||| ((1 : Int32) <<< (nI (m + j) &&& 31)))) p) ↔ ∃ p, mHold h 66 x m p ∧ rel ((dn s).getD j 0) (lin (mK h 66 g) p) (w : Rat) := by
      constructor
      · rintro ⟨p, hp⟩
        refine ⟨p, (mHold_iff hM x p).mpr (fun k hk q => ?_), ?_⟩
        · have := hp k (by omega) (by rw [b_or, q]; rfl)
          rw [xf_lt hk, xf_lt hk, xf_lt hk] at this
          exact this
        · have := hp (m + j) (by omega) (by rw [b_or, bt_one (by omega) (by omega)]; simp)
          rw [xf_ge (by omega), xf_ge (by omega), xf_ge (by omega), show m + j - m = j by omega] at this
          exact this
      · rintro ⟨p, hp, hq⟩
        refine ⟨p, fun i hi q => ?_⟩
        by_cases z : i < m
        · rw [xf_lt z, xf_lt z, xf_lt z]
          rw [b_or, bt_one (by omega) (by omega), decide_eq_false (by omega), Bool.or_false] at q
          exact (mHold_iff hM x p).mp hp i z q
        · rw [b_or, hx i (by omega) (by omega), bt_one (by omega) (by omega), Bool.false_or] at q
          have : i = m + j := of_decide_eq_true q
          subst this
          rw [xf_ge (by omega), xf_ge (by omega), xf_ge (by omega), show m + j - m = j by omega]
          exact hq
    rw [k] at hb
    constructor
    · intro q p hp hr
      have := hb.mpr ⟨p, hp, hr⟩
      rw [q] at this; cases this
    · intro q
      cases b
      · obtain ⟨p, hp, hr⟩ := hb.mp rfl
        exact absurd hr (q p hp)
      · rfl
  have hall : fB h m x g s w = true ↔ ∀ j, j < (dn s).length → ∀ p, mHold h 66 x m p → ¬ rel ((dn s).getD j 0) (lin (mK h 66 g) p) (w : Rat) := by
    rw [fB_iff]
    constructor
    · intro q j hj p hp
      refine (rel_dn hs _ _).mpr (q p hp) _ ?_
      rw [List.getD_eq_getElem?_getD, List.getElem?_eq_getElem hj]
      exact List.getElem_mem _
    · intro q p hp
      refine (rel_dn hs _ _).mp (fun r hr => ?_)
      obtain ⟨j, hj, rfl⟩ := List.getElem_of_mem hr
      have := q j hj p hp
      rw [List.getD_eq_getElem?_getD, List.getElem?_eq_getElem hj] at this
      exact this
  unfold s_X9_followsFrom
  simp only [Nat.zero_add]
  rw [lt_red, e12]
  obtain ⟨e, he, hp⟩ := iter_fuel (f := fun z : Int32 => s_X9_followsFrom_l8 0 x z h')
    (fun z => ∃ j, z = nI (m + j) ∧ j ≤ (dn s).length ∧ ∀ i, i < j → ∀ p, mHold h 66 x m p → ¬ rel ((dn s).getD i 0) (lin (mK h 66 g) p) (w : Rat))
    (fun z => 20 - z.toNatClampNeg)
    (fun e => (e = .inl () ∧ fB h m x g s w = true) ∨ (e = .inr 0 ∧ fB h m x g s w = false)) (by
    rintro z ⟨j, rfl, hj, hz⟩
    unfold s_X9_followsFrom_l8
    simp only [Nat.zero_add]
    rw [e32]
    by_cases q : j < (dn s).length
    · rw [if_pos (nI_lt (by omega) (by omega)), row j q, bnd_s]
      by_cases c : ∀ p, mHold h 66 x m p → ¬ rel ((dn s).getD j 0) (lin (mK h 66 g) p) (w : Rat)
      · rw [(@decide_eq_true_iff _ (Classical.propDecidable _)).mpr c, if_neg (by decide), lt_red, nI_1]
        refine Or.inl ⟨_, rfl, ⟨j + 1, rfl, by omega, fun i hi => ?_⟩, by rw [nI_clamp (by omega), nI_clamp (by omega)]; omega⟩
        rcases Nat.lt_or_ge i j with y | y
        · exact hz i y
        · rw [show i = j by omega]; exact c
      · rw [(@decide_eq_false_iff_not _ (Classical.propDecidable _)).mpr c, if_pos (by decide)]
        refine Or.inr ⟨_, rfl, Or.inr ⟨rfl, ?_⟩⟩
        cases hb : fB h m x g s w
        · rfl
        · exact absurd (hall.mp hb j q) c
    · rw [if_neg (nI_nlt (by omega) (by omega))]
      exact Or.inr ⟨_, rfl, Or.inl ⟨rfl, hall.mpr (fun i hi => hz i (by omega))⟩⟩)
    (nI m) ⟨0, rfl, by omega, fun i hi => by omega⟩ (by omega)
  rw [he, bnd_s]
  rcases hp with ⟨rfl, q⟩ | ⟨rfl, q⟩
  · rw [q]; rfl
  · rw [q]; rfl
/-- away with the rows that deny -/
theorem cutback_z {h h' : Hp} {nv nf m lv g s : Nat} {w : Int} (hP : ProbR h nv nf m lv) (hF : Fr rowc h h') (hD : DC h h' nv m g s w) : ∃ h2, s_X7_cut 32 (h'.1 1 2) h' = some h2 ∧ Fr rowc h h2 ∧ CIM h2 nv m := by
  have e12 : h'.1 1 2 = nI m := by rw [(hF 1 (by simp [rowc])).1]; exact hP.2.2.2.1.1
  obtain ⟨h2, q1, q2, q3, q4, q5⟩ := cut_z (R := 32) hD.1.1 hD.1.2.2 (n := m) (by omega)
  have F2 : Fr [32] h' h2 := fun c hc => by
    simp at hc
    exact ⟨q4 c hc, by rw [q5]⟩
  have FA : Fr rowc h h2 := hF.tr (F2.wid (by simp [rowc]))
  refine ⟨h2, by rw [e12]; exact q1, FA, ?_⟩
  have c2 := CI.cut hD (N' := m) (by omega) F2 q2 (q3 5 (by omega))
  obtain ⟨-, g1, g2, g3, g4⟩ := hP.2.2.2.1.2.1.fr FA (FrK.of FA (by simp [rowc]) (ks := [])) (by simp) (by simp [rowc]) (by simp [rowc])
  refine CI.same c2 (fun i hi => ?_) (fun i hi => ?_) (fun i hi => ?_)
  · rw [xf_lt hi]
    show mK h2 66 (mG h2 66 i) = mK h 66 (mG h 66 i)
    rw [g1, g4]
  · rw [xf_lt hi, g2]
  · rw [xf_lt hi, g3]
