/-! relaxing one row: by the clashes that it belongs to -/
def rx (Y : Sys) (k : Nat) (σ u w : Int) : Sys := (fun i v => if i = k then σ * Y.1 i v else Y.1 i v, fun i => if i = k then w * (σ * Y.2.1 i) + u else w * Y.2.1 i, Y.2.2.1, fun i => if i = k then false else Y.2.2.2 i)
theorem rx_other {Y : Sys} {k i : Nat} {σ u w : Int} (hw : 0 < w) (hi : i ≠ k) (q : Nat → Rat) : hold (rx Y k σ u w) i (fun v => (w : Rat) * q v) ↔ hold Y i q := by
  rw [← hold_scale (Y := Y) (N := k) (u := u) hw hi q]
  unfold hold
  have e1 : (rx Y k σ u w).1 i = (sc Y k u w).1 i := by
    funext v
    show (if i = k then σ * Y.1 i v else Y.1 i v) = Y.1 i v
    rw [if_neg hi]
  have e2 : (rx Y k σ u w).2.1 i = (sc Y k u w).2.1 i := by
    show (if i = k then w * (σ * Y.2.1 i) + u else w * Y.2.1 i) = (if i = k then -u else w * Y.2.1 i)
    rw [if_neg hi, if_neg hi]
  have e4 : (rx Y k σ u w).2.2.2 i = (sc Y k u w).2.2.2 i := by
    show (if i = k then false else Y.2.2.2 i) = Y.2.2.2 i
    rw [if_neg hi]
  have e3 : (rx Y k σ u w).2.2.1 i = (sc Y k u w).2.2.1 i := rfl
  rw [e1, e2, e3, e4]
theorem rx_self {Y : Sys} {k : Nat} {σ u w : Int} {s : Rat} (hw : 0 < w) (hs : (w : Rat) * s = (u : Rat)) (q : Nat → Rat) : hold (rx Y k σ u w) k (fun v => (w : Rat) * q v) ↔ (if Y.2.2.1 k = true then (σ : Rat) * lin (Y.1 k) q < (σ : Rat) * (Y.2.1 k : Rat) + s else (σ : Rat) * lin (Y.1 k) q ≤ (σ : Rat) * (Y.2.1 k : Rat) + s) := by
  have w1 : (0 : Rat) < (w : Rat) := by exact_mod_cast hw
  have el : lin ((rx Y k σ u w).1 k) (fun v => (w : Rat) * q v) = (w : Rat) * ((σ : Rat) * lin (Y.1 k) q) := by
    rw [lin_scale]
    congr 1
    show lin (fun v => if k = k then σ * Y.1 k v else Y.1 k v) q = _
    unfold lin
    simp only [if_true]
    push_cast; grind
  have ed : (((rx Y k σ u w).2.1 k : Int) : Rat) = (w : Rat) * ((σ : Rat) * (Y.2.1 k : Rat) + s) := by
    show (((if k = k then w * (σ * Y.2.1 k) + u else w * Y.2.1 k : Int)) : Rat) = _
    rw [if_pos rfl]; push_cast; rw [← hs]; grind
  unfold hold
  have e4 : (rx Y k σ u w).2.2.2 k = false := if_pos rfl
  rw [e4, if_neg (by decide), el, ed]
  show (if Y.2.2.1 k = true then _ else _) ↔ _
  generalize (σ : Rat) * lin (Y.1 k) q = x
  generalize (σ : Rat) * (Y.2.1 k : Rat) + s = d
  have k1 : (w : Rat) * x < (w : Rat) * d ↔ x < d := by
    constructor
    · intro z; have := pos_of w1 (x := d - x) (by grind); grind
    · intro z; have := Rat.mul_pos w1 (show 0 < d - x by grind); grind
  have k3 : (w : Rat) * x ≤ (w : Rat) * d ↔ x ≤ d := by
    constructor
    · intro z
      by_cases c : x ≤ d
      · exact c
      · have := Rat.mul_pos w1 (show 0 < x - d by grind); grind
    · intro z; have := Rat.mul_nonneg (Rat.le_of_lt w1) (show 0 ≤ d - x by grind); grind
  rw [k1, k3]
theorem scale_pt {w : Int} (hw : 0 < w) (p : Nat → Rat) : ∃ q : Nat → Rat, p = fun v => (w : Rat) * q v := by
  have w1 : (0 : Rat) < (w : Rat) := by exact_mod_cast hw
  refine ⟨fun v => p v / (w : Rat), ?_⟩
  funext v
  rw [Rat.mul_comm, Rat.div_mul_cancel (by grind)]
theorem sat_rx {Y : Sys} {k M : Nat} {σ u w : Int} {s : Rat} (hw : 0 < w) (hs : (w : Rat) * s = (u : Rat)) (hk : k < M) : Sat (rx Y k σ u w) (List.range M) ↔ ∃ q, (∀ i, i < M → i ≠ k → hold Y i q) ∧ (if Y.2.2.1 k = true then (σ : Rat) * lin (Y.1 k) q < (σ : Rat) * (Y.2.1 k : Rat) + s else (σ : Rat) * lin (Y.1 k) q ≤ (σ : Rat) * (Y.2.1 k : Rat) + s) := by
  constructor
  · rintro ⟨p, hp⟩
    obtain ⟨q, rfl⟩ := scale_pt hw p
    exact ⟨q, fun i hi hik => (rx_other hw hik q).mp (hp i (List.mem_range.mpr hi)), (rx_self hw hs q).mp (hp k (List.mem_range.mpr hk))⟩
  · rintro ⟨q, h1, h2⟩
    refine ⟨fun v => (w : Rat) * q v, fun i hi => ?_⟩
    by_cases c : i = k
    · subst c; exact (rx_self hw hs q).mpr h2
    · exact (rx_other hw c q).mpr (h1 i (List.mem_range.mp hi) c)
theorem sg_sq {σ : Int} (h : σ = 1 ∨ σ = -1) : σ * σ = 1 := by rcases h with e | e <;> rw [e] <;> rfl
/-- unsatisfiable though relaxed: a clash that shows it -/
theorem rx_clash {Y : Sys} {k M nv : Nat} {σ u w : Int} {s : Rat} (h1 : 1 ≤ nv) (h3 : nv ≤ 3) (hw : 0 < w) (hu : 0 ≤ u) (hs : (w : Rat) * s = (u : Rat)) (hσ : σ = 1 ∨ σ = -1) (hes : Y.2.2.2 k = true ∨ σ = 1) (hF : FormsWF Y.1 M nv) (hse : ∀ i, i < M → Y.2.2.1 i = true → Y.2.2.2 i = false) (hoth : ∃ q, ∀ i, i < M → i ≠ k → hold Y i q) (hun : ¬ Sat (rx Y k σ u w) (List.range M)) : ∃ T, List.Sublist T (List.range M) ∧ T.length ≤ nv + 1 ∧ k ∈ T ∧ Clash Y T ∧ ∃ g, circ Y T = some g ∧ ¬ UpS ((g k).natAbs : Int) (sm T (fun i => g i * Y.2.1 i)) (T.any Y.2.2.1) (-s) := by
  have w1 : (0 : Rat) < (w : Rat) := by exact_mod_cast hw
  have rse : ∀ i ∈ List.range M, (rx Y k σ u w).2.2.1 i = true → (rx Y k σ u w).2.2.2 i = false := fun i hi q => by
    show (if i = k then false else Y.2.2.2 i) = false
    by_cases c : i = k
    · rw [if_pos c]
    · rw [if_neg c]; exact hse i (List.mem_range.mp hi) q
  have hcert : ∃ m, Cert (rx Y k σ u w) (List.range M) m := by
    by_cases c : ∃ m, Cert (rx Y k σ u w) (List.range M) m
    · exact c
    · exact absurd (farkas List.nodup_range rse c) hun
  obtain ⟨T, m, hsub, hC, hm0, hmin⟩ := minimal (Y := rx Y k σ u w) _ (List.range M) (Nat.le_refl _) hcert
  have hnd : T.Nodup := List.Nodup.sublist hsub List.nodup_range
  have hTM : ∀ i ∈ T, i < M := fun i hi => List.mem_range.mp (hsub.subset hi)
  have hk : k ∈ T := by
    by_cases c : k ∈ T
    · exact c
    · exfalso
      obtain ⟨q, hq⟩ := hoth
      refine cert_unsat hC ⟨fun v => (w : Rat) * q v, fun i hi => ?_⟩
      have hik : i ≠ k := fun z => c (z ▸ hi)
      exact (rx_other hw hik q).mpr (hq i (hTM i hi) hik)
  obtain ⟨c1, c2, c3⟩ := hC
  have mk : 0 < m k := by
    have := c1 k hk (if_pos rfl)
    have := hm0 k hk
    omega
  -- the same over Y
  have tr : ∀ (n : Nat → Int) (v i : Nat), (if i = k then σ * n i else n i) * Y.1 i v = n i * (rx Y k σ u w).1 i v := fun n v i => by
    show _ = n i * (if i = k then σ * Y.1 i v else Y.1 i v)
    by_cases c : i = k
    · rw [if_pos c, if_pos c]; grind
    · rw [if_neg c, if_neg c]
  have dY : ∀ n, Dep (rx Y k σ u w) T n → Dep Y T (fun i => if i = k then σ * n i else n i) := fun n hn v hv => by
    rw [← hn v hv]
    exact sm_congr (fun i _ => tr n v i)
  have dY' : ∀ n, Dep Y T n → Dep (rx Y k σ u w) T (fun i => if i = k then σ * n i else n i) := fun n hn v hv => by
    rw [← hn v hv]
    apply sm_congr
    intro i _
    show (if i = k then σ * n i else n i) * (if i = k then σ * Y.1 i v else Y.1 i v) = n i * Y.1 i v
    by_cases c : i = k
    · rw [if_pos c, if_pos c, show σ * n i * (σ * Y.1 i v) = (σ * σ) * (n i * Y.1 i v) by grind, sg_sq hσ, Int.one_mul]
    · rw [if_neg c, if_neg c]
  have σ0 : σ ≠ 0 := by rcases hσ with e | e <;> omega
  have nz : ∀ (n : Nat → Int) (i : Nat), (if i = k then σ * n i else n i) = 0 ↔ n i = 0 := fun n i => by
    by_cases c : i = k
    · rw [if_pos c]
      constructor
      · intro z
        rcases Int.mul_eq_zero.mp z with y | y
        · exact absurd y σ0
        · exact y
      · intro z; rw [z]; simp
    · rw [if_neg c]
  generalize hm' : (fun i => if i = k then σ * m i else m i) = m' at *
  have em' : ∀ i, m' i = if i = k then σ * m i else m i := fun i => by rw [← hm']
  have depY : Dep Y T m' := by rw [← hm']; exact dY m c2
  have m0' : ∀ i ∈ T, m' i ≠ 0 := fun i hi q => hm0 i hi ((nz m i).mp (by rw [← em']; exact q))
  have hminY : ∀ n, Dep Y T n → (∃ i ∈ T, n i = 0) → ∀ i ∈ T, n i = 0 := fun n hn hz i hi => by
    have := hmin _ (dY' n hn) (by
      obtain ⟨j, hj, z⟩ := hz
      exact ⟨j, hj, (nz n j).mpr z⟩) i hi
    exact (nz n i).mp this
  -- the sums
  have key : sm T (fun i => m i * (rx Y k σ u w).2.1 i) = w * sm T (fun i => m' i * Y.2.1 i) + m k * u := by
    have e1 : sm T (fun i => m i * (rx Y k σ u w).2.1 i) = sm T (fun i => w * (m' i * Y.2.1 i) + (if i = k then u else 0) * m i) := by
      apply sm_congr
      intro i hi
      show m i * (if i = k then w * (σ * Y.2.1 i) + u else w * Y.2.1 i) = _
      rw [em']
      by_cases c : i = k
      · rw [if_pos c, if_pos c, if_pos c]; grind
      · rw [if_neg c, if_neg c, if_neg c]; grind
    rw [e1, sm_add, sm_mul, sm_ind hnd hk]; grind
  have mku : 0 ≤ m k * u := Int.mul_nonneg (by omega) hu
  generalize hS' : sm T (fun i => m' i * Y.2.1 i) = S' at *
  have wS : w * S' + m k * u < 0 ∨ (w * S' + m k * u = 0 ∧ ∃ i ∈ T, Y.2.2.1 i = true) := by
    rcases c3 with z | ⟨z, i, hi, z2, -⟩
    · rw [key] at z; exact Or.inl z
    · rw [key] at z; exact Or.inr ⟨z, i, hi, z2⟩
  have sgn : ∀ x : Int, w * x < 0 → x < 0 := fun x hx => by
    rcases Int.lt_or_le x 0 with y | y
    · exact y
    · have := Int.mul_nonneg (Int.le_of_lt hw) y; omega
  have certY : Cert Y T m' := by
    refine ⟨fun i hi hq => ?_, depY, ?_⟩
    · rw [em']
      by_cases c : i = k
      · subst c
        rw [if_pos rfl]
        rcases hes with e | e
        · rw [e] at hq; cases hq
        · rw [e]; omega
      · rw [if_neg c]
        exact c1 i hi (by show (if i = k then false else Y.2.2.2 i) = false; rw [if_neg c]; exact hq)
    · rw [hS']
      rcases wS with z | ⟨z, i, hi, z2⟩
      · exact Or.inl (sgn S' (by omega))
      · rcases Int.lt_or_le (w * S') 0 with y | y
        · exact Or.inl (sgn S' y)
        · right
          have : w * S' = 0 := by omega
          rcases Int.mul_eq_zero.mp this with y2 | y2
          · omega
          · exact ⟨y2, i, hi, z2, hse i (hTM i hi) z2, m0' i hi⟩
  have hlen := min_len hnd (fun i hi => (hF i (hTM i hi)).1) h1 hminY
  have h2 : 2 ≤ T.length := by
    rcases (show T.length = 0 ∨ T.length = 1 ∨ 2 ≤ T.length by omega) with y | y | y
    · rw [List.length_eq_zero_iff.mp y] at hk; cases hk
    · obtain ⟨x, rfl⟩ := List.length_eq_one_iff.mp y
      simp at hk; subst hk
      obtain ⟨v, hv, hne⟩ := (hF k (hTM k (by simp))).2
      have := depY v hv
      simp only [sm, Int.add_zero] at this
      rcases Int.mul_eq_zero.mp this with z | z
      · exact absurd z (m0' k (by simp))
      · exact absurd z hne
    · exact y
  obtain ⟨g, hg, a, b, ha, hb, hab⟩ := circ_complete hnd certY m0' hminY (by omega)
  have sab : a * sm T (fun i => g i * Y.2.1 i) = b * S' := by
    rw [← hS', ← sm_mul, ← sm_mul]
    apply sm_congr
    intro i hi
    rw [← Int.mul_assoc, hab i hi, Int.mul_assoc]
  generalize hS : sm T (fun i => g i * Y.2.1 i) = S at *
  have sgnA : ∀ x y : Int, a * x = b * y → (y < 0 → x < 0) ∧ (y = 0 → x = 0) := fun x y e => by
    constructor
    · intro hy
      have := Int.mul_neg_of_pos_of_neg hb hy
      rcases Int.lt_or_le x 0 with z | z
      · exact z
      · have := Int.mul_nonneg (Int.le_of_lt ha) z; omega
    · intro hy
      rw [hy, Int.mul_zero] at e
      rcases Int.mul_eq_zero.mp e with z | z
      · omega
      · exact z
  have gabs : a * ((g k).natAbs : Int) = b * m k := by
    have e1 := hab k hk
    rw [em', if_pos rfl] at e1
    rcases hσ with e | e
    · rw [e, Int.one_mul] at e1
      have : 0 < g k := by
        rcases Int.lt_or_le 0 (g k) with z | z
        · exact z
        · have := Int.mul_nonneg (Int.le_of_lt ha) (show 0 ≤ - g k by omega)
          rw [Int.mul_neg] at this
          have := Int.mul_pos hb mk; omega
      rw [show ((g k).natAbs : Int) = g k by omega]; exact e1
    · rw [e] at e1
      have : g k < 0 := by
        rcases Int.lt_or_le (g k) 0 with z | z
        · exact z
        · have := Int.mul_nonneg (Int.le_of_lt ha) z
          have := Int.mul_pos hb mk
          have : b * (-1 * m k) = - (b * m k) := by grind
          omega
      rw [show ((g k).natAbs : Int) = - g k by omega, Int.mul_neg, e1]; grind
  have fin : a * (w * S + ((g k).natAbs : Int) * u) = b * (w * S' + m k * u) := by
    rw [Int.mul_add, Int.mul_add]
    have e1 : a * (w * S) = b * (w * S') := by
      rw [Int.mul_left_comm, sab, Int.mul_left_comm]
    have e2 : a * (((g k).natAbs : Int) * u) = b * (m k * u) := by rw [← Int.mul_assoc, gabs, Int.mul_assoc]
    rw [e1, e2]
  have fq := sgnA _ _ fin
  refine ⟨T, hsub, hlen, hk, ⟨g, hg, ?_⟩, g, hg, ?_⟩
  · rw [hS]
    rcases certY.2.2 with z | ⟨z, i, hi, z2, -⟩
    · rw [hS'] at z; exact Or.inl ((sgnA S S' sab).1 z)
    · rw [hS'] at z; exact Or.inr ⟨(sgnA S S' sab).2 z, i, hi, z2⟩
  · have hq : ((w * S + ((g k).natAbs : Int) * u : Int) : Rat) = (w : Rat) * ((S : Rat) - ((g k).natAbs : Int) * (-s)) := by push_cast; rw [← hs]; grind
    rw [hS]
    rintro (z | ⟨z, z2⟩)
    · have := Rat.mul_pos w1 (show 0 < (S : Rat) - ((g k).natAbs : Int) * (-s) by grind)
      rw [← hq] at this
      have h5 : 0 < w * S + ((g k).natAbs : Int) * u := by exact_mod_cast this
      rcases wS with y | ⟨y, -⟩
      · have := fq.1 y; omega
      · have := fq.2 y; omega
    · have h5 : w * S + ((g k).natAbs : Int) * u = 0 := by
        have : ((w * S + ((g k).natAbs : Int) * u : Int) : Rat) = 0 := by rw [hq, z]; grind
        exact_mod_cast this
      rcases wS with y | ⟨y, i, hi, y2⟩
      · have := fq.1 y; omega
      · have : T.any Y.2.2.1 = true := List.any_eq_true.mpr ⟨i, hi, y2⟩
        rw [z2] at this; cases this
/-- satisfied where relaxed: no circuit forbids it -/
theorem rx_sound {Y : Sys} {k M : Nat} {s : Rat} (hse : ∀ i, i < M → Y.2.2.1 i = true → Y.2.2.2 i = false) {p : Nat → Rat} (ho : ∀ i, i < M → i ≠ k → hold Y i p) (hp : ∀ σ : Int, (σ = 1 ∨ σ = -1) → (Y.2.2.2 k = true ∨ σ = 1) → (if Y.2.2.1 k = true then (σ : Rat) * lin (Y.1 k) p < (σ : Rat) * (Y.2.1 k : Rat) + s else (σ : Rat) * lin (Y.1 k) p ≤ (σ : Rat) * (Y.2.1 k : Rat) + s)) {T : List Nat} (hT : List.Sublist T (List.range M)) (hk : k ∈ T) {g : Nat → Int} (hg : circ Y T = some g) : UpS ((g k).natAbs : Int) (sm T (fun i => g i * Y.2.1 i)) (T.any Y.2.2.1) (-s) := by
  have hnd : T.Nodup := List.Nodup.sublist hT List.nodup_range
  have hTM : ∀ i ∈ T, i < M := fun i hi => List.mem_range.mp (hT.subset hi)
  obtain ⟨g1, g2, g3, -⟩ := circ_sound hnd hg
  obtain ⟨u, w, hw, hs⟩ := rat_frac s
  have w1 : (0 : Rat) < (w : Rat) := by exact_mod_cast hw
  obtain ⟨σ, hσ, hes, hab⟩ : ∃ σ : Int, (σ = 1 ∨ σ = -1) ∧ (Y.2.2.2 k = true ∨ σ = 1) ∧ σ * g k = ((g k).natAbs : Int) := by
    rcases Int.lt_or_le (g k) 0 with z | z
    · refine ⟨-1, Or.inr rfl, Or.inl ?_, by omega⟩
      cases he : Y.2.2.2 k
      · have := g3 k hk he; omega
      · rfl
    · exact ⟨1, Or.inl rfl, Or.inr rfl, by omega⟩
  have hh : ∀ i ∈ T, hold (rx Y k σ u w) i (fun v => (w : Rat) * p v) := fun i hi => by
    by_cases c : i = k
    · subst c; exact (rx_self hw hs p).mpr (hp σ hσ hes)
    · exact (rx_other hw c p).mpr (ho i (hTM i hi) c)
  have cl := cert_le (rx Y k σ u w) (fun i => if i = k then σ * g i else g i) (fun v => (w : Rat) * p v) T (fun i hi hq => by
    by_cases c : i = k
    · rw [if_pos c, c, hab]; omega
    · rw [if_neg c]
      have hq : (if i = k then false else Y.2.2.2 i) = false := hq
      rw [if_neg c] at hq
      have := g3 i hi hq; omega) hh
  have lz : T.foldr (fun i x => (((if i = k then σ * g i else g i : Int)) : Rat) * lin ((rx Y k σ u w).1 i) (fun v => (w : Rat) * p v) + x) 0 = 0 := by
    rw [← lin_sum]
    have z : ∀ v, v < 3 → sm T (fun i => (if i = k then σ * g i else g i) * (rx Y k σ u w).1 i v) = 0 := fun v hv => by
      rw [← g1 v hv]
      apply sm_congr
      intro i _
      show (if i = k then σ * g i else g i) * (if i = k then σ * Y.1 i v else Y.1 i v) = _
      by_cases c : i = k
      · rw [if_pos c, if_pos c]
        rw [show σ * g i * (σ * Y.1 i v) = (σ * σ) * (g i * Y.1 i v) by grind, sg_sq hσ, Int.one_mul]
      · rw [if_neg c, if_neg c]
    exact lin_zero (z 0 (by omega)) (z 1 (by omega)) (z 2 (by omega)) _
  have key : sm T (fun i => (if i = k then σ * g i else g i) * (rx Y k σ u w).2.1 i) = w * sm T (fun i => g i * Y.2.1 i) + ((g k).natAbs : Int) * u := by
    have e1 : sm T (fun i => (if i = k then σ * g i else g i) * (rx Y k σ u w).2.1 i) = sm T (fun i => w * (g i * Y.2.1 i) + (if i = k then u else 0) * (σ * g i)) := by
      apply sm_congr
      intro i hi
      show (if i = k then σ * g i else g i) * (if i = k then w * (σ * Y.2.1 i) + u else w * Y.2.1 i) = _
      by_cases c : i = k
      · rw [if_pos c, if_pos c, if_pos c]
        rw [show σ * g i * (w * (σ * Y.2.1 i) + u) = (σ * σ) * (w * (g i * Y.2.1 i)) + u * (σ * g i) by grind, sg_sq hσ, Int.one_mul]
      · rw [if_neg c, if_neg c, if_neg c]; grind
    rw [e1, sm_add, sm_mul, sm_ind hnd hk (f := fun i => σ * g i), hab]; grind
  rw [lz, key] at cl
  generalize hS : sm T (fun i => g i * Y.2.1 i) = S at *
  have hq : ((w * S + ((g k).natAbs : Int) * u : Int) : Rat) = (w : Rat) * ((S : Rat) - ((g k).natAbs : Int) * (-s)) := by push_cast; rw [← hs]; grind
  rw [hq] at cl
  cases ha : T.any Y.2.2.1
  · by_cases c : ((g k).natAbs : Int) * (-s) < (S : Rat)
    · exact Or.inl c
    · right
      refine ⟨?_, rfl⟩
      by_cases c2 : (S : Rat) < ((g k).natAbs : Int) * (-s)
      · have := Rat.mul_pos w1 (show 0 < ((g k).natAbs : Int) * (-s) - (S : Rat) by grind)
        have := cl.1
        grind
      · grind
  · left
    obtain ⟨i, hi, hst⟩ := List.any_eq_true.mp ha
    have hse2 := hse i (hTM i hi) hst
    have := cl.2 ⟨i, hi, hst, by
      show (if i = k then false else Y.2.2.2 i) = false
      by_cases c : i = k
      · rw [if_pos c]
      · rw [if_neg c]; exact hse2, by
      have := g2 i hi
      show (if i = k then σ * g i else g i) ≠ 0
      by_cases c : i = k
      · rw [if_pos c]
        intro z
        rcases Int.mul_eq_zero.mp z with y | y
        · rcases hσ with e | e <;> omega
        · exact this y
      · rw [if_neg c]; exact this⟩
    have := pos_of w1 this
    grind
