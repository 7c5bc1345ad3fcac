/-! the rows that no point satisfies, by circuits -/
theorem min_len {Y : Sys} {nv : Nat} {T : List Nat} (hn : T.Nodup) (hv : ∀ i ∈ T, ∀ v, v < 3 → nv ≤ v → Y.1 i v = 0) (h1 : 1 ≤ nv) (hmin : ∀ n, Dep Y T n → (∃ i ∈ T, n i = 0) → ∀ i ∈ T, n i = 0) : T.length ≤ nv + 1 := by
  rcases (show nv = 1 ∨ nv = 2 ∨ 3 ≤ nv by omega) with rfl | rfl | h3
  · match T, hn, hv, hmin with
    | i :: j :: k :: R, hn, hv, hmin =>
      exfalso
      have hij : i ≠ j := by simp at hn; exact hn.1.1
      obtain ⟨n, d, x, hx, hne⟩ := dep2 (Y := Y) hij (lt3 (by rw [cr0, hv i (by simp) 1 (by omega) (by omega), hv i (by simp) 2 (by omega) (by omega)]; simp) (by rw [cr1, hv i (by simp) 2 (by omega) (by omega), hv j (by simp) 2 (by omega) (by omega)]; simp) (by rw [cr2, hv i (by simp) 1 (by omega) (by omega), hv j (by simp) 1 (by omega) (by omega)]; simp))
      exact hne (front_indep (P := [i, j]) (Q := k :: R) hn (by simp) hmin d x hx)
    | [], _, _, _ => simp
    | [_], _, _, _ => simp
    | [_, _], _, _, _ => simp
  · match T, hn, hv, hmin with
    | i :: j :: k :: l :: R, hn, hv, hmin =>
      exfalso
      obtain ⟨hij, hik, hjk⟩ : i ≠ j ∧ i ≠ k ∧ j ≠ k := by simp at hn; exact ⟨hn.1.1, hn.1.2.1, hn.2.1.1⟩
      obtain ⟨n, d, x, hx, hne⟩ := dep3 (Y := Y) hij hik hjk (by unfold dt; rw [hv i (by simp) 2 (by omega) (by omega), hv j (by simp) 2 (by omega) (by omega), hv k (by simp) 2 (by omega) (by omega)]; grind)
      exact hne (front_indep (P := [i, j, k]) (Q := l :: R) hn (by simp) hmin d x hx)
    | [], _, _, _ => simp
    | [_], _, _, _ => simp
    | [_, _], _, _, _ => simp
    | [_, _, _], _, _, _ => simp
  · match T, hn, hmin with
    | i :: j :: k :: l :: q :: R, hn, hmin =>
      exfalso
      obtain ⟨hij, hik, hil, hjk, hjl, hkl⟩ : i ≠ j ∧ i ≠ k ∧ i ≠ l ∧ j ≠ k ∧ j ≠ l ∧ k ≠ l := by simp at hn; exact ⟨hn.1.1, hn.1.2.1, hn.1.2.2.1, hn.2.1.1, hn.2.1.2.1, hn.2.2.1.1⟩
      obtain ⟨n, d, x, hx, hne⟩ := dep4 (Y := Y) hij hik hil hjk hjl hkl
      exact hne (front_indep (P := [i, j, k, l]) (Q := q :: R) hn (by simp) hmin d x hx)
    | [], _, _ => simp
    | [_], _, _ => simp
    | [_, _], _, _ => simp; omega
    | [_, _, _], _, _ => simp; omega
    | [_, _, _, _], _, _ => simp; omega
theorem fac_min {Y : Sys} {T : List Nat} {m : Nat → Int} (hn : T.Nodup) (hd : Dep Y T m) (hf : ∀ i ∈ T, m i ≠ 0) (hmin : ∀ n, Dep Y T n → (∃ i ∈ T, n i = 0) → ∀ i ∈ T, n i = 0) (hl : T.length = 2 ∨ T.length = 3 ∨ T.length = 4) : ∃ f, fac Y.1 T = some f ∧ ∃ a b : Int, a ≠ 0 ∧ b ≠ 0 ∧ ∀ i ∈ T, a * f i = b * m i := by
  match T, hn, hd, hf, hmin, hl with
  | [i, j], hn, hd, hf, hmin, _ =>
    have hij : i ≠ j := by simpa using hn
    have a1 : ¬ j = i := fun e => hij e.symm
    have mi := hf i (by simp)
    have mj := hf j (by simp)
    have e0 := hd 0 (by omega); have e1 := hd 1 (by omega); have e2 := hd 2 (by omega)
    simp only [sm] at e0 e1 e2
    have hFi : ¬ (Y.1 i 0 = 0 ∧ Y.1 i 1 = 0 ∧ Y.1 i 2 = 0) := fun ⟨z0, z1, z2⟩ => by
      have := front_indep (P := [i]) (Q := [j]) hn (by simp) hmin (n := fun _ => 1) (lt3 (by simp [sm, z0]) (by simp [sm, z1]) (by simp [sm, z2])) i (by simp)
      cases this
    have c0 : cr Y.1 i j 0 = 0 := by
      rw [cr0]
      have : m j * (Y.1 i 1 * Y.1 j 2 - Y.1 i 2 * Y.1 j 1) = 0 := by grind
      rcases Int.mul_eq_zero.mp this with q | q
      · exact absurd q mj
      · exact q
    have c1 : cr Y.1 i j 1 = 0 := by
      rw [cr1]
      have : m j * (Y.1 i 2 * Y.1 j 0 - Y.1 i 0 * Y.1 j 2) = 0 := by grind
      rcases Int.mul_eq_zero.mp this with q | q
      · exact absurd q mj
      · exact q
    have c2 : cr Y.1 i j 2 = 0 := by
      rw [cr2]
      have : m j * (Y.1 i 0 * Y.1 j 1 - Y.1 i 1 * Y.1 j 0) = 0 := by grind
      rcases Int.mul_eq_zero.mp this with q | q
      · exact absurd q mj
      · exact q
    have fin : ∀ v, v < 3 → Y.1 i v ≠ 0 → ∃ f, (if Y.1 j v = 0 then none else some (v4 i j j j (Y.1 j v) (- Y.1 i v) 0 0)) = some f ∧ ∃ a b : Int, a ≠ 0 ∧ b ≠ 0 ∧ ∀ x ∈ [i, j], a * f x = b * m x := fun v hv hne => by
      have ev : m i * Y.1 i v + (m j * Y.1 j v + 0) = 0 := by rcases (show v = 0 ∨ v = 1 ∨ v = 2 by omega) with rfl | rfl | rfl <;> assumption
      have z : Y.1 j v ≠ 0 := fun z => by
        rw [z] at ev
        have := Int.mul_ne_zero mi hne
        omega
      refine ⟨_, by rw [if_neg z], m j, - Y.1 i v, mj, by omega, fun x hx => ?_⟩
      simp at hx
      rcases hx with rfl | rfl
      · simp [v4]; grind
      · simp [v4, a1]; grind
    show ∃ f, fac2 Y.1 i j = some f ∧ _
    unfold fac2
    rw [if_neg (by rw [c0, c1, c2]; simp)]
    by_cases b0 : Y.1 i 0 ≠ 0
    · rw [if_pos b0]; exact fin 0 (by omega) b0
    · rw [if_neg b0]
      by_cases b1 : Y.1 i 1 ≠ 0
      · rw [if_pos b1]; exact fin 1 (by omega) b1
      · rw [if_neg b1]
        by_cases b2 : Y.1 i 2 ≠ 0
        · rw [if_pos b2]; exact fin 2 (by omega) b2
        · exact absurd ⟨by omega, by omega, by omega⟩ hFi
  | [i, j, k], hn, hd, hf, hmin, _ =>
    obtain ⟨hij, hik, hjk⟩ : i ≠ j ∧ i ≠ k ∧ j ≠ k := by simp at hn; exact ⟨hn.1.1, hn.1.2, hn.2⟩
    have a1 : ¬ j = i := fun e => hij e.symm
    have a2 : ¬ k = i := fun e => hik e.symm
    have a3 : ¬ k = j := fun e => hjk e.symm
    have mi := hf i (by simp)
    have mj := hf j (by simp)
    have mk := hf k (by simp)
    have e0 := hd 0 (by omega); have e1 := hd 1 (by omega); have e2 := hd 2 (by omega)
    simp only [sm] at e0 e1 e2
    have hcr : ¬ (cr Y.1 i j 0 = 0 ∧ cr Y.1 i j 1 = 0 ∧ cr Y.1 i j 2 = 0) := fun ⟨z0, z1, z2⟩ => by
      obtain ⟨n, d, x, hx, hne⟩ := dep2 (Y := Y) hij (lt3 z0 z1 z2)
      exact hne (front_indep (P := [i, j]) (Q := [k]) hn (by simp) hmin d x hx)
    have hdt : dt Y.1 i j k = 0 := by
      have : m i * dt Y.1 i j k = 0 := by unfold dt; grind
      rcases Int.mul_eq_zero.mp this with q | q
      · exact absurd q mi
      · exact q
    have g1 : ∀ v, v < 3 → m k * cr Y.1 j k v = m i * cr Y.1 i j v := lt3 (by rw [cr0, cr0]; grind) (by rw [cr1, cr1]; grind) (by rw [cr2, cr2]; grind)
    have g2 : ∀ v, v < 3 → m k * cr Y.1 k i v = m j * cr Y.1 i j v := lt3 (by rw [cr0, cr0]; grind) (by rw [cr1, cr1]; grind) (by rw [cr2, cr2]; grind)
    have fin : ∀ v, v < 3 → cr Y.1 i j v ≠ 0 → ∃ f, (if cr Y.1 j k v = 0 ∨ cr Y.1 k i v = 0 then none else some (v4 i j k k (cr Y.1 j k v) (cr Y.1 k i v) (cr Y.1 i j v) 0)) = some f ∧ ∃ a b : Int, a ≠ 0 ∧ b ≠ 0 ∧ ∀ x ∈ [i, j, k], a * f x = b * m x := fun v hv hne => by
      have h1 := g1 v hv
      have h2 := g2 v hv
      have z : ¬ (cr Y.1 j k v = 0 ∨ cr Y.1 k i v = 0) := fun z => by
        rcases z with z | z
        · rw [z] at h1; have := Int.mul_ne_zero mi hne; omega
        · rw [z] at h2; have := Int.mul_ne_zero mj hne; omega
      refine ⟨_, by rw [if_neg z], m k, cr Y.1 i j v, mk, hne, fun x hx => ?_⟩
      simp at hx
      rcases hx with rfl | rfl | rfl
      · simp [v4]; grind
      · simp [v4, a1]; grind
      · simp [v4, a2, a3]; grind
    show ∃ f, fac3 Y.1 i j k = some f ∧ _
    unfold fac3
    rw [if_neg (by rw [hdt]; simp)]
    by_cases b0 : cr Y.1 i j 0 ≠ 0
    · rw [if_pos b0]; exact fin 0 (by omega) b0
    · rw [if_neg b0]
      by_cases b1 : cr Y.1 i j 1 ≠ 0
      · rw [if_pos b1]; exact fin 1 (by omega) b1
      · rw [if_neg b1]
        by_cases b2 : cr Y.1 i j 2 ≠ 0
        · rw [if_pos b2]; exact fin 2 (by omega) b2
        · exact absurd ⟨by omega, by omega, by omega⟩ hcr
  | [i, j, k, l], hn, hd, hf, hmin, _ =>
    obtain ⟨hij, hik, hil, hjk, hjl, hkl⟩ : i ≠ j ∧ i ≠ k ∧ i ≠ l ∧ j ≠ k ∧ j ≠ l ∧ k ≠ l := by simp at hn; exact ⟨hn.1.1, hn.1.2.1, hn.1.2.2, hn.2.1.1, hn.2.1.2, hn.2.2⟩
    have a1 : ¬ j = i := fun e => hij e.symm
    have a2 : ¬ k = i := fun e => hik e.symm
    have a3 : ¬ k = j := fun e => hjk e.symm
    have a4 : ¬ l = i := fun e => hil e.symm
    have a5 : ¬ l = j := fun e => hjl e.symm
    have a6 : ¬ l = k := fun e => hkl e.symm
    have mi := hf i (by simp)
    have mj := hf j (by simp)
    have mk := hf k (by simp)
    have ml := hf l (by simp)
    have e0 := hd 0 (by omega); have e1 := hd 1 (by omega); have e2 := hd 2 (by omega)
    simp only [sm] at e0 e1 e2
    have hdt : dt Y.1 i j k ≠ 0 := fun z => by
      obtain ⟨n, d, x, hx, hne⟩ := dep3 (Y := Y) hij hik hjk z
      exact hne (front_indep (P := [i, j, k]) (Q := [l]) hn (by simp) hmin d x hx)
    have g1 : m l * dt Y.1 j k l = - (m i * dt Y.1 i j k) := by unfold dt; grind
    have g2 : m l * dt Y.1 i k l = m j * dt Y.1 i j k := by unfold dt; grind
    have g3 : m l * dt Y.1 i j l = - (m k * dt Y.1 i j k) := by unfold dt; grind
    have z : ¬ (dt Y.1 j k l = 0 ∨ dt Y.1 i k l = 0 ∨ dt Y.1 i j l = 0) := fun z => by
      rcases z with z | z | z
      · rw [z] at g1; have := Int.mul_ne_zero mi hdt; omega
      · rw [z] at g2; have := Int.mul_ne_zero mj hdt; omega
      · rw [z] at g3; have := Int.mul_ne_zero mk hdt; omega
    show ∃ f, fac4 Y.1 i j k l = some f ∧ _
    unfold fac4
    rw [if_neg hdt]
    refine ⟨_, by rw [if_neg z], m l, - dt Y.1 i j k, ml, by omega, fun x hx => ?_⟩
    simp at hx
    rcases hx with rfl | rfl | rfl | rfl
    · simp [v4]; grind
    · simp [v4, a1]; grind
    · simp [v4, a2, a3]; grind
    · simp [v4, a4, a5, a6]; grind
  | [], _, _, _, _, hl => simp at hl
  | [_], _, _, _, _, hl => simp at hl
  | _ :: _ :: _ :: _ :: _ :: _, _, _, _, _, hl => (simp at hl; try omega)
def above (Y : Sys) (T : List Nat) (f : Nat → Int) : Bool := T.any (fun i => !Y.2.2.2 i && decide (0 < f i))
def below (Y : Sys) (T : List Nat) (f : Nat → Int) : Bool := T.any (fun i => !Y.2.2.2 i && decide (f i < 0))
def trn (Y : Sys) (T : List Nat) (f : Nat → Int) : Option (Nat → Int) :=
  if above Y T f = true ∧ below Y T f = true then none else
  if below Y T f = true ∨ (above Y T f = false ∧ 0 < sm T (fun i => f i * Y.2.1 i)) then some (fun i => - f i) else some f
def circ (Y : Sys) (T : List Nat) : Option (Nat → Int) := (fac Y.1 T).bind (trn Y T)
theorem sm_neg (T : List Nat) (f g : Nat → Int) : sm T (fun i => (- f i) * g i) = - sm T (fun i => f i * g i) := by
  have : sm T (fun i => (- f i) * g i) = (-1) * sm T (fun i => f i * g i) := by
    rw [← sm_mul]; exact sm_congr (fun i _ => by grind)
  rw [this]; omega
theorem above_iff {Y : Sys} {T : List Nat} {f : Nat → Int} : above Y T f = true ↔ ∃ i ∈ T, Y.2.2.2 i = false ∧ 0 < f i := by
  simp [above]
theorem below_iff {Y : Sys} {T : List Nat} {f : Nat → Int} : below Y T f = true ↔ ∃ i ∈ T, Y.2.2.2 i = false ∧ f i < 0 := by
  simp [below]
theorem circ_sound {Y : Sys} {T : List Nat} (hn : T.Nodup) {g : Nat → Int} (h : circ Y T = some g) : Dep Y T g ∧ (∀ i ∈ T, g i ≠ 0) ∧ (∀ i ∈ T, Y.2.2.2 i = false → 0 < g i) ∧ ((∀ i ∈ T, Y.2.2.2 i = true) → sm T (fun i => g i * Y.2.1 i) ≤ 0) := by
  unfold circ at h
  cases hf : fac Y.1 T with
  | none => rw [hf] at h; cases h
  | some f =>
    rw [hf] at h
    obtain ⟨d1, d2⟩ := fac_dep hn hf
    have h : trn Y T f = some g := h
    unfold trn at h
    by_cases c1 : above Y T f = true ∧ below Y T f = true
    · rw [if_pos c1] at h; cases h
    · rw [if_neg c1] at h
      by_cases c2 : below Y T f = true ∨ (above Y T f = false ∧ 0 < sm T (fun i => f i * Y.2.1 i))
      · rw [if_pos c2] at h
        have h := Option.some.inj h
        subst h
        refine ⟨fun v hv => by rw [sm_neg, d1 v hv]; rfl, fun i hi => by have := d2 i hi; show - f i ≠ 0; omega, fun i hi ei => ?_, fun he => ?_⟩
        · have na : ¬ (0 < f i) := fun q => by
            have ha : above Y T f = true := above_iff.mpr ⟨i, hi, ei, q⟩
            rcases c2 with z | ⟨z, -⟩
            · exact c1 ⟨ha, z⟩
            · rw [ha] at z; cases z
          have := d2 i hi
          show 0 < - f i
          omega
        · rw [sm_neg]
          have nb : ¬ below Y T f = true := fun q => by
            obtain ⟨i, hi, ei, -⟩ := below_iff.mp q
            rw [he i hi] at ei; cases ei
          rcases c2 with z | ⟨-, z⟩
          · exact absurd z nb
          · omega
      · rw [if_neg c2] at h
        have h := Option.some.inj h
        subst h
        refine ⟨d1, d2, fun i hi ei => ?_, fun he => ?_⟩
        · have nb : ¬ f i < 0 := fun q => c2 (Or.inl (below_iff.mpr ⟨i, hi, ei, q⟩))
          have := d2 i hi
          omega
        · have na : above Y T f = false := by
            cases ha : above Y T f
            · rfl
            · obtain ⟨i, hi, ei, -⟩ := above_iff.mp ha
              rw [he i hi] at ei; cases ei
          by_cases q : 0 < sm T (fun i => f i * Y.2.1 i)
          · exact absurd (Or.inr ⟨na, q⟩) c2
          · omega
/-- a smallest certificate is a circuit's multipliers, but for a factor -/
theorem circ_complete {Y : Sys} {T : List Nat} {m : Nat → Int} (hn : T.Nodup) (hc : Cert Y T m) (hf : ∀ i ∈ T, m i ≠ 0) (hmin : ∀ n, Dep Y T n → (∃ i ∈ T, n i = 0) → ∀ i ∈ T, n i = 0) (hl : T.length = 2 ∨ T.length = 3 ∨ T.length = 4) : ∃ g, circ Y T = some g ∧ ∃ a b : Int, 0 < a ∧ 0 < b ∧ ∀ i ∈ T, a * g i = b * m i := by
  obtain ⟨f, hfac, a, b, ha, hb, hab⟩ := fac_min hn hc.2.1 hf hmin hl
  have hpos : ∀ i ∈ T, Y.2.2.2 i = false → 0 < m i := fun i hi ei => by
    have := hc.1 i hi ei; have := hf i hi; omega
  -- with the signs of both made positive
  obtain ⟨a, b, s, ha, hb, hs, hab⟩ : ∃ a b s : Int, 0 < a ∧ 0 < b ∧ (s = 1 ∨ s = -1) ∧ ∀ i ∈ T, a * f i = s * (b * m i) := by
    rcases Int.lt_or_lt_of_ne ha with a1 | a1 <;> rcases Int.lt_or_lt_of_ne hb with b1 | b1
    · exact ⟨-a, -b, 1, by omega, by omega, Or.inl rfl, fun i hi => by have := hab i hi; grind⟩
    · exact ⟨-a, b, -1, by omega, by omega, Or.inr rfl, fun i hi => by have := hab i hi; grind⟩
    · exact ⟨a, -b, -1, by omega, by omega, Or.inr rfl, fun i hi => by have := hab i hi; grind⟩
    · exact ⟨a, b, 1, by omega, by omega, Or.inl rfl, fun i hi => by have := hab i hi; grind⟩
  have hsum : a * sm T (fun i => f i * Y.2.1 i) = s * (b * sm T (fun i => m i * Y.2.1 i)) := by
    rw [← sm_mul, ← sm_mul, ← sm_mul]
    exact sm_congr (fun i hi => by have := hab i hi; grind)
  have hms : sm T (fun i => m i * Y.2.1 i) ≤ 0 := by rcases hc.2.2 with q | ⟨q, -⟩ <;> omega
  show ∃ g, (fac Y.1 T).bind (trn Y T) = some g ∧ _
  rw [hfac]
  show ∃ g, trn Y T f = some g ∧ _
  unfold trn
  rcases hs with rfl | rfl
  · have nb : ¬ below Y T f = true := fun q => by
      obtain ⟨i, hi, ei, h⟩ := below_iff.mp q
      have h1 := hab i hi
      have h2 := Int.mul_pos hb (hpos i hi ei)
      have h3 := Int.mul_pos ha (by omega : 0 < - f i)
      grind
    rw [if_neg (fun q => nb q.2)]
    by_cases c2 : below Y T f = true ∨ (above Y T f = false ∧ 0 < sm T (fun i => f i * Y.2.1 i))
    · exfalso
      rcases c2 with z | ⟨-, z⟩
      · exact nb z
      · have h1 := Int.mul_pos ha z
        have h2 := Int.mul_nonneg (Int.le_of_lt hb) (by omega : 0 ≤ - sm T (fun i => m i * Y.2.1 i))
        grind
    · rw [if_neg c2]
      exact ⟨f, rfl, a, b, ha, hb, fun i hi => by have := hab i hi; grind⟩
  · have na : ¬ above Y T f = true := fun q => by
      obtain ⟨i, hi, ei, h⟩ := above_iff.mp q
      have h1 := hab i hi
      have h2 := Int.mul_pos hb (hpos i hi ei)
      have h3 := Int.mul_pos ha h
      grind
    rw [if_neg (fun q => na q.1)]
    by_cases c2 : below Y T f = true ∨ (above Y T f = false ∧ 0 < sm T (fun i => f i * Y.2.1 i))
    · rw [if_pos c2]
      exact ⟨_, rfl, a, b, ha, hb, fun i hi => by have := hab i hi; grind⟩
    · exfalso
      have nb : ¬ below Y T f = true := fun q => c2 (Or.inl q)
      have he : ∀ i ∈ T, Y.2.2.2 i = true := fun i hi => by
        cases ei : Y.2.2.2 i
        · have h1 := hab i hi
          have h2 := Int.mul_pos hb (hpos i hi ei)
          have : f i < 0 := by
            by_cases q : f i < 0
            · exact q
            · have := Int.mul_nonneg (Int.le_of_lt ha) (by omega : 0 ≤ f i)
              grind
          exact absurd (below_iff.mpr ⟨i, hi, ei, this⟩) nb
        · rfl
      have hlt : sm T (fun i => m i * Y.2.1 i) < 0 := by
        rcases hc.2.2 with q | ⟨-, i, hi, -, ei, -⟩
        · exact q
        · rw [he i hi] at ei; cases ei
      have h2 := Int.mul_pos hb (by omega : 0 < - sm T (fun i => m i * Y.2.1 i))
      have h3 : 0 < sm T (fun i => f i * Y.2.1 i) := by
        by_cases q : 0 < sm T (fun i => f i * Y.2.1 i)
        · exact q
        · have := Int.mul_nonneg (Int.le_of_lt ha) (by omega : 0 ≤ - sm T (fun i => f i * Y.2.1 i))
          grind
      exact c2 (Or.inr ⟨by cases h : above Y T f <;> simp_all, h3⟩)
def Clash (Y : Sys) (T : List Nat) : Prop := ∃ g, circ Y T = some g ∧ (sm T (fun i => g i * Y.2.1 i) < 0 ∨ sm T (fun i => g i * Y.2.1 i) = 0 ∧ ∃ i ∈ T, Y.2.2.1 i = true)
theorem clash_unsat {Y : Sys} {T : List Nat} (hn : T.Nodup) (hse : ∀ i ∈ T, Y.2.2.1 i = true → Y.2.2.2 i = false) (h : Clash Y T) : ¬ Sat Y T := by
  obtain ⟨g, hg, hs⟩ := h
  obtain ⟨d1, d2, d3, -⟩ := circ_sound hn hg
  refine cert_unsat (m := g) ⟨fun i hi ei => Int.le_of_lt (d3 i hi ei), d1, ?_⟩
  rcases hs with q | ⟨q, i, hi, si⟩
  · exact Or.inl q
  · exact Or.inr ⟨q, i, hi, si, hse i hi si, d2 i hi⟩
theorem Sat.mono {Y : Sys} {T T' : List Nat} (h : ∀ i ∈ T', i ∈ T) (hs : Sat Y T) : Sat Y T' := by
  obtain ⟨p, hp⟩ := hs
  exact ⟨p, fun i hi => hp i (h i hi)⟩
/-- no point satisfies the rows: some two, three or four of them are a circuit that says so -/
theorem unsat_iff {Y : Sys} {nv : Nat} {T : List Nat} (h1 : 1 ≤ nv) (h3 : nv ≤ 3) (hn : T.Nodup) (hse : ∀ i ∈ T, Y.2.2.1 i = true → Y.2.2.2 i = false) (hv : ∀ i ∈ T, ∀ v, v < 3 → nv ≤ v → Y.1 i v = 0) (hone : ∀ i ∈ T, Sat Y [i]) : ¬ Sat Y T ↔ ∃ T0, List.Sublist T0 T ∧ 2 ≤ T0.length ∧ T0.length ≤ nv + 1 ∧ Clash Y T0 := by
  constructor
  · intro h
    have hc : ∃ m, Cert Y T m := by
      by_cases q : ∃ m, Cert Y T m
      · exact q
      · exact absurd (farkas hn hse q) h
    obtain ⟨T0, m, hsub, c, hf, hmin⟩ := minimal T.length T (Nat.le_refl _) hc
    have hn0 := hn.sublist hsub
    have hlen := min_len hn0 (fun i hi => hv i (hsub.subset hi)) h1 hmin
    have hge : 2 ≤ T0.length := by
      match T0, hsub, c with
      | [], _, c =>
        rcases c.2.2 with q | ⟨-, i, hi, -⟩
        · simp [sm] at q
        · simp at hi
      | [i], hsub, c => exact absurd (hone i (hsub.subset (by simp))) (cert_unsat c)
      | _ :: _ :: _, _, _ => simp
    obtain ⟨g, hg, a, b, ha, hb, hab⟩ := circ_complete hn0 c hf hmin (by omega)
    refine ⟨T0, hsub, hge, hlen, g, hg, ?_⟩
    have hsum : a * sm T0 (fun i => g i * Y.2.1 i) = b * sm T0 (fun i => m i * Y.2.1 i) := by
      rw [← sm_mul, ← sm_mul]
      exact sm_congr (fun i hi => by have := hab i hi; grind)
    rcases c.2.2 with q | ⟨q, i, hi, si, -⟩
    · left
      by_cases z : sm T0 (fun i => g i * Y.2.1 i) < 0
      · exact z
      · have := Int.mul_nonneg (Int.le_of_lt ha) (by omega : 0 ≤ sm T0 (fun i => g i * Y.2.1 i))
        have := Int.mul_pos hb (by omega : 0 < - sm T0 (fun i => m i * Y.2.1 i))
        grind
    · right
      refine ⟨?_, i, hi, si⟩
      rw [q] at hsum
      have : a * sm T0 (fun i => g i * Y.2.1 i) = 0 := by omega
      rcases Int.mul_eq_zero.mp this with z | z
      · omega
      · exact z
  · rintro ⟨T0, hsub, -, -, hcl⟩ hs
    exact clash_unsat (hn.sublist hsub) (fun i hi => hse i (hsub.subset hi)) hcl (Sat.mono (fun i hi => hsub.subset hi) hs)
