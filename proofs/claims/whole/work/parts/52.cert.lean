/-! systems of rows, and certificates that no point satisfies them -/
abbrev Sys : Type := (Nat → Nat → Int) × (Nat → Int) × (Nat → Bool) × (Nat → Bool)
def hold (Y : Sys) (i : Nat) (p : Nat → Rat) : Prop := if Y.2.2.2 i = true then lin (Y.1 i) p = (Y.2.1 i : Rat) else if Y.2.2.1 i = true then lin (Y.1 i) p < (Y.2.1 i : Rat) else lin (Y.1 i) p ≤ (Y.2.1 i : Rat)
def Sat (Y : Sys) (T : List Nat) : Prop := ∃ p : Nat → Rat, ∀ i ∈ T, hold Y i p
def sm : List Nat → (Nat → Int) → Int
  | [], _ => 0
  | i :: T, f => f i + sm T f
theorem sm_add (T : List Nat) (f g : Nat → Int) : sm T (fun i => f i + g i) = sm T f + sm T g := by
  induction T with
  | nil => rfl
  | cons a T ih => simp only [sm, ih]; omega
theorem sm_mul (T : List Nat) (c : Int) (f : Nat → Int) : sm T (fun i => c * f i) = c * sm T f := by
  induction T with
  | nil => simp [sm]
  | cons a T ih => simp only [sm, ih, Int.mul_add]
theorem sm_congr {T : List Nat} {f g : Nat → Int} (h : ∀ i ∈ T, f i = g i) : sm T f = sm T g := by
  induction T with
  | nil => rfl
  | cons a T ih => simp only [sm]; rw [h a (by simp), ih (fun i hi => h i (List.mem_cons_of_mem _ hi))]
theorem sm_zero {T : List Nat} {f : Nat → Int} (h : ∀ i ∈ T, f i = 0) : sm T f = 0 := by
  rw [sm_congr (g := fun _ => 0) h]
  induction T with
  | nil => rfl
  | cons a T ih => simp only [sm]; rw [ih (fun i hi => h i (List.mem_cons_of_mem _ hi))]; rfl
theorem sm_ind {T : List Nat} (hn : T.Nodup) {i : Nat} (hi : i ∈ T) (c : Int) (f : Nat → Int) : sm T (fun j => (if j = i then c else 0) * f j) = c * f i := by
  induction T with
  | nil => simp at hi
  | cons a T ih =>
    obtain ⟨h1, h2⟩ := List.nodup_cons.mp hn
    simp only [sm]
    by_cases e : a = i
    · subst e
      rw [if_pos rfl, sm_zero (fun j hj => by
        have hne : ¬ j = a := fun q => h1 (q ▸ hj)
        rw [if_neg hne]; simp)]
      omega
    · rw [if_neg e, ih h2 (by simpa [Ne.symm e, eq_comm, e] using hi)]
      omega
/-- a row that is got by adding multiples -/
def Comb (Y : Sys) (T : List Nat) (r : Rw) : Prop := ∃ m : Nat → Int, (∀ i ∈ T, Y.2.2.2 i = false → 0 ≤ m i) ∧ (∀ v, r.1 v = sm T (fun i => m i * Y.1 i v)) ∧ r.2.1 = sm T (fun i => m i * Y.2.1 i) ∧ (r.2.2 = true → ∃ i ∈ T, Y.2.2.1 i = true ∧ Y.2.2.2 i = false ∧ m i ≠ 0)
def Cert (Y : Sys) (T : List Nat) (m : Nat → Int) : Prop := (∀ i ∈ T, Y.2.2.2 i = false → 0 ≤ m i) ∧ (∀ v, v < 3 → sm T (fun i => m i * Y.1 i v) = 0) ∧ (sm T (fun i => m i * Y.2.1 i) < 0 ∨ sm T (fun i => m i * Y.2.1 i) = 0 ∧ ∃ i ∈ T, Y.2.2.1 i = true ∧ Y.2.2.2 i = false ∧ m i ≠ 0)
def rows0 (Y : Sys) (T : List Nat) : List Rw := T.flatMap (fun i => if Y.2.2.2 i = true then [(Y.1 i, Y.2.1 i, false), (fun v => - Y.1 i v, - Y.2.1 i, false)] else [(Y.1 i, Y.2.1 i, Y.2.2.1 i)])
theorem lin_neg (f : Nat → Int) (p : Nat → Rat) : lin (fun v => - f v) p = - lin f p := by
  simp only [lin, Rat.intCast_neg]; grind
theorem rows0_sat {Y : Sys} {T : List Nat} {p : Nat → Rat} : (∀ r ∈ rows0 Y T, sat r p) ↔ ∀ i ∈ T, hold Y i p := by
  unfold rows0
  constructor
  · intro h i hi
    unfold hold
    by_cases e : Y.2.2.2 i = true
    · rw [if_pos e]
      have h1 := h (Y.1 i, Y.2.1 i, false) (List.mem_flatMap.mpr ⟨i, hi, by rw [if_pos e]; simp⟩)
      have h2 := h (fun v => - Y.1 i v, - Y.2.1 i, false) (List.mem_flatMap.mpr ⟨i, hi, by rw [if_pos e]; simp⟩)
      simp only [sat, Bool.false_eq_true, if_false, lin_neg, Rat.intCast_neg] at h1 h2
      grind
    · rw [if_neg e]
      have h1 := h (Y.1 i, Y.2.1 i, Y.2.2.1 i) (List.mem_flatMap.mpr ⟨i, hi, by rw [if_neg e]; simp⟩)
      exact h1
  · intro h r hr
    obtain ⟨i, hi, hr⟩ := List.mem_flatMap.mp hr
    have h1 := h i hi
    unfold hold at h1
    by_cases e : Y.2.2.2 i = true
    · rw [if_pos e] at hr h1
      rcases List.mem_cons.mp hr with rfl | hr
      · simp only [sat, Bool.false_eq_true, if_false]; grind
      · simp at hr; subst hr
        simp only [sat, Bool.false_eq_true, if_false, lin_neg, Rat.intCast_neg]; grind
    · rw [if_neg e] at hr h1
      simp at hr; subst hr
      exact h1
theorem rows0_comb {Y : Sys} {T : List Nat} (hn : T.Nodup) (hse : ∀ i ∈ T, Y.2.2.1 i = true → Y.2.2.2 i = false) : ∀ r ∈ rows0 Y T, Comb Y T r := by
  intro r hr
  obtain ⟨i, hi, hr⟩ := List.mem_flatMap.mp hr
  by_cases e : Y.2.2.2 i = true
  · rw [if_pos e] at hr
    rcases List.mem_cons.mp hr with rfl | hr
    · refine ⟨fun j => if j = i then 1 else 0, fun j hj ej => ?_, fun v => ?_, ?_, fun h => by cases h⟩
      · by_cases q : j = i <;> simp [q]
      · rw [sm_ind hn hi 1 (fun j => Y.1 j v)]; simp
      · rw [sm_ind hn hi 1 (fun j => Y.2.1 j)]; simp
    · simp at hr; subst hr
      refine ⟨fun j => if j = i then -1 else 0, fun j hj ej => ?_, fun v => ?_, ?_, fun h => by cases h⟩
      · by_cases q : j = i
        · subst q; rw [e] at ej; cases ej
        · simp [q]
      · rw [sm_ind hn hi (-1) (fun j => Y.1 j v)]; simp
      · rw [sm_ind hn hi (-1) (fun j => Y.2.1 j)]; simp
  · rw [if_neg e] at hr
    simp at hr; subst hr
    refine ⟨fun j => if j = i then 1 else 0, fun j hj ej => ?_, fun v => ?_, ?_, fun h => ⟨i, hi, h, by simpa using e, by simp⟩⟩
    · by_cases q : j = i <;> simp [q]
    · rw [sm_ind hn hi 1 (fun j => Y.1 j v)]; simp
    · rw [sm_ind hn hi 1 (fun j => Y.2.1 j)]; simp
theorem sm_lin (T : List Nat) (a b : Int) (m n f : Nat → Int) : sm T (fun i => (a * m i + b * n i) * f i) = a * sm T (fun i => m i * f i) + b * sm T (fun i => n i * f i) := by
  rw [← sm_mul, ← sm_mul, ← sm_add]
  exact sm_congr (fun i _ => by grind)
theorem comb_cmb {Y : Sys} {T : List Nat} {v : Nat} {p q : Rw} (hp : Comb Y T p) (hq : Comb Y T q) (h1 : 0 < p.1 v) (h2 : q.1 v < 0) : Comb Y T (cmb v p q) := by
  obtain ⟨m, m1, m2, m3, m4⟩ := hp
  obtain ⟨n, n1, n2, n3, n4⟩ := hq
  refine ⟨fun i => (- q.1 v) * m i + p.1 v * n i, fun i hi ei => ?_, fun w => ?_, ?_, fun hs => ?_⟩
  · have a1 := Int.mul_nonneg (by omega : 0 ≤ - q.1 v) (m1 i hi ei)
    have a2 := Int.mul_nonneg (by omega : 0 ≤ p.1 v) (n1 i hi ei)
    dsimp only; omega
  · rw [sm_lin, ← m2, ← n2]; rfl
  · rw [sm_lin, ← m3, ← n3]; rfl
  · have hs : p.2.2 = true ∨ q.2.2 = true := by simpa [cmb] using hs
    rcases hs with hs | hs
    · obtain ⟨i, hi, s1, s2, s3⟩ := m4 hs
      refine ⟨i, hi, s1, s2, ?_⟩
      have b1 := m1 i hi s2
      have a1 := Int.mul_pos (by omega : 0 < - q.1 v) (by omega : 0 < m i)
      have a2 := Int.mul_nonneg (by omega : 0 ≤ p.1 v) (n1 i hi s2)
      dsimp only; omega
    · obtain ⟨i, hi, s1, s2, s3⟩ := n4 hs
      refine ⟨i, hi, s1, s2, ?_⟩
      have b1 := n1 i hi s2
      have a1 := Int.mul_nonneg (by omega : 0 ≤ - q.1 v) (m1 i hi s2)
      have a2 := Int.mul_pos (by omega : 0 < p.1 v) (by omega : 0 < n i)
      dsimp only; omega
theorem comb_elim {Y : Sys} {T : List Nat} {v : Nat} {L : List Rw} (h : ∀ r ∈ L, Comb Y T r) : ∀ r ∈ elim v L, Comb Y T r := by
  intro r hr
  rcases mem_elim.mp hr with ⟨h1, -⟩ | ⟨a, ha, b, hb, h1, h2, rfl⟩
  · exact h r h1
  · exact comb_cmb (h a ha) (h b hb) h1 h2
theorem zero_elim {v w : Nat} {L : List Rw} (h : ∀ r ∈ L, r.1 w = 0) : ∀ r ∈ elim v L, r.1 w = 0 := by
  intro r hr
  rcases mem_elim.mp hr with ⟨h1, -⟩ | ⟨a, ha, b, hb, h1, h2, rfl⟩
  · exact h r h1
  · simp [cmb, h a ha, h b hb]
theorem zero_elim_self {v : Nat} {L : List Rw} : ∀ r ∈ elim v L, r.1 v = 0 := by
  intro r hr
  rcases mem_elim.mp hr with ⟨-, h1⟩ | ⟨a, ha, b, hb, h1, h2, rfl⟩
  · exact h1
  · simp [cmb]; grind
theorem lin_zero {f : Nat → Int} (h0 : f 0 = 0) (h1 : f 1 = 0) (h2 : f 2 = 0) (p : Nat → Rat) : lin f p = 0 := by
  simp only [lin, h0, h1, h2]; grind
/-- no point, then a certificate -/
theorem farkas {Y : Sys} {T : List Nat} (hn : T.Nodup) (hse : ∀ i ∈ T, Y.2.2.1 i = true → Y.2.2.2 i = false) (h : ¬ ∃ m, Cert Y T m) : Sat Y T := by
  have hall : ∀ r ∈ elim 0 (elim 1 (elim 2 (rows0 Y T))), ∀ p, sat r p := by
    intro r hr p
    obtain ⟨m, m1, m2, m3, m4⟩ := comb_elim (comb_elim (comb_elim (rows0_comb hn hse))) r hr
    have z0 := zero_elim_self r hr
    have z1 := zero_elim (v := 0) (w := 1) (fun r hr => zero_elim_self r hr) r hr
    have z2 := zero_elim (v := 0) (w := 2) (fun r hr => zero_elim (v := 1) (w := 2) (fun r hr => zero_elim_self r hr) r hr) r hr
    have hc : ¬ (r.2.1 < 0 ∨ r.2.1 = 0 ∧ r.2.2 = true) := fun q => by
      refine h ⟨m, m1, fun v hv => ?_, ?_⟩
      · rw [← m2]
        rcases (show v = 0 ∨ v = 1 ∨ v = 2 by omega) with rfl | rfl | rfl <;> assumption
      · rcases q with q | ⟨q1, q2⟩
        · left; rw [← m3]; exact q
        · right; rw [← m3]; exact ⟨q1, m4 q2⟩
    unfold sat
    rw [lin_zero z0 z1 z2]
    cases hs : r.2.2
    · simp only [Bool.false_eq_true, if_false]
      exact Rat.intCast_nonneg.mpr (by omega)
    · simp only [if_true]
      exact Rat.intCast_pos.mpr (by
        have : ¬ r.2.1 = 0 := fun q => hc (Or.inr ⟨q, hs⟩)
        omega)
  obtain ⟨a, ha⟩ := elim_ok (v := 0) (by omega) (fun r hr => hall r hr (fun _ => 0))
  obtain ⟨b, hb⟩ := elim_ok (v := 1) (by omega) ha
  obtain ⟨c, hc⟩ := elim_ok (v := 2) (by omega) hb
  exact ⟨_, rows0_sat.mp hc⟩
/-- a certificate, then no point -/
theorem lin_sum (Y : Sys) (m : Nat → Int) (p : Nat → Rat) : ∀ T : List Nat, lin (fun v => sm T (fun i => m i * Y.1 i v)) p = T.foldr (fun i x => (m i : Rat) * lin (Y.1 i) p + x) 0
  | [] => by simp only [lin, sm, List.foldr_nil]; grind
  | i :: T => by
    rw [List.foldr_cons, ← lin_sum Y m p T]
    simp only [lin, sm, Rat.intCast_add, Rat.intCast_mul]
    grind
theorem cert_le (Y : Sys) (m : Nat → Int) (p : Nat → Rat) : ∀ T : List Nat, (∀ i ∈ T, Y.2.2.2 i = false → 0 ≤ m i) → (∀ i ∈ T, hold Y i p) → T.foldr (fun i x => (m i : Rat) * lin (Y.1 i) p + x) 0 ≤ (sm T (fun i => m i * Y.2.1 i) : Rat) ∧ ((∃ i ∈ T, Y.2.2.1 i = true ∧ Y.2.2.2 i = false ∧ m i ≠ 0) → T.foldr (fun i x => (m i : Rat) * lin (Y.1 i) p + x) 0 < (sm T (fun i => m i * Y.2.1 i) : Rat))
  | [], _, _ => ⟨by simp [sm], fun ⟨i, hi, _⟩ => by simp at hi⟩
  | i :: T, h1, h2 => by
    obtain ⟨a, b⟩ := cert_le Y m p T (fun j hj => h1 j (List.mem_cons_of_mem _ hj)) (fun j hj => h2 j (List.mem_cons_of_mem _ hj))
    have hi := h2 i (by simp)
    have key : (m i : Rat) * lin (Y.1 i) p ≤ (m i : Rat) * (Y.2.1 i : Rat) ∧ (Y.2.2.1 i = true ∧ Y.2.2.2 i = false ∧ m i ≠ 0 → (m i : Rat) * lin (Y.1 i) p < (m i : Rat) * (Y.2.1 i : Rat)) := by
      unfold hold at hi
      by_cases e : Y.2.2.2 i = true
      · rw [if_pos e] at hi
        rw [hi]
        exact ⟨Rat.le_refl, fun q => by rw [e] at q; cases q.2.1⟩
      · rw [if_neg e] at hi
        have hm := h1 i (by simp) (by simpa using e)
        have hm' : (0 : Rat) ≤ (m i : Rat) := Rat.intCast_nonneg.mpr hm
        have le : lin (Y.1 i) p ≤ (Y.2.1 i : Rat) := by
          by_cases s : Y.2.2.1 i = true
          · rw [if_pos s] at hi; grind
          · rw [if_neg s] at hi; exact hi
        refine ⟨?_, fun q => ?_⟩
        · have := Rat.mul_nonneg hm' (by grind : 0 ≤ (Y.2.1 i : Rat) - lin (Y.1 i) p)
          grind
        · rw [if_pos q.1] at hi
          have := Rat.mul_pos (cast_pos (by omega : 0 < m i)) (by grind : 0 < (Y.2.1 i : Rat) - lin (Y.1 i) p)
          grind
    have es : ((sm (i :: T) (fun i => m i * Y.2.1 i) : Int) : Rat) = (m i : Rat) * (Y.2.1 i : Rat) + ((sm T (fun i => m i * Y.2.1 i) : Int) : Rat) := by
      simp only [sm, Rat.intCast_add, Rat.intCast_mul]
    rw [List.foldr_cons, es]
    refine ⟨by grind, fun ⟨j, hj, s⟩ => ?_⟩
    rcases List.mem_cons.mp hj with rfl | hj
    · have := key.2 s; grind
    · have := b ⟨j, hj, s⟩; grind
theorem cert_unsat {Y : Sys} {T : List Nat} {m : Nat → Int} (h : Cert Y T m) : ¬ Sat Y T := by
  rintro ⟨p, hp⟩
  obtain ⟨h1, h2, h3⟩ := h
  obtain ⟨a, b⟩ := cert_le Y m p T h1 hp
  rw [← lin_sum, lin_zero (h2 0 (by omega)) (h2 1 (by omega)) (h2 2 (by omega))] at a b
  rcases h3 with q | ⟨q1, q2⟩
  · have := cast_neg q; grind
  · have := b q2
    rw [q1] at this
    grind
