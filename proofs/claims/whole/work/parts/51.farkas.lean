theorem lin_cmb (v : Nat) (p q : Rw) (x : Nat → Rat) : lin (cmb v p q).1 x = -(q.1 v : Rat) * lin p.1 x + (p.1 v : Rat) * lin q.1 x := by
  simp only [cmb, lin, Rat.intCast_add, Rat.intCast_mul, Rat.intCast_neg]
  grind
theorem mem_elim {v : Nat} {L : List Rw} {r : Rw} : r ∈ elim v L ↔ (r ∈ L ∧ r.1 v = 0) ∨ ∃ p ∈ L, ∃ q ∈ L, 0 < p.1 v ∧ q.1 v < 0 ∧ r = cmb v p q := by
  unfold elim
  rw [List.mem_flatMap]
  constructor
  · rintro ⟨p, hp, hr⟩
    rcases List.mem_append.mp hr with hr | hr
    · by_cases h : p.1 v = 0
      · rw [if_pos h] at hr
        simp at hr; subst hr; exact Or.inl ⟨hp, h⟩
      · rw [if_neg h] at hr; simp at hr
    · by_cases h : 0 < p.1 v
      · rw [if_pos h] at hr
        obtain ⟨q, hq, rfl⟩ := List.mem_map.mp hr
        obtain ⟨h1, h2⟩ := List.mem_filter.mp hq
        exact Or.inr ⟨p, hp, q, h1, h, by simpa using h2, rfl⟩
      · rw [if_neg h] at hr; simp at hr
  · rintro (⟨h1, h2⟩ | ⟨p, hp, q, hq, h1, h2, rfl⟩)
    · exact ⟨r, h1, by simp [h2]⟩
    · refine ⟨p, hp, List.mem_append_right _ ?_⟩
      rw [if_pos h1]
      exact List.mem_map.mpr ⟨q, List.mem_filter.mpr ⟨hq, by simpa using h2⟩, rfl⟩
theorem cast_pos {a : Int} (h : 0 < a) : (0 : Rat) < (a : Rat) := Rat.intCast_pos.mpr h
theorem cast_neg {a : Int} (h : a < 0) : (a : Rat) < 0 := by
  have := cast_pos (a := -a) (by omega)
  rw [Rat.intCast_neg] at this
  grind
theorem elim_ok {v : Nat} (hv : v < 3) {L : List Rw} {p : Nat → Rat} (h : ∀ r ∈ elim v L, sat r p) : ∃ t, ∀ q ∈ L, sat q (setp p v t) := by
  have hb : ∀ q : Rw, q.1 v ≠ 0 → ∃ b : Rat, (q.1 v : Rat) * b = (q.2.1 : Rat) - lin q.1 (setp p v 0) := fun q hq => by
    refine ⟨((q.2.1 : Rat) - lin q.1 (setp p v 0)) / (q.1 v : Rat), ?_⟩
    have h0 : (q.1 v : Rat) ≠ 0 := by
      intro e; exact hq (by simpa using e)
    rw [Rat.mul_comm, Rat.div_mul_cancel h0]
  obtain ⟨bf, hbf⟩ : ∃ bf : Rw → Rat, ∀ q : Rw, q.1 v ≠ 0 → (q.1 v : Rat) * bf q = (q.2.1 : Rat) - lin q.1 (setp p v 0) := by
    refine ⟨fun q => if hq : q.1 v ≠ 0 then (hb q hq).choose else 0, fun q hq => ?_⟩
    show (q.1 v : Rat) * (if hq : q.1 v ≠ 0 then (hb q hq).choose else 0) = _
    rw [dif_pos hq]; exact (hb q hq).choose_spec
  have hself : ∀ f : Nat → Int, lin f p = lin f (setp p v 0) + (f v : Rat) * p v := fun f => by
    have e : setp p v (p v) = p := by funext w; simp [setp]; intro h; rw [h]
    have := lin_setp f p hv (p v)
    rwa [e] at this
  obtain ⟨t, h1, h2⟩ := bnd_ex ((L.filter (fun q : Rw => decide (q.1 v < 0))).map (fun q : Rw => (bf q, q.2.2))) ((L.filter (fun q : Rw => decide (0 < q.1 v))).map (fun q : Rw => (bf q, q.2.2))) (by
    intro l hl u hu
    obtain ⟨q, hq, rfl⟩ := List.mem_map.mp hl
    obtain ⟨r, hr, rfl⟩ := List.mem_map.mp hu
    obtain ⟨q1, q2⟩ := List.mem_filter.mp hq
    obtain ⟨r1, r2⟩ := List.mem_filter.mp hr
    have q2 : q.1 v < 0 := by simpa using q2
    have r2 : 0 < r.1 v := by simpa using r2
    have hc := h _ (mem_elim.mpr (Or.inr ⟨r, r1, q, q1, r2, q2, rfl⟩))
    have e1 := hbf q (by omega)
    have e2 := hbf r (by omega)
    have s1 := hself q.1
    have s2 := hself r.1
    have hq0 := cast_neg q2
    have hr0 := cast_pos r2
    have hneg : (q.1 v : Rat) * (r.1 v : Rat) < 0 := by
      have := Rat.mul_pos (a := -(q.1 v : Rat)) (b := (r.1 v : Rat)) (by grind) hr0
      grind
    have ed : ((cmb v r q).2.1 : Rat) = -(q.1 v : Rat) * (r.2.1 : Rat) + (r.1 v : Rat) * (q.2.1 : Rat) := by
      simp only [cmb, Rat.intCast_add, Rat.intCast_mul, Rat.intCast_neg]
    unfold sat at hc
    rw [lin_cmb, ed] at hc
    have key : ∀ x : Rat, x = -(q.1 v : Rat) * lin r.1 p + (r.1 v : Rat) * lin q.1 p - (-(q.1 v : Rat) * (r.2.1 : Rat) + (r.1 v : Rat) * (q.2.1 : Rat)) → x = (q.1 v : Rat) * (r.1 v : Rat) * (bf r - bf q) := by
      intro x hx
      rw [hx, s1, s2]
      grind
    have hk := key _ rfl
    cases hs : (cmb v r q).2.2
    · rw [hs] at hc
      have hc : -(q.1 v : Rat) * lin r.1 p + (r.1 v : Rat) * lin q.1 p ≤ -(q.1 v : Rat) * (r.2.1 : Rat) + (r.1 v : Rat) * (q.2.1 : Rat) := by simpa using hc
      have h3 := rat_neg_cancel hneg (by grind : (q.1 v : Rat) * (r.1 v : Rat) * (bf r - bf q) ≤ 0)
      have hss : r.2.2 = false ∧ q.2.2 = false := by simpa [cmb] using hs
      dsimp only
      by_cases e : bf q = bf r
      · right; exact ⟨e, hss.2, hss.1⟩
      · left; grind
    · rw [hs] at hc
      have hc : -(q.1 v : Rat) * lin r.1 p + (r.1 v : Rat) * lin q.1 p < -(q.1 v : Rat) * (r.2.1 : Rat) + (r.1 v : Rat) * (q.2.1 : Rat) := by simpa using hc
      have h3 := rat_neg_cancel' hneg (by grind : (q.1 v : Rat) * (r.1 v : Rat) * (bf r - bf q) < 0)
      dsimp only
      left; grind)
  refine ⟨t, fun q hq => ?_⟩
  have e0 := lin_setp q.1 p hv t
  unfold sat
  rw [e0]
  rcases Int.lt_trichotomy (q.1 v) 0 with c | c | c
  · have hl := h1 (bf q, q.2.2) (List.mem_map.mpr ⟨q, List.mem_filter.mpr ⟨hq, by simpa using c⟩, rfl⟩)
    have e1 := hbf q (by omega)
    have hq0 := cast_neg c
    unfold lowB at hl
    dsimp only at hl
    cases hs : q.2.2
    · simp only [Bool.false_eq_true, if_false]
      rcases hl with z | ⟨z, -⟩
      · have := Rat.mul_pos (a := -(q.1 v : Rat)) (b := t - bf q) (by grind) (by grind)
        grind
      · rw [← z]; grind
    · simp only [if_true]
      rcases hl with z | ⟨z, z2⟩
      · have := Rat.mul_pos (a := -(q.1 v : Rat)) (b := t - bf q) (by grind) (by grind)
        grind
      · rw [hs] at z2; cases z2
  · have hs := h q (mem_elim.mpr (Or.inl ⟨hq, c⟩))
    unfold sat at hs
    have s1 := hself q.1
    have c0 : (q.1 v : Rat) = 0 := by rw [c]; rfl
    rw [s1, c0] at hs
    rw [c0]
    have z1 : lin q.1 (setp p v 0) + 0 * p v = lin q.1 (setp p v 0) + 0 * t := by grind
    rw [← z1]; exact hs
  · have hl := h2 (bf q, q.2.2) (List.mem_map.mpr ⟨q, List.mem_filter.mpr ⟨hq, by simpa using c⟩, rfl⟩)
    have e1 := hbf q (by omega)
    have hq0 := cast_pos c
    unfold upB at hl
    dsimp only at hl
    cases hs : q.2.2
    · simp only [Bool.false_eq_true, if_false]
      rcases hl with z | ⟨z, -⟩
      · have := Rat.mul_pos (a := (q.1 v : Rat)) (b := bf q - t) (by grind) (by grind)
        grind
      · rw [z]; grind
    · simp only [if_true]
      rcases hl with z | ⟨z, z2⟩
      · have := Rat.mul_pos (a := (q.1 v : Rat)) (b := bf q - t) (by grind) (by grind)
        grind
      · rw [hs] at z2; cases z2
/-- the other way: what is got by adding holds where the rows hold, whatever the variable is -/
theorem elim_of {v : Nat} (hv : v < 3) {L : List Rw} {p : Nat → Rat} {t : Rat} (h : ∀ q ∈ L, sat q (setp p v t)) : ∀ r ∈ elim v L, sat r p := by
  intro r hr
  have hz : r.1 v = 0 → lin r.1 p = lin r.1 (setp p v t) := fun z => by
    have e1 := lin_setp r.1 p hv t
    have e : setp p v (p v) = p := by funext w; simp [setp]; intro h; rw [h]
    have e2 := lin_setp r.1 p hv (p v)
    rw [e] at e2
    rw [e1, e2, z]
    grind
  rcases mem_elim.mp hr with ⟨h1, h2⟩ | ⟨a, ha, b, hb, h1, h2, rfl⟩
  · have := h r h1
    unfold sat at this ⊢
    rw [hz h2]; exact this
  · have e0 : (cmb v a b).1 v = 0 := by simp [cmb]; grind
    have sa := h a ha
    have sb := h b hb
    have ca := cast_pos h1
    have cb := cast_neg h2
    have ed : ((cmb v a b).2.1 : Rat) = -(b.1 v : Rat) * (a.2.1 : Rat) + (a.1 v : Rat) * (b.2.1 : Rat) := by
      simp only [cmb, Rat.intCast_add, Rat.intCast_mul, Rat.intCast_neg]
    have es : (cmb v a b).2.2 = (a.2.2 || b.2.2) := rfl
    unfold sat at sa sb ⊢
    rw [hz e0, lin_cmb, ed, es]
    generalize lin a.1 (setp p v t) = X at *
    generalize lin b.1 (setp p v t) = Y at *
    have m1 : X ≤ (a.2.1 : Rat) → 0 ≤ -(b.1 v : Rat) * ((a.2.1 : Rat) - X) := fun q => Rat.mul_nonneg (by grind) (by grind)
    have m2 : Y ≤ (b.2.1 : Rat) → 0 ≤ (a.1 v : Rat) * ((b.2.1 : Rat) - Y) := fun q => Rat.mul_nonneg (by grind) (by grind)
    have m3 : X < (a.2.1 : Rat) → 0 < -(b.1 v : Rat) * ((a.2.1 : Rat) - X) := fun q => Rat.mul_pos (by grind) (by grind)
    have m4 : Y < (b.2.1 : Rat) → 0 < (a.1 v : Rat) * ((b.2.1 : Rat) - Y) := fun q => Rat.mul_pos (by grind) (by grind)
    cases h3 : a.2.2 <;> cases h4 : b.2.2 <;> simp [h3, h4] at sa sb ⊢
    · have := m1 sa; have := m2 sb; grind
    · have := m1 sa; have := m4 sb; grind
    · have := m3 sa; have := m2 sb; grind
    · have := m3 sa; have := m4 sb; grind
