/-! intervals by their ends -/
abbrev End : Type := Option (Rat × Bool)
def IV (L H : End) (t : Rat) : Prop := (∀ x, L = some x → upB x (-t)) ∧ (∀ x, H = some x → upB x t)
theorem upB_mono {x : Rat × Bool} {s t : Rat} (h : upB x t) (hs : s ≤ t) : upB x s := by
  unfold upB at *
  rcases h with h | ⟨h, q⟩
  · exact Or.inl (by grind)
  · by_cases e : s = t
    · exact Or.inr ⟨by grind, q⟩
    · exact Or.inl (by grind)
theorem IV.sw {L H : End} {t : Rat} : IV L H (-t) ↔ IV H L t := by
  unfold IV
  have : - -t = t := by grind
  rw [this]
  exact ⟨fun h => ⟨h.2, h.1⟩, fun h => ⟨h.2, h.1⟩⟩
theorem iv_le {L H : End} (hne : ∃ t, IV L H t) (w : Rat) : (∀ t, IV L H t → t ≤ w) ↔ ∃ x, H = some x ∧ x.1 ≤ w := by
  obtain ⟨t0, l0, h0⟩ := hne
  constructor
  · intro h
    cases H with
    | none =>
      exfalso
      by_cases c : w < t0
      · have := h t0 ⟨l0, h0⟩; grind
      · have := h (w + 1) ⟨fun x hx => upB_mono (l0 x hx) (by grind), fun x hx => by cases hx⟩
        grind
    | some x =>
      refine ⟨x, rfl, ?_⟩
      have hx := h0 x rfl
      by_cases c : x.1 ≤ w
      · exact c
      · exfalso
        have t0w := h t0 ⟨l0, h0⟩
        have := h ((w + x.1) / 2) ⟨fun y hy => upB_mono (l0 y hy) (by grind), fun y hy => by cases hy; exact Or.inl (by grind)⟩
        grind
  · rintro ⟨x, rfl, hx⟩ t ⟨-, ht⟩
    rcases ht x rfl with q | ⟨q, -⟩ <;> grind
theorem iv_lt {L H : End} (hne : ∃ t, IV L H t) (w : Rat) : (∀ t, IV L H t → t < w) ↔ ∃ x, H = some x ∧ (x.1 < w ∨ (x.1 = w ∧ x.2 = true)) := by
  constructor
  · intro h
    obtain ⟨x, rfl, hx⟩ := (iv_le hne w).mp (fun t ht => by have := h t ht; grind)
    refine ⟨x, rfl, ?_⟩
    by_cases c : x.1 < w
    · exact Or.inl c
    · have e : x.1 = w := by grind
      right
      refine ⟨e, ?_⟩
      cases hb : x.2
      · exfalso
        obtain ⟨t0, l0, h0⟩ := hne
        have := h w ⟨fun y hy => upB_mono (l0 y hy) (by rcases h0 x rfl with q | ⟨q, -⟩ <;> grind), fun y hy => by cases hy; exact Or.inr ⟨e.symm, hb⟩⟩
        grind
      · rfl
  · rintro ⟨x, rfl, hx⟩ t ⟨-, ht⟩
    rcases ht x rfl with q | ⟨q, r⟩
    · grind
    · rcases hx with y | ⟨y, z⟩
      · grind
      · rw [z] at r; cases r
theorem iv_top {L H L' H' : End} (hne : ∃ t, IV L H t) (he : ∀ t, IV L H t ↔ IV L' H' t) : H = H' := by
  have hne' : ∃ t, IV L' H' t := by
    obtain ⟨t, ht⟩ := hne
    exact ⟨t, (he t).mp ht⟩
  have a : ∀ w, (∃ x, H = some x ∧ x.1 ≤ w) ↔ ∃ x, H' = some x ∧ x.1 ≤ w := fun w => by
    rw [← iv_le hne, ← iv_le hne']
    exact ⟨fun h t ht => h t ((he t).mpr ht), fun h t ht => h t ((he t).mp ht)⟩
  have b : ∀ w, (∃ x, H = some x ∧ (x.1 < w ∨ (x.1 = w ∧ x.2 = true))) ↔ ∃ x, H' = some x ∧ (x.1 < w ∨ (x.1 = w ∧ x.2 = true)) := fun w => by
    rw [← iv_lt hne, ← iv_lt hne']
    exact ⟨fun h t ht => h t ((he t).mpr ht), fun h t ht => h t ((he t).mp ht)⟩
  cases H with
  | none =>
    cases H' with
    | none => rfl
    | some y =>
      obtain ⟨x, hx, -⟩ := (a y.1).mpr ⟨y, rfl, by grind⟩
      cases hx
  | some x =>
    obtain ⟨y, hy, q1⟩ := (a x.1).mp ⟨x, rfl, by grind⟩
    obtain ⟨z, hz, q2⟩ := (a y.1).mpr ⟨y, hy, by grind⟩
    cases hz
    have e : x.1 = y.1 := by grind
    subst hy
    congr 1
    have e2 : x.2 = y.2 := by
      apply bool_eq
      constructor
      · intro q
        obtain ⟨z, hz, w⟩ := (b x.1).mp ⟨x, rfl, Or.inr ⟨rfl, q⟩⟩
        cases hz
        rcases w with w | w
        · grind
        · exact w.2
      · intro q
        obtain ⟨z, hz, w⟩ := (b y.1).mpr ⟨y, rfl, Or.inr ⟨rfl, q⟩⟩
        cases hz
        rcases w with w | w
        · grind
        · exact w.2
    exact Prod.ext e e2
theorem iv_bot {L H L' H' : End} (hne : ∃ t, IV L H t) (he : ∀ t, IV L H t ↔ IV L' H' t) : L = L' := by
  refine iv_top (L := H) (L' := H') ?_ (fun t => ?_)
  · obtain ⟨t, ht⟩ := hne
    exact ⟨-t, IV.sw.mpr ht⟩
  · rw [← IV.sw, he, IV.sw]
/-! the model's interval -/
theorem ups_upB {b e : Int} {o : Bool} {t : Rat} (hb : 0 < b) : UpS b e o t ↔ upB ((e : Rat) / (b : Rat), o) t := by
  have b1 : (0 : Rat) < (b : Rat) := by exact_mod_cast hb
  have hd : (e : Rat) / (b : Rat) * (b : Rat) = (e : Rat) := Rat.div_mul_cancel (by grind)
  generalize (e : Rat) / (b : Rat) = q at *
  unfold UpS upB
  rw [← hd]
  have k1 : (b : Rat) * t < q * (b : Rat) ↔ t < q := by
    constructor
    · intro z
      have := pos_of b1 (x := q - t) (by grind)
      grind
    · intro z
      have := Rat.mul_pos b1 (show 0 < q - t by grind)
      grind
  have k2 : (b : Rat) * t = q * (b : Rat) ↔ t = q := by
    constructor
    · intro z
      rcases Rat.mul_eq_zero.mp (show (b : Rat) * (t - q) = 0 by grind) with y | y <;> grind
    · intro z; subst z; grind
  rw [k1, k2]
def lowO (h : Hp) (C : Nat) : End := if h.1 C 20 = 1 then some (((-(h.2 C 21).toInt : Int) : Rat) / ((h.2 C 22).toInt : Rat), decide (h.1 C 23 = 1)) else none
def highO (h : Hp) (C : Nat) : End := if h.1 C 24 = 1 then some (((h.2 C 25).toInt : Rat) / ((h.2 C 26).toInt : Rat), decide (h.1 C 27 = 1)) else none
theorem inI_iv {BA BE : Int} {h : Hp} {C : Nat} (hW : WFI BA BE h C) (t : Rat) : inI h C t ↔ h.1 C 28 = 0 ∧ IV (lowO h C) (highO h C) t := by
  obtain ⟨w1, w2, -⟩ := hW
  unfold inI IV
  refine and_congr Iff.rfl (and_congr ?_ ?_)
  · unfold lowS lowO
    rcases w1 with z | ⟨z, z1, -⟩
    · rw [z]; simp
    · rw [if_pos z]
      constructor
      · intro q x hx; cases hx; exact (ups_upB z1).mp (q z)
      · intro q _; exact (ups_upB z1).mpr (q _ rfl)
  · unfold highS highO
    rcases w2 with z | ⟨z, z1, -⟩
    · rw [z]; simp
    · rw [if_pos z]
      constructor
      · intro q x hx; cases hx; exact (ups_upB z1).mp (q z)
      · intro q _; exact (ups_upB z1).mpr (q _ rfl)
