/-! rows of whole numbers over rational points: one variable is taken out -/
abbrev Rw : Type := (Nat → Int) × Int × Bool
def lin (f : Nat → Int) (p : Nat → Rat) : Rat := (f 0 : Rat) * p 0 + (f 1 : Rat) * p 1 + (f 2 : Rat) * p 2
def sat (r : Rw) (p : Nat → Rat) : Prop := if r.2.2 = true then lin r.1 p < (r.2.1 : Rat) else lin r.1 p ≤ (r.2.1 : Rat)
def cmb (v : Nat) (p q : Rw) : Rw := (fun w => (- q.1 v) * p.1 w + p.1 v * q.1 w, (- q.1 v) * p.2.1 + p.1 v * q.2.1, p.2.2 || q.2.2)
def elim (v : Nat) (L : List Rw) : List Rw := L.flatMap (fun p => (if p.1 v = 0 then [p] else []) ++ (if 0 < p.1 v then (L.filter (fun q => decide (q.1 v < 0))).map (cmb v p) else []))
def setp (p : Nat → Rat) (v : Nat) (t : Rat) : Nat → Rat := fun w => if w = v then t else p w
def lowB (b : Rat × Bool) (t : Rat) : Prop := b.1 < t ∨ (b.1 = t ∧ b.2 = false)
def upB (b : Rat × Bool) (t : Rat) : Prop := t < b.1 ∨ (t = b.1 ∧ b.2 = false)
theorem bnd_max : ∀ (L : List (Rat × Bool)), L ≠ [] → ∃ m ∈ L, ∀ l ∈ L, ∀ t, lowB m t → lowB l t
  | [], h => absurd rfl h
  | [a], _ => ⟨a, by simp, fun l hl t h => by simp at hl; subst hl; exact h⟩
  | a :: b :: L, _ => by
    obtain ⟨m, hm, h⟩ := bnd_max (b :: L) (by simp)
    by_cases h1 : lowB m = lowB m ∧ (a.1 < m.1 ∨ (a.1 = m.1 ∧ (a.2 = true → m.2 = true)))
    · refine ⟨m, List.mem_cons_of_mem _ hm, fun l hl t ht => ?_⟩
      rcases List.mem_cons.mp hl with rfl | hl
      · unfold lowB at *
        rcases h1.2 with q | ⟨q1, q2⟩ <;> rcases ht with r | ⟨r1, r2⟩
        · left; grind
        · left; grind
        · left; grind
        · right; refine ⟨by grind, ?_⟩
          cases hl2 : l.2
          · rfl
          · rw [q2 hl2] at r2; cases r2
      · exact h l hl t ht
    · refine ⟨a, by simp, fun l hl t ht => ?_⟩
      have h2 : m.1 < a.1 ∨ (a.1 = m.1 ∧ a.2 = true ∧ m.2 = false) := by
        have h3 : ¬ (a.1 < m.1 ∨ (a.1 = m.1 ∧ (a.2 = true → m.2 = true))) := fun q => h1 ⟨rfl, q⟩
        by_cases e : a.1 = m.1
        · right
          refine ⟨e, ?_⟩
          cases ha : a.2 <;> cases hm2 : m.2 <;> simp [e, ha, hm2] at h3 ⊢
        · left; grind
      rcases List.mem_cons.mp hl with rfl | hl
      · exact ht
      · refine h l hl t ?_
        unfold lowB at *
        rcases h2 with q | ⟨q1, q2, q3⟩ <;> rcases ht with r | ⟨r1, r2⟩
        · left; grind
        · left; grind
        · left; grind
        · rw [q2] at r2; cases r2
theorem bnd_min : ∀ (L : List (Rat × Bool)), L ≠ [] → ∃ m ∈ L, ∀ l ∈ L, ∀ t, upB m t → upB l t := by
  intro L h
  obtain ⟨m, hm, h1⟩ := bnd_max (L.map (fun q => (-q.1, q.2))) (by simpa using h)
  obtain ⟨m', hm', rfl⟩ := List.mem_map.mp hm
  refine ⟨m', hm', fun l hl t ht => ?_⟩
  have h2 := h1 (-l.1, l.2) (List.mem_map.mpr ⟨l, hl, rfl⟩) (-t) (by
    unfold upB at ht; unfold lowB
    rcases ht with r | ⟨r1, r2⟩
    · left; dsimp only; grind
    · right; exact ⟨by dsimp only; grind, r2⟩)
  unfold lowB at h2; unfold upB
  rcases h2 with r | ⟨r1, r2⟩
  · left; dsimp only at r; grind
  · right; exact ⟨by dsimp only at r1; grind, r2⟩
theorem bnd_ex (Lo Up : List (Rat × Bool)) (h : ∀ l ∈ Lo, ∀ u ∈ Up, l.1 < u.1 ∨ (l.1 = u.1 ∧ l.2 = false ∧ u.2 = false)) : ∃ t, (∀ l ∈ Lo, lowB l t) ∧ ∀ u ∈ Up, upB u t := by
  by_cases h1 : Lo = [] <;> by_cases h2 : Up = []
  · subst h1; subst h2; exact ⟨0, by simp, by simp⟩
  · obtain ⟨m, hm, hq⟩ := bnd_min Up h2
    refine ⟨m.1 - 1, by simp [h1], fun u hu => hq u hu _ ?_⟩
    left; grind
  · obtain ⟨m, hm, hq⟩ := bnd_max Lo h1
    refine ⟨m.1 + 1, fun u hu => hq u hu _ ?_, by simp [h2]⟩
    left; grind
  · obtain ⟨m, hm, hq⟩ := bnd_max Lo h1
    obtain ⟨n, hn, hr⟩ := bnd_min Up h2
    rcases h m hm n hn with q | ⟨q1, q2, q3⟩
    · refine ⟨(m.1 + n.1) / 2, fun u hu => hq u hu _ ?_, fun u hu => hr u hu _ ?_⟩
      · left; grind
      · left; grind
    · refine ⟨m.1, fun u hu => hq u hu _ ?_, fun u hu => hr u hu _ ?_⟩
      · right; exact ⟨rfl, q2⟩
      · right; exact ⟨q1, q3⟩
theorem lin_setp (f : Nat → Int) (p : Nat → Rat) {v : Nat} (hv : v < 3) (t : Rat) : lin f (setp p v t) = lin f (setp p v 0) + (f v : Rat) * t := by
  rcases (show v = 0 ∨ v = 1 ∨ v = 2 by omega) with rfl | rfl | rfl <;> simp [lin, setp] <;> grind
theorem rat_neg_cancel {c x : Rat} (hc : c < 0) (h : c * x ≤ 0) : 0 ≤ x := by
  rcases Rat.le_total (a := 0) (b := x) with q | q
  · exact q
  · by_cases e : x = 0
    · rw [e]; exact Rat.le_refl
    · have h1 : x < 0 := by grind
      have h2 : 0 < c * x := by
        have h3 := Rat.mul_pos (a := -c) (b := -x) (by grind) (by grind)
        grind
      grind
theorem rat_neg_cancel' {c x : Rat} (hc : c < 0) (h : c * x < 0) : 0 < x := by
  have h1 := rat_neg_cancel hc (by grind : c * x ≤ 0)
  by_cases e : x = 0
  · rw [e] at h; grind
  · grind
