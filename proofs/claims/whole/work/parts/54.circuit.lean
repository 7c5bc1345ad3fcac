/-! circuits: two, three or four rows with one dependence -/
def nx (v : Nat) : Nat := if v = 2 then 0 else v + 1
def th (v : Nat) : Nat := if v = 0 then 2 else v - 1
def cr (F : Nat → Nat → Int) (i j v : Nat) : Int := F i (nx v) * F j (th v) - F i (th v) * F j (nx v)
def dt (F : Nat → Nat → Int) (i j k : Nat) : Int := F i 0 * (F j 1 * F k 2 - F j 2 * F k 1) + F i 1 * (F j 2 * F k 0 - F j 0 * F k 2) + F i 2 * (F j 0 * F k 1 - F j 1 * F k 0)
theorem cr0 (F : Nat → Nat → Int) (i j : Nat) : cr F i j 0 = F i 1 * F j 2 - F i 2 * F j 1 := rfl
theorem cr1 (F : Nat → Nat → Int) (i j : Nat) : cr F i j 1 = F i 2 * F j 0 - F i 0 * F j 2 := rfl
theorem cr2 (F : Nat → Nat → Int) (i j : Nat) : cr F i j 2 = F i 0 * F j 1 - F i 1 * F j 0 := rfl
def v4 (i j k l : Nat) (a b c d : Int) : Nat → Int := fun x => if x = i then a else if x = j then b else if x = k then c else if x = l then d else 0
theorem lt3 {P : Nat → Prop} (h0 : P 0) (h1 : P 1) (h2 : P 2) : ∀ v, v < 3 → P v := fun v hv => by
  rcases (show v = 0 ∨ v = 1 ∨ v = 2 by omega) with rfl | rfl | rfl <;> assumption
/-- a dependence of some rows at the front -/
theorem dep_front {Y : Sys} {P Q : List Nat} {n : Nat → Int} (hn : (P ++ Q).Nodup) (h : Dep Y P n) : Dep Y (P ++ Q) (fun x => if x ∈ P then n x else 0) := by
  have key : ∀ g : Nat → Int, sm (P ++ Q) (fun x => (if x ∈ P then n x else 0) * g x) = sm P (fun x => n x * g x) := fun g => by
    have e1 : ∀ (A B : List Nat) (f : Nat → Int), sm (A ++ B) f = sm A f + sm B f := fun A B f => by
      induction A with
      | nil => simp [sm]
      | cons a A ih => simp only [List.cons_append, sm, ih]; omega
    rw [e1, sm_zero (T := Q) (fun x hx => by
      have : x ∉ P := fun hp => (List.nodup_append.mp hn).2.2 x hp x hx rfl
      rw [if_neg this]; simp)]
    rw [sm_congr (g := fun x => n x * g x) (fun x hx => by rw [if_pos hx])]
    omega
  intro v hv
  rw [key]; exact h v hv
/-- what 'minimal' says of a front -/
theorem front_indep {Y : Sys} {P Q : List Nat} (hn : (P ++ Q).Nodup) (hQ : Q ≠ []) (hmin : ∀ n, Dep Y (P ++ Q) n → (∃ i ∈ P ++ Q, n i = 0) → ∀ i ∈ P ++ Q, n i = 0) {n : Nat → Int} (h : Dep Y P n) : ∀ i ∈ P, n i = 0 := by
  obtain ⟨q, hq⟩ := List.exists_mem_of_ne_nil Q hQ
  have hqp : q ∉ P := fun hp => (List.nodup_append.mp hn).2.2 q hp q hq rfl
  have := hmin _ (dep_front hn h) ⟨q, List.mem_append_right _ hq, by rw [if_neg hqp]⟩
  intro i hi
  have h2 := this i (List.mem_append_left _ hi)
  rwa [if_pos hi] at h2
theorem dep2 {Y : Sys} {i j : Nat} (hij : i ≠ j) (h : ∀ v, v < 3 → cr Y.1 i j v = 0) : ∃ n, Dep Y [i, j] n ∧ ∃ x ∈ [i, j], n x ≠ 0 := by
  have h0 := h 0 (by omega); have h1 := h 1 (by omega); have h2 := h 2 (by omega)
  rw [cr0] at h0; rw [cr1] at h1; rw [cr2] at h2
  have hji : ¬ j = i := fun e => hij e.symm
  by_cases hz : Y.1 i 0 = 0 ∧ Y.1 i 1 = 0 ∧ Y.1 i 2 = 0
  · refine ⟨fun x => if x = i then 1 else 0, lt3 ?_ ?_ ?_, i, by simp, by simp⟩ <;> simp [sm, hji, hz.1, hz.2.1, hz.2.2]
  · obtain ⟨v, hv, hne⟩ : ∃ v, v < 3 ∧ Y.1 i v ≠ 0 := by
      by_cases a : Y.1 i 0 = 0
      · by_cases b : Y.1 i 1 = 0
        · exact ⟨2, by omega, fun c => hz ⟨a, b, c⟩⟩
        · exact ⟨1, by omega, b⟩
      · exact ⟨0, by omega, a⟩
    refine ⟨fun x => if x = i then Y.1 j v else - Y.1 i v, lt3 ?_ ?_ ?_, j, by simp, by simp [hji]; exact hne⟩ <;> simp only [sm, hji, if_true, if_false] <;> rcases (show v = 0 ∨ v = 1 ∨ v = 2 by omega) with rfl | rfl | rfl <;> grind
theorem cr_dep {Y : Sys} {i j k : Nat} (v : Nat) (hv : v < 3) (hd : dt Y.1 i j k = 0) (hij : i ≠ j) (hik : i ≠ k) (hjk : j ≠ k) : Dep Y [i, j, k] (v4 i j k k (cr Y.1 j k v) (cr Y.1 k i v) (cr Y.1 i j v) 0) := by
  have a1 : ¬ j = i := fun e => hij e.symm
  have a2 : ¬ k = i := fun e => hik e.symm
  have a3 : ¬ k = j := fun e => hjk e.symm
  unfold dt at hd
  rcases (show v = 0 ∨ v = 1 ∨ v = 2 by omega) with rfl | rfl | rfl <;> refine lt3 ?_ ?_ ?_ <;> simp only [sm, v4, a1, a2, a3, if_true, if_false, cr0, cr1, cr2] <;> grind
theorem dep3 {Y : Sys} {i j k : Nat} (hij : i ≠ j) (hik : i ≠ k) (hjk : j ≠ k) (hd : dt Y.1 i j k = 0) : ∃ n, Dep Y [i, j, k] n ∧ ∃ x ∈ [i, j, k], n x ≠ 0 := by
  have a1 : ¬ j = i := fun e => hij e.symm
  have a2 : ¬ k = i := fun e => hik e.symm
  have a3 : ¬ k = j := fun e => hjk e.symm
  by_cases h : ∀ v, v < 3 → cr Y.1 i j v = 0
  · obtain ⟨n, h1, x, hx, h2⟩ := dep2 hij h
    have := dep_front (Y := Y) (P := [i, j]) (Q := [k]) (n := n) (by simp [hij, hik, hjk]) h1
    exact ⟨_, this, x, by simp at hx ⊢; rcases hx with rfl | rfl <;> simp, by rw [if_pos hx]; exact h2⟩
  · obtain ⟨v, hv, hne⟩ : ∃ v, v < 3 ∧ cr Y.1 i j v ≠ 0 := by
      by_cases q : ∃ v, v < 3 ∧ cr Y.1 i j v ≠ 0
      · exact q
      · exact absurd (fun v hv => by
          by_cases z : cr Y.1 i j v = 0
          · exact z
          · exact absurd ⟨v, hv, z⟩ q) h
    exact ⟨_, cr_dep v hv hd hij hik hjk, k, by simp, by simp [v4, a2, a3]; exact hne⟩
theorem dt_dep {Y : Sys} {i j k l : Nat} (hij : i ≠ j) (hik : i ≠ k) (hil : i ≠ l) (hjk : j ≠ k) (hjl : j ≠ l) (hkl : k ≠ l) : Dep Y [i, j, k, l] (v4 i j k l (dt Y.1 j k l) (- dt Y.1 i k l) (dt Y.1 i j l) (- dt Y.1 i j k)) := by
  have a1 : ¬ j = i := fun e => hij e.symm
  have a2 : ¬ k = i := fun e => hik e.symm
  have a3 : ¬ k = j := fun e => hjk e.symm
  have a4 : ¬ l = i := fun e => hil e.symm
  have a5 : ¬ l = j := fun e => hjl e.symm
  have a6 : ¬ l = k := fun e => hkl e.symm
  refine lt3 ?_ ?_ ?_ <;> simp only [sm, v4, a1, a2, a3, a4, a5, a6, if_true, if_false, dt] <;> grind
theorem dep4 {Y : Sys} {i j k l : Nat} (hij : i ≠ j) (hik : i ≠ k) (hil : i ≠ l) (hjk : j ≠ k) (hjl : j ≠ l) (hkl : k ≠ l) : ∃ n, Dep Y [i, j, k, l] n ∧ ∃ x ∈ [i, j, k, l], n x ≠ 0 := by
  by_cases hd : dt Y.1 i j k = 0
  · obtain ⟨n, h1, x, hx, h2⟩ := dep3 hij hik hjk hd
    have := dep_front (Y := Y) (P := [i, j, k]) (Q := [l]) (n := n) (by simp [hij, hik, hjk, hil, hjl, hkl]) h1
    exact ⟨_, this, x, by simp at hx ⊢; rcases hx with rfl | rfl | rfl <;> simp, by rw [if_pos hx]; exact h2⟩
  · refine ⟨_, dt_dep hij hik hil hjk hjl hkl, l, by simp, ?_⟩
    have a4 : ¬ l = i := fun e => hil e.symm
    have a5 : ¬ l = j := fun e => hjl e.symm
    have a6 : ¬ l = k := fun e => hkl e.symm
    simp [v4, a4, a5, a6]; exact hd
/-- the multipliers as the program finds them, before it turns them -/
def fac2 (F : Nat → Nat → Int) (i j : Nat) : Option (Nat → Int) :=
  if cr F i j 0 ≠ 0 ∨ cr F i j 1 ≠ 0 ∨ cr F i j 2 ≠ 0 then none else
  if F i 0 ≠ 0 then (if F j 0 = 0 then none else some (v4 i j j j (F j 0) (- F i 0) 0 0)) else
  if F i 1 ≠ 0 then (if F j 1 = 0 then none else some (v4 i j j j (F j 1) (- F i 1) 0 0)) else
  if F i 2 ≠ 0 then (if F j 2 = 0 then none else some (v4 i j j j (F j 2) (- F i 2) 0 0)) else none
def fac3 (F : Nat → Nat → Int) (i j k : Nat) : Option (Nat → Int) :=
  if dt F i j k ≠ 0 then none else
  if cr F i j 0 ≠ 0 then (if cr F j k 0 = 0 ∨ cr F k i 0 = 0 then none else some (v4 i j k k (cr F j k 0) (cr F k i 0) (cr F i j 0) 0)) else
  if cr F i j 1 ≠ 0 then (if cr F j k 1 = 0 ∨ cr F k i 1 = 0 then none else some (v4 i j k k (cr F j k 1) (cr F k i 1) (cr F i j 1) 0)) else
  if cr F i j 2 ≠ 0 then (if cr F j k 2 = 0 ∨ cr F k i 2 = 0 then none else some (v4 i j k k (cr F j k 2) (cr F k i 2) (cr F i j 2) 0)) else none
def fac4 (F : Nat → Nat → Int) (i j k l : Nat) : Option (Nat → Int) :=
  if dt F i j k = 0 then none else
  if dt F j k l = 0 ∨ dt F i k l = 0 ∨ dt F i j l = 0 then none else some (v4 i j k l (dt F j k l) (- dt F i k l) (dt F i j l) (- dt F i j k))
def fac (F : Nat → Nat → Int) : List Nat → Option (Nat → Int)
  | [i, j] => fac2 F i j
  | [i, j, k] => fac3 F i j k
  | [i, j, k, l] => fac4 F i j k l
  | _ => none
theorem fac_dep {Y : Sys} {T : List Nat} (hn : T.Nodup) {f : Nat → Int} (h : fac Y.1 T = some f) : Dep Y T f ∧ ∀ i ∈ T, f i ≠ 0 := by
  match T, hn, h with
  | [i, j], hn, h =>
    have hij : i ≠ j := by simpa using hn
    have a1 : ¬ j = i := fun e => hij e.symm
    have h : fac2 Y.1 i j = some f := h
    unfold fac2 at h
    by_cases hc : cr Y.1 i j 0 ≠ 0 ∨ cr Y.1 i j 1 ≠ 0 ∨ cr Y.1 i j 2 ≠ 0
    · rw [if_pos hc] at h; cases h
    · rw [if_neg hc] at h
      have c0 : cr Y.1 i j 0 = 0 := by omega
      have c1 : cr Y.1 i j 1 = 0 := by omega
      have c2 : cr Y.1 i j 2 = 0 := by omega
      rw [cr0] at c0; rw [cr1] at c1; rw [cr2] at c2
      have fin : ∀ v, v < 3 → Y.1 i v ≠ 0 → (if Y.1 j v = 0 then none else some (v4 i j j j (Y.1 j v) (- Y.1 i v) 0 0)) = some f → Dep Y [i, j] f ∧ ∀ x ∈ [i, j], f x ≠ 0 := by
        intro v hv hne h
        by_cases z : Y.1 j v = 0
        · rw [if_pos z] at h; cases h
        · rw [if_neg z] at h
          have h := Option.some.inj h
          subst h
          refine ⟨lt3 ?_ ?_ ?_, fun x hx => ?_⟩
          · simp only [sm, v4, a1, if_true, if_false]; rcases (show v = 0 ∨ v = 1 ∨ v = 2 by omega) with rfl | rfl | rfl <;> grind
          · simp only [sm, v4, a1, if_true, if_false]; rcases (show v = 0 ∨ v = 1 ∨ v = 2 by omega) with rfl | rfl | rfl <;> grind
          · simp only [sm, v4, a1, if_true, if_false]; rcases (show v = 0 ∨ v = 1 ∨ v = 2 by omega) with rfl | rfl | rfl <;> grind
          · simp at hx
            rcases hx with rfl | rfl
            · simp [v4]; exact z
            · simp [v4, a1]; exact hne
      by_cases b0 : Y.1 i 0 ≠ 0
      · rw [if_pos b0] at h; exact fin 0 (by omega) b0 h
      · rw [if_neg b0] at h
        by_cases b1 : Y.1 i 1 ≠ 0
        · rw [if_pos b1] at h; exact fin 1 (by omega) b1 h
        · rw [if_neg b1] at h
          by_cases b2 : Y.1 i 2 ≠ 0
          · rw [if_pos b2] at h; exact fin 2 (by omega) b2 h
          · rw [if_neg b2] at h; cases h
  | [i, j, k], hn, h =>
    obtain ⟨hij, hik, hjk⟩ : i ≠ j ∧ i ≠ k ∧ j ≠ k := by simp at hn; exact ⟨hn.1.1, hn.1.2, hn.2⟩
    have a1 : ¬ j = i := fun e => hij e.symm
    have a2 : ¬ k = i := fun e => hik e.symm
    have a3 : ¬ k = j := fun e => hjk e.symm
    have h : fac3 Y.1 i j k = some f := h
    unfold fac3 at h
    by_cases hc : dt Y.1 i j k ≠ 0
    · rw [if_pos hc] at h; cases h
    · rw [if_neg hc] at h
      have hd : dt Y.1 i j k = 0 := by omega
      have fin : ∀ v, v < 3 → cr Y.1 i j v ≠ 0 → (if cr Y.1 j k v = 0 ∨ cr Y.1 k i v = 0 then none else some (v4 i j k k (cr Y.1 j k v) (cr Y.1 k i v) (cr Y.1 i j v) 0)) = some f → Dep Y [i, j, k] f ∧ ∀ x ∈ [i, j, k], f x ≠ 0 := by
        intro v hv hne h
        by_cases z : cr Y.1 j k v = 0 ∨ cr Y.1 k i v = 0
        · rw [if_pos z] at h; cases h
        · rw [if_neg z] at h
          have h := Option.some.inj h
          subst h
          refine ⟨cr_dep v hv hd hij hik hjk, fun x hx => ?_⟩
          simp at hx
          rcases hx with rfl | rfl | rfl
          · simp [v4]; omega
          · simp [v4, a1]; omega
          · simp [v4, a2, a3]; omega
      by_cases b0 : cr Y.1 i j 0 ≠ 0
      · rw [if_pos b0] at h; exact fin 0 (by omega) b0 h
      · rw [if_neg b0] at h
        by_cases b1 : cr Y.1 i j 1 ≠ 0
        · rw [if_pos b1] at h; exact fin 1 (by omega) b1 h
        · rw [if_neg b1] at h
          by_cases b2 : cr Y.1 i j 2 ≠ 0
          · rw [if_pos b2] at h; exact fin 2 (by omega) b2 h
          · rw [if_neg b2] at h; cases h
  | [i, j, k, l], hn, h =>
    obtain ⟨hij, hik, hil, hjk, hjl, hkl⟩ : i ≠ j ∧ i ≠ k ∧ i ≠ l ∧ j ≠ k ∧ j ≠ l ∧ k ≠ l := by simp at hn; exact ⟨hn.1.1, hn.1.2.1, hn.1.2.2, hn.2.1.1, hn.2.1.2, hn.2.2⟩
    have a1 : ¬ j = i := fun e => hij e.symm
    have a2 : ¬ k = i := fun e => hik e.symm
    have a3 : ¬ k = j := fun e => hjk e.symm
    have a4 : ¬ l = i := fun e => hil e.symm
    have a5 : ¬ l = j := fun e => hjl e.symm
    have a6 : ¬ l = k := fun e => hkl e.symm
    have h : fac4 Y.1 i j k l = some f := h
    unfold fac4 at h
    by_cases hc : dt Y.1 i j k = 0
    · rw [if_pos hc] at h; cases h
    · rw [if_neg hc] at h
      by_cases z : dt Y.1 j k l = 0 ∨ dt Y.1 i k l = 0 ∨ dt Y.1 i j l = 0
      · rw [if_pos z] at h; cases h
      · rw [if_neg z] at h
        have h := Option.some.inj h
        subst h
        refine ⟨dt_dep hij hik hil hjk hjl hkl, fun x hx => ?_⟩
        simp at hx
        rcases hx with rfl | rfl | rfl | rfl
        · simp [v4]; omega
        · simp [v4, a1]; omega
        · simp [v4, a2, a3]; omega
        · simp [v4, a4, a5, a6]; omega
  | [], _, h => cases h
  | [_], _, h => cases h
  | _ :: _ :: _ :: _ :: _ :: _, _, h => cases h
