/-! Rows.push; Circuit.setFactors and the three dependences -/
theorem mulb {a b A B : Int} (h1 : -A ≤ a) (h2 : a ≤ A) (h3 : -B ≤ b) (h4 : b ≤ B) : -(A * B) ≤ a * b ∧ a * b ≤ A * B := by
  have e1 := Int.mul_nonneg (by omega : 0 ≤ A - a) (by omega : 0 ≤ B + b)
  have e2 := Int.mul_nonneg (by omega : 0 ≤ A + a) (by omega : 0 ≤ B - b)
  have e3 := Int.mul_nonneg (by omega : 0 ≤ A - a) (by omega : 0 ≤ B - b)
  have e4 := Int.mul_nonneg (by omega : 0 ≤ A + a) (by omega : 0 ≤ B + b)
  constructor <;> grind
/-- small coefficients -/
def Bd (F : Nat → Nat → Int) (N : Nat) : Prop := ∀ i, i < N → ∀ v, v < 3 → -3 ≤ F i v ∧ F i v ≤ 3
theorem cr_bd {F : Nat → Nat → Int} {N : Nat} (hB : Bd F N) {i j v : Nat} (hi : i < N) (hj : j < N) (hv : v < 3) : -18 ≤ cr F i j v ∧ cr F i j v ≤ 18 := by
  have hb : ∀ a b, a < 3 → b < 3 → -9 ≤ F i a * F j b ∧ F i a * F j b ≤ 9 := fun a b ha hb => mulb (A := 3) (B := 3) (hB i hi a ha).1 (hB i hi a ha).2 (hB j hj b hb).1 (hB j hj b hb).2
  have h1 : nx v < 3 := by unfold nx; split <;> omega
  have h2 : th v < 3 := by unfold th; split <;> omega
  have e1 := hb (nx v) (th v) h1 h2
  have e2 := hb (th v) (nx v) h2 h1
  unfold cr
  omega
theorem dt_bd {F : Nat → Nat → Int} {N : Nat} (hB : Bd F N) {i j k : Nat} (hi : i < N) (hj : j < N) (hk : k < N) : -162 ≤ dt F i j k ∧ dt F i j k ≤ 162 := by
  have hc : ∀ a b, a < 3 → b < 3 → -18 ≤ F j a * F k b - F j b * F k a ∧ F j a * F k b - F j b * F k a ≤ 18 := fun a b ha hb => by
    have e1 := mulb (A := 3) (B := 3) (hB j hj a ha).1 (hB j hj a ha).2 (hB k hk b hb).1 (hB k hk b hb).2
    have e2 := mulb (A := 3) (B := 3) (hB j hj b hb).1 (hB j hj b hb).2 (hB k hk a ha).1 (hB k hk a ha).2
    omega
  have e0 := mulb (A := 3) (B := 18) (hB i hi 0 (by omega)).1 (hB i hi 0 (by omega)).2 (hc 1 2 (by omega) (by omega)).1 (hc 1 2 (by omega) (by omega)).2
  have e1 := mulb (A := 3) (B := 18) (hB i hi 1 (by omega)).1 (hB i hi 1 (by omega)).2 (hc 2 0 (by omega) (by omega)).1 (hc 2 0 (by omega) (by omega)).2
  have e2 := mulb (A := 3) (B := 18) (hB i hi 2 (by omega)).1 (hB i hi 2 (by omega)).2 (hc 0 1 (by omega) (by omega)).1 (hc 0 1 (by omega) (by omega)).2
  unfold dt
  omega
theorem i32_0 {z : Int} (h1 : -2147483648 ≤ z) (h2 : z < 2147483648) : i32 z = 0 ↔ z = 0 := by
  rw [eq_z, i32_z h1 h2]; rfl
def tI (s : Nat) : Int32 := if s = 2 ∨ s = 3 then -1 else 1
theorem push_z {h : Hp} {R N s : Nat} (hN : h.1 R 4 = nI N) (h12 : N < 12) (hs : s < 5) (x y z : Int32) (w : Int64) : ∃ h', s_X7_push R x y z w (nI s) h = some h' ∧ h'.1 R 4 = nI (N + 1) ∧ h'.1 R 5 = h.1 R 5 ∧
    (h'.1 (R + 1) (3 * N) = tI s * x ∧ h'.1 (R + 1) (3 * N + 1) = tI s * y ∧ h'.1 (R + 1) (3 * N + 2) = tI s * z ∧ ∀ k, k < 3 * N → h'.1 (R + 1) k = h.1 (R + 1) k) ∧ (h'.2 (R + 2) N = (tI s).toInt64 * w ∧ ∀ k, k < N → h'.2 (R + 2) k = h.2 (R + 2) k) ∧ (h'.1 (R + 3) N = (if s = 1 ∨ s = 3 then 1 else 0) ∧ ∀ k, k ≠ N → h'.1 (R + 3) k = h.1 (R + 3) k) ∧ (h'.1 (R + 4) N = (if s = 4 then 1 else 0) ∧ ∀ k, k ≠ N → h'.1 (R + 4) k = h.1 (R + 4) k) ∧ Fr [R, R + 1, R + 2, R + 3, R + 4] h h' := by
  have k138 : ∀ (h : Hp) (t0 : Int32), (t0 = 0 ∨ t0 = 1) → h.1 R 4 = nI N → s_X7_push_b138 R t0 (nI N) h = some (sI (sI h (R + 4) N t0) R 4 (nI (N + 1))) := fun h t0 ht hN => by
    unfold s_X7_push_b138 ckB
    rw [if_pos ht, stI_n (by omega) (by omega), lt_red, sI_cell (by omega), hN, nI_1]
  have k118 : ∀ (h : Hp) (t0 : Int32), (t0 = 0 ∨ t0 = 1) → h.1 R 4 = nI N → s_X7_push_b118 R (nI s) t0 (nI N) h = some (sI (sI (sI h (R + 3) N t0) (R + 4) N (if s = 4 then 1 else 0)) R 4 (nI (N + 1))) := fun h t0 ht hN => by
    unfold s_X7_push_b118 ckB
    have hN2 : (sI h (R + 3) N t0).1 R 4 = nI N := by rw [sI_cell (by omega)]; exact hN
    rw [if_pos ht, stI_n (by omega) (by omega), hN2]
    by_cases e : s = 4
    · rw [if_pos (by rw [e]; decide), k138 _ 1 (Or.inr rfl) hN2, if_pos e]
    · rw [if_neg (by rw [li4, nI_eq (by omega) (by omega)]; exact e), k138 _ 0 (Or.inl rfl) hN2, if_neg e]
  have k27 : ∀ t0 : Int32, s_X7_push_b27 R x y z w (nI s) t0 h = some (sI (sI (sI (sJ (sI (sI (sI h (R + 1) (3 * N) (t0 * x)) (R + 1) (3 * N + 1) (t0 * y)) (R + 1) (3 * N + 2) (t0 * z)) (R + 2) N (t0.toInt64 * w)) (R + 3) N (if s = 1 ∨ s = 3 then 1 else 0)) (R + 4) N (if s = 4 then 1 else 0)) R 4 (nI (N + 1))) := fun t0 => by
    unfold s_X7_push_b27 s_X7_push_b113
    rw [hN, ix30, stI_n (by omega) (by omega), sI_cell (by omega), hN, li1, ix3, stI_n (by omega) (by omega), sI_cell (by omega), sI_cell (by omega), hN, li2, ix3, stI_n (by omega) (by omega), sI_cell (by omega), sI_cell (by omega), sI_cell (by omega), hN, stJ_n (by omega) (by omega), sJ_I]
    rw [sI_cell (by omega), sI_cell (by omega), sI_cell (by omega), hN]
    have hN4 : (sJ (sI (sI (sI h (R + 1) (3 * N) (t0 * x)) (R + 1) (3 * N + 1) (t0 * y)) (R + 1) (3 * N + 2) (t0 * z)) (R + 2) N (t0.toInt64 * w)).1 R 4 = nI N := by
      rw [sJ_I, sI_cell (by omega), sI_cell (by omega), sI_cell (by omega), hN]
    rw [← li1]
    by_cases e1 : s = 1
    · rw [if_pos (by rw [e1]; decide), k118 _ 1 (Or.inr rfl) hN4, if_pos (Or.inl e1)]
    · rw [if_neg (by rw [li1, nI_eq (by omega) (by omega)]; exact e1)]
      by_cases e3 : s = 3
      · rw [if_pos (by rw [e3]; decide), k118 _ 1 (Or.inr rfl) hN4, if_pos (Or.inr e3)]
      · rw [if_neg (by rw [li3, nI_eq (by omega) (by omega)]; exact e3), k118 _ 0 (Or.inl rfl) hN4, if_neg (show ¬ (s = 1 ∨ s = 3) by omega)]
  have fin : s_X7_push R x y z w (nI s) h = some (sI (sI (sI (sJ (sI (sI (sI h (R + 1) (3 * N) (tI s * x)) (R + 1) (3 * N + 1) (tI s * y)) (R + 1) (3 * N + 2) (tI s * z)) (R + 2) N ((tI s).toInt64 * w)) (R + 3) N (if s = 1 ∨ s = 3 then 1 else 0)) (R + 4) N (if s = 4 then 1 else 0)) R 4 (nI (N + 1))) := by
    unfold s_X7_push s_X7_push_b22
    rw [hN, if_pos (show nI N < 12 from nI_lt (b := 12) h12 (by decide))]
    by_cases e2 : s = 2
    · rw [if_pos (by rw [e2]; decide), k27, show tI s = -1 from by unfold tI; rw [if_pos (Or.inl e2)]]
    · rw [if_neg (by rw [li2, nI_eq (by omega) (by omega)]; exact e2)]
      by_cases e3 : s = 3
      · rw [if_pos (by rw [e3]; decide), k27, show tI s = -1 from by unfold tI; rw [if_pos (Or.inr e3)]]
      · rw [if_neg (by rw [li3, nI_eq (by omega) (by omega)]; exact e3), k27, show tI s = 1 from by unfold tI; rw [if_neg (show ¬ (s = 2 ∨ s = 3) by omega)]]
  refine ⟨_, fin, sI_same _ _ _ _, ?_, ⟨?_, ?_, ?_, fun k hk => ?_⟩, ⟨?_, fun k hk => ?_⟩, ⟨?_, fun k hk => ?_⟩, ⟨?_, fun k hk => ?_⟩, ?_⟩
  · rw [sI_ne (by omega), sI_cell (by omega), sI_cell (by omega), sJ_I, sI_cell (by omega), sI_cell (by omega), sI_cell (by omega)]
  · rw [sI_cell (by omega), sI_cell (by omega), sI_cell (by omega), sJ_I, sI_ne (by omega), sI_ne (by omega), sI_same]
  · rw [sI_cell (by omega), sI_cell (by omega), sI_cell (by omega), sJ_I, sI_ne (by omega), sI_same]
  · rw [sI_cell (by omega), sI_cell (by omega), sI_cell (by omega), sJ_I, sI_same]
  · rw [sI_cell (by omega), sI_cell (by omega), sI_cell (by omega), sJ_I, sI_ne (by omega), sI_ne (by omega), sI_ne (by omega)]
  · rw [sI_J, sI_J, sI_J, sJ_same]
  · rw [sI_J, sI_J, sI_J, sJ_ne (by omega), sI_J, sI_J, sI_J]
  · rw [sI_cell (by omega), sI_cell (by omega), sI_same]
  · rw [sI_cell (by omega), sI_cell (by omega), sI_ne (by omega), sJ_I, sI_cell (by omega), sI_cell (by omega), sI_cell (by omega)]
  · rw [sI_cell (by omega), sI_same]
  · rw [sI_cell (by omega), sI_ne (by omega), sI_cell (by omega), sJ_I, sI_cell (by omega), sI_cell (by omega), sI_cell (by omega)]
  · exact (Fr.sI (by simp)).tr ((Fr.sI (by simp)).tr ((Fr.sI (by simp)).tr ((Fr.sJ (by simp)).tr ((Fr.sI (by simp)).tr ((Fr.sI (by simp)).tr (Fr.sI (by simp)))))))
theorem setF_z {h : Hp} {C m : Nat} (hm : h.1 C 3 = nI m) (h4 : m ≤ 4) (a b c d : Int32) : ∃ r h', s_X0_setFactors C a b c d h = some (r, h') ∧ h'.1 (C + 7) 0 = a ∧ h'.1 (C + 7) 1 = b ∧ h'.1 (C + 7) 2 = c ∧ h'.1 (C + 7) 3 = d ∧ Fr [C + 7] h h' ∧ ((r = 1 ∧ ∀ p, p < m → h'.1 (C + 7) p ≠ 0) ∨ (r = 0 ∧ ∃ p, p < m ∧ h'.1 (C + 7) p = 0)) := by
  unfold s_X0_setFactors
  rw [li0, stI_n (by omega) (by omega), li1, stI_n (by omega) (by omega), li2, stI_n (by omega) (by omega), li3, stI_n (by omega) (by omega)]
  generalize hH : sI (sI (sI (sI h (C + 7) 0 a) (C + 7) 1 b) (C + 7) 2 c) (C + 7) 3 d = H
  have g0 : H.1 (C + 7) 0 = a := by rw [← hH, sI_ne (by omega), sI_ne (by omega), sI_ne (by omega), sI_same]
  have g1 : H.1 (C + 7) 1 = b := by rw [← hH, sI_ne (by omega), sI_ne (by omega), sI_same]
  have g2 : H.1 (C + 7) 2 = c := by rw [← hH, sI_ne (by omega), sI_same]
  have g3 : H.1 (C + 7) 3 = d := by rw [← hH, sI_same]
  have gF : Fr [C + 7] h H := by
    rw [← hH]
    exact (Fr.sI (by simp)).tr ((Fr.sI (by simp)).tr ((Fr.sI (by simp)).tr (Fr.sI (by simp))))
  have gm : H.1 C 3 = nI m := by rw [(gF C (by simp)).1]; exact hm
  obtain ⟨e, he, hp⟩ := iter_fuel (f := fun s : Int32 => s_X0_setFactors_l32 C s H) (fun s => ∃ j, s = nI j ∧ j ≤ m ∧ ∀ p, p < j → H.1 (C + 7) p ≠ 0) (fun s => m - s.toNatClampNeg) (fun e => (e = .inl () ∧ ∀ p, p < m → H.1 (C + 7) p ≠ 0) ∨ (e = .inr (0, H) ∧ ∃ p, p < m ∧ H.1 (C + 7) p = 0)) (by
    rintro s ⟨j, rfl, hj, hz⟩
    unfold s_X0_setFactors_l32
    rw [gm]
    by_cases c1 : j < m
    · rw [if_pos (nI_lt c1 (by omega)), ldI_n (by omega) (by omega)]
      by_cases c2 : H.1 (C + 7) j = 0
      · rw [if_pos c2]
        exact Or.inr ⟨_, rfl, Or.inr ⟨rfl, j, c1, c2⟩⟩
      · rw [if_neg c2, lt_red]
        refine Or.inl ⟨_, rfl, ⟨j + 1, by rw [nI_1], by omega, fun p hp => ?_⟩, ?_⟩
        · rcases Nat.lt_or_ge p j with q | q
          · exact hz p q
          · rw [show p = j by omega]; exact c2
        · rw [nI_1, nI_clamp (by omega), nI_clamp (by omega)]; omega
    · rw [if_neg (nI_nlt (by omega) (by omega))]
      exact Or.inr ⟨_, rfl, Or.inl ⟨rfl, fun p hp => hz p (by omega)⟩⟩) (nI 0) ⟨0, rfl, by omega, fun p hp => by omega⟩ (by rw [nI_clamp (by omega)]; omega)
  rw [he]
  rcases hp with ⟨rfl, q⟩ | ⟨rfl, q⟩
  · exact ⟨nI 1, H, rfl, g0, g1, g2, g3, gF, Or.inl ⟨rfl, q⟩⟩
  · exact ⟨0, H, rfl, g0, g1, g2, g3, gF, Or.inr ⟨rfl, q⟩⟩
