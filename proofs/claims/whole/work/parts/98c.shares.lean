/-! the model's elimination and its shares -/
def bq (k v : Nat) : Int := if k = 0 then 3 else if k = 1 then (if v = 0 then 3 else 18) else if k = 2 then (if v = 0 then 108 else if v = 1 then 18 else 648) else (if v = 0 then 139968 else if v = 1 then 23328 else 648)
theorem bq_le (k v : Nat) : 1 ≤ bq k v ∧ bq k v ≤ 139968 := by
  unfold bq; (repeat' split) <;> omega
theorem bq_step {A : Nat → Nat → Int} {n d v : Nat} (h : Bnd A n (bq d)) (hd : d < 3) (hdn : d < n) (hv : d ≤ v) (hv3 : v < 3) : Bnd (clr (swp A d v) d d) n (bq (d + 1)) := by
  have h1 : Bnd (swp A d v) n (bq d) := bnd_swp h hd hv3 (by
    rcases (show d = 0 ∨ d = 1 ∨ d = 2 by omega) with rfl | rfl | rfl
    · rfl
    · rcases (show v = 1 ∨ v = 2 by omega) with rfl | rfl <;> rfl
    · rw [show v = 2 by omega])
  refine bnd_clr h1 hd hdn (fun v _ => (bq_le d v).1) ?_ (fun u hu hud => ?_)
  · rcases (show d = 0 ∨ d = 1 ∨ d = 2 by omega) with rfl | rfl | rfl <;> rfl
  · rcases (show d = 0 ∨ d = 1 ∨ d = 2 by omega) with rfl | rfl | rfl <;> rcases (show u = 0 ∨ u = 1 ∨ u = 2 by omega) with rfl | rfl | rfl <;> first | rfl | (exact absurd rfl hud)
theorem findp_z {h : Hp} {A : Nat → Nat → Int} {n d j : Nat} {a2 a3 : Int32} (hT : Tb h A n) (hd : d ≤ 3) (hj : j < n) {k : Nat} (hB : Bnd A n (bq k)) : ∃ v, iter (fun s : Int32 => s_X10_setShares_l24 66 a2 a3 (nI j) s h) FUEL (nI d) = some (nI v) ∧ d ≤ v ∧ v ≤ 3 ∧ (v < 3 → A v j ≠ 0) ∧ ∀ u, d ≤ u → u < v → A u j = 0 := by
  have hn := hT.2.1
  obtain ⟨e, he, hp⟩ := iter_fuel (f := fun s : Int32 => s_X10_setShares_l24 66 a2 a3 (nI j) s h)
    (fun z => ∃ v, z = nI v ∧ d ≤ v ∧ v ≤ 3 ∧ ∀ u, d ≤ u → u < v → A u j = 0)
    (fun z => 20 - z.toNatClampNeg)
    (fun e => ∃ v, e = nI v ∧ d ≤ v ∧ v ≤ 3 ∧ (v < 3 → A v j ≠ 0) ∧ ∀ u, d ≤ u → u < v → A u j = 0) (by
    rintro z ⟨v, rfl, h1, h2, h3⟩
    unfold s_X10_setShares_l24
    by_cases q : v < 3
    · have b1 := hB v j q hj
      have b2 := bq_le k v
      rw [if_pos (nI_ltn q (by omega) (by decide)), ix10, show (66 + 16 : Nat) = 82 from rfl, ldJ_n (by omega) (by omega), hT.2.2 v j q hj]
      by_cases c : A v j = 0
      · rw [if_pos ((i64_0 (by omega) (by omega)).mpr c), lt_red, nI_1]
        refine Or.inl ⟨_, rfl, ⟨v + 1, rfl, by omega, by omega, fun u hu1 hu2 => ?_⟩, by rw [nI_clamp (by omega), nI_clamp (by omega)]; omega⟩
        rcases (show u < v ∨ u = v by omega) with y | rfl
        · exact h3 u hu1 y
        · exact c
      · rw [if_neg (fun y => c ((i64_0 (by omega) (by omega)).mp y))]
        exact Or.inr ⟨_, rfl, v, rfl, h1, h2, fun _ => c, h3⟩
    · have : v = 3 := by omega
      subst this
      rw [if_neg (nI_nltn (by decide))]
      exact Or.inr ⟨_, rfl, 3, rfl, h1, h2, fun y => absurd y (by omega), h3⟩)
    (nI d) ⟨d, rfl, Nat.le_refl _, hd, fun u h1 h2 => by omega⟩ (by omega)
  obtain ⟨v, rfl, h1, h2, h3, h4⟩ := hp
  exact ⟨v, he, h1, h2, h3, h4⟩
set_option maxHeartbeats 1000000 in
theorem elim_z {h : Hp} {A0 : Nat → Nat → Int} {r : Nat} (hT : Tb h A0 (r + 1)) (hr : 1 ≤ r) (hB : Bnd A0 (r + 1) (bq 0)) (hmin : ∀ x, NS A0 (r + 1) x → (∃ i, i < r + 1 ∧ x i = 0) → ∀ i, i < r + 1 → x i = 0) {g : Nat → Int} (hg : NS A0 (r + 1) g) (hgr : g r ≠ 0) : ∃ h', iter (fun s : Int32 × Int32 × Int32 × Hp => s_X10_setShares_l12 66 s.1 s.2.1 s.2.2.1 s.2.2.2) FUEL ((0 : Int32), (0 : Int32), (0 : Int32), h) = some (nI r, h') ∧ Fr [82, 84] h h' ∧ (∀ j, j < r → h'.1 84 j = nI j) ∧ h'.1 84 r = -9 ∧ ∃ A, Tb h' A (r + 1) ∧ Diag A r ∧ (∀ x, NS A (r + 1) x ↔ NS A0 (r + 1) x) ∧ Bnd A (r + 1) (bq r) := by
  have hr3 : r ≤ 3 := by have := hT.2.1; omega
  obtain ⟨e, he, hp⟩ := iter_fuel (f := fun s : Int32 × Int32 × Int32 × Hp => s_X10_setShares_l12 66 s.1 s.2.1 s.2.2.1 s.2.2.2)
    (fun z => (∃ (j : Nat) (H : Hp) (A : Nat → Nat → Int), z = (nI j, nI 0, nI j, H) ∧ j ≤ r ∧ Fr [82, 84] h H ∧ (∀ i, i < j → H.1 84 i = nI i) ∧ Tb H A (r + 1) ∧ Diag A j ∧ (∀ x, NS A (r + 1) x ↔ NS A0 (r + 1) x) ∧ Bnd A (r + 1) (bq j)) ∨ (∃ (H : Hp) (A : Nat → Nat → Int), z = (nI r, nI r, nI (r + 1), H) ∧ Fr [82, 84] h H ∧ (∀ i, i < r → H.1 84 i = nI i) ∧ H.1 84 r = -9 ∧ Tb H A (r + 1) ∧ Diag A r ∧ (∀ x, NS A (r + 1) x ↔ NS A0 (r + 1) x) ∧ Bnd A (r + 1) (bq r)))
    (fun z => 20 - z.2.2.1.toNatClampNeg)
    (fun e => e.1 = nI r ∧ Fr [82, 84] h e.2 ∧ (∀ j, j < r → e.2.1 84 j = nI j) ∧ e.2.1 84 r = -9 ∧ ∃ A, Tb e.2 A (r + 1) ∧ Diag A r ∧ (∀ x, NS A (r + 1) x ↔ NS A0 (r + 1) x) ∧ Bnd A (r + 1) (bq r)) (by
    rintro z (⟨j, H, A, rfl, hj, hF, h84, hTb, hD, hNS, hBd⟩ | ⟨H, A, rfl, hF, h84, h84r, hTb, hD, hNS, hBd⟩)
    · dsimp only
      unfold s_X10_setShares_l12 s_X10_setShares_b72 s_X10_setShares_b102
      rw [hTb.1]
      have mu : 20 - (nI (j + 1)).toNatClampNeg < 20 - (nI j).toNatClampNeg := by rw [nI_clamp (by omega), nI_clamp (by omega)]; omega
      obtain ⟨v, e1, v1, v2, v3, v4⟩ := findp_z (a2 := nI j) (a3 := nI 0) (d := j) (j := j) hTb (by omega) (by omega) hBd
      rw [if_pos (nI_lt (by omega) (by omega)), e1, bnd_s, show (66 + 18 : Nat) = 84 from rfl]
      by_cases c : j < r
      · have hv3 : v < 3 := by
          obtain ⟨u, u1, u2, u3⟩ := pivot_ex hD (n := r + 1) (by omega) (by omega) (fun x hx => hmin x ((hNS x).mp hx))
          rcases (show v < 3 ∨ v = 3 by omega) with y | y
          · exact y
          · exact absurd (v4 u u1 (by omega)) u3
        rw [if_pos (nI_ltn hv3 (by omega) (by decide)), stI_n (by omega) (by omega), if_pos (nI_ltn hv3 (by omega) (by decide))]
        generalize gH2 : sI H 84 j (nI j) = H2
        have F2 : Fr [82, 84] h H2 := hF.tr (by rw [← gH2]; exact Fr.sI (by simp))
        have T2 : Tb H2 A (r + 1) := hTb.cg (by rw [← gH2, sI_cell (by omega)]) (fun v k _ _ => by rw [← gH2]; rfl) (fun _ _ _ _ => rfl)
        obtain ⟨H3, e3, T3, F3⟩ := swapsRows_z T2 (a := j) (b := v) (by omega) hv3
        have B3 : Bnd (swp A j v) (r + 1) (bq j) := bnd_swp hBd (by omega) hv3 (by
          rcases (show j = 0 ∨ j = 1 ∨ j = 2 by omega) with rfl | rfl | rfl
          · rfl
          · rcases (show v = 1 ∨ v = 2 by omega) with rfl | rfl <;> rfl
          · rw [show v = 2 by omega])
        obtain ⟨H4, e4, T4, F4⟩ := clears_z T3 (P := j) (j := j) (by omega) (by omega) (fun u hu => by
          have := B3 u j hu (by omega)
          have := bq_le j u
          omega)
        rw [e3, bnd_s, e4, bnd_s, lt_red, lt_red, nI_1]
        refine Or.inl ⟨_, rfl, Or.inl ⟨j + 1, H4, _, rfl, by omega, F2.tr ((F3.wid (by simp)).tr (F4.wid (by simp))), fun i hi => ?_, T4, diag_step hD (by omega) v1 hv3 (v3 hv3), fun x => ?_, bq_step hBd (by omega) (by omega) v1 hv3⟩, mu⟩
        · rw [(F4 84 (by simp)).1, (F3 84 (by simp)).1, ← gH2]
          by_cases w : i = j
          · subst w; rw [sI_same]
          · rw [sI_ne w]; exact h84 i (by omega)
        · rw [NS_clr (by omega) (by unfold swp; rw [if_pos rfl]; exact v3 hv3), NS_swp (by omega) hv3]; exact hNS x
      · have ej : j = r := by omega
        subst ej
        have hln := last_none hD hr3 ((hNS g).mpr hg) hgr
        have hv3 : v = 3 := by
          rcases (show v < 3 ∨ v = 3 by omega) with y | y
          · exact absurd (hln v v1 y) (v3 y)
          · exact y
        subst hv3
        rw [if_neg (nI_nltn (by decide)), stI_n (by omega) (by omega), if_neg (nI_nltn (by decide)), lt_red, nI_1]
        refine Or.inl ⟨_, rfl, Or.inr ⟨_, A, rfl, hF.tr (Fr.sI (by simp)), fun i hi => ?_, sI_same _ _ _ _, hTb.cg (by rw [sI_cell (by omega)]) (fun _ _ _ _ => rfl) (fun _ _ _ _ => rfl), hD, hNS, hBd⟩, mu⟩
        rw [sI_ne (by omega)]; exact h84 i hi
    · dsimp only
      unfold s_X10_setShares_l12
      rw [hTb.1, if_neg (nI_nlt (by omega) (by omega))]
      exact Or.inr ⟨_, rfl, rfl, hF, h84, h84r, A, hTb, hD, hNS, hBd⟩)
    (nI 0, nI 0, nI 0, h) (Or.inl ⟨0, h, A0, rfl, by omega, Fr.rf, fun i hi => by omega, hT, fun i hi => by omega, fun x => Iff.rfl, hB⟩) (by dsimp only; rw [nI_clamp (by omega)]; omega)
  obtain ⟨a1, a2, a3, a4, a5⟩ := hp
  rw [li0, he]
  exact ⟨e.2, by rw [← a1], a2, a3, a4, a5⟩
/-! the shares -/
def pr (A : Nat → Nat → Int) : Nat → Int
  | 0 => 1
  | k + 1 => pr A k * A k k
def shr2 (A : Nat → Nat → Int) (r : Nat) : Nat → Int := fun j => if j < r then - A j r * (pr A r / A j j) else pr A r
theorem pr_ne {A : Nat → Nat → Int} : ∀ {r : Nat}, Diag A r → pr A r ≠ 0
  | 0, _ => by simp [pr]
  | r + 1, h => by
    unfold pr
    intro q
    rcases Int.mul_eq_zero.mp q with y | y
    · exact pr_ne (fun i hi => ⟨(h i (by omega)).1, (h i (by omega)).2⟩) y
    · exact (h r (by omega)).1 y
/-- a third factor between bounds -/
theorem mul3b {a b c A B C : Int} (ha : -A ≤ a ∧ a ≤ A) (hb : -B ≤ b ∧ b ≤ B) (hc : -C ≤ c ∧ c ≤ C) : -(A * (B * C)) ≤ a * (b * c) ∧ a * (b * c) ≤ A * (B * C) := by
  have m := mulb hb.1 hb.2 hc.1 hc.2
  exact mulb ha.1 ha.2 m.1 m.2
theorem pr_div {A : Nat → Nat → Int} {r : Nat} (hr : 1 ≤ r) (hr3 : r ≤ 3) (hD : Diag A r) (hB : Bnd A (r + 1) (bq r)) {j : Nat} (hj : j < r) : A j j * (pr A r / A j j) = pr A r ∧ (-2200000000000 ≤ shr2 A r j ∧ shr2 A r j ≤ 2200000000000) ∧ (-2200000000000 ≤ pr A r ∧ pr A r ≤ 2200000000000) := by
  unfold shr2
  rw [if_pos hj]
  have d0 := (hD j hj).1
  rcases (show r = 1 ∨ r = 2 ∨ r = 3 by omega) with rfl | rfl | rfl
  · have e : j = 0 := by omega
    subst e
    have b0 := hB 0 0 (by omega) (by omega)
    have b1 := hB 0 1 (by omega) (by omega)
    rw [show bq 1 0 = 3 from rfl] at b0 b1
    have e1 : pr A 1 = A 0 0 := by simp [pr]
    rw [e1, Int.ediv_self d0]
    refine ⟨by omega, by omega, by omega⟩
  · have b00 := hB 0 0 (by omega) (by omega)
    have b02 := hB 0 2 (by omega) (by omega)
    have b11 := hB 1 1 (by omega) (by omega)
    have b12 := hB 1 2 (by omega) (by omega)
    rw [show bq 2 0 = 108 from rfl] at b00 b02
    rw [show bq 2 1 = 18 from rfl] at b11 b12
    have e1 : pr A 2 = A 0 0 * A 1 1 := by simp [pr]
    have mp := mulb b00.1 b00.2 b11.1 b11.2
    rw [e1]
    rcases (show j = 0 ∨ j = 1 by omega) with rfl | rfl
    · rw [Int.mul_ediv_cancel_left _ d0]
      have := mulb (a := - A 0 2) (b := A 1 1) (A := 108) (B := 18) (by omega) (by omega) b11.1 b11.2
      exact ⟨rfl, by omega, by omega⟩
    · rw [Int.mul_ediv_cancel _ d0]
      have := mulb (a := - A 1 2) (b := A 0 0) (A := 18) (B := 108) (by omega) (by omega) b00.1 b00.2
      exact ⟨Int.mul_comm _ _, by omega, by omega⟩
  · have b00 := hB 0 0 (by omega) (by omega)
    have b03 := hB 0 3 (by omega) (by omega)
    have b11 := hB 1 1 (by omega) (by omega)
    have b13 := hB 1 3 (by omega) (by omega)
    have b22 := hB 2 2 (by omega) (by omega)
    have b23 := hB 2 3 (by omega) (by omega)
    rw [show bq 3 0 = 139968 from rfl] at b00 b03
    rw [show bq 3 1 = 23328 from rfl] at b11 b13
    rw [show bq 3 2 = 648 from rfl] at b22 b23
    have e1 : pr A 3 = A 0 0 * (A 1 1 * A 2 2) := by simp [pr, Int.mul_assoc]
    have mp := mul3b b00 b11 b22
    have e2 : A 0 0 * (A 1 1 * A 2 2) = A 1 1 * (A 0 0 * A 2 2) := by grind
    have e3 : A 0 0 * (A 1 1 * A 2 2) = A 2 2 * (A 0 0 * A 1 1) := by grind
    rw [e1]
    refine ⟨?_, ?_, by omega⟩
    · rcases (show j = 0 ∨ j = 1 ∨ j = 2 by omega) with rfl | rfl | rfl
      · rw [Int.mul_ediv_cancel_left _ d0]
      · rw [e2, Int.mul_ediv_cancel_left _ d0]
      · rw [e3, Int.mul_ediv_cancel_left _ d0]
    · rcases (show j = 0 ∨ j = 1 ∨ j = 2 by omega) with rfl | rfl | rfl
      · rw [Int.mul_ediv_cancel_left _ d0]
        have := mul3b (a := - A 0 3) (b := A 1 1) (c := A 2 2) (A := 139968) (B := 23328) (C := 648) (by omega) b11 b22
        omega
      · rw [e2, Int.mul_ediv_cancel_left _ d0]
        have := mul3b (a := - A 1 3) (b := A 0 0) (c := A 2 2) (A := 23328) (B := 139968) (C := 648) (by omega) b00 b22
        omega
      · rw [e3, Int.mul_ediv_cancel_left _ d0]
        have := mul3b (a := - A 2 3) (b := A 0 0) (c := A 1 1) (A := 648) (B := 139968) (C := 23328) (by omega) b00 b11
        omega
theorem shr_bd {A : Nat → Nat → Int} {r : Nat} (hr : 1 ≤ r) (hr3 : r ≤ 3) (hD : Diag A r) (hB : Bnd A (r + 1) (bq r)) {j : Nat} (hj : j < r + 1) : -2200000000000 ≤ shr2 A r j ∧ shr2 A r j ≤ 2200000000000 := by
  rcases (show j < r ∨ j = r by omega) with q | rfl
  · exact (pr_div hr hr3 hD hB q).2.1
  · unfold shr2
    rw [if_neg (by omega)]
    exact (pr_div hr hr3 hD hB (j := 0) (by omega)).2.2
theorem shr_NS {A : Nat → Nat → Int} {r : Nat} (hr : 1 ≤ r) (hr3 : r ≤ 3) (hD : Diag A r) (hB : Bnd A (r + 1) (bq r)) (hl : ∀ v, r ≤ v → v < 3 → A v r = 0) : NS A (r + 1) (shr2 A r) := by
  intro v hv
  have key : ∀ j, j < r → A j j * shr2 A r j = - A j r * pr A r := fun j hj => by
    unfold shr2
    rw [if_pos hj, ← (pr_div hr hr3 hD hB hj).1]
    have := (pr_div hr hr3 hD hB hj).1
    grind
  have kr : shr2 A r r = pr A r := if_neg (by omega)
  have off : ∀ j, j < r → v ≠ j → A v j = 0 := fun j hj hvj => (hD j hj).2 v hv hvj
  rcases (show v < r ∨ r ≤ v by omega) with q | q
  · have kv := key v q
    rcases (show r = 1 ∨ r = 2 ∨ r = 3 by omega) with rfl | rfl | rfl
    · have : v = 0 := by omega
      subst this
      simp only [rs]; rw [kv, kr]; grind
    · rcases (show v = 0 ∨ v = 1 by omega) with rfl | rfl
      · simp only [rs]; rw [kv, kr, off 1 (by omega) (by omega)]; grind
      · simp only [rs]; rw [kv, kr, off 0 (by omega) (by omega)]; grind
    · rcases (show v = 0 ∨ v = 1 ∨ v = 2 by omega) with rfl | rfl | rfl
      · simp only [rs]; rw [kv, kr, off 1 (by omega) (by omega), off 2 (by omega) (by omega)]; grind
      · simp only [rs]; rw [kv, kr, off 0 (by omega) (by omega), off 2 (by omega) (by omega)]; grind
      · simp only [rs]; rw [kv, kr, off 0 (by omega) (by omega), off 1 (by omega) (by omega)]; grind
  · have z := hl v q hv
    rcases (show r = 1 ∨ r = 2 ∨ r = 3 by omega) with rfl | rfl | rfl
    · simp only [rs]; rw [z, off 0 (by omega) (by omega)]; grind
    · simp only [rs]; rw [z, off 0 (by omega) (by omega), off 1 (by omega) (by omega)]; grind
    · omega
