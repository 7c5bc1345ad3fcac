/-! copies: Problem.copy, the model's loops; loadRows -/
theorem cpyI_p {β : Type} {h : Hp} {b c n : Nat} {N : Int32} {k : Hp → Option β} (hn : N.toNatClampNeg = n) (h0 : ¬ N < 0) : cpyI h b n 0 c n 0 N k = k (cpI h b c 0 0 n) := by
  have z : (0 : Int32).toNatClampNeg = 0 := by decide
  unfold cpyI
  rw [if_pos ⟨by decide, by decide, h0, by rw [z, hn]; omega, by rw [z, hn]; omega⟩, z, hn]
theorem cp_at {h : Hp} {b c n k : Nat} (hk : k < n) : (cpI h b c 0 0 n).1 c k = h.1 b k := by simp [cpI, va_cpy, hk]
theorem cp_cell {h : Hp} {b c c' sp dp n : Nat} (e : c' ≠ c) : (cpI h b c sp dp n).1 c' = h.1 c' := by funext j; simp [cpI, e]
theorem cp_J {h : Hp} {b c sp dp n : Nat} : (cpI h b c sp dp n).2 = h.2 := rfl
theorem copy_z {h : Hp} {P Q : Nat} (hPQ : P + 6 ≤ Q ∨ Q + 6 ≤ P) : ∃ h', s_X5_copy P Q h = some h' ∧ Fr [P, P + 1, P + 2, P + 3, P + 4, P + 5] h h' ∧ (∀ k, k < 4 → h'.1 P k = h.1 Q k) ∧ (∀ k, k < 24 → h'.1 (P + 1) k = h.1 (Q + 1) k) ∧ (∀ k, k < 10 → h'.1 (P + 2) k = h.1 (Q + 2) k) ∧ (∀ k, k < 10 → h'.1 (P + 3) k = h.1 (Q + 3) k) ∧ (∀ k, k < 10 → h'.1 (P + 4) k = h.1 (Q + 4) k) ∧ (∀ k, k < 4 → h'.1 (P + 5) k = h.1 (Q + 5) k) := by
  unfold s_X5_copy
  rw [lt_red, lt_red, lt_red, lt_red, sI_cell (c' := Q) (by omega), sI_cell (c' := Q) (by omega), sI_cell (c' := Q) (by omega), sI_cell (c' := Q) (by omega), sI_cell (c' := Q) (by omega), sI_cell (c' := Q) (by omega)]
  generalize gH : sI (sI (sI (sI h P 0 (h.1 Q 0)) P 1 (h.1 Q 1)) P 2 (h.1 Q 2)) P 3 (h.1 Q 3) = H
  have hc : ∀ c, c ≠ P → H.1 c = h.1 c := fun c hc => by rw [← gH, sI_cell hc, sI_cell hc, sI_cell hc, sI_cell hc]
  have hJ : H.2 = h.2 := by rw [← gH]; rfl
  have h4 : ∀ k, k < 4 → H.1 P k = h.1 Q k := fun k hk => by
    rcases (show k = 0 ∨ k = 1 ∨ k = 2 ∨ k = 3 by omega) with rfl | rfl | rfl | rfl
    · rw [← gH, sI_ne (by omega), sI_ne (by omega), sI_ne (by omega), sI_same]
    · rw [← gH, sI_ne (by omega), sI_ne (by omega), sI_same]
    · rw [← gH, sI_ne (by omega), sI_same]
    · rw [← gH, sI_same]
  rw [cpyI_p (by decide) (by decide), cpyI_p (by decide) (by decide), cpyI_p (by decide) (by decide), cpyI_p (by decide) (by decide), cpyI_p (by decide) (by decide)]
  refine ⟨_, rfl, fun c hcc => ?_, fun k hk => ?_, fun k hk => ?_, fun k hk => ?_, fun k hk => ?_, fun k hk => ?_, fun k hk => ?_⟩
  · simp at hcc
    obtain ⟨a0, a1, a2, a3, a4, a5⟩ := hcc
    rw [cp_cell a5, cp_cell a4, cp_cell a3, cp_cell a2, cp_cell a1, cp_J, cp_J, cp_J, cp_J, cp_J, hc c a0, hJ]
    exact ⟨rfl, rfl⟩
  · rw [cp_cell (by omega), cp_cell (by omega), cp_cell (by omega), cp_cell (by omega), cp_cell (by omega)]; exact h4 k hk
  · rw [cp_cell (by omega), cp_cell (by omega), cp_cell (by omega), cp_cell (by omega), cp_at hk, hc _ (by omega)]
  · rw [cp_cell (by omega), cp_cell (by omega), cp_cell (by omega), cp_at hk, cp_cell (by omega), hc _ (by omega)]
  · rw [cp_cell (by omega), cp_cell (by omega), cp_at hk, cp_cell (by omega), cp_cell (by omega), hc _ (by omega)]
  · rw [cp_cell (by omega), cp_at hk, cp_cell (by omega), cp_cell (by omega), cp_cell (by omega), hc _ (by omega)]
  · rw [cp_at hk, cp_cell (by omega), cp_cell (by omega), cp_cell (by omega), cp_cell (by omega), hc _ (by omega)]
/-- a loop that copies part of an array into another -/
theorem cploop {f : Int32 × Hp → Option ((Int32 × Hp) ⊕ Hp)} {n src dst so to : Nat} (hsd : src ≠ dst) (hn : n < 1000) (hstep : ∀ (k : Nat) (H : Hp), k < n → f (nI k, H) = some (.inl (nI (k + 1), sI H dst (to + k) (H.1 src (so + k))))) (hend : ∀ H, f (nI n, H) = some (.inr H)) (h : Hp) : ∃ h', iter f FUEL (nI 0, h) = some h' ∧ (∀ k, k < n → h'.1 dst (to + k) = h.1 src (so + k)) ∧ (∀ k, (k < to ∨ to + n ≤ k) → h'.1 dst k = h.1 dst k) ∧ Fr [dst] h h' := by
  obtain ⟨e, he, hp⟩ := iter_fuel (f := f)
    (fun z => ∃ (k : Nat) (H : Hp), z = (nI k, H) ∧ k ≤ n ∧ (∀ j, j < k → H.1 dst (to + j) = h.1 src (so + j)) ∧ (∀ j, (j < to ∨ to + n ≤ j) → H.1 dst j = h.1 dst j) ∧ Fr [dst] h H)
    (fun z => n - z.1.toNatClampNeg)
    (fun e => (∀ k, k < n → e.1 dst (to + k) = h.1 src (so + k)) ∧ (∀ k, (k < to ∨ to + n ≤ k) → e.1 dst k = h.1 dst k) ∧ Fr [dst] h e) (by
    rintro z ⟨k, H, rfl, hk, h1, h2, h3⟩
    by_cases q : k < n
    · rw [hstep k H q]
      refine Or.inl ⟨_, rfl, ⟨k + 1, _, rfl, by omega, fun j hj => ?_, fun j hj => ?_, h3.tr (Fr.sI (by simp))⟩, ?_⟩
      · by_cases w : j = k
        · subst w; rw [sI_same, (h3 src (by simpa using hsd)).1]
        · rw [sI_ne (by omega)]; exact h1 j (by omega)
      · rw [sI_ne (by omega)]; exact h2 j hj
      · dsimp only; rw [nI_clamp (by omega), nI_clamp (by omega)]; omega
    · have : k = n := by omega
      subst this
      rw [hend]
      exact Or.inr ⟨_, rfl, h1, h2, h3⟩)
    (nI 0, h) ⟨0, h, rfl, by omega, fun j hj => by omega, fun _ _ => rfl, Fr.rf⟩ (by dsimp only; rw [nI_clamp (by omega)]; omega)
  exact ⟨e, he, hp⟩
theorem nI_ltn {a b : Nat} (h : a < b) (hb : b < 2147483648) {x : Int32} (e : x = nI b) : nI a < x := by rw [e]; exact nI_lt h hb
theorem nI_nltn {b : Nat} {x : Int32} (e : x = nI b) : ¬ nI b < x := by rw [e, lt_z]; omega
/-- the rows of all constraints, made anew -/
theorem loadRows_z {h : Hp} {nv nf m : Nat} {G : Nat → Nat} {F : Nat → Nat → Int} {s : Nat → Nat} {d : Nat → Int} (h1 : 1 ≤ nv) (h3 : nv ≤ 3) (h8 : nf ≤ 8) (h10 : m ≤ 10) (e0 : h.1 1 0 = nI nv) (e1 : h.1 1 1 = nI nf) (e2 : h.1 1 2 = nI m) (hr : ∀ k, k < m → h.1 3 k = nI (G k) ∧ h.1 4 k = nI (s k) ∧ h.1 5 k = i32 (d k) ∧ G k < nf ∧ ∀ v, v < 3 → h.1 2 (3 * G k + v) = i32 (F k v)) (hw : RW nv m F s d) (hz : h.1 40 0 = nI 0 ∧ BJ h) : ∃ h', s_X9_loadRows 0 h = some h' ∧ Fr rowc h h' ∧ CI h' nv m F s d := by
  unfold s_X9_loadRows
  simp only [Nat.zero_add]
  obtain ⟨H0, r1, r2, r3, r4, r5⟩ := restart_z h 32 (h.1 1 0)
  have F0 : Fr [32] h H0 := fun c hc => by
    simp at hc
    exact ⟨r4 c hc, by rw [r5]⟩
  rw [r1, bnd_s]
  have C0 : CI H0 nv 0 F s d := by
    refine ⟨⟨r2, by rw [r3]; exact e0, by omega⟩, fun i hi => by omega, fun _ => 0, fun _ => 0, ⟨fun k hk => ?_, fun i hi => absurd hi (Nat.not_lt_zero _), fun k hk b => ?_⟩, fun _ _ _ _ => Nat.le_refl _, hz.2.fr F0 (by simp) (by simp)⟩
    · have : k = 0 := by omega
      subst this
      exact ⟨by rw [(F0 40 (by simp)).1]; exact hz.1, by simp [BB], Nat.le_refl _⟩
    · have : k = 0 := by omega
      subst this
      constructor
      · rintro ⟨q1, q2⟩
        have : b = 0 := by simp at q1; exact q1
        subst this
        obtain ⟨-, g, hg, -⟩ := q2
        have e : bl 0 12 = [] := by simp [bl]
        rw [e] at hg
        cases hg
      · rintro ⟨i, hi, -⟩; exact absurd hi (Nat.not_lt_zero _)
  obtain ⟨e, he, hp⟩ := iter_fuel (f := fun s : Int32 × Hp => s_X9_loadRows_l16 0 s.1 s.2)
    (fun z => ∃ (k : Nat) (H : Hp), z = (nI k, H) ∧ k ≤ m ∧ Fr rowc h H ∧ CI H nv k F s d)
    (fun z => m - z.1.toNatClampNeg)
    (fun e => Fr rowc h e ∧ CI e nv m F s d) (by
    rintro z ⟨k, H, rfl, hk, hF, hC⟩
    dsimp only
    unfold s_X9_loadRows_l16
    simp only [Nat.zero_add]
    rw [(hF 1 (by simp [rowc])).1, e2]
    by_cases q : k < m
    · obtain ⟨w1, w2, w3, w4, w5⟩ := hr k q
      obtain ⟨u1, u2, u3, u4, u5⟩ := hw k q
      rw [if_pos (nI_lt q (by omega)), ldI_n (by omega) (by omega), ldI_n (by omega) (by omega), ldI_n (by omega) (by omega)]
      show (∃ s', (s_X9_pushRow 0 (H.1 3 k) (H.1 4 k) (H.1 5 k) H).bind _ = _ ∧ _) ∨ _
      rw [(hF 3 (by simp [rowc])).1, (hF 4 (by simp [rowc])).1, (hF 5 (by simp [rowc])).1, w1, w2, w3]
      obtain ⟨H2, z1, zF, zC⟩ := pushRow_z (h := H) (nf := nf) (K := F k) hC (fun i hi => hw i (by omega)) h1 h3 (by omega) (by rw [(hF 1 (by simp [rowc])).1]; exact e0) (by rw [(hF 1 (by simp [rowc])).1]; exact e1) h8 w4 (fun v hv => by rw [(hF 2 (by simp [rowc])).1]; exact w5 v hv) u3 u4 u5 u1 u2
      rw [z1, bnd_s, lt_red, nI_1]
      refine Or.inl ⟨_, rfl, ⟨k + 1, H2, rfl, by omega, hF.tr zF, CI.same zC (fun i hi => ?_) (fun i hi => ?_) (fun i hi => ?_)⟩, by rw [nI_clamp (by omega), nI_clamp (by omega)]; omega⟩
      · by_cases y : i = k
        · subst y; rw [upn_same]
        · rw [upn_ne y]
      · by_cases y : i = k
        · subst y; rw [upn_same]
        · rw [upn_ne y]
      · by_cases y : i = k
        · subst y; rw [upn_same]
        · rw [upn_ne y]
    · rw [if_neg (nI_nlt (by omega) (by omega))]
      have : k = m := by omega
      subst this
      exact Or.inr ⟨_, rfl, hF, hC⟩)
    (nI 0, H0) ⟨0, H0, rfl, by omega, F0.wid (by simp [rowc]), C0⟩ (by dsimp only; rw [nI_clamp (by omega)]; omega)
  rw [li0, he, bnd_s]
  exact ⟨e, rfl, hp⟩
theorem CI.zero {h : Hp} {nv N : Nat} {F : Nat → Nat → Int} {s : Nat → Nat} {d : Nat → Int} (hc : CI h nv N F s d) : h.1 40 0 = nI 0 ∧ BJ h := by
  obtain ⟨-, -, n, t, c5, -, c7⟩ := hc
  refine ⟨?_, c7⟩
  have a := (c5.1 0 (by omega)).1
  have b := (c5.1 0 (by omega)).2.1
  have : n 0 = 0 := by simp [BB] at b; exact b
  rw [this] at a
  exact a
