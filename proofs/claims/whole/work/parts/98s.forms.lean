/-! a form, read by both -/
theorem iter_go {σ ρ : Type} {f : σ → Option (σ ⊕ ρ)} {s s' : σ} (e : f s = some (.inl s')) (k : Nat) : iter f (k + 1) s = iter f k s' := by
  conv => lhs; unfold iter
  rw [e]
theorem iter_out {σ ρ : Type} {f : σ → Option (σ ⊕ ρ)} {s : σ} {r : ρ} (e : f s = some (.inr r)) (k : Nat) : iter f (k + 1) s = some r := by
  conv => lhs; unfold iter
  rw [e]
/-- two loops in step -/
theorem iter2 {σ ρ σ' ρ' : Type} {f : σ → Option (σ ⊕ ρ)} {g : σ' → Option (σ' ⊕ ρ')} (R : σ → σ' → Prop) (μ : σ → Nat) (Q : ρ → ρ' → Prop) (step : ∀ s s', R s s' → (∃ u u', f s = some (.inl u) ∧ g s' = some (.inl u') ∧ R u u' ∧ μ u < μ s) ∨ (∃ r r', (∀ k, iter f (k + 3) s = some r) ∧ (∀ k, iter g (k + 3) s' = some r') ∧ Q r r')) : ∀ (n m : Nat) (s : σ) (s' : σ'), R s s' → μ s + 3 ≤ n → μ s + 3 ≤ m → ∃ r r', iter f n s = some r ∧ iter g m s' = some r' ∧ Q r r' := by
  intro n
  induction n with
  | zero => intro m s s' _ h; omega
  | succ n ih =>
    intro m s s' hR hn hm
    obtain ⟨m, rfl⟩ : ∃ k, m = k + 1 := ⟨m - 1, by omega⟩
    rcases step s s' hR with ⟨u, u', e1, e2, e3, e4⟩ | ⟨r, r', e1, e2, e3⟩
    · rw [iter_go e1, iter_go e2]
      exact ih m u u' e3 (by omega) (by omega)
    · refine ⟨r, r', ?_, ?_, e3⟩
      · have := e1 (n - 2); rw [show n - 2 + 3 = n + 1 by omega] at this; exact this
      · have := e2 (m - 2); rw [show m - 2 + 3 = m + 1 by omega] at this; exact this
/-- how the sum of terms ends -/
def EndT (t : Nat → Int32) (n nv nf s : Nat) (Hc Hm : Hp) : Hp ⊕ (Int32 × Hp) → Int32 × Hp → Prop
  | .inl Hc', (r, Hm') => r = 1 ∧ FTc Hc Hc' ∧ FTm nf Hm Hm' ∧ ∃ s', s ≤ s' ∧ SY t n Hc' Hm' s' ∧ AC nv nf Hc' Hm'
  | .inr (x, Hc'), (r, Hm') => x = 0 ∧ r = 0 ∧ FTc Hc Hc' ∧ FTm nf Hm Hm' ∧ FLz n Hc' Hm'
def flg (H : Hp) : Int32 := if H.1 27 2 = 43 then 1 else if H.1 27 2 = 45 then 1 else 0
theorem flg_z {t : Nat → Int32} {n s : Nat} {Hc Hm : Hp} (hG : TG t n) (hS : SY t n Hc Hm s) : (s < n ∧ (t s = 43 ∨ t s = 45) → flg Hc = 1) ∧ (¬ (s < n ∧ (t s = 43 ∨ t s = 45)) → flg Hc = 0) := by
  obtain ⟨k1, -⟩ := tk_char hG hS.2.2.1 tkn43
  obtain ⟨l1, -⟩ := tk_char hG hS.2.2.1 tkn45
  unfold flg
  constructor
  · rintro ⟨q1, q | q⟩
    · rw [if_pos (k1.mpr ⟨q1, q⟩)]
    · rw [l1.mpr ⟨q1, q⟩, if_neg (by decide), if_pos rfl]
  · intro q
    rw [if_neg (fun w => q (by have := k1.mp w; exact ⟨this.1, Or.inl this.2⟩)), if_neg (fun w => q (by have := l1.mp w; exact ⟨this.1, Or.inr this.2⟩))]
theorem flg_b {a3 : Int32} {k : Nat} (hk : a3 = nI k) (H : Hp) : (if H.1 27 2 = (43 : Int32) then (s_X6_readForm_b70 27 7 a3 H) else (if H.1 27 2 = (45 : Int32) then (s_X6_readForm_b70 27 7 a3 H) else (s_X6_readForm_b75 27 7 a3 (0 : Int32) H))) = some (.inl (flg H, nI (k + 1), H)) := by
  unfold s_X6_readForm_b70 s_X6_readForm_b75 flg
  rw [lt_red, lt_red, hk, nI_1]
  split
  · rfl
  · split <;> rfl
set_option maxHeartbeats 1000000 in
theorem sum_z {t : Nat → Int32} {n nv nf : Nat} {a1 : Int32} {Hc0 Hm0 : Hp} {s0 k0 : Nat} (hG : TG t n) (hS0 : SY t n Hc0 Hm0 s0) (hP : TP nv nf Hc0 Hm0) (hA0 : AC nv nf Hc0 Hm0) (hk0 : k0 ≤ s0) (nc nm : Nat) (hc : 200 ≤ nc) (hm : 200 ≤ nm) : ∃ r r', iter (fun z : Int32 × Int32 × Hp => s_X6_readForm_l32 27 7 z.1 z.2.1 z.2.2) nc (flg Hc0, nI k0, Hc0) = some r ∧ iter (fun z : Int32 × Hp => s_X10_readsForm_l100 66 a1 z.1 z.2) nm ((1 : Int32), Hm0) = some r' ∧ EndT t n nv nf s0 Hc0 Hm0 r r' := by
  have n90 := hG.1
  refine iter2 (f := fun z : Int32 × Int32 × Hp => s_X6_readForm_l32 27 7 z.1 z.2.1 z.2.2) (g := fun z : Int32 × Hp => s_X10_readsForm_l100 66 a1 z.1 z.2)
    (fun z z' => ∃ s k, z.1 = flg z.2.2 ∧ z.2.1 = nI k ∧ k ≤ s ∧ z'.1 = 1 ∧ SY t n z.2.2 z'.2 s ∧ AC nv nf z.2.2 z'.2 ∧ FTc Hc0 z.2.2 ∧ FTm nf Hm0 z'.2 ∧ s0 ≤ s)
    (fun z => n - (z.2.2.1 27 3).toInt.toNat) (EndT t n nv nf s0 Hc0 Hm0) ?_ nc nm _ _ ⟨s0, k0, rfl, rfl, hk0, rfl, hS0, hA0, FTc.rf, FTm.rf, Nat.le_refl _⟩ (by dsimp only; omega) (by dsimp only; omega)
  rintro ⟨x2, x3, Hc⟩ ⟨y3, Hm⟩ ⟨s, k, z1, z2, z3, z4, z5, z6, z7, z8, z9⟩
  dsimp only at z1 z2 z4 z5 z6 z7 z8
  subst z1 z2 z4
  have P1 := hP.fr z7 z8
  obtain ⟨H1, e1, f1, m1, S1⟩ := look_z hG z5
  have sn := z5.2.2.1.2.1
  obtain ⟨g1, g0⟩ := flg_z hG z5
  obtain ⟨sg1, -⟩ := sign_z hG z5
  by_cases q : s < n ∧ (t s = 43 ∨ t s = 45)
  · -- one more term
    have m44 : (sI H1 66 44 (nI (s + 1))).1 66 44 = nI (s + 1) := sI_same _ _ _ _
    have fm : FM Hm (sI H1 66 44 (nI (s + 1))) := f1.tr FM.sI
    -- the model's walk to the term
    obtain ⟨H2, e2, f2, m2, hmod⟩ : ∃ H2, True ∧ FM Hm H2 ∧ H2.1 66 44 = nI (s + 1) ∧ s_X10_readsForm_l100 66 a1 1 Hm = ((s_X10_readsTerm 66 (if t s = 45 then -1 else 1) H2).bind fun y12 => some (.inl (y12.1, y12.2))) := by
      obtain ⟨H1b, e1b, f1b, m1b, S1b⟩ := look_z hG S1
      unfold s_X10_readsForm_l100 s_X10_readsForm_b122 s_X10_readsForm_b136
      rw [if_neg (by decide), e1, bnd_s]
      dsimp only
      rcases q with ⟨q1, q2⟩
      rw [if_pos q1] at e1b ⊢
      rcases q2 with q2 | q2
      · rw [if_pos q2, e1b, bnd_s]
        dsimp only
        rw [q2, if_neg (by decide), lt_red, m1b, nI_1, if_neg (by decide)]
        exact ⟨_, trivial, (f1.tr f1b).tr FM.sI, sI_same _ _ _ _, rfl⟩
      · obtain ⟨H1d, e1d, f1d, m1d, S1d⟩ := look_z hG S1b
        rw [if_pos q1] at e1d
        rw [if_neg (by rw [q2]; decide), e1b, bnd_s]
        dsimp only
        rw [if_pos q2, e1d, bnd_s]
        dsimp only
        rw [if_pos q2, lt_red, m1d, nI_1, if_pos q2]
        exact ⟨_, trivial, ((f1.tr f1b).tr f1d).tr FM.sI, sI_same _ _ _ _, rfl⟩
    obtain ⟨Hc1, s1, r1, r2, r3, r4⟩ := sg1 q H2 (f2.tm z5.2.1) m2
    obtain ⟨b, Hc2, Hm2, t1, t2, t3, t4, t5, t6⟩ := term_z (σ := if t s = 45 then -1 else 1) hG r4 (P1.fr r2.t f2.t) (z6.fr r2 f2)
    have FcA : FTc Hc0 Hc2 := (z7.tr r2.t).tr t3
    have FmA : FTm nf Hm0 Hm2 := (z8.tr f2.t).tr t4
    have cls : s_X6_readForm_l32 27 7 (flg Hc) (nI k) Hc = (if bI b = 0 then (some (.inr (.inr ((0 : Int32), Hc2)))) else some (.inl (flg Hc2, nI (k + 1), Hc2))) := by
      unfold s_X6_readForm_l32
      rw [if_pos (show nI k < (90 : Int32) from nI_lt (b := 90) (by omega) (by omega)), g1 q, if_neg (by decide), r1, t1, bnd_s]
      dsimp only
      rw [flg_b rfl]
    rw [t2, bnd_s] at hmod
    cases b
    · rw [if_pos (show bI false = 0 from rfl)] at cls
      refine Or.inr ⟨.inr (0, Hc2), (0, Hm2), fun j => iter_out cls (j + 2), fun j => ?_, rfl, rfl, FcA, FmA, t6 rfl⟩
      rw [iter_go (s' := ((0 : Int32), Hm2)) hmod (j + 2)]
      refine iter_out ?_ (j + 1)
      show s_X10_readsForm_l100 66 a1 0 Hm2 = _
      unfold s_X10_readsForm_l100
      rw [if_pos rfl]
    · rw [if_neg (show ¬ (bI true = 0) by decide)] at cls
      obtain ⟨s', u1, u2, u3⟩ := t5 rfl
      refine Or.inl ⟨(flg Hc2, nI (k + 1), Hc2), (1, Hm2), cls, hmod, ⟨s', k + 1, rfl, rfl, by omega, rfl, u2, u3, FcA, FmA, by omega⟩, ?_⟩
      have sn' := u2.2.2.1.2.1
      dsimp only
      rw [u2.2.2.1.1, z5.2.2.1.1, nI_z (by omega), nI_z (by omega)]
      omega
  · -- the end
    obtain ⟨H1b, e1b, f1b, m1b, S1b⟩ := look_z hG S1
    have n43 : ¬ (if s < n then t s else (-9 : Int32)) = 43 := fun w => q (by have := (lk_char tkn43).mp w; exact ⟨this.1, Or.inl this.2⟩)
    have n45 : ¬ (if s < n then t s else (-9 : Int32)) = 45 := fun w => q (by have := (lk_char tkn45).mp w; exact ⟨this.1, Or.inr this.2⟩)
    have cls : s_X6_readForm_l32 27 7 (flg Hc) (nI k) Hc = some (.inr (.inl Hc)) := by
      unfold s_X6_readForm_l32
      rw [g0 q]
      split
      · rw [if_pos rfl]
      · rfl
    have mod : s_X10_readsForm_l100 66 a1 1 Hm = some (.inr (1, H1b)) := by
      unfold s_X10_readsForm_l100
      rw [if_neg (by decide), e1, bnd_s]
      dsimp only
      rw [if_neg n43, e1b, bnd_s]
      dsimp only
      rw [if_neg n45]
    exact Or.inr ⟨.inl Hc, (1, H1b), fun j => iter_out cls (j + 2), fun j => iter_out mod (j + 2), rfl, z7, z8.tr (f1.t.tr f1b.t), s, z9, S1b, z6.fr FC.rf (f1.tr f1b)⟩
