/-! the core: unsatisfiable, and satisfiable without any one of its constraints -/
theorem sB_mono {h : Hp} {nq m : Nat} (hM : MB h 66 nq m) {x y : Int32} (hxy : ∀ i, i < m → bt x i = true → bt y i = true) (hy : sB h m y = true) : sB h m x = true := by
  obtain ⟨p, hp⟩ := sB_iff.mp hy
  exact sB_iff.mpr ⟨p, (mHold_iff hM x p).mpr (fun k hk q => (mHold_iff hM y p).mp hp k hk (hxy k hk q))⟩
theorem shr_core {h : Hp} {nq m : Nat} (hM : MB h 66 nq m) : ∀ (k : Nat) (x : Int32), k ≤ m → sB h m x = false → sB h m (shr (fun y => !sB h m y) k x) = false ∧ (∀ i, i < 32 → bt (shr (fun y => !sB h m y) k x) i = true → bt x i = true) ∧ ∀ j, j < k → bt (shr (fun y => !sB h m y) k x) j = true → sB h m (wo (shr (fun y => !sB h m y) k x) (nI j)) = true := by
  have hm := hM.2.1
  intro k
  induction k with
  | zero => intro x _ hx; exact ⟨hx, fun _ _ q => q, fun j hj => by omega⟩
  | succ k ih =>
    intro x hk hx
    rw [shr_succ]
    cases hs : sB h m (wo x (nI k))
    · rw [show (if (!false) = true then wo x (nI k) else x) = wo x (nI k) from rfl]
      obtain ⟨a1, a2, a3⟩ := ih (wo x (nI k)) (by omega) hs
      refine ⟨a1, fun i hi q => ?_, fun j hj q => ?_⟩
      · have := a2 i hi q
        rw [wo_bt (by omega) hi] at this
        simp at this
        exact this.1
      · rcases (show j < k ∨ j = k by omega) with y | rfl
        · exact a3 j y q
        · have := a2 j (by omega) q
          rw [wo_bt (by omega) (by omega)] at this
          simp at this
    · rw [show (if (!true) = true then wo x (nI k) else x) = x from rfl]
      obtain ⟨a1, a2, a3⟩ := ih x (by omega) hx
      refine ⟨a1, a2, fun j hj q => ?_⟩
      rcases (show j < k ∨ j = k by omega) with y | rfl
      · exact a3 j y q
      · refine sB_mono hM (fun i hi w => ?_) hs
        rw [wo_bt (by omega) (by omega)] at w ⊢
        simp at w ⊢
        exact ⟨a2 i (by omega) w.1, w.2⟩
theorem bits_nat {m : Nat} (hm : m ≤ 10) {x : Int32} (hx : ∀ j, m ≤ j → j < 32 → bt x j = false) : ∃ b, b < 2 ^ m ∧ x = nI b := by
  obtain ⟨b, hb, hP⟩ := mkbits (fun i => bt x i) m
  refine ⟨b, hb, b_ext (fun i hi => ?_)⟩
  rw [bt_nI b i hi]
  rcases Nat.lt_or_ge i m with q | q
  · exact (hP i q).symm
  · rw [hx i q hi]
    exact (Nat.testBit_lt_two_pow (Nat.lt_of_lt_of_le hb (Nat.pow_le_pow_right (by omega) q))).symm
theorem sat_bl {h : Hp} {nv nf m lv b : Nat} (hP : ProbR h nv nf m lv) (hc : CIM h nv m) : Sat (rY h 32) (bl b m) ↔ sB h m (nI b) = true := by
  have hm := hP.2.2.2.1.2.1.2.1
  unfold bl
  rw [rows_sat hc.2.1 hP.rw, sB_iff]
  constructor
  · rintro ⟨p, q⟩
    exact ⟨p, (mHold_iff hP.2.2.2.1.2.1 _ p).mpr (fun k hk w => q k hk (by show b.testBit k = true; rw [← bt_nI b k (by omega)]; exact w))⟩
  · rintro ⟨p, q⟩
    exact ⟨p, fun k hk w => (mHold_iff hP.2.2.2.1.2.1 _ p).mp q k hk (by rw [bt_nI b k (by omega)]; exact w)⟩
def DMin (Y : Sys) (T : List Nat) : Prop := ∀ n, Dep Y T n → (∃ i ∈ T, n i = 0) → ∀ i ∈ T, n i = 0
/-- the core is a circuit -/
theorem core_circ {h : Hp} {nv nf m lv b : Nat} (hP : ProbR h nv nf m lv) (hn1 : 1 ≤ nv) (hc : CIM h nv m) (h0 : sB h m (nI b) = false) (hj : ∀ j, j < m → bt (nI b) j = true → sB h m (wo (nI b) (nI j)) = true) : 2 ≤ (bl b m).length ∧ (bl b m).length ≤ nv + 1 ∧ DMin (rY h 32) (bl b m) ∧ ∃ g, circ (rY h 32) (bl b m) = some g ∧ (sm (bl b m) (fun i => g i * (rY h 32).2.1 i) < 0 ∨ sm (bl b m) (fun i => g i * (rY h 32).2.1 i) = 0 ∧ ∃ i ∈ bl b m, (rY h 32).2.2.1 i = true) := by
  have hm := hP.2.2.2.1.2.1.2.1
  have h3 := hP.1.2.2
  have hF := rows_forms hc.2.1 hP.rw
  have hse := rows_se hc.2.1
  have hnd := bl_nodup b m
  have hTm : ∀ i ∈ bl b m, i < m := fun i hi => (mem_bl.mp hi).1
  have hun : ¬ Sat (rY h 32) (bl b m) := fun q => by
    have := (sat_bl hP hc).mp q
    rw [h0] at this; cases this
  have hcert : ∃ n, Cert (rY h 32) (bl b m) n := by
    by_cases c : ∃ n, Cert (rY h 32) (bl b m) n
    · exact c
    · exact absurd (farkas hnd (fun i hi => hse i (hTm i hi)) c) hun
  obtain ⟨T, n, hsub, hC, hn0, hmin⟩ := minimal (Y := rY h 32) _ (bl b m) (Nat.le_refl _) hcert
  have hall : ∀ j ∈ bl b m, j ∈ T := fun j hjm => by
    by_cases c : j ∈ T
    · exact c
    · exfalso
      have hjj := mem_bl.mp hjm
      obtain ⟨p, hp⟩ := sB_iff.mp (hj j hjj.1 (by rw [bt_nI b j (by omega)]; exact hjj.2))
      refine cert_unsat hC ⟨p, fun i hi => ?_⟩
      have him := mem_bl.mp (hsub.subset hi)
      have hij : i ≠ j := fun z => c (z ▸ hi)
      exact (row_hold (hP.rw i him.1).1 (hc.2.1 i him.1) p).mpr ((mHold_iff hP.2.2.2.1.2.1 _ p).mp hp i him.1 (by rw [wo_bt (by omega) (by omega), bt_nI b i (by omega), him.2, decide_eq_false hij]; rfl))
  have eT : T = bl b m := by
    rw [sub_filter hnd hsub]
    exact List.filter_eq_self.mpr (fun a ha => decide_eq_true (hall a ha))
  subst eT
  have hlen := min_len hnd (fun i hi => (hF i (hTm i hi)).1) hn1 hmin
  have h2 : 2 ≤ (bl b m).length := by
    rcases (show (bl b m).length = 0 ∨ (bl b m).length = 1 ∨ 2 ≤ (bl b m).length by omega) with y | y | y
    · exfalso
      apply hun
      rw [List.length_eq_zero_iff.mp y]
      exact ⟨fun _ => 0, fun i hi => by cases hi⟩
    · exfalso
      obtain ⟨x, hx⟩ := List.length_eq_one_iff.mp y
      apply hun
      rw [hx]
      obtain ⟨v, hv, hne⟩ := (hF x (hTm x (by rw [hx]; simp))).2
      exact sat_one hv hne
    · exact y
  obtain ⟨g, hg, a, b', ha, hb, hab⟩ := circ_complete hnd hC hn0 hmin (by omega)
  refine ⟨h2, hlen, hmin, g, hg, ?_⟩
  have sab : a * sm (bl b m) (fun i => g i * (rY h 32).2.1 i) = b' * sm (bl b m) (fun i => n i * (rY h 32).2.1 i) := by
    rw [← sm_mul, ← sm_mul]
    apply sm_congr
    intro i hi
    rw [← Int.mul_assoc, hab i hi, Int.mul_assoc]
  rcases hC.2.2 with z | ⟨z, i, hi, z2, -⟩
  · left
    have := Int.mul_neg_of_pos_of_neg hb z
    rcases Int.lt_or_le (sm (bl b m) (fun i => g i * (rY h 32).2.1 i)) 0 with y | y
    · exact y
    · have := Int.mul_nonneg (Int.le_of_lt ha) y; omega
  · right
    rw [z, Int.mul_zero] at sab
    rcases Int.mul_eq_zero.mp sab with y | y
    · omega
    · exact ⟨y, i, hi, z2⟩
/-! functions on members by their places -/
theorem sm_rs (T : List Nat) (f : Nat → Int) : sm T f = rs (fun c => f (T.getD c 0)) T.length := by
  have key : ∀ n, sm (tl (fun p => T.getD p 0) n) f = rs (fun c => f (T.getD c 0)) n := fun n => by
    induction n with
    | zero => rfl
    | succ n ih => rw [sm_tl, ih]; rfl
  rw [← key, tl_getD]
theorem ext_idx : ∀ (T : List Nat), T.Nodup → ∀ x : Nat → Int, ∃ n : Nat → Int, ∀ c, c < T.length → n (T.getD c 0) = x c
  | [], _, _ => ⟨fun _ => 0, fun c hc => absurd hc (Nat.not_lt_zero c)⟩
  | a :: T, hn, x => by
    obtain ⟨h1, h2⟩ := List.nodup_cons.mp hn
    obtain ⟨n, hn'⟩ := ext_idx T h2 (fun c => x (c + 1))
    refine ⟨fun i => if i = a then x 0 else n i, fun c hc => ?_⟩
    cases c with
    | zero => simp
    | succ c =>
      have hc' : c < T.length := by simp at hc; exact hc
      have e : (a :: T).getD (c + 1) 0 = T.getD c 0 := rfl
      rw [e]
      have hmem : T.getD c 0 ∈ T := by
        rw [List.getD_eq_getElem?_getD, List.getElem?_eq_getElem hc']; exact List.getElem_mem _
      show (if T.getD c 0 = a then x 0 else n (T.getD c 0)) = x (c + 1)
      rw [if_neg (show ¬ T.getD c 0 = a from fun z => h1 (by rw [← z]; exact hmem))]
      exact hn' c hc'
theorem getD_mem {T : List Nat} {c : Nat} (hc : c < T.length) : T.getD c 0 ∈ T := by
  rw [List.getD_eq_getElem?_getD, List.getElem?_eq_getElem hc]; exact List.getElem_mem _
theorem ns_dep {Y : Sys} {T : List Nat} {A : Nat → Nat → Int} (hA : ∀ v c, v < 3 → c < T.length → A v c = Y.1 (T.getD c 0) v) (n x : Nat → Int) (hn : ∀ c, c < T.length → n (T.getD c 0) = x c) : NS A T.length x ↔ Dep Y T n := by
  have key : ∀ v, v < 3 → sm T (fun i => n i * Y.1 i v) = rs (fun c => A v c * x c) T.length := fun v hv => by
    rw [sm_rs]
    apply rs_congr
    intro c hc
    rw [hn c hc, hA v c hv hc]; grind
  constructor
  · intro h v hv; rw [key v hv]; exact h v hv
  · intro h v hv; rw [← key v hv]; exact h v hv
theorem ns_min {Y : Sys} {T : List Nat} {A : Nat → Nat → Int} (hnd : T.Nodup) (hA : ∀ v c, v < 3 → c < T.length → A v c = Y.1 (T.getD c 0) v) (hmin : DMin Y T) : ∀ x, NS A T.length x → (∃ i, i < T.length ∧ x i = 0) → ∀ i, i < T.length → x i = 0 := by
  intro x hx hz i hi
  obtain ⟨n, hn⟩ := ext_idx T hnd x
  have := hmin n ((ns_dep hA n x hn).mp hx) (by
    obtain ⟨j, hj, z⟩ := hz
    exact ⟨_, getD_mem hj, by rw [hn j hj]; exact z⟩) _ (getD_mem hi)
  rw [hn i hi] at this
  exact this
