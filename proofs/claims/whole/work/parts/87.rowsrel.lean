/-! rows of constraints: what a row says; pushRow -/
def tz (s : Nat) : Int := if s = 2 ∨ s = 3 then -1 else 1
theorem tz_pm (s : Nat) : tz s = 1 ∨ tz s = -1 := by unfold tz; split <;> simp
theorem tI_tz (s : Nat) : (tI s).toInt = tz s := by unfold tI tz; split <;> decide
theorem tz_bd {s : Nat} {x B : Int} (h : -B ≤ x ∧ x ≤ B) : -B ≤ tz s * x ∧ tz s * x ≤ B := by
  rcases tz_pm s with e | e <;> rw [e] <;> omega
def RowAt (h : Hp) (R i : Nat) (F : Nat → Int) (s : Nat) (d : Int) : Prop := (∀ v, v < 3 → rF h R i v = tz s * F v) ∧ (h.2 (R + 2) i).toInt = tz s * d ∧ h.1 (R + 3) i = (if s = 1 ∨ s = 3 then 1 else 0) ∧ h.1 (R + 4) i = (if s = 4 then 1 else 0)
theorem RowAt.st {h : Hp} {R i : Nat} {F : Nat → Int} {s : Nat} {d : Int} (hR : RowAt h R i F s d) : (rY h R).2.2.1 i = decide (s = 1 ∨ s = 3) := by
  show decide (h.1 (R + 3) i = 1) = _
  rw [hR.2.2.1]
  by_cases q : s = 1 ∨ s = 3
  · rw [if_pos q, decide_eq_true q]; rfl
  · rw [if_neg q, decide_eq_false q]; rfl
theorem RowAt.eq {h : Hp} {R i : Nat} {F : Nat → Int} {s : Nat} {d : Int} (hR : RowAt h R i F s d) : (rY h R).2.2.2 i = decide (s = 4) := by
  show decide (h.1 (R + 4) i = 1) = _
  rw [hR.2.2.2]
  by_cases q : s = 4
  · rw [if_pos q, decide_eq_true q]; rfl
  · rw [if_neg q, decide_eq_false q]; rfl
theorem row_hold {h : Hp} {R i : Nat} {F : Nat → Int} {s : Nat} {d : Int} (hs : s ≤ 4) (hR : RowAt h R i F s d) (p : Nat → Rat) : hold (rY h R) i p ↔ rel s (lin F p) (d : Rat) := by
  have st := hR.st
  have eq := hR.eq
  obtain ⟨r1, r2, r3, r4⟩ := hR
  have l1 : lin ((rY h R).1 i) p = (tz s : Rat) * lin F p := by
    show lin (rF h R i) p = _
    unfold lin
    rw [r1 0 (by omega), r1 1 (by omega), r1 2 (by omega)]; push_cast; grind
  have d1 : (((rY h R).2.1 i : Int) : Rat) = (tz s : Rat) * (d : Rat) := by
    show (((h.2 (R + 2) i).toInt : Int) : Rat) = _
    rw [r2]; push_cast; rfl
  unfold hold
  rw [l1, d1, st, eq]
  generalize lin F p = u
  generalize (d : Rat) = w
  unfold rel
  rcases (show s = 0 ∨ s = 1 ∨ s = 2 ∨ s = 3 ∨ s = 4 by omega) with rfl | rfl | rfl | rfl | rfl
  · rw [show tz 0 = 1 from rfl]; simp; try (constructor <;> intro z <;> grind)
  · rw [show tz 1 = 1 from rfl]; simp; try (constructor <;> intro z <;> grind)
  · rw [show tz 2 = -1 from rfl]; simp; try (constructor <;> intro z <;> grind)
  · rw [show tz 3 = -1 from rfl]; simp; try (constructor <;> intro z <;> grind)
  · rw [show tz 4 = 1 from rfl]; simp; try (constructor <;> intro z <;> grind)
def RW (nv N : Nat) (F : Nat → Nat → Int) (s : Nat → Nat) (d : Nat → Int) : Prop := ∀ i, i < N → s i ≤ 4 ∧ (-50 ≤ d i ∧ d i ≤ 50) ∧ (∀ v, v < 3 → -3 ≤ F i v ∧ F i v ≤ 3) ∧ (∀ v, v < 3 → nv ≤ v → F i v = 0) ∧ ∃ v, v < 3 ∧ F i v ≠ 0
def upn {α : Type} (f : Nat → α) (N : Nat) (x : α) : Nat → α := fun i => if i = N then x else f i
theorem upn_same {α : Type} (f : Nat → α) (N : Nat) (x : α) : upn f N x N = x := if_pos rfl
theorem upn_ne {α : Type} {f : Nat → α} {N i : Nat} {x : α} (h : i ≠ N) : upn f N x i = f i := if_neg h
theorem RW.upn {nv N : Nat} {F : Nat → Nat → Int} {s : Nat → Nat} {d : Nat → Int} (hw : RW nv N F s d) {K : Nat → Int} {sg : Nat} {w : Int} (hs : sg ≤ 4) (hd : -50 ≤ w ∧ w ≤ 50) (hb : ∀ v, v < 3 → -3 ≤ K v ∧ K v ≤ 3) (hz : ∀ v, v < 3 → nv ≤ v → K v = 0) (hne : ∃ v, v < 3 ∧ K v ≠ 0) : RW nv (N + 1) (upn F N K) (upn s N sg) (upn d N w) := by
  intro i hi
  by_cases q : i = N
  · subst q; rw [upn_same, upn_same, upn_same]; exact ⟨hs, hd, hb, hz, hne⟩
  · rw [upn_ne q, upn_ne q, upn_ne q]; exact hw i (by omega)
/-- the truth values of the class's rows are truth values, also behind the last row -/
def BJ (h : Hp) : Prop := ∀ k, (h.1 35 k = 0 ∨ h.1 35 k = 1) ∧ (h.1 36 k = 0 ∨ h.1 36 k = 1)
theorem BJ.fr {h h' : Hp} {S : List Nat} (a : BJ h) (f : Fr S h h') (h35 : 35 ∉ S) (h36 : 36 ∉ S) : BJ h' := fun k => by
  rw [(f 35 h35).1, (f 36 h36).1]; exact a k
/-- the class's rows and clashes -/
def CI (h : Hp) (nv N : Nat) (F : Nat → Nat → Int) (s : Nat → Nat) (d : Nat → Int) : Prop := (h.1 32 4 = nI N ∧ h.1 32 5 = nI nv ∧ N ≤ 12) ∧ (∀ i, i < N → RowAt h 32 i (F i) (s i) (d i)) ∧ ∃ n t, ClashInv h 30 N nv (rY h 32) n t ∧ (∀ j k, j ≤ k → k ≤ N → n j ≤ n k) ∧ BJ h
theorem rows_wf {h : Hp} {R nv N : Nat} {F : Nat → Nat → Int} {s : Nat → Nat} {d : Nat → Int} (h4 : h.1 R 4 = nI N) (h12 : N ≤ 12) (hr : ∀ i, i < N → RowAt h R i (F i) (s i) (d i)) (hw : RW nv N F s d) : RowsWF h R N 50 := by
  refine ⟨h4, h12, fun i hi v hv => ?_, fun i hi => ?_⟩
  · rw [(hr i hi).1 v hv]; exact tz_bd ((hw i hi).2.2.1 v hv)
  · obtain ⟨r1, r2, r3, r4⟩ := hr i hi
    rw [r2, r3, r4]
    refine ⟨by split <;> simp, by split <;> simp, fun q => ?_, (tz_bd (hw i hi).2.1).1, (tz_bd (hw i hi).2.1).2⟩
    by_cases z : s i = 1 ∨ s i = 3
    · rw [if_neg (by omega)]
    · rw [if_neg z] at q; exact absurd q (by decide)
theorem rows_forms {h : Hp} {R nv N : Nat} {F : Nat → Nat → Int} {s : Nat → Nat} {d : Nat → Int} (hr : ∀ i, i < N → RowAt h R i (F i) (s i) (d i)) (hw : RW nv N F s d) : FormsWF (rY h R).1 N nv := by
  intro i hi
  have r1 := (hr i hi).1
  obtain ⟨-, -, -, w4, v, hv, w5⟩ := hw i hi
  refine ⟨fun v hv hn => ?_, v, hv, ?_⟩
  · show rF h R i v = 0
    rw [r1 v hv, w4 v hv hn]; simp
  · show rF h R i v ≠ 0
    rw [r1 v hv]
    rcases tz_pm (s i) with e | e <;> rw [e] <;> omega
theorem rows_se {h : Hp} {R N : Nat} {F : Nat → Nat → Int} {s : Nat → Nat} {d : Nat → Int} (hr : ∀ i, i < N → RowAt h R i (F i) (s i) (d i)) : ∀ i, i < N → (rY h R).2.2.1 i = true → (rY h R).2.2.2 i = false := by
  intro i hi q
  rw [(hr i hi).st] at q
  have := of_decide_eq_true q
  rw [(hr i hi).eq]
  exact decide_eq_false (by omega)
def pH (N : Nat) (F : Nat → Nat → Int) (s : Nat → Nat) (d : Nat → Int) (P : Nat → Bool) (p : Nat → Rat) : Prop := ∀ i, i < N → P i = true → rel (s i) (lin (F i) p) (d i : Rat)
theorem rows_sat {h : Hp} {R nv N : Nat} {F : Nat → Nat → Int} {s : Nat → Nat} {d : Nat → Int} (hr : ∀ i, i < N → RowAt h R i (F i) (s i) (d i)) (hw : RW nv N F s d) (P : Nat → Bool) : Sat (rY h R) ((List.range N).filter P) ↔ ∃ p, pH N F s d P p := by
  unfold Sat pH
  constructor
  · rintro ⟨p, hp⟩
    exact ⟨p, fun i hi q => (row_hold (hw i hi).1 (hr i hi) p).mp (hp i (List.mem_filter.mpr ⟨List.mem_range.mpr hi, q⟩))⟩
  · rintro ⟨p, hp⟩
    refine ⟨p, fun i hi => ?_⟩
    obtain ⟨a, b⟩ := List.mem_filter.mp hi
    have a := List.mem_range.mp a
    exact (row_hold (hw i a).1 (hr i a) p).mpr (hp i a b)
theorem CI.within {h : Hp} {nv N : Nat} {F : Nat → Nat → Int} {s : Nat → Nat} {d : Nat → Int} (hc : CI h nv N F s d) (hw : RW nv N F s d) (h1 : 1 ≤ nv) (h3 : nv ≤ 3) (x : Int32) : ∃ b, s_X1_within 30 x h = some (bI b) ∧ (b = false ↔ ∃ p, pH N F s d (bt x) p) := by
  obtain ⟨⟨c1, c2, c3⟩, c4, n, t, c5, -⟩ := hc
  obtain ⟨r, e, hr⟩ := within_sat (L := 30) c1 c3 c5 h1 h3 (rows_forms c4 hw) (rows_se c4) x
  rw [rows_sat c4 hw] at hr
  rcases hr with ⟨rfl, q⟩ | ⟨rfl, q⟩
  · exact ⟨true, e, (fun z => nomatch z), fun z => absurd z q⟩
  · exact ⟨false, e, fun _ => q, fun _ => rfl⟩
theorem ClashInv.cg {h h' : Hp} {L N nv : Nat} {Y Y' : Sys} {n t : Nat → Nat} (hC : ClashInv h L N nv Y n t) (h12 : N ≤ 12) (e1 : h'.1 (L + 10) = h.1 (L + 10)) (e2 : h'.1 (L + 9) = h.1 (L + 9)) (h1 : ∀ i, i < N → ∀ v, v < 3 → Y.1 i v = Y'.1 i v) (h2 : ∀ i, i < N → Y.2.1 i = Y'.2.1 i) (h3 : ∀ i, i < N → Y.2.2.1 i = Y'.2.2.1 i) (h4 : ∀ i, i < N → Y.2.2.2 i = Y'.2.2.2 i) : ClashInv h' L N nv Y' n t := by
  obtain ⟨c1, c2, c3⟩ := hC
  refine ⟨by rw [e1]; exact c1, by rw [e2]; exact c2, fun k hk b => ?_⟩
  rw [← c3 k hk b]
  constructor
  · rintro ⟨q1, q2⟩
    exact ⟨q1, (Cls.congr q1 (by omega) (fun i hi => h1 i (by omega)) (fun i hi => h2 i (by omega)) (fun i hi => h3 i (by omega)) (fun i hi => h4 i (by omega))).mpr q2⟩
  · rintro ⟨q1, q2⟩
    exact ⟨q1, (Cls.congr q1 (by omega) (fun i hi => h1 i (by omega)) (fun i hi => h2 i (by omega)) (fun i hi => h3 i (by omega)) (fun i hi => h4 i (by omega))).mp q2⟩
theorem ClashInv.less {h : Hp} {L N N' nv : Nat} {Y : Sys} {n t : Nat → Nat} (hC : ClashInv h L N nv Y n t) (hN : N' ≤ N) (hm : ∀ j k, j ≤ k → k ≤ N → n j ≤ n k) : ClashInv h L N' nv Y n t := by
  obtain ⟨c1, c2, c3⟩ := hC
  have hh := hm N' N hN (Nat.le_refl _)
  exact ⟨fun k hk => ⟨(c1 k (by omega)).1, (c1 k (by omega)).2.1, hm k N' hk hN⟩, fun i hi => c2 i (by omega), fun k hk => c3 k (by omega)⟩
theorem RowAt.cg {h h' : Hp} {R i : Nat} {F : Nat → Int} {s : Nat} {d : Int} (a : RowAt h R i F s d) (e1 : ∀ v, v < 3 → h'.1 (R + 1) (3 * i + v) = h.1 (R + 1) (3 * i + v)) (e2 : h'.2 (R + 2) i = h.2 (R + 2) i) (e3 : h'.1 (R + 3) i = h.1 (R + 3) i) (e4 : h'.1 (R + 4) i = h.1 (R + 4) i) : RowAt h' R i F s d := by
  obtain ⟨r1, r2, r3, r4⟩ := a
  refine ⟨fun v hv => ?_, by rw [e2]; exact r2, by rw [e3]; exact r3, by rw [e4]; exact r4⟩
  rw [← r1 v hv]; unfold rF; rw [e1 v hv]
theorem CI.fr {h h' : Hp} {nv N : Nat} {F : Nat → Nat → Int} {s : Nat → Nat} {d : Nat → Int} {S : List Nat} (hc : CI h nv N F s d) (f : Fr S h h') (h32 : 32 ∉ S) (h33 : 33 ∉ S) (h34 : 34 ∉ S) (h35 : 35 ∉ S) (h36 : 36 ∉ S) (h39 : 39 ∉ S) (h40 : 40 ∉ S) : CI h' nv N F s d := by
  obtain ⟨⟨c1, c2, c3⟩, c4, n, t, c5, c6, c7⟩ := hc
  refine ⟨⟨by rw [(f 32 h32).1]; exact c1, by rw [(f 32 h32).1]; exact c2, c3⟩, fun i hi => (c4 i hi).cg (fun v _ => by rw [(f 33 h33).1]) (by rw [(f 34 h34).2]) (by rw [(f 35 h35).1]) (by rw [(f 36 h36).1]), n, t, ?_, c6, c7.fr f h35 h36⟩
  have : rY h' 32 = rY h 32 := rY_fr f h33 h34 h35 h36
  rw [this]
  exact c5.cg c3 (f 40 h40).1 (f 39 h39).1 (fun _ _ _ _ => rfl) (fun _ _ => rfl) (fun _ _ => rfl) (fun _ _ => rfl)
/-- the first rows alone -/
theorem CI.cut {h h' : Hp} {nv N N' : Nat} {F : Nat → Nat → Int} {s : Nat → Nat} {d : Nat → Int} (hc : CI h nv N F s d) (hN : N' ≤ N) (f : Fr [32] h h') (e4 : h'.1 32 4 = nI N') (e5 : h'.1 32 5 = h.1 32 5) : CI h' nv N' F s d := by
  obtain ⟨⟨c1, c2, c3⟩, c4, n, t, c5, c6, c7⟩ := hc
  refine ⟨⟨e4, by rw [e5]; exact c2, by omega⟩, fun i hi => (c4 i (by omega)).cg (fun v _ => by rw [(f 33 (by simp)).1]) (by rw [(f 34 (by simp)).2]) (by rw [(f 35 (by simp)).1]) (by rw [(f 36 (by simp)).1]), n, t, ?_, fun j k q1 q2 => c6 j k q1 (by omega), c7.fr f (by simp) (by simp)⟩
  have : rY h' 32 = rY h 32 := rY_fr f (by simp) (by simp) (by simp) (by simp)
  rw [this]
  exact (c5.less hN c6).cg (by omega) (f 40 (by simp)).1 (f 39 (by simp)).1 (fun _ _ _ _ => rfl) (fun _ _ => rfl) (fun _ _ => rfl) (fun _ _ => rfl)
theorem CI.same {h : Hp} {nv N : Nat} {F F' : Nat → Nat → Int} {s s' : Nat → Nat} {d d' : Nat → Int} (hc : CI h nv N F s d) (e1 : ∀ i, i < N → F' i = F i) (e2 : ∀ i, i < N → s' i = s i) (e3 : ∀ i, i < N → d' i = d i) : CI h nv N F' s' d' := by
  obtain ⟨c1, c4, c5⟩ := hc
  exact ⟨c1, fun i hi => by rw [e1 i hi, e2 i hi, e3 i hi]; exact c4 i hi, c5⟩
theorem entry5_z {h : Hp} {nv nf g v : Nat} {K : Nat → Int} (e0 : h.1 1 0 = nI nv) (e1 : h.1 1 1 = nI nf) (h3 : nv ≤ 3) (h8 : nf ≤ 8) (hg : g < nf) (hv : v < 3) (hK : ∀ v, v < 3 → h.1 2 (3 * g + v) = i32 (K v)) (hz : ∀ v, v < 3 → nv ≤ v → K v = 0) : s_X5_entry 1 (nI g) (nI v) h = some (i32 (K v)) := by
  unfold s_X5_entry s_X5_hasForm s_X5_hasVariable
  rw [e0, e1, has_z (by omega), has_z (by omega), nI_z (by omega), nI_z (by omega), bnd_s, decide_eq_true (show (0 : Int) ≤ g ∧ (g : Int) < nf by omega), if_neg (by decide), bnd_s]
  by_cases q : v < nv
  · rw [decide_eq_true (show (0 : Int) ≤ v ∧ (v : Int) < nv by omega), if_neg (by decide), ix3, ldI_n (by omega) (by omega)]
    exact congrArg some (hK v hv)
  · rw [decide_eq_false (by omega), hz v hv (by omega)]; rfl
theorem mul3_z {s : Nat} {K B : Int} (hb : -B ≤ K ∧ K ≤ B) (hB : B ≤ 1000) : (tI s * i32 K).toInt = tz s * K := by
  have e : (i32 K).toInt = K := i32_z (by omega) (by omega)
  have := tz_bd (s := s) hb
  rw [mul_z (by rw [tI_tz, e]; omega) (by rw [tI_tz, e]; omega), tI_tz, e]
theorem mul3l_z {s : Nat} {K B : Int} (hb : -B ≤ K ∧ K ≤ B) (hB : B ≤ 1000) : ((tI s).toInt64 * (i32 K).toInt64).toInt = tz s * K := by
  have e : (i32 K).toInt64.toInt = K := by rw [tl_z]; exact i32_z (by omega) (by omega)
  have e2 : (tI s).toInt64.toInt = tz s := by rw [tl_z, tI_tz]
  have := tz_bd (s := s) hb
  rw [mull_z (by rw [e2, e]; omega) (by rw [e2, e]; omega), e2, e]
abbrev rowc : List Nat := [31, 32, 33, 34, 35, 36, 37, 38, 39, 40]
set_option maxHeartbeats 1000000 in
theorem pushRow_z {h : Hp} {nv nf N g sg : Nat} {F : Nat → Nat → Int} {s : Nat → Nat} {d : Nat → Int} {K : Nat → Int} {w : Int} (hc : CI h nv N F s d) (hw : RW nv N F s d) (h1 : 1 ≤ nv) (h3 : nv ≤ 3) (hN : N < 12) (e0 : h.1 1 0 = nI nv) (e1 : h.1 1 1 = nI nf) (h8 : nf ≤ 8) (hg : g < nf) (hK : ∀ v, v < 3 → h.1 2 (3 * g + v) = i32 (K v)) (hb : ∀ v, v < 3 → -3 ≤ K v ∧ K v ≤ 3) (hz : ∀ v, v < 3 → nv ≤ v → K v = 0) (hne : ∃ v, v < 3 ∧ K v ≠ 0) (hs : sg ≤ 4) (hd : -50 ≤ w ∧ w ≤ 50) : ∃ h', s_X9_pushRow 0 (nI g) (nI sg) (i32 w) h = some h' ∧ Fr rowc h h' ∧ CI h' nv (N + 1) (upn F N K) (upn s N sg) (upn d N w) := by
  have hw2 := hw.upn hs hd hb hz hne
  obtain ⟨⟨c1, c2, c3⟩, c4, n, t, c5, c6, c7⟩ := hc
  have E : ∀ v, v < 3 → s_X5_entry 1 (nI g) (nI v) h = some (i32 (K v)) := fun v hv => entry5_z e0 e1 h3 h8 hg hv hK hz
  have E0 : s_X5_entry 1 (nI g) 0 h = some (i32 (K 0)) := E 0 (by omega)
  have E1 : s_X5_entry 1 (nI g) 1 h = some (i32 (K 1)) := E 1 (by omega)
  have E2 : s_X5_entry 1 (nI g) 2 h = some (i32 (K 2)) := E 2 (by omega)
  obtain ⟨H, q1, q2, q3, ⟨q4, q5, q6, q7⟩, ⟨q8, q9⟩, ⟨q10, q11⟩, ⟨q12, q13⟩, qF⟩ := push_z (R := 32) c1 hN (s := sg) (by omega) (i32 (K 0)) (i32 (K 1)) (i32 (K 2)) (i32 w).toInt64
  have rold : ∀ i, i < N → RowAt H 32 i (F i) (s i) (d i) := fun i hi => (c4 i hi).cg (fun v hv => q7 _ (by omega)) (q9 i hi) (q11 i (by omega)) (q13 i (by omega))
  have rnew : RowAt H 32 N K sg w := by
    refine ⟨fun v hv => ?_, ?_, q10, q12⟩
    · rcases (show v = 0 ∨ v = 1 ∨ v = 2 by omega) with rfl | rfl | rfl
      · show (H.1 (32 + 1) (3 * N)).toInt = _
        rw [q4]; exact mul3_z (hb 0 (by omega)) (by omega)
      · show (H.1 (32 + 1) (3 * N + 1)).toInt = _
        rw [q5]; exact mul3_z (hb 1 (by omega)) (by omega)
      · show (H.1 (32 + 1) (3 * N + 2)).toInt = _
        rw [q6]; exact mul3_z (hb 2 (by omega)) (by omega)
    · rw [q8]; exact mul3l_z hd (by omega)
  have rall : ∀ i, i < N + 1 → RowAt H 32 i (upn F N K i) (upn s N sg i) (upn d N w i) := fun i hi => by
    by_cases z : i = N
    · subst z; rw [upn_same, upn_same, upn_same]; exact rnew
    · rw [upn_ne z, upn_ne z, upn_ne z]; exact rold i (by omega)
  have cH : ClashInv H 30 N nv (rY H 32) n t := by
    refine c5.cg (by omega) (qF 40 (by simp)).1 (qF 39 (by simp)).1 (fun i hi v hv => ?_) (fun i hi => ?_) (fun i hi => ?_) (fun i hi => ?_)
    · show rF h 32 i v = rF H 32 i v
      rw [(c4 i hi).1 v hv, (rold i hi).1 v hv]
    · show (h.2 (32 + 2) i).toInt = (H.2 (32 + 2) i).toInt
      rw [q9 i hi]
    · rw [(c4 i hi).st, (rold i hi).st]
    · rw [(c4 i hi).eq, (rold i hi).eq]
  obtain ⟨H2, z1, zF, n', t', z2, z3, z4⟩ := extend_z (h := H) (L := 30) (N := N) (nv := nv) (D := 50) (rows_wf q2 (by omega) rall hw2) (by omega) (by omega) (by rw [q3]; exact c2) h1 h3 cH
  have bH : BJ H := fun k => by
    by_cases z : k = N
    · subst z
      refine ⟨?_, ?_⟩
      · have := q10
        rw [show (32 + 3 : Nat) = 35 from rfl] at this
        rw [this]; split <;> simp
      · have := q12
        rw [show (32 + 4 : Nat) = 36 from rfl] at this
        rw [this]; split <;> simp
    · have a := q11 k z
      have b := q13 k z
      rw [show (32 + 3 : Nat) = 35 from rfl] at a
      rw [show (32 + 4 : Nat) = 36 from rfl] at b
      rw [a, b]; exact c7 k
  have hY : rY H2 32 = rY H 32 := rY_fr zF (by simp) (by simp) (by simp) (by simp)
  refine ⟨H2, ?_, (qF.wid (by simp [rowc])).tr (zF.wid (by simp [rowc])), ⟨by rw [(zF 32 (by simp)).1]; exact q2, by rw [(zF 32 (by simp)).1, q3]; exact c2, by omega⟩, fun i hi => (rall i hi).cg (fun v _ => by rw [(zF 33 (by simp)).1]) (by rw [(zF 34 (by simp)).2]) (by rw [(zF 35 (by simp)).1]) (by rw [(zF 36 (by simp)).1]), n', t', by rw [hY]; exact z2, fun j k y1 y2 => ?_, bH.fr zF (by simp) (by simp)⟩
  · unfold s_X9_pushRow
    simp only [Nat.zero_add]
    rw [E0, bnd_s, E1, bnd_s, E2, bnd_s, q1, bnd_s, z1, bnd_s]
  · rcases Nat.lt_or_ge k (N + 1) with y | y
    · rw [z3 j (by omega), z3 k (by omega)]; exact c6 j k y1 (by omega)
    · rw [show k = N + 1 by omega]; exact (z2.1 j (by omega)).2.2
