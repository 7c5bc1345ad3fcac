/-! the class's sampler: its rows, and the limits of a variable -/
def HdY (N : Nat) (Y : Sys) (p : Nat → Rat) : Prop := ∀ i, i < N → hold Y i p
theorem mix_pos {a b x y : Rat} (ha : 0 ≤ a) (hb : 0 ≤ b) (hab : a + b = 1) (hx : 0 < x) (hy : 0 < y) : 0 < a * x + b * y := by
  by_cases c : a = 0
  · subst c
    have : b = 1 := by grind
    subst this
    grind
  · have h1 := Rat.mul_pos (show 0 < a by grind) hx
    have h2 := Rat.mul_nonneg hb (Rat.le_of_lt hy)
    grind
theorem hold_cvx {Y : Sys} {i : Nat} {p q : Nat → Rat} {a b : Rat} (ha : 0 ≤ a) (hb : 0 ≤ b) (hab : a + b = 1) (hp : hold Y i p) (hq : hold Y i q) : hold Y i (fun w => a * p w + b * q w) := by
  have e : lin (Y.1 i) (fun w => a * p w + b * q w) = a * lin (Y.1 i) p + b * lin (Y.1 i) q := by unfold lin; grind
  unfold hold at hp hq ⊢
  rw [e]
  generalize lin (Y.1 i) p = u at *
  generalize lin (Y.1 i) q = u' at *
  generalize ((Y.2.1 i : Int) : Rat) = d at *
  have ed : a * d + b * d = d := by rw [← Rat.add_mul, hab, Rat.one_mul]
  by_cases c1 : Y.2.2.2 i = true
  · rw [if_pos c1] at hp hq ⊢
    rw [hp, hq]; exact ed
  · rw [if_neg c1] at hp hq ⊢
    by_cases c2 : Y.2.2.1 i = true
    · rw [if_pos c2] at hp hq ⊢
      have := mix_pos ha hb hab (show 0 < d - u by grind) (show 0 < d - u' by grind)
      grind
    · rw [if_neg c2] at hp hq ⊢
      have h1 := Rat.mul_nonneg ha (show 0 ≤ d - u by grind)
      have h2 := Rat.mul_nonneg hb (show 0 ≤ d - u' by grind)
      grind
theorem ss_mid {N v : Nat} {Y : Sys} {x : Nat → Rat} {t : Rat} (h1 : ∃ p, HdY N Y p ∧ (∀ w, w < v → p w = x w) ∧ t ≤ p v) (h2 : ∃ p, HdY N Y p ∧ (∀ w, w < v → p w = x w) ∧ p v ≤ t) : SS (HdY N Y) v x t := by
  obtain ⟨p, a1, a2, a3⟩ := h1
  obtain ⟨q, b1, b2, b3⟩ := h2
  by_cases e : p v = q v
  · exact ⟨p, a1, a2, by grind⟩
  · have dp : 0 < p v - q v := by grind
    obtain ⟨c, hc⟩ : ∃ c : Rat, (p v - q v) * c = 1 := ⟨1 / (p v - q v), by rw [Rat.mul_comm]; exact Rat.div_mul_cancel (by grind)⟩
    have cp : 0 < c := pos_of dp (by rw [hc]; decide)
    have wa := Rat.mul_nonneg (show 0 ≤ t - q v by grind) (Rat.le_of_lt cp)
    have wb := Rat.mul_nonneg (show 0 ≤ p v - t by grind) (Rat.le_of_lt cp)
    have wab : (t - q v) * c + (p v - t) * c = 1 := by rw [← hc]; grind
    refine ⟨fun w => (t - q v) * c * p w + (p v - t) * c * q w, fun i hi => hold_cvx wa wb wab (a1 i hi) (b1 i hi), fun w hw => ?_, ?_⟩
    · show (t - q v) * c * p w + (p v - t) * c * q w = x w
      rw [a2 w hw, b2 w hw, ← Rat.add_mul, wab, Rat.one_mul]
    · show (t - q v) * c * p v + (p v - t) * c * q v = t
      have : (t - q v) * c * p v + (p v - t) * c * q v = t * ((p v - q v) * c) := by grind
      rw [this, hc, Rat.mul_one]
theorem ss_cvx (N : Nat) (Y : Sys) (v : Nat) (x : Nat → Rat) : Cvx (SS (HdY N Y) v x) := by
  rintro a b c ⟨p, p1, p2, p3⟩ ⟨q, q1, q2, q3⟩ h1 h2
  exact ss_mid ⟨q, q1, q2, by grind⟩ ⟨p, p1, p2, by grind⟩
def prt (A : Nat → Int) (X : Nat → Rat) : Nat → Rat
  | 0 => 0
  | v + 1 => prt A X v + (A v : Rat) * X v
def Rst (G : Hp) (N : Nat) (Y : Sys) (v : Nat) (c : Int) (X : Nat → Rat) (D : Int) : Prop := RowsWF G 44 N D ∧ (∀ i, i < N → (∀ w, w < 3 → rF G 44 i w = if w < v then 0 else Y.1 i w) ∧ ((G.2 46 i).toInt : Rat) = (c : Rat) * ((Y.2.1 i : Rat) - prt (Y.1 i) X v) ∧ decide (G.1 47 i = 1) = Y.2.2.1 i ∧ decide (G.1 48 i = 1) = Y.2.2.2 i) ∧ G.2 42 2 = i64 c
theorem rest_hold {G : Hp} {N v : Nat} {Y : Sys} {c : Int} {X : Nat → Rat} {D : Int} (hR : Rst G N Y v c X D) (hc : 0 < c) (hv : v < 3) {i : Nat} (hi : i < N) (p q : Nat → Rat) (hw : ∀ w, w < v → p w = X w) (hq : ∀ w, w < 3 → v ≤ w → q w = (c : Rat) * p w) : hold (rY G 44) i q ↔ hold Y i p := by
  obtain ⟨r1, r2, r3, r4⟩ := hR.2.1 i hi
  have c1 : (0 : Rat) < (c : Rat) := by exact_mod_cast hc
  have e3 : (rY G 44).2.2.1 i = Y.2.2.1 i := r3
  have e4 : (rY G 44).2.2.2 i = Y.2.2.2 i := r4
  have eD : (((rY G 44).2.1 i : Int) : Rat) = (c : Rat) * ((Y.2.1 i : Rat) - prt (Y.1 i) X v) := r2
  have eL : lin ((rY G 44).1 i) q = (c : Rat) * (lin (Y.1 i) p - prt (Y.1 i) X v) := by
    show lin (rF G 44 i) q = _
    have a0 := r1 0 (by omega)
    have a1 := r1 1 (by omega)
    have a2 := r1 2 (by omega)
    unfold lin
    rcases (show v = 0 ∨ v = 1 ∨ v = 2 by omega) with rfl | rfl | rfl
    · rw [if_neg (by omega)] at a0 a1 a2
      rw [a0, a1, a2, hq 0 (by omega) (by omega), hq 1 (by omega) (by omega), hq 2 (by omega) (by omega)]
      unfold prt; grind
    · rw [if_pos (by omega)] at a0
      rw [if_neg (by omega)] at a1 a2
      rw [a0, a1, a2, hq 1 (by omega) (by omega), hq 2 (by omega) (by omega), hw 0 (by omega)]
      unfold prt prt; push_cast; grind
    · rw [if_pos (by omega)] at a0 a1
      rw [if_neg (by omega)] at a2
      rw [a0, a1, a2, hq 2 (by omega) (by omega), hw 0 (by omega), hw 1 (by omega)]
      unfold prt prt prt; push_cast; grind
  unfold hold
  rw [e3, e4, eL, eD]
  generalize lin (Y.1 i) p = x
  generalize ((Y.2.1 i : Int) : Rat) = d
  generalize prt (Y.1 i) X v = k
  have k1 : (c : Rat) * (x - k) < (c : Rat) * (d - k) ↔ x < d := by
    constructor
    · intro z; have := pos_of c1 (x := d - x) (by grind); grind
    · intro z; have := Rat.mul_pos c1 (show 0 < d - x by grind); grind
  have k2 : (c : Rat) * (x - k) = (c : Rat) * (d - k) ↔ x = d := by
    constructor
    · intro z
      rcases Rat.mul_eq_zero.mp (show (c : Rat) * (x - d) = 0 by grind) with y | y <;> grind
    · intro z; rw [z]
  have k3 : (c : Rat) * (x - k) ≤ (c : Rat) * (d - k) ↔ x ≤ d := by
    constructor
    · intro z
      by_cases y : x ≤ d
      · exact y
      · have := Rat.mul_pos c1 (show 0 < x - d by grind); grind
    · intro z; have := Rat.mul_nonneg (Rat.le_of_lt c1) (show 0 ≤ d - x by grind); grind
  rw [k1, k2, k3]
def LimV (G : Hp) (L : Nat) (B T : Int) : Prop := (G.1 L 0 = 0 ∨ G.1 L 0 = 1) ∧ (0 < (G.2 L 2).toInt ∧ (G.2 L 2).toInt ≤ B) ∧ (-T ≤ (G.2 L 1).toInt ∧ (G.2 L 1).toInt ≤ T) ∧ (G.1 L 3 = 0 ∨ G.1 L 3 = 1)
def LimI (G : Hp) (L : Nat) (t : Rat) : Prop := G.1 L 0 = 1 → UpS (G.2 L 2).toInt (G.2 L 1).toInt (decide (G.1 L 3 = 1)) t
def eK (v : Nat) (tz : Int) : Nat → Int := fun w => if w = v then tz else 0
theorem seek8_go {G : Hp} {Lm v : Nat} (hv : v < 3) (tz : Int) : s_X8_seek 42 Lm (nI v) (i32 tz) G = (s_X4_seek Lm 43 (i32 (eK v tz 0)) (i32 (eK v tz 1)) (i32 (eK v tz 2)) G).bind fun y1 => some (sJ y1 Lm 2 (y1.2 Lm 2 * y1.2 42 2)) := by
  have z : (0 : Int32) = i32 0 := by decide
  unfold s_X8_seek s_X8_seek_b14 s_X8_seek_b24 s_X8_seek_b34
  rcases (show v = 0 ∨ v = 1 ∨ v = 2 by omega) with rfl | rfl | rfl
  · rw [if_pos (by decide), if_neg (by decide), if_neg (by decide), z]; rfl
  · rw [if_neg (by decide), if_pos (by decide), if_neg (by decide), z]; rfl
  · rw [if_neg (by decide), if_neg (by decide), if_pos (by decide), z]; rfl
theorem Rst.same {G G' : Hp} {N v : Nat} {Y : Sys} {c D : Int} {X : Nat → Rat} (hR : Rst G N Y v c X D) (hW : RowsWF G' 44 N D) (hS : RowsSame G G' 44 N) (e : G'.2 42 2 = G.2 42 2) : Rst G' N Y v c X D := by
  refine ⟨hW, fun i hi => ?_, e.trans hR.2.2⟩
  obtain ⟨r1, r2, r3, r4⟩ := hR.2.1 i hi
  obtain ⟨s1, s2, s3, s4⟩ := hS i hi
  refine ⟨fun w hw => by rw [s1 w hw]; exact r1 w hw, ?_, ?_, ?_⟩
  · have : G'.2 46 i = G.2 46 i := s2
    rw [this]; exact r2
  · have : G'.1 47 i = G.1 47 i := s3
    rw [this]; exact r3
  · have : G'.1 48 i = G.1 48 i := s4
    rw [this]; exact r4
theorem seek8_z {G : Hp} {N nv v Lm : Nat} {Y : Sys} {c D tz : Int} {X : Nat → Rat} (hLm : Lm = 51 ∨ Lm = 52) (hR : Rst G N Y v c X D) (hc : 0 < c ∧ c ≤ 4000000) (hD : 0 ≤ D ∧ D ≤ 2000000000) (hv : v < nv) (hn3 : nv ≤ 3) (h5 : G.1 44 5 = nI (nv - v)) (hN : N < 12) (hz : ∀ i, i < N → ∀ w, w < 3 → nv ≤ w → Y.1 i w = 0) (hsat : ∃ p, HdY N Y p ∧ ∀ w, w < v → p w = X w) (ht : tz = 1 ∨ tz = -1) : ∃ G', s_X8_seek 42 Lm (nI v) (i32 tz) G = some G' ∧ Fr (Lm :: cirk 43) G G' ∧ Rst G' N Y v c X D ∧ G'.1 44 5 = nI (nv - v) ∧ LimV G' Lm (162 * c) (648 * D) ∧ ∀ t, LimI G' Lm t ↔ ∃ p, HdY N Y p ∧ (∀ w, w < v → p w = X w) ∧ t ≤ (tz : Rat) * p v := by
  have c1 : (0 : Rat) < (c : Rat) := by exact_mod_cast hc.1
  have lK : ∀ q : Nat → Rat, lin (eK v tz) q = (tz : Rat) * q v := fun q => by
    unfold lin eK
    rcases (show v = 0 ∨ v = 1 ∨ v = 2 by omega) with rfl | rfl | rfl
    · simp; grind
    · simp; grind
    · simp; grind
  obtain ⟨H1, s1, sF, sK, sW, s5, sS, -, sL, sT⟩ := seek_z (h := G) (C := 43) (Lm := Lm) (N := N) (nv := nv - v) (ub := v) (D := D) (K := eK v tz) (by omega) hR.1 hD.1 (by omega) h5 (by omega) (by omega) hN (fun i hi w hw hn => by
      have := (hR.2.1 i hi).1 w hw
      show rF G 44 i w = 0
      rw [this]
      by_cases y : w < v
      · rw [if_pos y]
      · rw [if_neg y]; exact hz i hi w hw (by omega)) (by
      obtain ⟨p, hp, hw⟩ := hsat
      exact ⟨fun w => (c : Rat) * p w, fun i hi => (rest_hold hR hc.1 (by omega) (List.mem_range.mp hi) p _ hw (fun w _ _ => rfl)).mpr (hp i (List.mem_range.mp hi))⟩) (fun w hw => by
      unfold eK
      split
      · rcases ht with e | e <;> rw [e] <;> omega
      · omega) (fun w hw hn => by
      unfold eK
      rw [if_neg (by omega)]) ⟨v, by omega, by
      unfold eK
      rw [if_pos rfl]
      rcases ht with e | e <;> rw [e] <;> omega⟩
  have s42 : H1.2 42 = G.2 42 := (sF 42 (by rcases hLm with e | e <;> subst e <;> simp [cirk])).2
  have ec : (H1.2 42 2).toInt = c := by rw [s42, hR.2.2]; exact i64_z (by omega) (by omega)
  obtain ⟨l0, l1, l2, l3⟩ := sL
  have mb := mulb (A := 162) (B := 4000000) (a := (H1.2 Lm 2).toInt) (b := c) (by omega) (by omega) (by omega) (by omega)
  have eb : (H1.2 Lm 2 * H1.2 42 2).toInt = (H1.2 Lm 2).toInt * c := by rw [mull_z (by rw [ec]; omega) (by rw [ec]; omega), ec]
  rw [seek8_go (by omega), s1, bnd_s]
  generalize gH : sJ H1 Lm 2 (H1.2 Lm 2 * H1.2 42 2) = H
  have F2 : Fr [Lm] H1 H := by rw [← gH]; exact Fr.sJ (by simp)
  have p0 : H.1 Lm = H1.1 Lm := by rw [← gH]; rfl
  have p1 : H.2 Lm 1 = H1.2 Lm 1 := by rw [← gH, sJ_ne (by omega)]
  have p2 : (H.2 Lm 2).toInt = (H1.2 Lm 2).toInt * c := by rw [← gH, sJ_same]; exact eb
  have n42 : 42 ∉ [Lm] := by rcases hLm with e | e <;> subst e <;> simp
  have nr : ∀ c, c ∈ [44, 45, 46, 47, 48] → c ∉ [Lm] := fun c hc q => by simp at hc q; omega
  refine ⟨H, rfl, sF.tr (F2.wid (by simp)), hR.same ?_ ?_ ?_, ?_, ⟨?_, ⟨?_, ?_⟩, ?_, ?_⟩, fun t => ?_⟩
  · exact RowsWF.fr sW F2 (nr 44 (by simp)) (nr 45 (by simp)) (nr 46 (by simp)) (nr 47 (by simp)) (nr 48 (by simp))
  · intro i hi
    obtain ⟨u1, u2, u3, u4⟩ := sS i hi
    refine ⟨fun w hw => ?_, ?_, ?_, ?_⟩
    · rw [← u1 w hw]; unfold rF
      show (H.1 45 _).toInt = (H1.1 45 _).toInt
      rw [(F2 45 (nr 45 (by simp))).1]
    · rw [← u2]
      show H.2 46 i = H1.2 46 i
      rw [(F2 46 (nr 46 (by simp))).2]
    · rw [← u3]
      show H.1 47 i = H1.1 47 i
      rw [(F2 47 (nr 47 (by simp))).1]
    · rw [← u4]
      show H.1 48 i = H1.1 48 i
      rw [(F2 48 (nr 48 (by simp))).1]
  · rw [(F2 42 n42).2, s42]
  · rw [(F2 44 (nr 44 (by simp))).1]; exact s5
  · rw [p0]; exact l0
  · rw [p2]; exact Int.mul_pos l1.1 hc.1
  · rw [p2]; exact Int.mul_le_mul_of_nonneg_right l1.2 (by omega)
  · rw [p1]; exact l2
  · rw [p0]; exact l3
  · have q1 : LimI H Lm t ↔ IV none (limO H1 Lm) ((c : Rat) * t) := by
      rw [iv_lim ⟨l0, l1, l2, l3⟩]
      unfold LimI UpS
      rw [p0, p1, p2, show (((H1.2 Lm 2).toInt * c : Int) : Rat) * t = ((H1.2 Lm 2).toInt : Rat) * ((c : Rat) * t) by push_cast; rw [Rat.mul_assoc]]
    rw [q1, sT]
    constructor
    · rintro ⟨q, w1, w2⟩
      rw [lK] at w2
      have eq : ∀ w, (c : Rat) * (q w / (c : Rat)) = q w := fun w => by rw [Rat.mul_comm]; exact Rat.div_mul_cancel (by grind)
      refine ⟨fun w => if w < v then X w else q w / (c : Rat), fun i hi => (rest_hold hR hc.1 (by omega) hi _ q (fun w hw => if_pos hw) (fun w _ hw => ?_)).mp (w1 i hi), fun w hw => if_pos hw, ?_⟩
      · show q w = (c : Rat) * (if w < v then X w else q w / (c : Rat))
        rw [if_neg (by omega), eq]
      · show t ≤ (tz : Rat) * (if v < v then X v else q v / (c : Rat))
        rw [if_neg (by omega)]
        rw [← eq v] at w2
        by_cases y : t ≤ (tz : Rat) * (q v / (c : Rat))
        · exact y
        · have := Rat.mul_pos c1 (show 0 < t - (tz : Rat) * (q v / (c : Rat)) by grind)
          grind
    · rintro ⟨p, w1, w2, w3⟩
      refine ⟨fun w => (c : Rat) * p w, fun i hi => (rest_hold hR hc.1 (by omega) hi p _ w2 (fun w _ _ => rfl)).mpr (w1 i hi), ?_⟩
      rw [lK]
      have := Rat.mul_nonneg (Rat.le_of_lt c1) (show 0 ≤ (tz : Rat) * p v - t by grind)
      grind
