/-! the model's stages -/
def rwl (m : Nat) (s : Nat → Nat) (F : Nat → Nat → Int) (d : Nat → Int) : List Rw := (List.range m).flatMap (fun k => sR (s k) (F k) (d k))
theorem rwl_succ (m : Nat) (s : Nat → Nat) (F : Nat → Nat → Int) (d : Nat → Int) : rwl (m + 1) s F d = rwl m s F d ++ sR (s m) (F m) (d m) := by
  unfold rwl; rw [List.range_succ, List.flatMap_append]; simp
theorem rwl_len (m : Nat) (s : Nat → Nat) (F : Nat → Nat → Int) (d : Nat → Int) : (rwl m s F d).length ≤ 2 * m := by
  induction m with
  | zero => simp [rwl]
  | succ m ih =>
    rw [rwl_succ, List.length_append]
    have := sR_len (s m) (F m) (d m)
    omega
theorem rwl_sat {m : Nat} {s : Nat → Nat} {F : Nat → Nat → Int} {d : Nat → Int} (hs : ∀ k, k < m → s k ≤ 4) (p : Nat → Rat) : (∀ r ∈ rwl m s F d, sat r p) ↔ ∀ k, k < m → rel (s k) (lin (F k) p) (d k : Rat) := by
  constructor
  · intro h k hk
    refine (sR_iff (hs k hk) (F k) (d k) p).mp (fun r hr => h r ?_)
    exact List.mem_flatMap.mpr ⟨k, List.mem_range.mpr hk, hr⟩
  · intro h r hr
    obtain ⟨k, hk, hr⟩ := List.mem_flatMap.mp hr
    have hk := List.mem_range.mp hk
    exact (sR_iff (hs k hk) (F k) (d k) p).mpr (h k hk) r hr
theorem rwl_bd {m : Nat} {s : Nat → Nat} {F : Nat → Nat → Int} {d : Nat → Int} {A D : Int} (hF : ∀ k, k < m → ∀ v, v < 3 → -A ≤ F k v ∧ F k v ≤ A) (hd : ∀ k, k < m → -D ≤ d k ∧ d k ≤ D) : ∀ r ∈ rwl m s F d, RB A D r := by
  intro r hr
  obtain ⟨k, hk, hr⟩ := List.mem_flatMap.mp hr
  have hk := List.mem_range.mp hk
  exact sR_bd (hF k hk) (hd k hk) r hr
theorem sR_zero {s : Nat} {F : Nat → Int} {d : Int} {v : Nat} (h : F v = 0) : ∀ r ∈ sR s F d, r.1 v = 0 := by
  intro r hr
  unfold sR at hr
  rcases List.mem_append.mp hr with w | w
  · split at w
    · rw [List.mem_singleton.mp w]; exact h
    · cases w
  · split at w
    · rw [List.mem_singleton.mp w]; show - F v = 0; omega
    · cases w
theorem rwl_zero {m : Nat} {s : Nat → Nat} {F : Nat → Nat → Int} {d : Nat → Int} {v : Nat} (h : ∀ k, F k v = 0) : ∀ r ∈ rwl m s F d, r.1 v = 0 := by
  intro r hr
  obtain ⟨k, hk, hr⟩ := List.mem_flatMap.mp hr
  exact sR_zero (h k) r hr
theorem elim_same {v : Nat} {L : List Rw} (h : ∀ r ∈ L, r.1 v = 0) : ∀ r ∈ elim v L, r ∈ L := by
  intro r hr
  rcases mem_elim.mp hr with w | ⟨p, hp, q, hq, h1, -⟩
  · exact w.1
  · have := h p hp; omega
theorem rel_shift {s : Nat} {u w c : Rat} : rel s (u + c) (w + c) ↔ rel s u w := by
  unfold rel
  constructor
  · rintro ⟨a0, a1, a2, a3, a4⟩
    exact ⟨fun q => by have := a0 q; grind, fun q => by have := a1 q; grind, fun q => by have := a2 q; grind, fun q => by have := a3 q; grind, fun q => by have := a4 q; grind⟩
  · rintro ⟨a0, a1, a2, a3, a4⟩
    exact ⟨fun q => by have := a0 q; grind, fun q => by have := a1 q; grind, fun q => by have := a2 q; grind, fun q => by have := a3 q; grind, fun q => by have := a4 q; grind⟩
/-- the values that coordinate v can take when those before it are fixed -/
def SS (Hd : (Nat → Rat) → Prop) (v : Nat) (x : Nat → Rat) (t : Rat) : Prop := ∃ p, Hd p ∧ (∀ w, w < v → p w = x w) ∧ p v = t
theorem SS.cg {Hd : (Nat → Rat) → Prop} {v : Nat} {x x' : Nat → Rat} (h : ∀ w, w < v → x w = x' w) (t : Rat) : SS Hd v x t ↔ SS Hd v x' t := by
  constructor
  · rintro ⟨p, a, b, c⟩; exact ⟨p, a, fun w hw => (b w hw).trans (h w hw), c⟩
  · rintro ⟨p, a, b, c⟩; exact ⟨p, a, fun w hw => (b w hw).trans (h w hw).symm, c⟩
def Samp (Hd : (Nat → Rat) → Prop) (nv : Nat) (P Q : Nat → Int) : Prop := ∀ v, v < nv → Simp (SS Hd v (fun w => frc (P w) (Q w))) (P v) (Q v)
theorem samp_one {Hd : (Nat → Rat) → Prop} (hC : ∀ v x, Cvx (SS Hd v x)) {nv : Nat} {P Q P' Q' : Nat → Int} (h : Samp Hd nv P Q) (h' : Samp Hd nv P' Q') : ∀ v, v < nv → P v = P' v ∧ Q v = Q' v := by
  intro v
  induction v using Nat.strongRecOn with
  | ind v ih =>
    intro hv
    refine simp_one (hC v _) (h v hv) (simp_congr (fun t => ?_) (h' v hv))
    refine SS.cg (fun w hw => ?_) t
    obtain ⟨a, b⟩ := ih w hw (by omega)
    rw [a, b]
theorem eb_wfi {BA BE : Int} {H : Hp} {C : Nat} (hW : WFI BA BE H C) : EB BE BA (lowO H C) ∧ EB BE BA (highO H C) := by
  constructor
  · intro x hx
    unfold lowO at hx
    rcases hW.1 with e | ⟨e, d1, d2, n1, n2, o⟩
    · rw [if_neg (by rw [e]; decide)] at hx; cases hx
    · rw [if_pos e] at hx
      cases hx
      exact ⟨-(H.2 C 21).toInt, (H.2 C 22).toInt, d1, d2, by omega, by omega, rfl⟩
  · intro x hx
    unfold highO at hx
    rcases hW.2.1 with e | ⟨e, d1, d2, n1, n2, o⟩
    · rw [if_neg (by rw [e]; decide)] at hx; cases hx
    · rw [if_pos e] at hx
      cases hx
      exact ⟨(H.2 C 25).toInt, (H.2 C 26).toInt, d1, d2, n1, n2, rfl⟩
theorem frc_scale {c p q : Int} (hc : 0 < c) (hq : 0 < q) : (c : Rat) * frc p (q * c) = frc p q := by
  have e1 : frc p (q * c) * ((q * c : Int) : Rat) = (p : Rat) := by
    unfold frc
    exact Rat.div_mul_cancel (by have := Int.mul_pos hq hc; intro w; have : (q * c : Int) = 0 := by exact_mod_cast w
                                 omega)
  have e2 : frc p q * (q : Rat) = (p : Rat) := by
    unfold frc
    exact Rat.div_mul_cancel (by intro w; have : q = 0 := by exact_mod_cast w
                                 omega)
  have q1 : (0 : Rat) < (q : Rat) := by exact_mod_cast hq
  push_cast at e1
  have : (q : Rat) * ((c : Rat) * frc p (q * c) - frc p q) = 0 := by grind
  rcases Rat.mul_eq_zero.mp this with w | w
  · grind
  · grind
/-- one stage: the interval, scaled, is a set; its simplest fraction is found and is small -/
theorem stage_z {BA BE : Int} {H : Hp} {c : Int} {v : Nat} {S : Rat → Prop} (hv : v < 3) (hI : WFI BA BE H 66) (h28 : H.1 66 28 = 0) (hne : ∃ t, inI H 66 t) (hc : 0 < c) (h1 : 1 ≤ BA) (h0 : 0 ≤ BE) (hb : BE * 100000000 ≤ 1000000000000000000) (hbc : 2 * BA * c < 100000000) (hS : ∀ t, inI H 66 ((c : Rat) * t) ↔ S t) : ∃ p q : Int, s_X10_setSimplest 66 (nI v) (i64 c) H = some (sJ (sJ H 85 v (i64 p)) 86 v (i64 q)) ∧ Simp S p q ∧ q ≤ 2 * BA * c ∧ (p.natAbs : Int) ≤ 2 * BE + BA := by
  have hiv := inI_iv hI
  obtain ⟨el, eh⟩ := eb_wfi hI
  obtain ⟨pw, qw, w1, w2, w3, w4⟩ := wit_z el eh h0 h1 (by
    obtain ⟨t, ht⟩ := hne
    exact ⟨t, ((hiv t).mp ht).2⟩)
  have in1 : inI H 66 ((c : Rat) * frc pw (qw * c)) := by
    rw [frc_scale hc w1]
    exact (hiv _).mpr ⟨h28, w4⟩
  have p1 := Int.mul_pos w1 hc
  have p2 : qw * c ≤ 2 * BA * c := Int.mul_le_mul_of_nonneg_right w2 (Int.le_of_lt hc)
  have p3 : BA * c ≤ 2 * BA * c := by
    have := Int.mul_pos (show 0 < BA by omega) hc
    rw [Int.mul_assoc]; omega
  obtain ⟨p, q, e1, e2⟩ := setSimplest_z (BA := BA) (BE := BE) (H := H) (c := c) hv ⟨hI, h28, hc, h0, hb, by omega⟩ ⟨p1, by omega⟩ in1
  have e3 := simp_congr hS e2
  have cv : Cvx S := fun a b d ha hd l1 l2 => by
    have c1 : (0 : Rat) < (c : Rat) := by exact_mod_cast hc
    rw [← hS] at ha hd ⊢
    rw [hiv] at ha hd ⊢
    refine ⟨h28, iv_cvx _ _ _ _ _ ha.2 hd.2 ?_ ?_⟩
    · have := Rat.mul_nonneg (Rat.le_of_lt c1) (show 0 ≤ b - a by grind); grind
    · have := Rat.mul_nonneg (Rat.le_of_lt c1) (show 0 ≤ d - b by grind); grind
  refine ⟨p, q, e1, e3, ?_, ?_⟩
  · have := e3.2.2.1 pw (qw * c) p1 ((hS _).mp in1)
    omega
  · have := simp_num cv e3 p1 ((hS _).mp in1)
    omega
