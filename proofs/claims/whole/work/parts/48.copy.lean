/-! a village copied from another -/
def ov (P : Nat → Nat → Bool) (v u : Nat) (M : Mem) : Mem := (fun q c => if P q c = true then M.1 (u + (q - v)) c else M.1 q c, M.2)
def Inv (P : Nat → Nat → Bool) (v : Nat) : Prop := ∀ q c, P q c = true → v ≤ q ∧ q < v + 32
def Apart (v u : Nat) : Prop := u + 32 ≤ v ∨ v + 32 ≤ u
def P0 : Nat → Nat → Bool := fun _ _ => false
def Pc (P : Nat → Nat → Bool) (q c : Nat) : Nat → Nat → Bool := fun a b => P a b || (decide (a = q) && decide (b = c))
def Pt' (P : Nat → Nat → Bool) (t w c : Nat) : Nat → Nat → Bool := fun a b => P a b || (decide (t + 2 ≤ a) && (decide (a < t + 2 + w) && decide (b < c)))
theorem ov_0 (v u : Nat) (M : Mem) : ov P0 v u M = M := rfl
theorem Inv_0 (v : Nat) : Inv P0 v := fun q c h => by cases h
theorem Inv_c {P : Nat → Nat → Bool} {v a c : Nat} (h : Inv P v) (ha : a < 32) : Inv (Pc P (v + a) c) v := by
  intro q b hq
  simp only [Pc, Bool.or_eq_true, Bool.and_eq_true, decide_eq_true_eq] at hq
  rcases hq with hq | hq
  · exact h q b hq
  · omega
theorem Inv_t {P : Nat → Nat → Bool} {v a w c : Nat} (h : Inv P v) (ha : a + 2 + w ≤ 32) : Inv (Pt' P (v + a) w c) v := by
  intro q b hq
  simp only [Pt', Bool.or_eq_true, Bool.and_eq_true, decide_eq_true_eq] at hq
  rcases hq with hq | hq
  · exact h q b hq
  · omega
theorem ov_src {P : Nat → Nat → Bool} {v u a b : Nat} {M : Mem} (h : Inv P v) (hd : Apart v u) (ha : a < 32) : (ov P v u M).1 (u + a) b = M.1 (u + a) b := by
  show (if P (u + a) b = true then _ else _) = _
  rw [if_neg (fun hq => by
    have := h _ _ hq
    unfold Apart at hd
    omega)]
theorem ov_pf {P : Nat → Nat → Bool} {v u a c : Nat} {M : Mem} (h : Inv P v) (hd : Apart v u) (ha : a < 32) : mput (ov P v u M) (v + a) c ((ov P v u M).1 (u + a) c) = ov (Pc P (v + a) c) v u M := by
  rw [ov_src h hd ha]
  refine mem_ext (fun q b => ?_) rfl
  rw [mput_at]
  show _ = if Pc P (v + a) c q b = true then _ else _
  by_cases h1 : q = v + a ∧ b = c
  · rw [if_pos h1, if_pos (by simp [Pc, h1])]
    rw [h1.1, h1.2, show u + (v + a - v) = u + a by omega]
  · rw [if_neg h1]
    show (if P q b = true then _ else _) = _
    by_cases h2 : P q b = true
    · rw [if_pos h2, if_pos (by simp [Pc, h2])]
    · rw [if_neg h2, if_neg (by
        simp only [Pc, Bool.or_eq_true, Bool.and_eq_true, decide_eq_true_eq]
        rintro (q1 | q1)
        · exact h2 q1
        · exact h1 q1)]
theorem ov_cpT {P : Nat → Nat → Bool} {v u a w c : Nat} {M : Mem} (h : Inv P v) (hd : Apart v u) (ha : a + 2 + w ≤ 32) : cpT (v + a) (u + a) w c (ov P v u M) = ov (Pt' P (v + a) w c) v u M := by
  refine mem_ext (fun q b => ?_) rfl
  show (if v + a + 2 ≤ q ∧ q < v + a + 2 + w ∧ b < c then (ov P v u M).1 (u + a + (q - (v + a))) b else (ov P v u M).1 q b) = if Pt' P (v + a) w c q b = true then _ else _
  by_cases h1 : v + a + 2 ≤ q ∧ q < v + a + 2 + w ∧ b < c
  · rw [if_pos h1, if_pos (by simp [Pt', h1])]
    rw [show u + a + (q - (v + a)) = u + (q - v) by omega, ov_src h hd (by omega)]
  · rw [if_neg h1]
    show (if P q b = true then _ else _) = _
    by_cases h2 : P q b = true
    · rw [if_pos h2, if_pos (by simp [Pt', h2])]
    · rw [if_neg h2, if_neg (by
        simp only [Pt', Bool.or_eq_true, Bool.and_eq_true, decide_eq_true_eq]
        rintro (q1 | q1)
        · exact h2 q1
        · exact h1 q1)]
def PV (v h b g k : Nat) : Nat → Nat → Bool := Pc (Pc (Pc (Pc (Pc (Pc (Pt' (Pc (Pt' (Pc (Pt' (Pc (Pt' P0 (v + 2) 4 h) (v + 1) 1) (v + 9) 3 b) (v + 8) 1) (v + 15) 5 g) (v + 14) 1) (v + 23) 7 k) (v + 22) 1) (v + 22) 2) (v + 0) 4) (v + 0) 5) (v + 0) 6) (v + 0) 7
/-- how many of the loaves are kept -/
def kept (x : Int32) : Int32 := if (200 : Int32) < x then 200 else x
theorem X9_copy {v u h b g k : Nat} {M : Mem} (hd : Apart v u) (h1 : M.1 (u + 1) 1 = nI h) (h2 : h ≤ 8) (b1 : M.1 (u + 8) 1 = nI b) (b2 : b ≤ 20) (g1 : M.1 (u + 14) 1 = nI g) (g2 : g ≤ 20) (k1 : kept (M.1 (u + 22) 1) = nI k) (k2 : k ≤ 200) : fX9_copyFrom v u M = some (ov (PV v h b g k) v u M) := by
  have hA : ∀ {x w : Nat}, x + 2 + w ≤ 32 → u + x + 2 + w ≤ v + x + 2 ∨ v + x + 2 + w ≤ u + x + 2 := by intro x w hx; unfold Apart at hd; omega
  have i0 := Inv_0 v
  have i1 := Inv_t (a := 2) (w := 4) (c := h) i0 (by omega)
  have i2 := Inv_c (a := 1) (c := 1) i1 (by omega)
  have i3 := Inv_t (a := 9) (w := 3) (c := b) i2 (by omega)
  have i4 := Inv_c (a := 8) (c := 1) i3 (by omega)
  have i5 := Inv_t (a := 15) (w := 5) (c := g) i4 (by omega)
  have i6 := Inv_c (a := 14) (c := 1) i5 (by omega)
  have i7 := Inv_t (a := 23) (w := 7) (c := k) i6 (by omega)
  have i8 := Inv_c (a := 22) (c := 1) i7 (by omega)
  have i9 := Inv_c (a := 22) (c := 2) i8 (by omega)
  have i10 := Inv_c (a := 0) (c := 4) i9 (by omega)
  have i11 := Inv_c (a := 0) (c := 5) i10 (by omega)
  have i12 := Inv_c (a := 0) (c := 6) i11 (by omega)
  have s1 : fX4_copyFrom (v + 1) (u + 1) M = some (ov (Pc (Pt' P0 (v + 2) 4 h) (v + 1) 1) v u M) := by
    unfold fX4_copyFrom
    rw [h1, X7_copy (by omega) h2 (by omega) (hA (x := 2) (w := 4) (by omega)), Option.bind_some]
    have e := ov_cpT (M := M) (a := 2) (w := 4) (c := h) i0 hd (by omega)
    rw [ov_0] at e
    rw [show v + 1 + 1 = v + 2 from rfl, show u + 1 + 1 = u + 2 from rfl, e]
    unfold pf
    rw [Option.bind_some, ov_pf (a := 1) i1 hd (by omega)]
  have s2 : fX1_copyFrom (v + 8) (u + 8) (ov (Pc (Pt' P0 (v + 2) 4 h) (v + 1) 1) v u M) = some (ov (Pc (Pt' (Pc (Pt' P0 (v + 2) 4 h) (v + 1) 1) (v + 9) 3 b) (v + 8) 1) v u M) := by
    unfold fX1_copyFrom
    rw [ov_src (a := 8) i2 hd (by omega), b1, X7_copy (by omega) b2 (by omega) (hA (x := 9) (w := 3) (by omega)), Option.bind_some]
    rw [show v + 8 + 1 = v + 9 from rfl, show u + 8 + 1 = u + 9 from rfl, ov_cpT (a := 9) i2 hd (by omega)]
    unfold pf
    rw [Option.bind_some, ov_pf (a := 8) i3 hd (by omega)]
  have s3 : fX5_copyFrom (v + 14) (u + 14) (ov (Pc (Pt' (Pc (Pt' P0 (v + 2) 4 h) (v + 1) 1) (v + 9) 3 b) (v + 8) 1) v u M) = some (ov (Pc (Pt' (Pc (Pt' (Pc (Pt' P0 (v + 2) 4 h) (v + 1) 1) (v + 9) 3 b) (v + 8) 1) (v + 15) 5 g) (v + 14) 1) v u M) := by
    unfold fX5_copyFrom
    rw [ov_src (a := 14) i4 hd (by omega), g1, X7_copy (by omega) g2 (by omega) (hA (x := 15) (w := 5) (by omega)), Option.bind_some]
    rw [show v + 14 + 1 = v + 15 from rfl, show u + 14 + 1 = u + 15 from rfl, ov_cpT (a := 15) i4 hd (by omega)]
    unfold pf
    rw [Option.bind_some, ov_pf (a := 14) i5 hd (by omega)]
  have s4 : fX6_copyFrom (v + 22) (u + 22) (ov (Pc (Pt' (Pc (Pt' (Pc (Pt' P0 (v + 2) 4 h) (v + 1) 1) (v + 9) 3 b) (v + 8) 1) (v + 15) 5 g) (v + 14) 1) v u M) = some (ov (Pc (Pc (Pt' (Pc (Pt' (Pc (Pt' (Pc (Pt' P0 (v + 2) 4 h) (v + 1) 1) (v + 9) 3 b) (v + 8) 1) (v + 15) 5 g) (v + 14) 1) (v + 23) 7 k) (v + 22) 1) (v + 22) 2) v u M) := by
    unfold fX6_copyFrom fX6_kept
    rw [ov_src (a := 22) i6 hd (by omega), Option.bind_some, show (if (200 : Int32) < M.1 (u + 22) 1 then (200 : Int32) else M.1 (u + 22) 1) = nI k from k1, X7_copy (by omega) k2 (by omega) (hA (x := 23) (w := 7) (by omega)), Option.bind_some]
    rw [show v + 22 + 1 = v + 23 from rfl, show u + 22 + 1 = u + 23 from rfl, ov_cpT (a := 23) i6 hd (by omega)]
    unfold pf
    rw [Option.bind_some, ov_pf (a := 22) i7 hd (by omega), Option.bind_some, ov_pf (a := 22) i8 hd (by omega)]
  unfold fX9_copyFrom
  rw [s1, Option.bind_some, s2, Option.bind_some, s3, Option.bind_some, s4, Option.bind_some]
  unfold pf
  have e4 := ov_pf (M := M) (a := 0) (c := 4) i9 hd (by omega)
  have e5 := ov_pf (M := M) (a := 0) (c := 5) i10 hd (by omega)
  have e6 := ov_pf (M := M) (a := 0) (c := 6) i11 hd (by omega)
  have e7 := ov_pf (M := M) (a := 0) (c := 7) i12 hd (by omega)
  simp only [Nat.add_zero] at e4 e5 e6 e7 ⊢
  rw [Option.bind_some, e4, Option.bind_some, e5, Option.bind_some, e6, Option.bind_some, e7]
  rfl
