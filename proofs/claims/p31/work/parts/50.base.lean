theorem nI_int {n : Nat} (h : n < 2 ^ 31) : (nI n).toInt = n := Int32.toInt_ofNat_of_lt h
theorem nI_nat {n : Nat} (h : n < 2 ^ 31) : (nI n).toNatClampNeg = n := by
  show (nI n).toInt.toNat = n
  rw [nI_int h]; rfl
theorem nI_ad (a c : Nat) : nI a + nI c = nI (a + c) := (Int32.ofNat_add a c).symm
theorem vp_at {n N : Nat} (h : n < N) (hN : N < 2 ^ 31) : vp_in (nI n) N := by
  show ¬ (_ ∨ _)
  have h1 : n < 2 ^ 31 := by omega
  rw [nI_nat h1, Int32.lt_iff_toInt_lt, nI_int h1]
  have : (0 : Int32).toInt = 0 := by decide
  omega
theorem mI_lt {a b : Nat} (ha : a < 2 ^ 31) (hb : b < 2 ^ 31) : nI a < nI b ↔ a < b := by
  rw [Int32.lt_iff_toInt_lt, nI_int ha, nI_int hb]; omega
theorem mI_le {a b : Nat} (ha : a < 2 ^ 31) (hb : b < 2 ^ 31) : nI a ≤ nI b ↔ a ≤ b := by
  rw [Int32.le_iff_toInt_le, nI_int ha, nI_int hb]; omega
theorem mI_eq {a b : Nat} (ha : a < 2 ^ 31) (hb : b < 2 ^ 31) : nI a = nI b ↔ a = b := by
  refine ⟨fun h => ?_, fun h => by rw [h]⟩
  have := congrArg Int32.toInt h
  rw [nI_int ha, nI_int hb] at this
  omega
theorem mI_nn {a : Nat} (ha : a < 2 ^ 31) : ¬ nI a < 0 := by
  rw [Int32.lt_iff_toInt_lt, nI_int ha]
  have : (0 : Int32).toInt = 0 := by decide
  omega
theorem mI_sb {a b : Nat} (h : b ≤ a) (ha : a < 2 ^ 31) : nI a - nI b = nI (a - b) := by
  apply Int32.toInt_inj.mp
  rw [Int32.toInt_sub, nI_int ha, nI_int (by omega), nI_int (by omega)]
  simp only [Int.bmod_def]
  omega
theorem nI_ml' (a b : Nat) : nI a * nI b = nI (a * b) := (Int32.ofNat_mul a b).symm
theorem mI_ml {a b : Nat} : nI a * nI b = nI (a * b) := (Int32.ofNat_mul a b).symm
/-- every whole number that is not below 0 is a place -/
theorem mI_of {x : Int32} (h : ¬ x < 0) : x = nI x.toNatClampNeg ∧ x.toNatClampNeg < 2 ^ 31 := by
  rw [Int32.lt_iff_toInt_lt] at h
  have h0 : (0 : Int32).toInt = 0 := by decide
  rw [h0] at h
  have h1 : x.toInt < 2 ^ 31 := Int32.toInt_lt x
  have h2 : x.toNatClampNeg = x.toInt.toNat := rfl
  have h3 : x.toNatClampNeg < 2 ^ 31 := by omega
  refine ⟨?_, h3⟩
  apply Int32.toInt_inj.mp
  rw [nI_int h3, h2]
  omega
theorem ald_n {f : Nat → Int32} {n j : Nat} (h : j < n) (hn : n < 2 ^ 31) : ald f n (nI j) = some (f j) := by
  have h1 := mI_nn (a := j) (by omega)
  have h2 := nI_nat (n := j) (by omega)
  unfold ald
  rw [if_neg (by rw [h2]; intro q; rcases q with q | q; exact h1 q; omega), h2]
theorem ast_n {M : Mem} {t n j : Nat} {x : Int32} (h : j < n) (hn : n < 2 ^ 31) : ast M t n (nI j) x = some (mput M t j x) := by
  have h1 := mI_nn (a := j) (by omega)
  have h2 := nI_nat (n := j) (by omega)
  unfold ast
  rw [if_neg (by rw [h2]; intro q; rcases q with q | q; exact h1 q; omega), h2]
theorem mput_at (M : Mem) (t k : Nat) (x : Int32) (a b : Nat) : (mput M t k x).1 a b = if a = t ∧ b = k then x else M.1 a b := rfl
theorem mput_2 (M : Mem) (t k : Nat) (x : Int32) : (mput M t k x).2 = M.2 := rfl
theorem mem_ext {M N : Mem} (h1 : ∀ a b, M.1 a b = N.1 a b) (h2 : M.2 = N.2) : M = N := by
  obtain ⟨m1, m2⟩ := M
  obtain ⟨k1, k2⟩ := N
  dsimp only at h1 h2
  subst h2
  have : m1 = k1 := by funext a b; exact h1 a b
  rw [this]
/-- a table's first c rows, copied from another -/
def cpT (t o w c : Nat) (M : Mem) : Mem := (fun q b => if t + 2 ≤ q ∧ q < t + 2 + w ∧ b < c then M.1 (o + (q - t)) b else M.1 q b, M.2)
theorem acp_n {M : Mem} {a na d nd c : Nat} (h1 : c ≤ na) (h2 : c ≤ nd) (hc : c < 2 ^ 31) : acp M a na d nd 0 0 (nI c) = some (mcpy M a d 0 0 c) := by
  have e0 : (0 : Int32).toNatClampNeg = 0 := by decide
  have h3 := mI_nn (a := c) hc
  unfold acp
  rw [if_neg (by
    rw [e0, nI_nat hc]
    rintro (q | q | q | q | q)
    · exact absurd q (by decide)
    · exact absurd q (by decide)
    · exact h3 q
    · omega
    · omega), e0, nI_nat hc]
theorem X7_copy_loop {t o w r c : Nat} (hw : w < 1000) (hcr : c ≤ r) (hr : r < 2 ^ 31) (hd : o + 2 + w ≤ t + 2 ∨ t + 2 + w ≤ o + 2) : ∀ (k j n : Nat) (M : Mem), j + k = w → k < n → lX7_copyFrom_36 t w r o w r (nI c) n (nI j) M = some (fun q b => if t + 2 + j ≤ q ∧ q < t + 2 + w ∧ b < c then M.1 (o + (q - t)) b else M.1 q b, M.2) := by
  intro k
  induction k with
  | zero =>
    intro j n M h1 h2
    obtain ⟨n, rfl⟩ : ∃ n', n = n' + 1 := ⟨n - 1, by omega⟩
    unfold lX7_copyFrom_36
    rw [if_pos ((mI_le (by omega) (by omega)).mpr (by omega))]
    congr 1
    refine mem_ext (fun a b => ?_) rfl
    show M.1 a b = if _ then _ else _
    rw [if_neg (by omega)]
  | succ k ih =>
    intro j n M h1 h2
    obtain ⟨n, rfl⟩ : ∃ n', n = n' + 1 := ⟨n - 1, by omega⟩
    unfold lX7_copyFrom_36
    have hj := nI_nat (n := j) (by omega)
    have hv : ¬ (nI j < 0 ∨ w ≤ (nI j).toNatClampNeg) := by
      rw [hj]; rintro (q | q)
      · exact mI_nn (by omega) q
      · omega
    rw [if_neg (fun q => by rw [mI_le (by omega) (by omega)] at q; omega), if_neg hv, if_neg hv, hj, acp_n hcr hcr (by omega)]
    rw [Option.bind_some, show nI j + 1 = nI (j + 1) from nI_ad j 1, ih (j + 1) n _ (by omega) (by omega)]
    congr 1
    refine mem_ext (fun a b => ?_) rfl
    simp only [mcpy]
    by_cases h3 : a = t + (2 + j)
    · subst h3
      by_cases h4 : b < c
      · rw [if_neg (by omega), if_pos rfl, if_pos ⟨by omega, by omega, h4⟩]
        simp [va_cpy, h4]
      · rw [if_neg (by omega), if_pos rfl, if_neg (by omega)]
        simp [va_cpy, h4]
    · by_cases h4 : t + 2 + (j + 1) ≤ a ∧ a < t + 2 + w ∧ b < c
      · rw [if_pos h4, if_neg (show ¬ (o + (a - t) = t + (2 + j)) by omega), if_pos (show t + 2 + j ≤ a ∧ a < t + 2 + w ∧ b < c from ⟨by omega, h4.2.1, h4.2.2⟩)]
      · rw [if_neg h4, if_neg h3, if_neg (by omega)]
theorem X7_copy {t o w r c : Nat} {M : Mem} (hw : w < 1000) (hcr : c ≤ r) (hr : r < 2 ^ 31) (hd : o + 2 + w ≤ t + 2 ∨ t + 2 + w ≤ o + 2) : fX7_copyFrom t w r o w r (nI c) M = some (cpT t o w c M) := by
  unfold fX7_copyFrom
  rw [if_neg (mI_nn (by omega)), if_neg (fun q => by rw [mI_lt (by omega) (by omega)] at q; omega), if_neg (fun q => by rw [mI_lt (by omega) (by omega)] at q; omega), if_pos rfl]
  rw [show (0 : Int32) = nI 0 from rfl, X7_copy_loop hw hcr hr hd w 0 FUEL M (by omega) (by unfold FUEL; omega)]
  rfl
def ov (P : Nat → Nat → Bool) (v u : Nat) (M : Mem) : Mem := (fun q c => if P q c = true then M.1 (u + (q - v)) c else M.1 q c, M.2)
def Inv (P : Nat → Nat → Bool) (v : Nat) : Prop := ∀ q c, P q c = true → v ≤ q ∧ q < v + 32
def Apart (v u : Nat) : Prop := u + 32 ≤ v ∨ v + 32 ≤ u
def P0 : Nat → Nat → Bool := fun _ _ => false
def Pc (P : Nat → Nat → Bool) (q c : Nat) : Nat → Nat → Bool := fun a b => P a b || (decide (a = q) && decide (b = c))
def Pt' (P : Nat → Nat → Bool) (t w c : Nat) : Nat → Nat → Bool := fun a b => P a b || (decide (t + 2 ≤ a) && (decide (a < t + 2 + w) && decide (b < c)))
theorem ov_0 (v u : Nat) (M : Mem) : ov P0 v u M = M := rfl
theorem Inv_0 (v : Nat) : Inv P0 v := fun q c h => by cases h
theorem Inv_c {P : Nat → Nat → Bool} {v a c : Nat} (h : Inv P v) (ha : a < 32) : Inv (Pc P (v + a) c) v := by
  intro q b hq
  simp only [Pc, Bool.or_eq_true, Bool.and_eq_true, decide_eq_true_eq] at hq
  rcases hq with hq | hq
  · exact h q b hq
  · omega
theorem Inv_t {P : Nat → Nat → Bool} {v a w c : Nat} (h : Inv P v) (ha : a + 2 + w ≤ 32) : Inv (Pt' P (v + a) w c) v := by
  intro q b hq
  simp only [Pt', Bool.or_eq_true, Bool.and_eq_true, decide_eq_true_eq] at hq
  rcases hq with hq | hq
  · exact h q b hq
  · omega
theorem ov_src {P : Nat → Nat → Bool} {v u a b : Nat} {M : Mem} (h : Inv P v) (hd : Apart v u) (ha : a < 32) : (ov P v u M).1 (u + a) b = M.1 (u + a) b := by
  show (if P (u + a) b = true then _ else _) = _
  rw [if_neg (fun hq => by
    have := h _ _ hq
    unfold Apart at hd
    omega)]
theorem ov_pf {P : Nat → Nat → Bool} {v u a c : Nat} {M : Mem} (h : Inv P v) (hd : Apart v u) (ha : a < 32) : mput (ov P v u M) (v + a) c ((ov P v u M).1 (u + a) c) = ov (Pc P (v + a) c) v u M := by
  rw [ov_src h hd ha]
  refine mem_ext (fun q b => ?_) rfl
  rw [mput_at]
  show _ = if Pc P (v + a) c q b = true then _ else _
  by_cases h1 : q = v + a ∧ b = c
  · rw [if_pos h1, if_pos (by simp [Pc, h1])]
    rw [h1.1, h1.2, show u + (v + a - v) = u + a by omega]
  · rw [if_neg h1]
    show (if P q b = true then _ else _) = _
    by_cases h2 : P q b = true
    · rw [if_pos h2, if_pos (by simp [Pc, h2])]
    · rw [if_neg h2, if_neg (by
        simp only [Pc, Bool.or_eq_true, Bool.and_eq_true, decide_eq_true_eq]
        rintro (q1 | q1)
        · exact h2 q1
        · exact h1 q1)]
theorem ov_cpT {P : Nat → Nat → Bool} {v u a w c : Nat} {M : Mem} (h : Inv P v) (hd : Apart v u) (ha : a + 2 + w ≤ 32) : cpT (v + a) (u + a) w c (ov P v u M) = ov (Pt' P (v + a) w c) v u M := by
  refine mem_ext (fun q b => ?_) rfl
  show (if v + a + 2 ≤ q ∧ q < v + a + 2 + w ∧ b < c then (ov P v u M).1 (u + a + (q - (v + a))) b else (ov P v u M).1 q b) = if Pt' P (v + a) w c q b = true then _ else _
  by_cases h1 : v + a + 2 ≤ q ∧ q < v + a + 2 + w ∧ b < c
  · rw [if_pos h1, if_pos (by simp [Pt', h1])]
    rw [show u + a + (q - (v + a)) = u + (q - v) by omega, ov_src h hd (by omega)]
  · rw [if_neg h1]
    show (if P q b = true then _ else _) = _
    by_cases h2 : P q b = true
    · rw [if_pos h2, if_pos (by simp [Pt', h2])]
    · rw [if_neg h2, if_neg (by
        simp only [Pt', Bool.or_eq_true, Bool.and_eq_true, decide_eq_true_eq]
        rintro (q1 | q1)
        · exact h2 q1
        · exact h1 q1)]
def PV (v h b g k : Nat) : Nat → Nat → Bool := Pc (Pc (Pc (Pc (Pc (Pc (Pt' (Pc (Pt' (Pc (Pt' (Pc (Pt' P0 (v + 2) 4 h) (v + 1) 1) (v + 9) 3 b) (v + 8) 1) (v + 15) 5 g) (v + 14) 1) (v + 23) 7 k) (v + 22) 1) (v + 22) 2) (v + 0) 4) (v + 0) 5) (v + 0) 6) (v + 0) 7
/-- how many of the loaves are kept -/
def kept (x : Int32) : Int32 := if (200 : Int32) < x then 200 else x
theorem X9_copy {v u h b g k : Nat} {M : Mem} (hd : Apart v u) (h1 : M.1 (u + 1) 1 = nI h) (h2 : h ≤ 8) (b1 : M.1 (u + 8) 1 = nI b) (b2 : b ≤ 20) (g1 : M.1 (u + 14) 1 = nI g) (g2 : g ≤ 20) (k1 : kept (M.1 (u + 22) 1) = nI k) (k2 : k ≤ 200) : fX9_copyFrom v u M = some (ov (PV v h b g k) v u M) := by
  have hA : ∀ {x w : Nat}, x + 2 + w ≤ 32 → u + x + 2 + w ≤ v + x + 2 ∨ v + x + 2 + w ≤ u + x + 2 := by intro x w hx; unfold Apart at hd; omega
  have i0 := Inv_0 v
  have i1 := Inv_t (a := 2) (w := 4) (c := h) i0 (by omega)
  have i2 := Inv_c (a := 1) (c := 1) i1 (by omega)
  have i3 := Inv_t (a := 9) (w := 3) (c := b) i2 (by omega)
  have i4 := Inv_c (a := 8) (c := 1) i3 (by omega)
  have i5 := Inv_t (a := 15) (w := 5) (c := g) i4 (by omega)
  have i6 := Inv_c (a := 14) (c := 1) i5 (by omega)
  have i7 := Inv_t (a := 23) (w := 7) (c := k) i6 (by omega)
  have i8 := Inv_c (a := 22) (c := 1) i7 (by omega)
  have i9 := Inv_c (a := 22) (c := 2) i8 (by omega)
  have i10 := Inv_c (a := 0) (c := 4) i9 (by omega)
  have i11 := Inv_c (a := 0) (c := 5) i10 (by omega)
  have i12 := Inv_c (a := 0) (c := 6) i11 (by omega)
  have s1 : fX4_copyFrom (v + 1) (u + 1) M = some (ov (Pc (Pt' P0 (v + 2) 4 h) (v + 1) 1) v u M) := by
    unfold fX4_copyFrom
    rw [h1, X7_copy (by omega) h2 (by omega) (hA (x := 2) (w := 4) (by omega)), Option.bind_some]
    have e := ov_cpT (M := M) (a := 2) (w := 4) (c := h) i0 hd (by omega)
    rw [ov_0] at e
    rw [show v + 1 + 1 = v + 2 from rfl, show u + 1 + 1 = u + 2 from rfl, e]
    unfold pf
    rw [Option.bind_some, ov_pf (a := 1) i1 hd (by omega)]
  have s2 : fX1_copyFrom (v + 8) (u + 8) (ov (Pc (Pt' P0 (v + 2) 4 h) (v + 1) 1) v u M) = some (ov (Pc (Pt' (Pc (Pt' P0 (v + 2) 4 h) (v + 1) 1) (v + 9) 3 b) (v + 8) 1) v u M) := by
    unfold fX1_copyFrom
    rw [ov_src (a := 8) i2 hd (by omega), b1, X7_copy (by omega) b2 (by omega) (hA (x := 9) (w := 3) (by omega)), Option.bind_some]
    rw [show v + 8 + 1 = v + 9 from rfl, show u + 8 + 1 = u + 9 from rfl, ov_cpT (a := 9) i2 hd (by omega)]
    unfold pf
    rw [Option.bind_some, ov_pf (a := 8) i3 hd (by omega)]
  have s3 : fX5_copyFrom (v + 14) (u + 14) (ov (Pc (Pt' (Pc (Pt' P0 (v + 2) 4 h) (v + 1) 1) (v + 9) 3 b) (v + 8) 1) v u M) = some (ov (Pc (Pt' (Pc (Pt' (Pc (Pt' P0 (v + 2) 4 h) (v + 1) 1) (v + 9) 3 b) (v + 8) 1) (v + 15) 5 g) (v + 14) 1) v u M) := by
    unfold fX5_copyFrom
    rw [ov_src (a := 14) i4 hd (by omega), g1, X7_copy (by omega) g2 (by omega) (hA (x := 15) (w := 5) (by omega)), Option.bind_some]
    rw [show v + 14 + 1 = v + 15 from rfl, show u + 14 + 1 = u + 15 from rfl, ov_cpT (a := 15) i4 hd (by omega)]
    unfold pf
    rw [Option.bind_some, ov_pf (a := 14) i5 hd (by omega)]
  have s4 : fX6_copyFrom (v + 22) (u + 22) (ov (Pc (Pt' (Pc (Pt' (Pc (Pt' P0 (v + 2) 4 h) (v + 1) 1) (v + 9) 3 b) (v + 8) 1) (v + 15) 5 g) (v + 14) 1) v u M) = some (ov (Pc (Pc (Pt' (Pc (Pt' (Pc (Pt' (Pc (Pt' P0 (v + 2) 4 h) (v + 1) 1) (v + 9) 3 b) (v + 8) 1) (v + 15) 5 g) (v + 14) 1) (v + 23) 7 k) (v + 22) 1) (v + 22) 2) v u M) := by
    unfold fX6_copyFrom fX6_kept
    rw [ov_src (a := 22) i6 hd (by omega), Option.bind_some, show (if (200 : Int32) < M.1 (u + 22) 1 then (200 : Int32) else M.1 (u + 22) 1) = nI k from k1, X7_copy (by omega) k2 (by omega) (hA (x := 23) (w := 7) (by omega)), Option.bind_some]
    rw [show v + 22 + 1 = v + 23 from rfl, show u + 22 + 1 = u + 23 from rfl, ov_cpT (a := 23) i6 hd (by omega)]
    unfold pf
    rw [Option.bind_some, ov_pf (a := 22) i7 hd (by omega), Option.bind_some, ov_pf (a := 22) i8 hd (by omega)]
  unfold fX9_copyFrom
  rw [s1, Option.bind_some, s2, Option.bind_some, s3, Option.bind_some, s4, Option.bind_some]
  unfold pf
  have e4 := ov_pf (M := M) (a := 0) (c := 4) i9 hd (by omega)
  have e5 := ov_pf (M := M) (a := 0) (c := 5) i10 hd (by omega)
  have e6 := ov_pf (M := M) (a := 0) (c := 6) i11 hd (by omega)
  have e7 := ov_pf (M := M) (a := 0) (c := 7) i12 hd (by omega)
  simp only [Nat.add_zero] at e4 e5 e6 e7 ⊢
  rw [Option.bind_some, e4, Option.bind_some, e5, Option.bind_some, e6, Option.bind_some, e7]
  rfl
def RVn (M : Mem) (v : Nat) (row : Nat → Int32) (h b g c : Nat) : Prop :=
  (h ≤ 8 ∧ b ≤ 20 ∧ g ≤ 20 ∧ c < 2 ^ 30) ∧
  (M.1 (v + 1) 1 = nI h ∧ M.1 (v + 8) 1 = nI b ∧ M.1 (v + 14) 1 = nI g ∧ M.1 (v + 22) 1 = nI c) ∧
  (row 0 = nI h ∧ row 7 = nI b ∧ row 8 = nI g ∧ row 5 = nI c) ∧
  (M.1 (v + 0) 4 = row 2 ∧ M.1 (v + 0) 5 = row 1 ∧ M.1 (v + 0) 6 = row 3 ∧ M.1 (v + 0) 7 = row 4 ∧ M.1 (v + 22) 2 = row 6) ∧
  (∀ i k, i < h → k < 4 → M.1 (v + (4 + k)) i = row (9 + 4 * i + k)) ∧
  (∀ i k, i < b → k < 3 → M.1 (v + (11 + k)) i = row (41 + 3 * i + k)) ∧
  (∀ i k, i < g → k < 5 → M.1 (v + (17 + k)) i = row (101 + 5 * i + k)) ∧
  (∀ i k, i < c → i < 200 → k < 7 → M.1 (v + (25 + k)) i = row (201 + 7 * i + k))
def RV (M : Mem) (v : Nat) (row : Nat → Int32) : Prop := ∃ h b g c, RVn M v row h b g c
theorem RVn.mem {M M' : Mem} {v : Nat} {row : Nat → Int32} {h b g c : Nat} (H : RVn M v row h b g c) (hM : ∀ a x, a < 32 → M'.1 (v + a) x = M.1 (v + a) x) : RVn M' v row h b g c := by
  obtain ⟨h1, h2, h3, h4, h5, h6, h7, h8⟩ := H
  refine ⟨h1, ?_, h3, ?_, fun i k hi hk => ?_, fun i k hi hk => ?_, fun i k hi hk => ?_, fun i k hi hj hk => ?_⟩
  · rw [hM 1 1 (by omega), hM 8 1 (by omega), hM 14 1 (by omega), hM 22 1 (by omega)]; exact h2
  · rw [hM 0 4 (by omega), hM 0 5 (by omega), hM 0 6 (by omega), hM 0 7 (by omega), hM 22 2 (by omega)]; exact h4
  · rw [hM _ _ (by omega)]; exact h5 i k hi hk
  · rw [hM _ _ (by omega)]; exact h6 i k hi hk
  · rw [hM _ _ (by omega)]; exact h7 i k hi hk
  · rw [hM _ _ (by omega)]; exact h8 i k hi hj hk
theorem RVn.row {M : Mem} {v : Nat} {row row' : Nat → Int32} {h b g c : Nat} (H : RVn M v row h b g c) (hr : ∀ k, k < 1601 → row' k = row k) : RVn M v row' h b g c := by
  obtain ⟨h1, h2, h3, h4, h5, h6, h7, h8⟩ := H
  refine ⟨h1, h2, ?_, ?_, fun i k hi hk => ?_, fun i k hi hk => ?_, fun i k hi hk => ?_, fun i k hi hj hk => ?_⟩
  · rw [hr 0 (by omega), hr 7 (by omega), hr 8 (by omega), hr 5 (by omega)]; exact h3
  · rw [hr 2 (by omega), hr 1 (by omega), hr 3 (by omega), hr 4 (by omega), hr 6 (by omega)]; exact h4
  · rw [hr _ (by omega)]; exact h5 i k hi hk
  · rw [hr _ (by omega)]; exact h6 i k hi hk
  · rw [hr _ (by omega)]; exact h7 i k hi hk
  · rw [hr _ (by omega)]; exact h8 i k hi hj hk
theorem RVn.val {M M' : Mem} {v u : Nat} {row : Nat → Int32} {h b g c : Nat} (H : RVn M u row h b g c)
    (e1 : M'.1 (v + 1) 1 = M.1 (u + 1) 1) (e2 : M'.1 (v + 8) 1 = M.1 (u + 8) 1) (e3 : M'.1 (v + 14) 1 = M.1 (u + 14) 1) (e4 : M'.1 (v + 22) 1 = M.1 (u + 22) 1) (e5 : M'.1 (v + 22) 2 = M.1 (u + 22) 2) (e6 : ∀ x, 4 ≤ x → x < 8 → M'.1 (v + 0) x = M.1 (u + 0) x)
    (e7 : ∀ i k, i < h → k < 4 → M'.1 (v + (4 + k)) i = M.1 (u + (4 + k)) i) (e8 : ∀ i k, i < b → k < 3 → M'.1 (v + (11 + k)) i = M.1 (u + (11 + k)) i) (e9 : ∀ i k, i < g → k < 5 → M'.1 (v + (17 + k)) i = M.1 (u + (17 + k)) i) (e10 : ∀ i k, i < c → i < 200 → k < 7 → M'.1 (v + (25 + k)) i = M.1 (u + (25 + k)) i) : RVn M' v row h b g c := by
  obtain ⟨h1, h2, h3, h4, h5, h6, h7, h8⟩ := H
  refine ⟨h1, ?_, h3, ?_, fun i k hi hk => ?_, fun i k hi hk => ?_, fun i k hi hk => ?_, fun i k hi hj hk => ?_⟩
  · rw [e1, e2, e3, e4]; exact h2
  · rw [e6 4 (by omega) (by omega), e6 5 (by omega) (by omega), e6 6 (by omega) (by omega), e6 7 (by omega) (by omega), e5]; exact h4
  · rw [e7 i k hi hk]; exact h5 i k hi hk
  · rw [e8 i k hi hk]; exact h6 i k hi hk
  · rw [e9 i k hi hk]; exact h7 i k hi hk
  · rw [e10 i k hi hj hk]; exact h8 i k hi hj hk
theorem ov_at {P : Nat → Nat → Bool} {v u a x : Nat} {M : Mem} (h : P (v + a) x = true) : (ov P v u M).1 (v + a) x = M.1 (u + a) x := by
  show (if P (v + a) x = true then _ else _) = _
  rw [if_pos h, show u + (v + a - v) = u + a by omega]
theorem pc_l {P : Nat → Nat → Bool} {q c a x : Nat} (h : P a x = true) : Pc P q c a x = true := by simp [Pc, h]
theorem pc_r {P : Nat → Nat → Bool} {q c : Nat} : Pc P q c q c = true := by simp [Pc]
theorem pt_l {P : Nat → Nat → Bool} {t w c a x : Nat} (h : P a x = true) : Pt' P t w c a x = true := by simp [Pt', h]
theorem pt_r {P : Nat → Nat → Bool} {t w c a x : Nat} (h : t + 2 ≤ a ∧ a < t + 2 + w ∧ x < c) : Pt' P t w c a x = true := by simp [Pt', h]
theorem PV_inv {v h b g k : Nat} : Inv (PV v h b g k) v :=
  Inv_c (a := 0) (Inv_c (a := 0) (Inv_c (a := 0) (Inv_c (a := 0) (Inv_c (a := 22) (Inv_c (a := 22) (Inv_t (a := 23) (Inv_c (a := 14) (Inv_t (a := 15) (Inv_c (a := 8) (Inv_t (a := 9) (Inv_c (a := 1) (Inv_t (a := 2) (Inv_0 v) (by omega)) (by omega)) (by omega)) (by omega)) (by omega)) (by omega)) (by omega)) (by omega)) (by omega)) (by omega)) (by omega)) (by omega)) (by omega)
theorem PV_out {v h b g k q x : Nat} (hq : q < v ∨ v + 32 ≤ q) : ¬ PV v h b g k q x = true := fun h => by
  have := PV_inv q x h
  omega
theorem kept_n {c : Nat} (hc : c < 2 ^ 30) : kept (nI c) = nI (min c 200) := by
  unfold kept
  rw [show (200 : Int32) = nI 200 from rfl]
  by_cases h : 200 < c
  · rw [if_pos ((mI_lt (by omega) (by omega)).mpr h), Nat.min_eq_right (by omega)]
  · rw [if_neg (fun q => h ((mI_lt (by omega) (by omega)).mp q)), Nat.min_eq_left (by omega)]
/-- a village copied holds what the other holds; nothing else moves -/
theorem rv_copy {M : Mem} {v u : Nat} {row : Nat → Int32} {h b g c : Nat} (hd : Apart v u) (H : RVn M u row h b g c) : ∃ M', fX9_copyFrom v u M = some M' ∧ RVn M' v row h b g c ∧ (∀ q x, q < v ∨ v + 32 ≤ q → M'.1 q x = M.1 q x) ∧ M'.2 = M.2 := by
  have H2 := H
  obtain ⟨⟨r1, r2, r3, r4⟩, ⟨c1, c2, c3, c4⟩, -⟩ := H2
  refine ⟨_, X9_copy hd c1 r1 c2 r2 c3 r3 (by rw [c4]; exact kept_n r4) (Nat.min_le_right _ _), ?_, fun q x hq => ?_, rfl⟩
  · exact H.val (ov_at (pc_l (pc_l (pc_l (pc_l (pc_l (pc_l (pt_l (pc_l (pt_l (pc_l (pt_l (pc_r))))))))))))) (ov_at (pc_l (pc_l (pc_l (pc_l (pc_l (pc_l (pt_l (pc_l (pt_l (pc_r))))))))))) (ov_at (pc_l (pc_l (pc_l (pc_l (pc_l (pc_l (pt_l (pc_r))))))))) (ov_at (pc_l (pc_l (pc_l (pc_l (pc_l (pc_r))))))) (ov_at (pc_l (pc_l (pc_l (pc_l (pc_r))))))
      (fun x h1 h2 => ov_at (by
        rcases (show x = 4 ∨ x = 5 ∨ x = 6 ∨ x = 7 by omega) with rfl | rfl | rfl | rfl
        · exact pc_l (pc_l (pc_l (pc_r)))
        · exact pc_l (pc_l (pc_r))
        · exact pc_l (pc_r)
        · exact pc_r))
      (fun i k hi hk => ov_at (pc_l (pc_l (pc_l (pc_l (pc_l (pc_l (pt_l (pc_l (pt_l (pc_l (pt_l (pc_l (pt_r ⟨by omega, by omega, hi⟩)))))))))))))) (fun i k hi hk => ov_at (pc_l (pc_l (pc_l (pc_l (pc_l (pc_l (pt_l (pc_l (pt_l (pc_l (pt_r ⟨by omega, by omega, hi⟩)))))))))))) (fun i k hi hk => ov_at (pc_l (pc_l (pc_l (pc_l (pc_l (pc_l (pt_l (pc_l (pt_r ⟨by omega, by omega, hi⟩)))))))))) (fun i k hi hj hk => ov_at (pc_l (pc_l (pc_l (pc_l (pc_l (pc_l (pt_r ⟨by omega, by omega, Nat.lt_min.mpr ⟨hi, hj⟩⟩))))))))
  · show (if PV v h b g (min c 200) q x = true then _ else _) = _
    rw [if_neg (PV_out hq)]
/-- the undo stack, latest l, s of it, against the rows of the past -/
def URn (M : Mem) (past : Nat → Nat → Int32) (s l : Nat) : Prop :=
  s ≤ 4 ∧ l < 4 ∧ M.1 45 2 = nI s ∧ M.1 45 1 = nI l ∧ ∀ i, i < s → RV M (47 + 32 * ((l + 4 - i) % 4)) (past (s - 1 - i))
theorem push_unf {M : Mem} {l : Nat} (hl : l < 4) (h : M.1 45 1 = nI l) : fX8_push 1 M = (fX9_copyFrom (47 + 32 * ((l + 1) % 4)) 1 (mput M 45 1 (nI ((l + 1) % 4)))).bind fun M11 => some (mput M11 45 2 (if M11.1 45 2 + 1 < 4 then M11.1 45 2 + 1 else 4)) := by
  rcases (show l = 0 ∨ l = 1 ∨ l = 2 ∨ l = 3 by omega) with rfl | rfl | rfl | rfl
  · unfold fX8_push
    rw [h, show nI 0 + (1 : Int32) = nI 1 from by decide, if_neg (by decide), Option.bind_some]
    unfold pf
    rw [Option.bind_some, mput_at, if_pos ⟨rfl, rfl⟩, show fX8_stateAt (nI 1) (mput M 45 1 (nI 1)) = some (some 79) from by unfold fX8_stateAt; rw [if_neg (by decide), if_neg (by decide), if_neg (by decide)]; rfl, Option.bind_some]
    show (if ¬ lay[79]? = some (tK 9) then none else _) = _
    rw [if_neg (by decide)]
    rfl
  · unfold fX8_push
    rw [h, show nI 1 + (1 : Int32) = nI 2 from by decide, if_neg (by decide), Option.bind_some]
    unfold pf
    rw [Option.bind_some, mput_at, if_pos ⟨rfl, rfl⟩, show fX8_stateAt (nI 2) (mput M 45 1 (nI 2)) = some (some 111) from by unfold fX8_stateAt; rw [if_neg (by decide), if_neg (by decide), if_neg (by decide)]; rfl, Option.bind_some]
    show (if ¬ lay[111]? = some (tK 9) then none else _) = _
    rw [if_neg (by decide)]
    rfl
  · unfold fX8_push
    rw [h, show nI 2 + (1 : Int32) = nI 3 from by decide, if_neg (by decide), Option.bind_some]
    unfold pf
    rw [Option.bind_some, mput_at, if_pos ⟨rfl, rfl⟩, show fX8_stateAt (nI 3) (mput M 45 1 (nI 3)) = some (some 143) from by unfold fX8_stateAt; rw [if_neg (by decide), if_neg (by decide), if_neg (by decide)]; rfl, Option.bind_some]
    show (if ¬ lay[143]? = some (tK 9) then none else _) = _
    rw [if_neg (by decide)]
    rfl
  · unfold fX8_push
    rw [h, show nI 3 + (1 : Int32) = nI 4 from by decide, if_pos (by decide), Option.bind_some]
    unfold pf
    rw [Option.bind_some, mput_at, if_pos ⟨rfl, rfl⟩, show fX8_stateAt (0 : Int32) (mput M 45 1 (0 : Int32)) = some (some 47) from by unfold fX8_stateAt; rw [if_neg (by decide), if_neg (by decide), if_neg (by decide)]; rfl, Option.bind_some]
    show (if ¬ lay[47]? = some (tK 9) then none else _) = _
    rw [if_neg (by decide)]
    rfl
/-- a state pushed -/
theorem push_eq {M : Mem} {past : Nat → Nat → Int32} {row : Nat → Int32} {s l h b g c : Nat} (U : URn M past s l) (H : RVn M 1 row h b g c) : ∃ M1, fX8_push 1 M = some M1 ∧ RVn M1 1 row h b g c ∧ URn M1 (fun i => if s = 4 then (if i = 3 then row else past (i + 1)) else (if i = s then row else past i)) (min 4 (s + 1)) ((l + 1) % 4) ∧ (∀ q x, q < 45 ∨ 175 ≤ q → M1.1 q x = M.1 q x) ∧ M1.2 = M.2 := by
  obtain ⟨hs, hl, hc, hl1, hU⟩ := U
  have hl2 : (l + 1) % 4 < 4 := Nat.mod_lt _ (by omega)
  have H' : RVn (mput M 45 1 (nI ((l + 1) % 4))) 1 row h b g c := H.mem fun a x ha => by rw [mput_at, if_neg (by omega)]
  obtain ⟨M', e, H1, hF, h2⟩ := rv_copy (v := 47 + 32 * ((l + 1) % 4)) (show Apart _ 1 by unfold Apart; omega) H'
  have hc' : M'.1 45 2 = nI s := by rw [hF 45 2 (by omega), mput_at, if_neg (by omega)]; exact hc
  have hcc : (if M'.1 45 2 + 1 < 4 then M'.1 45 2 + 1 else (4 : Int32)) = nI (min 4 (s + 1)) := by
    rw [hc', show nI s + (1 : Int32) = nI (s + 1) from nI_ad s 1, show (4 : Int32) = nI 4 from rfl]
    by_cases h3 : s + 1 < 4
    · rw [if_pos ((mI_lt (by omega) (by omega)).mpr h3), Nat.min_eq_right (by omega)]
    · rw [if_neg (fun q => h3 ((mI_lt (by omega) (by omega)).mp q)), Nat.min_eq_left (by omega)]
  refine ⟨mput M' 45 2 (nI (min 4 (s + 1))), by rw [push_unf hl hl1, e, Option.bind_some, hcc], ?_, ⟨Nat.min_le_left _ _, hl2, ?_, ?_, fun i hi => ?_⟩, fun q x hq => ?_, h2⟩
  · exact H'.mem fun a x ha => by rw [mput_at, if_neg (by omega), hF _ _ (by omega)]
  · rw [mput_at, if_pos ⟨rfl, rfl⟩]
  · rw [mput_at, if_neg (by omega), hF 45 1 (by omega), mput_at, if_pos ⟨rfl, rfl⟩]
  · have hi2 : i < 4 := Nat.lt_of_lt_of_le hi (Nat.min_le_left _ _)
    have hi3 : i < s + 1 := Nat.lt_of_lt_of_le hi (Nat.min_le_right _ _)
    by_cases h0 : i = 0
    · subst h0
      have ep : (fun i => if s = 4 then (if i = 3 then row else past (i + 1)) else (if i = s then row else past i)) (min 4 (s + 1) - 1 - 0) = row := by
        by_cases h4 : s = 4
        · subst h4; rfl
        · show (if s = 4 then _ else _) = _
          rw [if_neg h4, Nat.min_eq_right (by omega), if_pos (by omega)]
      rw [ep, show ((l + 1) % 4 + 4 - 0) % 4 = (l + 1) % 4 by omega]
      exact ⟨h, b, g, c, H1.mem fun a x ha => by rw [mput_at, if_neg (by omega)]⟩
    · have hlt : i - 1 < s := by omega
      obtain ⟨h', b', g', c', HU⟩ := hU (i - 1) hlt
      have ep : (fun i => if s = 4 then (if i = 3 then row else past (i + 1)) else (if i = s then row else past i)) (min 4 (s + 1) - 1 - i) = past (s - 1 - (i - 1)) := by
        by_cases h4 : s = 4
        · subst h4
          show (if (4 : Nat) = 4 then (if min 4 5 - 1 - i = 3 then row else past (min 4 5 - 1 - i + 1)) else _) = _
          rw [if_pos rfl, if_neg (by omega), show min 4 5 - 1 - i + 1 = 4 - 1 - (i - 1) by omega]
        · show (if s = 4 then _ else _) = _
          rw [if_neg h4, Nat.min_eq_right (by omega), if_neg (by omega), show s + 1 - 1 - i = s - 1 - (i - 1) by omega]
      rw [ep, show ((l + 1) % 4 + 4 - i) % 4 = (l + 4 - (i - 1)) % 4 by omega]
      refine ⟨h', b', g', c', HU.mem fun a x ha => ?_⟩
      rw [mput_at, if_neg (by omega), hF _ _ (by omega), mput_at, if_neg (by omega)]
  · rw [mput_at, if_neg (by omega), hF _ _ (by omega), mput_at, if_neg (by omega)]
def pastOf (M : Mem) : Nat → Nat → Int32 := fun i k => M.1 180 (1601 * i + k)
theorem URn.row {M : Mem} {past past' : Nat → Nat → Int32} {s l : Nat} (U : URn M past s l) (hp : ∀ i k, i < s → k < 1601 → past' i k = past i k) : URn M past' s l := by
  obtain ⟨hs, hl, hc, hl1, hU⟩ := U
  refine ⟨hs, hl, hc, hl1, fun i hi => ?_⟩
  obtain ⟨h, b, g, c, H⟩ := hU i hi
  exact ⟨h, b, g, c, H.row fun k hk => hp _ k (by omega) hk⟩
theorem URn.mem {M M' : Mem} {past : Nat → Nat → Int32} {s l : Nat} (U : URn M past s l) (hM : ∀ q x, 45 ≤ q → q < 175 → M'.1 q x = M.1 q x) : URn M' past s l := by
  obtain ⟨hs, hl, hc, hl1, hU⟩ := U
  have hl2 : ∀ i, (l + 4 - i) % 4 < 4 := fun i => Nat.mod_lt _ (by omega)
  refine ⟨hs, hl, by rw [hM 45 2 (by omega) (by omega)]; exact hc, by rw [hM 45 1 (by omega) (by omega)]; exact hl1, fun i hi => ?_⟩
  obtain ⟨h, b, g, c, H⟩ := hU i hi
  exact ⟨h, b, g, c, H.mem fun a x ha => hM _ _ (by omega) (by have := hl2 i; omega)⟩
/-- what a call leaves alone: stop, the plan, the text, the reference's other cells -/
def Keep (M M3 : Mem) : Prop := (∀ q x, q = 0 ∨ (175 ≤ q ∧ q < 178) ∨ 181 ≤ q → M3.1 q x = M.1 q x) ∧ (∀ x, x ≠ 3 → x ≠ 4 → M3.1 178 x = M.1 178 x)
theorem refuse_0 : fX11_refuse 0 = some (Sum.inr ()) := by
  unfold fX11_refuse; rw [if_neg (by decide), if_neg (by decide), if_neg (by decide)]
theorem refuse_k : fX11_refuse 1 = some (Sum.inl 1) ∧ fX11_refuse 2 = some (Sum.inl 2) ∧ fX11_refuse 3 = some (Sum.inl 3) := by
  refine ⟨rfl, ?_, ?_⟩
  · unfold fX11_refuse; rw [if_neg (by decide), if_pos rfl]
  · unfold fX11_refuse; rw [if_neg (by decide), if_neg (by decide), if_pos rfl]
theorem pop_unf {M : Mem} {l s : Nat} (hl : l < 4) (h : M.1 45 1 = nI l) (h2 : M.1 45 2 = nI s) (hs : 0 < s) (hs4 : s ≤ 4) : fX8_popInto 1 M = (fX9_copyFrom 1 (47 + 32 * l) M).bind fun M8 => (if M8.1 45 1 ≤ 0 then some (3 : Int32) else some (M8.1 45 1 - 1)).bind fun z10 => (pf M8 45 1 z10).bind fun M11 => (pf M11 45 2 (M11.1 45 2 - 1)).bind fun M13 => some (M13.1 45 2, M13) := by
  have hp : ¬ M.1 45 2 ≤ 0 := by rw [h2, show (0 : Int32) = nI 0 from rfl, mI_le (by omega) (by omega)]; omega
  rcases (show l = 0 ∨ l = 1 ∨ l = 2 ∨ l = 3 by omega) with rfl | rfl | rfl | rfl
  · unfold fX8_popInto
    rw [h, show fX8_stateAt (nI 0) M = some (some 47) from by unfold fX8_stateAt; rw [if_neg (by decide), if_neg (by decide), if_neg (by decide)]; rfl, Option.bind_some]
    show (if ¬ lay[47]? = some (tK 9) then none else (if M.1 45 2 ≤ 0 then _ else _)) = _
    rw [if_neg (by decide), if_neg hp]
  · unfold fX8_popInto
    rw [h, show fX8_stateAt (nI 1) M = some (some 79) from by unfold fX8_stateAt; rw [if_neg (by decide), if_neg (by decide), if_neg (by decide)]; rfl, Option.bind_some]
    show (if ¬ lay[79]? = some (tK 9) then none else (if M.1 45 2 ≤ 0 then _ else _)) = _
    rw [if_neg (by decide), if_neg hp]
  · unfold fX8_popInto
    rw [h, show fX8_stateAt (nI 2) M = some (some 111) from by unfold fX8_stateAt; rw [if_neg (by decide), if_neg (by decide), if_neg (by decide)]; rfl, Option.bind_some]
    show (if ¬ lay[111]? = some (tK 9) then none else (if M.1 45 2 ≤ 0 then _ else _)) = _
    rw [if_neg (by decide), if_neg hp]
  · unfold fX8_popInto
    rw [h, show fX8_stateAt (nI 3) M = some (some 143) from by unfold fX8_stateAt; rw [if_neg (by decide), if_neg (by decide), if_neg (by decide)]; rfl, Option.bind_some]
    show (if ¬ lay[143]? = some (tK 9) then none else (if M.1 45 2 ≤ 0 then _ else _)) = _
    rw [if_neg (by decide), if_neg hp]
theorem X7_get {t w r i k : Nat} {M : Mem} (hk : k < w) (hw : w < 1000) (hi : i < r) (hr : r < 2 ^ 31) : fX7_get t w r (nI i) (nI k) M = some (M.1 (t + (2 + k)) i) := by
  unfold fX7_get
  have hk2 := nI_nat (n := k) (by omega)
  rw [if_neg (mI_nn (by omega)), if_neg (fun q => by rw [mI_le (by omega) (by omega)] at q; omega), if_neg (mI_nn (by omega)), if_pos ((mI_lt (by omega) (by omega)).mpr hk), if_neg (by rw [hk2]; rintro (q | q); exact mI_nn (by omega) q; omega), hk2, ald_n hi hr]
  rfl
theorem X7_put {t w r i k : Nat} {M : Mem} {x : Int32} (hk : k < w) (hw : w < 1000) (hi : i < r) (hr : r < 2 ^ 31) : fX7_put t w r (nI i) (nI k) x M = some (mput M (t + (2 + k)) i x) := by
  unfold fX7_put
  have hk2 := nI_nat (n := k) (by omega)
  rw [if_neg (mI_nn (by omega)), if_neg (fun q => by rw [mI_le (by omega) (by omega)] at q; omega), if_neg (mI_nn (by omega)), if_neg (fun q => by rw [mI_le (by omega) (by omega)] at q; omega), if_neg (by rw [hk2]; rintro (q | q); exact mI_nn (by omega) q; omega), hk2, ast_n hi hr]
  rfl
theorem row_house (i k : Nat) : ((9 : Int32) + ((4 : Int32) * nI i)) + nI k = nI (9 + 4 * i + k) := by
  rw [show (9 : Int32) = nI 9 from rfl, show (4 : Int32) = nI 4 from rfl, nI_ml', nI_ad, nI_ad]
theorem who_c {M : Mem} {v h : Nat} (hc : M.1 (v + 1) 1 = nI h) (x : Int32) : fX9_whyNoHousehold v x M = some (if 0 ≤ x ∧ x < nI h then 0 else 1) := by
  unfold fX9_whyNoHousehold fX4_has
  rw [hc]
  by_cases h0 : x < 0
  · rw [if_pos h0, Option.bind_some, if_neg (by decide), if_neg (fun q => absurd q.1 (Int32.not_le.mpr h0))]
  · rw [if_neg h0]
    by_cases h1 : nI h ≤ x
    · rw [if_pos h1, Option.bind_some, if_neg (by decide), if_neg (fun q => absurd q.2 (Int32.not_lt.mpr h1))]
    · rw [if_neg h1, Option.bind_some, if_pos rfl, if_pos ⟨Int32.not_lt.mp h0, Int32.not_le.mp h1⟩]
/-- a household's number is a place -/
theorem who_n {x : Int32} {h : Nat} (hh : h ≤ 8) (H : 0 ≤ x ∧ x < nI h) : ∃ k, k < h ∧ x = nI k := by
  obtain ⟨e, hl⟩ := mI_of (Int32.not_lt.mpr H.1)
  refine ⟨_, ?_, e⟩
  have := H.2
  rw [e, mI_lt hl (by omega)] at this
  exact this
/-- a household's cell, changed on both sides -/
theorem RVn.setH {M M3 : Mem} {v : Nat} {row row3 : Nat → Int32} {h b g c : Nat} (H : RVn M v row h b g c) {i k : Nat} (hi : i < 8) (hk : k < 4) (x : Int32)
    (hc : ∀ a y, a < 32 → ¬ (a = 4 + k ∧ y = i) → M3.1 (v + a) y = M.1 (v + a) y) (hc1 : M3.1 (v + (4 + k)) i = x) (hr : ∀ j, j < 1601 → j ≠ 9 + 4 * i + k → row3 j = row j) (hr1 : row3 (9 + 4 * i + k) = x) : RVn M3 v row3 h b g c := by
  obtain ⟨a1, a2, a3, a4, a5, a6, a7, a8⟩ := H
  refine ⟨a1, ?_, ?_, ?_, fun i' k' hi' hk' => ?_, fun i' k' hi' hk' => ?_, fun i' k' hi' hk' => ?_, fun i' k' hi' hj' hk' => ?_⟩
  · rw [hc 1 1 (by omega) (by omega), hc 8 1 (by omega) (by omega), hc 14 1 (by omega) (by omega), hc 22 1 (by omega) (by omega)]; exact a2
  · rw [hr 0 (by omega) (by omega), hr 7 (by omega) (by omega), hr 8 (by omega) (by omega), hr 5 (by omega) (by omega)]; exact a3
  · rw [hc 0 4 (by omega) (by omega), hc 0 5 (by omega) (by omega), hc 0 6 (by omega) (by omega), hc 0 7 (by omega) (by omega), hc 22 2 (by omega) (by omega), hr 2 (by omega) (by omega), hr 1 (by omega) (by omega), hr 3 (by omega) (by omega), hr 4 (by omega) (by omega), hr 6 (by omega) (by omega)]
    exact a4
  · by_cases he : k' = k ∧ i' = i
    · obtain ⟨rfl, rfl⟩ := he
      rw [hc1, hr1]
    · rw [hc _ _ (by omega) (by omega), hr _ (by omega) (by omega)]; exact a5 i' k' hi' hk'
  · rw [hc _ _ (by omega) (by omega), hr _ (by omega) (by omega)]; exact a6 i' k' hi' hk'
  · rw [hc _ _ (by omega) (by omega), hr _ (by omega) (by omega)]; exact a7 i' k' hi' hk'
  · rw [hc _ _ (by omega) (by omega), hr _ (by omega) (by omega)]; exact a8 i' k' hi' hj' hk'
theorem mark_c {M : Mem} {v h : Nat} (hh : h ≤ 8) (hc : M.1 (v + 1) 1 = nI h) (x : Int32) : ∀ (k j n : Nat), j + k = h → k < n → (lX4_withMark_2 (v + 1) x M n (nI j) = some (Sum.inr ()) ∧ ∀ i, j ≤ i → i < h → M.1 (v + (4 + 0)) i ≠ x) ∨ ∃ i, j ≤ i ∧ i < h ∧ M.1 (v + (4 + 0)) i = x ∧ lX4_withMark_2 (v + 1) x M n (nI j) = some (Sum.inl (nI i)) ∧ ∀ i', j ≤ i' → i' < i → M.1 (v + (4 + 0)) i' ≠ x := by
  intro k
  induction k with
  | zero =>
    intro j n h1 h2
    obtain ⟨n, rfl⟩ : ∃ n', n = n' + 1 := ⟨n - 1, by omega⟩
    left
    unfold lX4_withMark_2
    rw [hc, if_pos ((mI_le (by omega) (by omega)).mpr (by omega))]
    exact ⟨rfl, fun i h3 h4 => absurd h4 (by omega)⟩
  | succ k ih =>
    intro j n h1 h2
    obtain ⟨n, rfl⟩ : ∃ n', n = n' + 1 := ⟨n - 1, by omega⟩
    have e : lX4_withMark_2 (v + 1) x M (n + 1) (nI j) = if M.1 (v + (4 + 0)) j = x then some (Sum.inl (nI j)) else lX4_withMark_2 (v + 1) x M n (nI (j + 1)) := by
      rw [lX4_withMark_2]
      rw [hc, if_neg (fun q => by rw [mI_le (by omega) (by omega)] at q; omega), show fX7_get (v + 1 + 1) 4 8 (nI j) 0 M = some (M.1 (v + 1 + 1 + (2 + 0)) j) from X7_get (k := 0) (by omega) (by omega) (by omega) (by omega), Option.bind_some, show nI j + (1 : Int32) = nI (j + 1) from nI_ad j 1]
    rw [e]
    by_cases hx : M.1 (v + (4 + 0)) j = x
    · right
      rw [if_pos hx]
      exact ⟨j, Nat.le_refl _, by omega, hx, rfl, fun i' h3 h4 => absurd h4 (by omega)⟩
    · rw [if_neg hx]
      rcases ih (j + 1) n (by omega) (by omega) with ⟨q1, q2⟩ | ⟨i, q1, q2, q3, q4, q5⟩
      · refine Or.inl ⟨q1, fun i h3 h4 => ?_⟩
        by_cases hi : i = j
        · rw [hi]; exact hx
        · exact q2 i (by omega) h4
      · refine Or.inr ⟨i, by omega, q2, q3, q4, fun i' h3 h4 => ?_⟩
        by_cases hi : i' = j
        · rw [hi]; exact hx
        · exact q5 i' (by omega) h4
theorem nI_m1 {i : Nat} (hi : i < 8) : ¬ nI i = (-1 : Int32) := by
  intro q
  have := congrArg Int32.toInt q
  rw [nI_int (by omega)] at this
  have h1 : (-1 : Int32).toInt = -1 := by decide
  omega
/-- a household is added -/
theorem add_c {M : Mem} {h : Nat} (hh : h < 8) (hc : M.1 2 1 = nI h) (x : Int32) : fX4_add 2 x M = some (nI h, mput (mput (mput (mput (mput M 5 h x) 6 h 0) 7 h 0) 8 h 0) 2 1 (nI (h + 1))) := by
  unfold fX4_add
  rw [hc, show fX7_put (2 + 1) 4 8 (nI h) 0 x M = some (mput M 5 h x) from X7_put (k := 0) (by omega) (by omega) hh (by omega), Option.bind_some]
  rw [show fX7_put (2 + 1) 4 8 (nI h) 1 0 (mput M 5 h x) = some (mput (mput M 5 h x) 6 h 0) from X7_put (k := 1) (by omega) (by omega) hh (by omega), Option.bind_some]
  rw [show fX7_put (2 + 1) 4 8 (nI h) 2 0 (mput (mput M 5 h x) 6 h 0) = some (mput (mput (mput M 5 h x) 6 h 0) 7 h 0) from X7_put (k := 2) (by omega) (by omega) hh (by omega), Option.bind_some]
  rw [show fX7_put (2 + 1) 4 8 (nI h) 3 0 (mput (mput (mput M 5 h x) 6 h 0) 7 h 0) = some (mput (mput (mput (mput M 5 h x) 6 h 0) 7 h 0) 8 h 0) from X7_put (k := 3) (by omega) (by omega) hh (by omega), Option.bind_some]
  unfold pf
  rw [Option.bind_some, show (mput (mput (mput (mput M 5 h x) 6 h 0) 7 h 0) 8 h 0).1 2 1 = nI h from by rw [mput_at, if_neg (by omega), mput_at, if_neg (by omega), mput_at, if_neg (by omega), mput_at, if_neg (by omega)]; exact hc, show nI h + (1 : Int32) = nI (h + 1) from nI_ad h 1]
/-- a household more, on both sides -/
theorem RVn.addH {M M3 : Mem} {v : Nat} {row row3 : Nat → Int32} {h b g c : Nat} (H : RVn M v row h b g c) (hh : h < 8) (f : Nat → Int32)
    (hc : ∀ a y, a < 32 → ¬ (a = 1 ∧ y = 1) → ¬ (4 ≤ a ∧ a < 8 ∧ y = h) → M3.1 (v + a) y = M.1 (v + a) y) (hc0 : M3.1 (v + 1) 1 = nI (h + 1)) (hc1 : ∀ k, k < 4 → M3.1 (v + (4 + k)) h = f k) (hr : ∀ j, j < 1601 → j ≠ 0 → (j < 9 + 4 * h ∨ 9 + 4 * h + 4 ≤ j) → row3 j = row j) (hr0 : row3 0 = nI (h + 1)) (hr1 : ∀ k, k < 4 → row3 (9 + 4 * h + k) = f k) : RVn M3 v row3 (h + 1) b g c := by
  obtain ⟨a1, a2, a3, a4, a5, a6, a7, a8⟩ := H
  refine ⟨⟨by omega, a1.2⟩, ?_, ?_, ?_, fun i' k' hi' hk' => ?_, fun i' k' hi' hk' => ?_, fun i' k' hi' hk' => ?_, fun i' k' hi' hj' hk' => ?_⟩
  · rw [hc0, hc 8 1 (by omega) (by omega) (by omega), hc 14 1 (by omega) (by omega) (by omega), hc 22 1 (by omega) (by omega) (by omega)]; exact ⟨rfl, a2.2⟩
  · rw [hr0, hr 7 (by omega) (by omega) (by omega), hr 8 (by omega) (by omega) (by omega), hr 5 (by omega) (by omega) (by omega)]; exact ⟨rfl, a3.2⟩
  · rw [hc 0 4 (by omega) (by omega) (by omega), hc 0 5 (by omega) (by omega) (by omega), hc 0 6 (by omega) (by omega) (by omega), hc 0 7 (by omega) (by omega) (by omega), hc 22 2 (by omega) (by omega) (by omega), hr 2 (by omega) (by omega) (by omega), hr 1 (by omega) (by omega) (by omega), hr 3 (by omega) (by omega) (by omega), hr 4 (by omega) (by omega) (by omega), hr 6 (by omega) (by omega) (by omega)]
    exact a4
  · by_cases he : i' = h
    · subst he
      rw [hc1 k' hk', hr1 k' hk']
    · rw [hc _ _ (by omega) (by omega) (by omega), hr _ (by omega) (by omega) (by omega)]; exact a5 i' k' (by omega) hk'
  · rw [hc _ _ (by omega) (by omega) (by omega), hr _ (by omega) (by omega) (by omega)]; exact a6 i' k' hi' hk'
  · rw [hc _ _ (by omega) (by omega) (by omega), hr _ (by omega) (by omega) (by omega)]; exact a7 i' k' hi' hk'
  · rw [hc _ _ (by omega) (by omega) (by omega), hr _ (by omega) (by omega) (by omega)]; exact a8 i' k' hi' hj' hk'
