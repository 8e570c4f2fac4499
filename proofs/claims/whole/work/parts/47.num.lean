/-! whole numbers as places -/
theorem mI_lt {a b : Nat} (ha : a < 2 ^ 31) (hb : b < 2 ^ 31) : nI a < nI b ↔ a < b := by
  rw [Int32.lt_iff_toInt_lt, nI_int ha, nI_int hb]; omega
theorem mI_le {a b : Nat} (ha : a < 2 ^ 31) (hb : b < 2 ^ 31) : nI a ≤ nI b ↔ a ≤ b := by
  rw [Int32.le_iff_toInt_le, nI_int ha, nI_int hb]; omega
theorem mI_eq {a b : Nat} (ha : a < 2 ^ 31) (hb : b < 2 ^ 31) : nI a = nI b ↔ a = b := by
  refine ⟨fun h => ?_, fun h => by rw [h]⟩
  have := congrArg Int32.toInt h
  rw [nI_int ha, nI_int hb] at this
  omega
theorem mI_nn {a : Nat} (ha : a < 2 ^ 31) : ¬ nI a < 0 := by
  rw [Int32.lt_iff_toInt_lt, nI_int ha]
  have : (0 : Int32).toInt = 0 := by decide
  omega
theorem mI_sb {a b : Nat} (h : b ≤ a) (ha : a < 2 ^ 31) : nI a - nI b = nI (a - b) := by
  apply Int32.toInt_inj.mp
  rw [Int32.toInt_sub, nI_int ha, nI_int (by omega), nI_int (by omega)]
  simp only [Int.bmod_def]
  omega
theorem nI_ml' (a b : Nat) : nI a * nI b = nI (a * b) := (Int32.ofNat_mul a b).symm
theorem mI_ml {a b : Nat} : nI a * nI b = nI (a * b) := (Int32.ofNat_mul a b).symm
/-- every whole number that is not below 0 is a place -/
theorem mI_of {x : Int32} (h : ¬ x < 0) : x = nI x.toNatClampNeg ∧ x.toNatClampNeg < 2 ^ 31 := by
  rw [Int32.lt_iff_toInt_lt] at h
  have h0 : (0 : Int32).toInt = 0 := by decide
  rw [h0] at h
  have h1 : x.toInt < 2 ^ 31 := Int32.toInt_lt x
  have h2 : x.toNatClampNeg = x.toInt.toNat := rfl
  have h3 : x.toNatClampNeg < 2 ^ 31 := by omega
  refine ⟨?_, h3⟩
  apply Int32.toInt_inj.mp
  rw [nI_int h3, h2]
  omega
theorem ald_n {f : Nat → Int32} {n j : Nat} (h : j < n) (hn : n < 2 ^ 31) : ald f n (nI j) = some (f j) := by
  have h1 := mI_nn (a := j) (by omega)
  have h2 := nI_nat (n := j) (by omega)
  unfold ald
  rw [if_neg (by rw [h2]; intro q; rcases q with q | q; exact h1 q; omega), h2]
theorem ast_n {M : Mem} {t n j : Nat} {x : Int32} (h : j < n) (hn : n < 2 ^ 31) : ast M t n (nI j) x = some (mput M t j x) := by
  have h1 := mI_nn (a := j) (by omega)
  have h2 := nI_nat (n := j) (by omega)
  unfold ast
  rw [if_neg (by rw [h2]; intro q; rcases q with q | q; exact h1 q; omega), h2]
theorem mput_at (M : Mem) (t k : Nat) (x : Int32) (a b : Nat) : (mput M t k x).1 a b = if a = t ∧ b = k then x else M.1 a b := rfl
theorem mput_2 (M : Mem) (t k : Nat) (x : Int32) : (mput M t k x).2 = M.2 := rfl
theorem mem_ext {M N : Mem} (h1 : ∀ a b, M.1 a b = N.1 a b) (h2 : M.2 = N.2) : M = N := by
  obtain ⟨m1, m2⟩ := M
  obtain ⟨k1, k2⟩ := N
  dsimp only at h1 h2
  subst h2
  have : m1 = k1 := by funext a b; exact h1 a b
  rw [this]
/-- a table's first c rows, copied from another -/
def cpT (t o w c : Nat) (M : Mem) : Mem := (fun q b => if t + 2 ≤ q ∧ q < t + 2 + w ∧ b < c then M.1 (o + (q - t)) b else M.1 q b, M.2)
theorem acp_n {M : Mem} {a na d nd c : Nat} (h1 : c ≤ na) (h2 : c ≤ nd) (hc : c < 2 ^ 31) : acp M a na d nd 0 0 (nI c) = some (mcpy M a d 0 0 c) := by
  have e0 : (0 : Int32).toNatClampNeg = 0 := by decide
  have h3 := mI_nn (a := c) hc
  unfold acp
  rw [if_neg (by
    rw [e0, nI_nat hc]
    rintro (q | q | q | q | q)
    · exact absurd q (by decide)
    · exact absurd q (by decide)
    · exact h3 q
    · omega
    · omega), e0, nI_nat hc]
theorem X7_copy_loop {t o w r c : Nat} (hw : w < 1000) (hcr : c ≤ r) (hr : r < 2 ^ 31) (hd : o + 2 + w ≤ t + 2 ∨ t + 2 + w ≤ o + 2) : ∀ (k j n : Nat) (M : Mem), j + k = w → k < n → lX7_copyFrom_36 t w r o w r (nI c) n (nI j) M = some (fun q b => if t + 2 + j ≤ q ∧ q < t + 2 + w ∧ b < c then M.1 (o + (q - t)) b else M.1 q b, M.2) := by
  intro k
  induction k with
  | zero =>
    intro j n M h1 h2
    obtain ⟨n, rfl⟩ : ∃ n', n = n' + 1 := ⟨n - 1, by omega⟩
    unfold lX7_copyFrom_36
    rw [if_pos ((mI_le (by omega) (by omega)).mpr (by omega))]
    congr 1
    refine mem_ext (fun a b => ?_) rfl
    show M.1 a b = if _ then _ else _
    rw [if_neg (by omega)]
  | succ k ih =>
    intro j n M h1 h2
    obtain ⟨n, rfl⟩ : ∃ n', n = n' + 1 := ⟨n - 1, by omega⟩
    unfold lX7_copyFrom_36
    have hj := nI_nat (n := j) (by omega)
    have hv : ¬ (nI j < 0 ∨ w ≤ (nI j).toNatClampNeg) := by
      rw [hj]; rintro (q | q)
      · exact mI_nn (by omega) q
      · omega
    rw [if_neg (fun q => by rw [mI_le (by omega) (by omega)] at q; omega), if_neg hv, if_neg hv, hj, acp_n hcr hcr (by omega)]
    rw [Option.bind_some, show nI j + 1 = nI (j + 1) from nI_ad j 1, ih (j + 1) n _ (by omega) (by omega)]
    congr 1
    refine mem_ext (fun a b => ?_) rfl
    simp only [mcpy]
    by_cases h3 : a = t + (2 + j)
    · subst h3
      by_cases h4 : b < c
      · rw [if_neg (by omega), if_pos rfl, if_pos ⟨by omega, by omega, h4⟩]
        simp [va_cpy, h4]
      · rw [if_neg (by omega), if_pos rfl, if_neg (by omega)]
        simp [va_cpy, h4]
    · by_cases h4 : t + 2 + (j + 1) ≤ a ∧ a < t + 2 + w ∧ b < c
      · rw [if_pos h4, if_neg (show ¬ (o + (a - t) = t + (2 + j)) by omega), if_pos (show t + 2 + j ≤ a ∧ a < t + 2 + w ∧ b < c from ⟨by omega, h4.2.1, h4.2.2⟩)]
      · rw [if_neg h4, if_neg h3, if_neg (by omega)]
theorem X7_copy {t o w r c : Nat} {M : Mem} (hw : w < 1000) (hcr : c ≤ r) (hr : r < 2 ^ 31) (hd : o + 2 + w ≤ t + 2 ∨ t + 2 + w ≤ o + 2) : fX7_copyFrom t w r o w r (nI c) M = some (cpT t o w c M) := by
  unfold fX7_copyFrom
  rw [if_neg (mI_nn (by omega)), if_neg (fun q => by rw [mI_lt (by omega) (by omega)] at q; omega), if_neg (fun q => by rw [mI_lt (by omega) (by omega)] at q; omega), if_pos rfl]
  rw [show (0 : Int32) = nI 0 from rfl, X7_copy_loop hw hcr hr hd w 0 FUEL M (by omega) (by unfold FUEL; omega)]
  rfl
