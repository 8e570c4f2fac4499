/-! literals as places; sums; tables read and written -/
theorem nl (n : Nat) : (OfNat.ofNat n : Int32) = nI (OfNat.ofNat n) := rfl
theorem l_0 : (0 : Int32) = nI 0 := rfl
theorem l_1 : (1 : Int32) = nI 1 := rfl
theorem l_2 : (2 : Int32) = nI 2 := rfl
theorem l_3 : (3 : Int32) = nI 3 := rfl
theorem l_4 : (4 : Int32) = nI 4 := rfl
theorem l_5 : (5 : Int32) = nI 5 := rfl
theorem l_6 : (6 : Int32) = nI 6 := rfl
theorem l_7 : (7 : Int32) = nI 7 := rfl
theorem l_8 : (8 : Int32) = nI 8 := rfl
theorem l_9 : (9 : Int32) = nI 9 := rfl
theorem l_10 : (10 : Int32) = nI 10 := rfl
theorem l_11 : (11 : Int32) = nI 11 := rfl
theorem l_12 : (12 : Int32) = nI 12 := rfl
theorem l_13 : (13 : Int32) = nI 13 := rfl
theorem l_14 : (14 : Int32) = nI 14 := rfl
theorem l_15 : (15 : Int32) = nI 15 := rfl
theorem l_16 : (16 : Int32) = nI 16 := rfl
theorem l_17 : (17 : Int32) = nI 17 := rfl
theorem l_20 : (20 : Int32) = nI 20 := rfl
theorem l_24 : (24 : Int32) = nI 24 := rfl
theorem l_30 : (30 : Int32) = nI 30 := rfl
theorem l_31 : (31 : Int32) = nI 31 := rfl
theorem l_32 : (32 : Int32) = nI 32 := rfl
theorem l_40 : (40 : Int32) = nI 40 := rfl
theorem l_41 : (41 : Int32) = nI 41 := rfl
theorem l_48 : (48 : Int32) = nI 48 := rfl
theorem l_57 : (57 : Int32) = nI 57 := rfl
theorem l_59 : (59 : Int32) = nI 59 := rfl
theorem l_63 : (63 : Int32) = nI 63 := rfl
theorem l_90 : (90 : Int32) = nI 90 := rfl
theorem l_97 : (97 : Int32) = nI 97 := rfl
theorem l_99 : (99 : Int32) = nI 99 := rfl
theorem l_101 : (101 : Int32) = nI 101 := rfl
theorem l_122 : (122 : Int32) = nI 122 := rfl
theorem l_127 : (127 : Int32) = nI 127 := rfl
theorem l_150 : (150 : Int32) = nI 150 := rfl
theorem l_180 : (180 : Int32) = nI 180 := rfl
theorem l_200 : (200 : Int32) = nI 200 := rfl
theorem l_201 : (201 : Int32) = nI 201 := rfl
theorem l_260 : (260 : Int32) = nI 260 := rfl
theorem l_300 : (300 : Int32) = nI 300 := rfl
theorem l_400 : (400 : Int32) = nI 400 := rfl
theorem l_1000 : (1000 : Int32) = nI 1000 := rfl
theorem l_1601 : (1601 : Int32) = nI 1601 := rfl
theorem l_65535 : (65535 : Int32) = nI 65535 := rfl
theorem l_65536 : (65536 : Int32) = nI 65536 := rfl
theorem ng1 : -(nI 1) = NG := rfl
theorem NG_int : NG.toInt = -1 := by decide
theorem nI_ng {i : Nat} (hi : i < 2 ^ 31) : ¬ nI i = NG := fun q => by
  have := congrArg Int32.toInt q
  rw [nI_int hi, NG_int] at this
  omega
theorem ng_nI {i : Nat} (hi : i < 2 ^ 31) : ¬ NG = nI i := fun q => nI_ng hi q.symm
theorem ng_lt {i : Nat} (hi : i < 2 ^ 31) : NG < nI i := by
  rw [Int32.lt_iff_toInt_lt, nI_int hi, NG_int]; omega
theorem ng_le {i : Nat} (hi : i < 2 ^ 31) : NG ≤ nI i := by
  rw [Int32.le_iff_toInt_le, nI_int hi, NG_int]; omega
theorem nlt_ng {i : Nat} (hi : i < 2 ^ 31) : ¬ nI i < NG := by
  rw [Int32.lt_iff_toInt_lt, nI_int hi, NG_int]; omega
theorem nle_ng {i : Nat} (hi : i < 2 ^ 31) : ¬ nI i ≤ NG := by
  rw [Int32.le_iff_toInt_le, nI_int hi, NG_int]; omega
theorem nI_dec {a : Nat} (h : 1 ≤ a) (ha : a < 2 ^ 31) : nI a + NG = nI (a - 1) := by
  rw [← mI_sb h ha, Int32.sub_eq_add_neg]; rfl
theorem pI_lt {a b : Nat} (h : a < b) (hb : b < 2 ^ 31) : nI a < nI b := (mI_lt (by omega) hb).mpr h
theorem pI_nlt {a b : Nat} (h : b ≤ a) (ha : a < 2 ^ 31) : ¬ nI a < nI b := fun q => by have := (mI_lt ha (by omega)).mp q; omega
theorem pI_le {a b : Nat} (h : a ≤ b) (hb : b < 2 ^ 31) : nI a ≤ nI b := (mI_le (by omega) hb).mpr h
theorem pI_nle {a b : Nat} (h : b < a) (ha : a < 2 ^ 31) : ¬ nI a ≤ nI b := fun q => by have := (mI_le ha (by omega)).mp q; omega
theorem pI_ne {a b : Nat} (h : a ≠ b) (ha : a < 2 ^ 31) (hb : b < 2 ^ 31) : ¬ nI a = nI b := fun q => h ((mI_eq ha hb).mp q)
theorem mI_dv {a b : Nat} (ha : a < 2 ^ 31) (hb : b < 2 ^ 31) : nI a / nI b = nI (a / b) := by
  have hd : a / b ≤ a := Nat.div_le_self _ _
  by_cases h0 : b = 0
  · subst h0
    rw [Nat.div_zero]
    exact Int32.div_zero
  apply Int32.toInt_inj.mp
  rw [Int32.toInt_div, nI_int ha, nI_int hb, nI_int (by omega), ← Int.ofNat_tdiv]
  generalize a / b = q at hd ⊢
  simp only [Int.bmod_def]
  omega
/-- a remainder, as the machine has it -/
theorem mI_md {a b : Nat} (ha : a < 2 ^ 31) (hb : b < 2 ^ 31) : nI a - nI a / nI b * nI b = nI (a % b) := by
  have h1 : a / b * b ≤ a := Nat.div_mul_le_self a b
  rw [mI_dv ha hb, nI_ml', mI_sb h1 ha]
  have h2 := Nat.div_add_mod a b
  rw [Nat.mul_comm] at h2
  rw [show a - a / b * b = a % b by omega]
theorem mI_tc {i : Nat} (h : i < 2 ^ 31) : (nI i).toNatClampNeg = i := nI_nat h
def sm (f : Nat → Int32) : Nat → Nat → Int32
  | _, 0 => nI 0
  | a, m + 1 => f a + sm f (a + 1) m
theorem sm_cg {f g : Nat → Int32} : ∀ (m a : Nat), (∀ i, a ≤ i → i < a + m → f i = g i) → sm f a m = sm g a m := by
  intro m
  induction m with
  | zero => intro a _; rfl
  | succ m ih =>
    intro a h
    rw [sm, sm, h a (by omega) (by omega), ih (a + 1) (fun i h1 h2 => h i (by omega) (by omega))]
theorem sm_z (x : Int32) : x + nI 0 = x := by rw [show nI 0 = (0 : Int32) from rfl, Int32.add_zero]
theorem sm_s (f : Nat → Int32) (x : Int32) (a m : Nat) : x + sm f a (m + 1) = (x + f a) + sm f (a + 1) m := by rw [sm, Int32.add_assoc]
theorem sm_end (f : Nat → Int32) : ∀ (m a : Nat), sm f a (m + 1) = sm f a m + f (a + m) := by
  intro m
  induction m with
  | zero => intro a; rw [sm, sm, sm, sm_z, Nat.add_zero, Int32.add_comm, sm_z]
  | succ m ih =>
    intro a
    rw [sm, ih (a + 1), sm, Int32.add_assoc, show a + 1 + m = a + (m + 1) by omega]
/-- a whole turn about 200 places -/
theorem sm_rot (f : Nat → Int32) : ∀ a, sm (fun i => f (i % 200)) a 200 = sm f 0 200 := by
  intro a
  induction a with
  | zero => exact sm_cg 200 0 fun i _ h => by rw [Nat.mod_eq_of_lt (by omega)]
  | succ a ih =>
    rw [← ih]
    have h1 := sm_end (fun i => f (i % 200)) 200 a
    rw [sm] at h1
    simp only [Nat.add_mod_right] at h1
    rw [Int32.add_comm] at h1
    exact (Int32.add_left_inj _).mp h1
theorem sum_c {t tr k h : Nat} {M : Mem} (hr : tr < 2 ^ 31) (hh : h ≤ tr) (hk : k < 2 ^ 31) : ∀ (m j n : Nat) (acc : Int32), j + m = h → m < n → lX7_sum_28 t tr (nI h) (nI k) M n acc (nI j) = some (acc + sm (M.1 (t + (2 + k))) j m) := by
  intro m
  induction m with
  | zero =>
    intro j n acc h1 h2
    obtain ⟨n, rfl⟩ : ∃ n', n = n' + 1 := ⟨n - 1, by omega⟩
    rw [lX7_sum_28, if_pos (pI_le (by omega) (by omega)), sm, sm_z]
  | succ m ih =>
    intro j n acc h1 h2
    obtain ⟨n, rfl⟩ : ∃ n', n = n' + 1 := ⟨n - 1, by omega⟩
    rw [lX7_sum_28, if_neg (pI_nle (by omega) (by omega)), if_neg (pI_nle (by omega) (by omega)), mI_tc hk, ald_n (by omega) hr, Option.bind_some, l_1, nI_ad, ih (j + 1) n _ (by omega) (by omega), sm_s]
theorem cb_c {t tr k k2 h : Nat} {M : Mem} (x y : Int32) (hr : tr < 2 ^ 31) (hh : h ≤ tr) (hk : k < 2 ^ 31) (hk2 : k2 < 2 ^ 31) : ∀ (m j n : Nat) (acc : Int32), j + m = h → m < n → lX7_countBoth_53 t tr (nI h) (nI k) x (nI k2) y M n acc (nI j) = some (acc + sm (fun i => if M.1 (t + (2 + k)) i = x ∧ M.1 (t + (2 + k2)) i = y then nI 1 else nI 0) j m) := by
  intro m
  induction m with
  | zero =>
    intro j n acc h1 h2
    obtain ⟨n, rfl⟩ : ∃ n', n = n' + 1 := ⟨n - 1, by omega⟩
    rw [lX7_countBoth_53, if_pos (pI_le (by omega) (by omega)), sm, sm_z]
  | succ m ih =>
    intro j n acc h1 h2
    obtain ⟨n, rfl⟩ : ∃ n', n = n' + 1 := ⟨n - 1, by omega⟩
    rw [lX7_countBoth_53, if_neg (pI_nle (by omega) (by omega)), if_neg (pI_nle (by omega) (by omega)), mI_tc hk, ald_n (by omega) hr, Option.bind_some, mI_tc hk2, ald_n (by omega) hr, l_1, nI_ad, Option.bind_some, ih (j + 1) n _ (by omega) (by omega), ih (j + 1) n _ (by omega) (by omega), sm_s]
    by_cases e1 : M.1 (t + (2 + k)) j = x
    · rw [if_pos e1]
      by_cases e2 : M.1 (t + (2 + k2)) j = y
      · rw [if_pos e2, if_pos ⟨e1, e2⟩]
      · rw [if_neg e2, if_neg (fun q => e2 q.2), sm_z]
    · rw [if_neg e1, if_neg (fun q => e1 q.1), sm_z]
theorem X7_sum {t tw tr k h : Nat} {M : Mem} (hr : tr < 2 ^ 31) (hh : h ≤ tr) (hf : h < FUEL) (hk : k < tw) (hw : tw < 1000) : fX7_sum t tw tr (nI h) (nI k) M = some (sm (M.1 (t + (2 + k))) 0 h) := by
  unfold fX7_sum
  rw [l_0, if_neg (pI_nlt (by omega) (by omega)), if_pos (pI_lt hk (by omega)), if_neg (by rw [mI_tc (by omega)]; rintro (q | q); exact pI_nlt (by omega) (by omega) q; omega), sum_c hr hh (by omega) h 0 FUEL _ (by omega) hf, Option.bind_some, Int32.add_comm, sm_z]
theorem X7_both {t tw tr k k2 h : Nat} {M : Mem} (x y : Int32) (hr : tr < 2 ^ 31) (hh : h ≤ tr) (hf : h < FUEL) (hk : k < tw) (hk2 : k2 < tw) (hw : tw < 1000) : fX7_countBoth t tw tr (nI h) (nI k) x (nI k2) y M = some (sm (fun i => if M.1 (t + (2 + k)) i = x ∧ M.1 (t + (2 + k2)) i = y then nI 1 else nI 0) 0 h) := by
  unfold fX7_countBoth
  rw [l_0, if_neg (pI_nlt (by omega) (by omega)), if_neg (pI_nle hk (by omega)), if_neg (pI_nlt (by omega) (by omega)), if_pos (pI_lt hk2 (by omega)), if_neg (by rw [mI_tc (by omega)]; rintro (q | q); exact pI_nlt (by omega) (by omega) q; omega), if_neg (by rw [mI_tc (by omega)]; rintro (q | q); exact pI_nlt (by omega) (by omega) q; omega), cb_c x y hr hh (by omega) (by omega) h 0 FUEL _ (by omega) hf, Option.bind_some, Int32.add_comm, sm_z]
theorem X7_count {t tw tr k h : Nat} {M : Mem} (x : Int32) (hr : tr < 2 ^ 31) (hh : h ≤ tr) (hf : h < FUEL) (hk : k < tw) (hw : tw < 1000) : fX7_count t tw tr (nI h) (nI k) x M = some (sm (fun i => if M.1 (t + (2 + k)) i = x then nI 1 else nI 0) 0 h) := by
  unfold fX7_count
  rw [X7_both x x hr hh hf hk hk hw, Option.bind_some]
  simp only [and_self]
theorem fuel8 {h : Nat} (hh : h ≤ 1000) : h < FUEL := by unfold FUEL; omega
/-! reading a cell of each table, and of the row -/
theorem HH.gt {M : Mem} {ρ : Nat → Int32} {h i k : Nat} (H : HH M ρ h) (hi : i < h) (hk : k < 4) : fX7_get 3 4 8 (nI i) (nI k) M = some (ρ (9 + 4 * i + k)) := by
  have h8 := H.1
  rw [X7_get hk (by omega) (by omega) (by omega), ← H.2.2.2 i k hi hk, show 3 + (2 + k) = 5 + k by omega]
theorem BB.gt {M : Mem} {ρ : Nat → Int32} {b i k : Nat} (H : BB M ρ b) (hi : i < b) (hk : k < 3) : fX7_get 10 3 20 (nI i) (nI k) M = some (ρ (41 + 3 * i + k)) := by
  have h8 := H.1
  rw [X7_get hk (by omega) (by omega) (by omega), ← H.2.2.2 i k hi hk, show 10 + (2 + k) = 12 + k by omega]
theorem GG.gt {M : Mem} {ρ : Nat → Int32} {g i k : Nat} (H : GG M ρ g) (hi : i < g) (hk : k < 5) : fX7_get 16 5 20 (nI i) (nI k) M = some (ρ (101 + 5 * i + k)) := by
  have h8 := H.1
  rw [X7_get hk (by omega) (by omega) (by omega), ← H.2.2.2 i k hi hk, show 16 + (2 + k) = 18 + k by omega]
theorem LL.gt {M : Mem} {ρ : Nat → Int32} {c i k : Nat} (H : LL M ρ c) (hi : i < c) (hj : i < 200) (hk : k < 7) : fX7_get 24 7 200 (nI i) (nI k) M = some (ρ (201 + 7 * i + k)) := by
  rw [X7_get hk (by omega) (by omega) (by omega), ← H.2.2.2.2 i k hi hj hk, show 24 + (2 + k) = 26 + k by omega]
theorem LL.val {M : Mem} {ρ : Nat → Int32} {c i k : Nat} (H : LL M ρ c) (hi : i < c) (hk : k < 7) : fX6_value 23 (nI i) (nI k) M = some (ρ (201 + 7 * (i % 200) + k)) := by
  have hc := H.1
  have h1 : i % 200 < 200 := Nat.mod_lt _ (by omega)
  have h2 : i % 200 ≤ i := Nat.mod_le _ _
  unfold fX6_value
  rw [l_200, mI_md (by omega) (by omega)]
  show (fX7_get 24 7 200 _ _ M).bind _ = _
  rw [H.gt (by omega) h1 hk]
  rfl
theorem Ro.at {N : Mem} {ρ : Nat → Int32} (R : Ro N ρ) {k : Nat} (hk : k < 1601) : ald (N.1 179) 1601 (nI k) = some (ρ k) := by
  rw [ald_n hk (by omega), R k hk]
theorem Ro.of {N : Mem} {ρ : Nat → Int32} (R : Ro N ρ) {i k : Nat} (hi : i < 8) (hk : k < 4) : fX12_of (nI i) (nI k) N = some (ρ (9 + 4 * i + k)) := by
  rw [X12_of' hi hk, R _ (by omega)]
theorem Ro.loaf {N : Mem} {ρ : Nat → Int32} (R : Ro N ρ) {i k : Nat} (hi : i < 2 ^ 31) (hk : k < 7) : fX12_loafOf (nI i) (nI k) N = some (ρ (201 + 7 * (i % 200) + k)) := by
  have h1 : i % 200 < 200 := Nat.mod_lt _ (by omega)
  unfold fX12_loafOf fX12_loafAt
  rw [Option.bind_some, l_200, mI_md (by omega) (by omega), l_201, l_7, nI_ml', nI_ad, nI_ad, R.at (by omega)]
  rfl
theorem loafAt_n {i : Nat} (hi : i < 2 ^ 31) : fX12_loafAt (nI i) = some (nI (201 + 7 * (i % 200))) := by
  unfold fX12_loafAt
  rw [l_200, mI_md (by omega) (by omega), l_201, l_7, nI_ml', nI_ad]
theorem first_r {N : Mem} {ρ : Nat → Int32} {c : Nat} (R : Ro N ρ) (hc : c < 2 ^ 30) (h5 : ρ 5 = nI c) : fX12_firstKept N = some (nI (c - 200)) := by
  unfold fX12_firstKept
  rw [l_5, R.at (by omega), Option.bind_some, h5, l_200]
  by_cases h : c ≤ 200
  · rw [if_pos (pI_le h (by omega)), show c - 200 = 0 by omega]; rfl
  · rw [if_neg (pI_nle (by omega) (by omega)), Option.bind_some, mI_sb (by omega) (by omega)]
theorem LL.keptn {M : Mem} {ρ : Nat → Int32} {c : Nat} (H : LL M ρ c) : fX6_kept 23 M = some (nI (min c 200)) := by
  unfold fX6_kept
  have := kept_n H.1
  unfold kept at this
  rw [H.2.1, this]
theorem LL.first {M : Mem} {ρ : Nat → Int32} {c : Nat} (H : LL M ρ c) : fX6_firstKept 23 M = some (nI (c - 200)) := by
  have hc := H.1
  unfold fX6_firstKept
  rw [H.keptn, Option.bind_some, H.2.1]
  by_cases h : c ≤ 200
  · rw [Nat.min_eq_left h, mI_sb (by omega) (by omega), show c - c = c - 200 by omega]
  · rw [Nat.min_eq_right (by omega), mI_sb (by omega) (by omega)]
