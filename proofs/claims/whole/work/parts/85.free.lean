/-! bits of sums -/
theorem pc_pos : ∀ (n y : Nat), y < n → y < 2 ^ 31 → 0 < y → 0 < pc y := by
  intro n
  induction n with
  | zero => intro y h; omega
  | succ n ih =>
    intro y h1 h2 h3
    rw [pc_s h2]
    by_cases h4 : y % 2 = 1
    · omega
    · have := ih (y / 2) (by omega) (by omega) (by omega)
      omega
theorem pc_min : ∀ (n y : Nat), y < n → y < 2 ^ 31 → 2 ^ pc y ≤ y + 1 := by
  intro n
  induction n with
  | zero => intro y h; omega
  | succ n ih =>
    intro y h1 h2
    by_cases h0 : y = 0
    · subst h0; decide
    rw [pc_s h2]
    have h3 := ih (y / 2) (by omega) (by omega)
    rcases (show y % 2 = 0 ∨ y % 2 = 1 by omega) with h4 | h4
    · rw [h4, Nat.zero_add]; omega
    · rw [h4, Nat.add_comm, Nat.pow_succ]; omega
theorem pc_add : ∀ (n x y : Nat), y < 2 ^ n → x * 2 ^ n + y < 2 ^ 31 → pc (x * 2 ^ n + y) = pc x + pc y := by
  intro n
  induction n with
  | zero =>
    intro x y h1 h2
    rw [Nat.pow_zero] at h1
    obtain rfl : y = 0 := by omega
    rw [Nat.pow_zero, Nat.mul_one, Nat.add_zero, show pc 0 = 0 from rfl, Nat.add_zero]
  | succ n ih =>
    intro x y h1 h2
    have e : x * 2 ^ (n + 1) = 2 * (x * 2 ^ n) := by rw [Nat.pow_succ, ← Nat.mul_assoc, Nat.mul_comm]
    rw [Nat.pow_succ] at h1
    rw [e] at h2 ⊢
    rw [pc_s h2, show (2 * (x * 2 ^ n) + y) % 2 = y % 2 by omega, show (2 * (x * 2 ^ n) + y) / 2 = x * 2 ^ n + y / 2 by omega, ih x (y / 2) (by omega) (by omega), pc_s (a := y) (by omega)]
    omega
theorem pc_ones : ∀ k, k ≤ 31 → pc (2 ^ k - 1) = k := by decide +kernel
theorem gos_m {m : Nat} (h1 : 1 ≤ m) (h2 : m < 65536) : 1 ≤ lowb m ∧ lowb m ≤ m ∧ ∃ t k A, 1 ≤ k ∧ m = A * 2 ^ (t + k + 1) + (2 ^ k - 1) * 2 ^ t ∧ gos m = A * 2 ^ (t + k + 1) + 2 ^ (t + k) + 2 ^ (k - 1) - 1 := by
  have h := gs_all (m / 256) (by omega) (m % 256) (by omega)
  rw [show 256 * (m / 256) + m % 256 = m by omega] at h
  unfold gsq at h
  rw [Bool.or_eq_true] at h
  rcases h with h | h
  · exact absurd (Nat.eq_of_beq_eq_true h) (by omega)
  · unfold gq1 gq2 gq3 gq4 at h
    rw [Bool.and_eq_true, Bool.and_eq_true, Bool.and_eq_true, Bool.and_eq_true] at h
    obtain ⟨a1, a2, a3, a4, a5⟩ := h
    exact ⟨Nat.le_of_ble_eq_true a4, Nat.le_of_ble_eq_true a5, _, _, _, Nat.le_of_ble_eq_true a1, Nat.eq_of_beq_eq_true a2, Nat.eq_of_beq_eq_true a3⟩
theorem gos_next {m : Nat} (h1 : 1 ≤ m) (h2 : m < 65536) : m < gos m ∧ gos m < 2 ^ 20 ∧ pc (gos m) = pc m ∧ ∀ x, m < x → x < gos m → pc x ≠ pc m := by
  obtain ⟨-, -, t, k, A, hk, em, eg⟩ := gos_m h1 h2
  obtain ⟨P, hP⟩ : ∃ P, P = 2 ^ (t + k) := ⟨_, rfl⟩
  obtain ⟨Q, hQ⟩ : ∃ Q, Q = 2 ^ t := ⟨_, rfl⟩
  obtain ⟨Z, hZ⟩ : ∃ Z, Z = 2 ^ (k - 1) := ⟨_, rfl⟩
  have hQ0 : 0 < Q := by rw [hQ]; exact Nat.pow_pos (by omega)
  have hZ0 : 0 < Z := by rw [hZ]; exact Nat.pow_pos (by omega)
  have eP2 : 2 ^ (t + k + 1) = 2 * P := by rw [hP, Nat.pow_succ, Nat.mul_comm]
  have ePQ : P = Q * (2 * Z) := by
    rw [hP, hQ, hZ, Nat.pow_add, Nat.mul_comm 2, ← Nat.pow_succ, show (k - 1).succ = k by omega]
  have eK : 2 ^ k = 2 * Z := by rw [hZ, Nat.mul_comm 2, ← Nat.pow_succ, show (k - 1).succ = k by omega]
  have eM : (2 ^ k - 1) * 2 ^ t = P - Q := by rw [eK, ← hQ, ePQ, Nat.sub_mul, Nat.one_mul, Nat.mul_comm]
  have hPZ : 2 * Z ≤ P := by rw [ePQ]; exact Nat.le_mul_of_pos_left _ hQ0
  have hPQ : Q ≤ P := by rw [ePQ]; exact Nat.le_mul_of_pos_right _ (by omega)
  obtain ⟨B, hB⟩ : ∃ B, B = A * P := ⟨_, rfl⟩
  have eA : A * 2 ^ (t + k + 1) = 2 * B := by rw [eP2, hB, Nat.mul_left_comm]
  rw [eA, eM] at em
  rw [eA, ← hP, ← hZ] at eg
  have hP2 : 2 * Q ≤ P := by rw [ePQ, Nat.mul_comm 2 Q]; exact Nat.mul_le_mul_left _ (by omega)
  have tkl : t + k < 20 := by
    refine Nat.lt_of_not_le fun q => ?_
    have := Nat.pow_le_pow_right (n := 2) (by omega) q
    rw [← hP] at this
    omega
  have pQ : pc (P - Q) = k := by
    have h3 := pc_add t (2 ^ k - 1) 0 (by rw [← hQ]; exact hQ0) (by rw [eM]; omega)
    rw [eM, Nat.add_zero] at h3
    rw [h3, pc_ones k (by omega), show pc 0 = 0 from rfl, Nat.add_zero]
  have p2 : pc (2 * A) = pc A := by
    have hA : 2 * A < 2 ^ 31 := by
      have : A ≤ B := by rw [hB]; exact Nat.le_mul_of_pos_right _ (by omega)
      omega
    rw [pc_s hA, show 2 * A % 2 = 0 by omega, show 2 * A / 2 = A by omega, Nat.zero_add]
  have p3 : pc (2 * A + 1) = pc A + 1 := by
    have hA : 2 * A + 1 < 2 ^ 31 := by
      have : A ≤ B := by rw [hB]; exact Nat.le_mul_of_pos_right _ (by omega)
      omega
    rw [pc_s hA, show (2 * A + 1) % 2 = 1 by omega, show (2 * A + 1) / 2 = A by omega, Nat.add_comm]
  have e0 : 2 * A * 2 ^ (t + k) = 2 * B := by rw [← hP, hB, Nat.mul_assoc]
  have e1 : (2 * A + 1) * 2 ^ (t + k) = 2 * B + P := by rw [Nat.add_mul, e0, ← hP, Nat.one_mul]
  have pm : pc m = pc A + k := by
    have h3 := pc_add (t + k) (2 * A) (P - Q) (by rw [← hP]; omega) (by rw [e0]; omega)
    rw [e0, ← em] at h3
    rw [h3, p2, pQ]
  have pz : pc (Z - 1) = k - 1 := by rw [hZ]; exact pc_ones (k - 1) (by omega)
  have pg : pc (gos m) = pc m := by
    have h3 := pc_add (t + k) (2 * A + 1) (Z - 1) (by rw [← hP]; omega) (by rw [e1]; omega)
    rw [e1, show 2 * B + P + (Z - 1) = gos m by omega] at h3
    rw [h3, p3, pz, pm]; omega
  refine ⟨by omega, by omega, pg, fun x hx1 hx2 hx => ?_⟩
  have hL : x % P < P := Nat.mod_lt _ (by omega)
  have hX : x = x / P * P + x % P := by
    have := Nat.div_add_mod x P
    rw [Nat.mul_comm] at this
    omega
  have px : pc x = pc (x / P) + pc (x % P) := by
    have h3 := pc_add (t + k) (x / P) (x % P) (by rw [← hP]; exact hL) (by rw [← hP, ← hX]; omega)
    rw [← hP, ← hX] at h3
    exact h3
  have hH1 : 2 * A ≤ x / P := by
    rw [Nat.le_div_iff_mul_le (by omega)]
    have : 2 * A * P = 2 * B := by rw [hB, Nat.mul_assoc]
    omega
  have hH2 : x / P < 2 * A + 2 := by
    rw [Nat.div_lt_iff_lt_mul (by omega), Nat.add_mul]
    have : 2 * A * P = 2 * B := by rw [hB, Nat.mul_assoc]
    omega
  rcases (show x / P = 2 * A ∨ x / P = 2 * A + 1 by omega) with q | q
  · have hx3 : x / P * P = 2 * B := by rw [q, hB, Nat.mul_assoc]
    rw [q, p2, hx, pm] at px
    have h4 : pc (x % P) = k := by omega
    obtain ⟨r, hr⟩ : ∃ r, r = x % P - (P - Q) := ⟨_, rfl⟩
    have hr1 : 0 < r := by omega
    have hr2 : r < Q := by omega
    have h5 := pc_add t (2 ^ k - 1) r (by rw [← hQ]; exact hr2) (by rw [eM]; omega)
    rw [eM, show P - Q + r = x % P by omega, h4, pc_ones k (by omega)] at h5
    have := pc_pos (r + 1) r (by omega) (by omega) hr1
    omega
  · have hx3 : x / P * P = 2 * B + P := by rw [q, Nat.add_mul, Nat.one_mul, hB, Nat.mul_assoc]
    rw [q, p3, hx, pm] at px
    have h4 : pc (x % P) = k - 1 := by omega
    have h5 := pc_min (x % P + 1) (x % P) (by omega) (by omega)
    rw [h4, ← hZ] at h5
    omega
theorem gos_c {m : Nat} (h1 : 1 ≤ m) (h2 : m < 65536) : fX11_nextWithAsMany (nI m) = some (nI (gos m)) := by
  obtain ⟨l1, l2, -⟩ := gos_m h1 h2
  have hg := (gos_next h1 h2).2.1
  have el : nI m &&& (-(nI m)) = nI (lowb m) := by
    have : -(nI m) = nI (4294967296 - m) := by
      apply Int32.toBitVec_inj.mp
      show -(BitVec.ofNat 32 m) = BitVec.ofNat 32 (4294967296 - m)
      apply BitVec.eq_of_toNat_eq
      rw [BitVec.toNat_neg, BitVec.toNat_ofNat, BitVec.toNat_ofNat]
      omega
    rw [this, nA]; rfl
  have hx : (m + lowb m) ^^^ m < 2 ^ 17 := Nat.xor_lt_two_pow (by omega) (by omega)
  have hd : ((m + lowb m) ^^^ m) / lowb m ≤ (m + lowb m) ^^^ m := Nat.div_le_self _ _
  unfold fX11_nextWithAsMany
  rw [el, l_0, if_neg (pI_ne (by omega) (by omega) (by omega)), if_neg (pI_ne (by omega) (by omega) (by omega)), nI_ad, nX, mI_dv (by omega) (by omega), show ((2 : Int32) &&& 31) = nI 2 from by decide, nS (by omega) (by omega), nO]
  rfl
/-! a mark that is like no other -/
def lkf (ρ : Nat → Int32) (x : Int32) : Nat → Nat → Bool
  | 0, _ => false
  | m + 1, j => akb x (ρ (9 + 4 * j + 0)) || lkf ρ x m (j + 1)
theorem hl_c {M : Mem} {ρ : Nat → Int32} {h : Nat} (H : HH M ρ h) (x : Int32) : ∀ (m j n : Nat), j + m = h → m < n → lX4_hasLike_2 2 x M n (nI j) = some (if lkf ρ x m j = true then Sum.inl true else Sum.inr ()) := by
  intro m
  have hh := H.1
  induction m with
  | zero =>
    intro j n h1 h2
    obtain ⟨n, rfl⟩ : ∃ n', n = n' + 1 := ⟨n - 1, by omega⟩
    rw [lX4_hasLike_2, H.2.1, if_pos (pI_le (by omega) (by omega))]; rfl
  | succ m ih =>
    intro j n h1 h2
    obtain ⟨n, rfl⟩ : ∃ n', n = n' + 1 := ⟨n - 1, by omega⟩
    rw [lX4_hasLike_2, H.2.1, if_neg (pI_nle (by omega) (by omega)), show fX7_get (2 + 1) 4 8 (nI j) 0 M = some _ from H.gt (k := 0) (by omega) (by omega), Option.bind_some, alike_cb, Option.bind_some, l_1, nI_ad, ih (j + 1) n (by omega) (by omega), lkf]
    cases akb x (ρ (9 + 4 * j + 0))
    · rw [if_neg (by decide), Bool.false_or]
    · rw [if_pos rfl, Bool.true_or, if_pos rfl]
theorem hl_r {N : Mem} {ρ : Nat → Int32} {h : Nat} (R : Ro N ρ) (h0 : ρ 0 = nI h) (hh : h ≤ 8) (x : Int32) : ∀ (m j n : Nat) (b : Bool), j + m = h → m < n → lX12_freeMark_49 N x n b (nI j) = some (b && !lkf ρ x m j) := by
  intro m
  induction m with
  | zero =>
    intro j n b h1 h2
    obtain ⟨n, rfl⟩ : ∃ n', n = n' + 1 := ⟨n - 1, by omega⟩
    rw [lX12_freeMark_49, l_0, R.at (by omega), Option.bind_some, h0, if_pos (pI_le (by omega) (by omega))]
    cases b <;> rfl
  | succ m ih =>
    intro j n b h1 h2
    obtain ⟨n, rfl⟩ : ∃ n', n = n' + 1 := ⟨n - 1, by omega⟩
    rw [lX12_freeMark_49, l_0, R.at (by omega), Option.bind_some, h0, if_neg (pI_nle (by omega) (by omega)), R.of (by omega) (by omega), Option.bind_some, alike_rb, Option.bind_some, l_1, nI_ad, ih (j + 1) n _ (by omega) (by omega), ih (j + 1) n _ (by omega) (by omega), lkf]
    cases b
    · rw [if_neg (by decide)]; rfl
    · rw [if_pos rfl]
      cases akb x (ρ (9 + 4 * j + 0))
      · rw [if_neg (by decide), Bool.false_or]
      · rw [if_pos rfl, Bool.true_or]; rfl
/-- the reference looks at each mark; those with another number of grooves it passes over -/
theorem fr_skip {N : Mem} {ρ : Nat → Int32} {h g : Nat} (R : Ro N ρ) (h0 : ρ 0 = nI h) (hh : h ≤ 8) (hg : g < 100) : ∀ (d a n : Nat), a + d ≤ 65536 → d ≤ n → (∀ x, a ≤ x → x < a + d → pc x ≠ g) → lX12_freeMark_26 (nI g) N n (nI a) = lX12_freeMark_26 (nI g) N (n - d) (nI (a + d)) := by
  intro d
  induction d with
  | zero => intro a n h1 h2 h3; rfl
  | succ d ih =>
    intro a n h1 h2 h3
    obtain ⟨n, rfl⟩ : ∃ n', n = n' + 1 := ⟨n - 1, by omega⟩
    have hp : pc a < 100 := by
      have := pc_min (a + 1) a (by omega) (by omega)
      refine Nat.lt_of_not_le fun q => ?_
      have h5 := Nat.pow_le_pow_right (n := 2) (by omega) q
      have h6 : (2 : Nat) ^ 100 ≤ a + 1 := Nat.le_trans h5 this
      have h7 : (2 : Nat) ^ 17 ≤ 2 ^ 100 := Nat.pow_le_pow_right (by omega) (by omega)
      omega
    have e : lX12_freeMark_26 (nI g) N (n + 1) (nI a) = lX12_freeMark_26 (nI g) N n (nI (a + 1)) := by
      rw [lX12_freeMark_26, l_65535, if_neg (pI_nlt (by omega) (by omega)), bits_n (by omega), Option.bind_some, if_neg (pI_ne (h3 a (by omega) (by omega)) (by omega) (by omega)), Option.bind_some, l_0, hl_r R h0 hh _ h 0 FUEL _ (by omega) (fuel8 (by omega)), Option.bind_some, Bool.false_and, if_neg (by decide), l_1, nI_ad]
    rw [e, ih (a + 1) n (by omega) (by omega) (fun x q1 q2 => h3 x (by omega) (by omega)), show n + 1 - (d + 1) = n - d by omega, show a + 1 + d = a + (d + 1) by omega]
theorem fr_end {N : Mem} {g : Nat} (n : Nat) : lX12_freeMark_26 (nI g) N (n + 1) (nI 65536) = some (Sum.inr ()) := by
  rw [lX12_freeMark_26, l_65535, if_pos (pI_lt (by omega) (by omega))]
def eF (o : Option Nat) : (Nat ⊕ Int32) ⊕ Unit := match o with | none => Sum.inr () | some x => Sum.inl (Sum.inr (nI x))
def eG (N : Mem) (o : Option Nat) : (Int32 × Mem) ⊕ Unit := match o with | none => Sum.inr () | some x => Sum.inl (nI x, N)
theorem free_l {M : Mem} {ρ : Nat → Int32} {h g : Nat} (H : HH M ρ h) (hg : g < 100) : ∀ (d m t n : Nat), m + d = 65536 → 1 ≤ m → t < m → d < n → pc m = g → (m < 65536) → ∃ r : Option Nat, lX11_freeMark_18 M n (nI m) (nI t) = some (eF r) ∧ ∀ N, Ro N ρ → ∀ n2, d < n2 → lX12_freeMark_26 (nI g) N n2 (nI m) = some (eG N r) := by
  intro d
  have hh := H.1
  induction d using Nat.strongRecOn with
  | _ d ih =>
    intro m t n h1 h2 h3 h4 h5 h6
    obtain ⟨n, rfl⟩ : ∃ n', n = n' + 1 := ⟨n - 1, by omega⟩
    have ec : lX11_freeMark_18 M (n + 1) (nI m) (nI t) = if lkf ρ (nI m) h 0 = true then lX11_freeMark_18 M n (nI (gos m)) (nI (t + 1)) else some (Sum.inl (Sum.inr (nI m))) := by
      have hl : fX4_hasLike 2 (nI m) M = some (lkf ρ (nI m) h 0) := by
        unfold fX4_hasLike
        rw [l_0, hl_c H (nI m) h 0 FUEL (by omega) (fuel8 (by omega)), Option.bind_some]
        cases lkf ρ (nI m) h 0
        · rw [if_neg (by decide)]; rfl
        · rw [if_pos rfl]; rfl
      rw [lX11_freeMark_18, l_65535, if_neg (pI_nle (by omega) (by omega)), if_neg (pI_nlt (by omega) (by omega)), hl, Option.bind_some, gos_c h2 h6, Option.bind_some, l_1, nI_ad]
    have er : ∀ N, Ro N ρ → ∀ n2, lX12_freeMark_26 (nI g) N (n2 + 1) (nI m) = if lkf ρ (nI m) h 0 = true then lX12_freeMark_26 (nI g) N n2 (nI (m + 1)) else some (Sum.inl (nI m, N)) := fun N R n2 => by
      rw [lX12_freeMark_26, l_65535, if_neg (pI_nlt (by omega) (by omega)), bits_n h6, Option.bind_some, h5, if_pos rfl, Option.bind_some, l_0, hl_r R H.2.2.1 hh _ h 0 FUEL _ (by omega) (fuel8 (by omega)), Option.bind_some, Bool.true_and, l_1, nI_ad]
      cases lkf ρ (nI m) h 0
      · rw [if_pos (by decide), if_neg (by decide)]
      · rw [if_neg (by decide), if_pos rfl]
    by_cases hl : lkf ρ (nI m) h 0 = true
    · obtain ⟨g1, g2, g3, g4⟩ := gos_next h2 h6
      by_cases hb : gos m < 65536
      · obtain ⟨r, a1, a2⟩ := ih (65536 - gos m) (by omega) (gos m) (t + 1) n (by omega) (by omega) (by omega) (by omega) (by omega) hb
        refine ⟨r, by rw [ec, if_pos hl, a1], fun N R n2 hn2 => ?_⟩
        obtain ⟨n2, rfl⟩ : ∃ n', n2 = n' + 1 := ⟨n2 - 1, by omega⟩
        rw [er N R, if_pos hl, fr_skip R H.2.2.1 hh hg (gos m - (m + 1)) (m + 1) n2 (by omega) (by omega) (fun x q1 q2 => by rw [← h5]; exact g4 x (by omega) (by omega)), show m + 1 + (gos m - (m + 1)) = gos m by omega]
        exact a2 N R _ (by omega)
      · refine ⟨none, ?_, fun N R n2 hn2 => ?_⟩
        · obtain ⟨n, rfl⟩ : ∃ n', n = n' + 1 := ⟨n - 1, by omega⟩
          rw [ec, if_pos hl, lX11_freeMark_18, l_65535]
          by_cases ht : 65535 ≤ t + 1
          · rw [if_pos (pI_le ht (by omega))]; rfl
          · rw [if_neg (pI_nle (by omega) (by omega)), if_pos (pI_lt (by omega) (by omega))]; rfl
        · obtain ⟨n2, rfl⟩ : ∃ n', n2 = n' + 1 := ⟨n2 - 1, by omega⟩
          rw [er N R, if_pos hl, fr_skip R H.2.2.1 hh hg (65536 - (m + 1)) (m + 1) n2 (by omega) (by omega) (fun x q1 q2 => by rw [← h5]; exact g4 x (by omega) (by omega)), show m + 1 + (65536 - (m + 1)) = 65536 by omega]
          obtain ⟨n3, hn3⟩ : ∃ n', n2 - (65536 - (m + 1)) = n' + 1 := ⟨n2 - (65536 - (m + 1)) - 1, by omega⟩
          rw [hn3]
          exact fr_end n3
    · exact ⟨some m, by rw [ec, if_neg hl]; rfl, fun N R n2 hn2 => by
        obtain ⟨n2, rfl⟩ : ∃ n', n2 = n' + 1 := ⟨n2 - 1, by omega⟩
        rw [er N R, if_neg hl]; rfl⟩
theorem start_g : ∀ g, g < 17 → ((1 : Int32) <<< (nI g &&& 31)) - 1 = nI (2 ^ g - 1) := by decide +kernel
theorem step21 {n : Nat} {M : Mem} {h b g c s l t : Nat} (F : Fu n M h b g c s l t) (p : Int32) : ∃ M3, LS21 p M M3 ∧ Iv (n + 1) M3 := by
  have H := F.vi.1
  have hh := H.1
  by_cases h2 : 1 ≤ p ∧ p ≤ 16
  · obtain ⟨k, hk1, hk2, rfl⟩ : ∃ k, 1 ≤ k ∧ k ≤ 16 ∧ p = nI k := by
      have h0 : (0 : Int32) ≤ p := Int32.le_trans (show (0 : Int32) ≤ 1 by decide) h2.1
      obtain ⟨w, hw, rfl⟩ := rng (B := 16) (by omega) ⟨h0, h2.2⟩
      refine ⟨w, ?_, hw, rfl⟩
      have := h2.1
      rw [l_1, mI_le (by omega) (by omega)] at this
      exact this
    obtain ⟨m, hm⟩ : ∃ m, m = 2 ^ k - 1 := ⟨_, rfl⟩
    have hp1 : 2 ^ 1 ≤ 2 ^ k := Nat.pow_le_pow_right (by omega) hk1
    have hp2 : 2 ^ k ≤ 2 ^ 16 := Nat.pow_le_pow_right (by omega) hk2
    have hpm : pc m = k := by rw [hm]; exact pc_ones k (by omega)
    obtain ⟨r, a1, a2⟩ := free_l (g := k) H (by omega) (65536 - m) m 0 FUEL (by omega) (by omega) (by omega) (by unfold FUEL; omega) hpm (by omega)
    have es : ∀ N, Ro N (M.1 179) → lX12_freeMark_26 (nI k) N FUEL 1 = some (eG N r) := fun N R => by
      have h3 := fr_skip R H.2.2.1 hh (g := k) (by omega) (m - 1) 1 FUEL (by omega) (by unfold FUEL; omega) (fun x q1 q2 q3 => by
        have := pc_min (x + 1) x (by omega) (by omega)
        rw [q3] at this
        omega)
      rw [show 1 + (m - 1) = m by omega] at h3
      rw [l_1, h3]
      exact a2 N R _ (by unfold FUEL; omega)
    have ec : fX11_freeMark (nI k) M = (some (eF r)).bind fun o => s0 o (fun _ => some (Sum.inr (-1 : Int32))) := by
      unfold fX11_freeMark
      rw [wn, if_pos h2, Option.bind_some, refuse_0, Option.bind_some]
      simp only [xc]
      rw [start_g k (by omega), ← hm, l_0, a1]
    have erf : ∀ x, fX12_freeMark (nI k) (mputL M 185 0 x) = (some (eG (mput (mputL M 185 0 x) 178 4 0) r)).bind fun o => s0 o (fun _ => some ((-1 : Int32), mput (mputL M 185 0 x) 178 4 0)) := fun x => by
      unfold fX12_freeMark
      rw [inn, Option.bind_some, if_pos (decide_eq_true h2), Option.bind_some, ref0, Option.bind_some]
      simp only [un2, Bool.false_eq_true, if_false]
      rw [es _ (Ro.rd _ _)]
    cases r with
    | none => exact ⟨_, Or.inl ⟨-1, -1, ec, erf _, thr_n _ 0, rfl, rd_L _ _ _⟩, F.rd _ _⟩
    | some x => exact ⟨_, Or.inl ⟨nI x, nI x, ec, erf _, thr_n _ 0, rfl, rd_L _ _ _⟩, F.rd _ _⟩
  · refine ⟨_, Or.inr ⟨0, ?_, ?_, thr_n _ 1⟩, F.rf _⟩
    · unfold fX11_freeMark
      rw [wn, if_neg h2, Option.bind_some, refuse_k.2.1]; rfl
    · unfold fX12_freeMark
      rw [inn, Option.bind_some, if_neg (by rw [decide_eq_true_eq]; exact h2), Option.bind_some, ref1]; rfl
