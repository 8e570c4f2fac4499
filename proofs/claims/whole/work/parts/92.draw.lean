/-! numbers drawn, grooves lost -/
def nL (n : Nat) : Int64 := Int64.ofNat n
theorem nL_ad (a b : Nat) : nL a + nL b = nL (a + b) := (Int64.ofNat_add a b).symm
theorem nL_ml (a b : Nat) : nL a * nL b = nL (a * b) := (Int64.ofNat_mul a b).symm
theorem nL_and (a b : Nat) : nL a &&& nL b = nL (a &&& b) := by
  apply Int64.toBitVec_inj.mp
  show BitVec.ofNat 64 a &&& BitVec.ofNat 64 b = BitVec.ofNat 64 (a &&& b)
  exact BitVec.ofNat_and.symm
theorem nL_of {n : Nat} (h : n < 2 ^ 31) : (nI n).toInt64 = nL n := Int32.toInt64_ofNat' (by
  have : Int32.maxValue.toInt = 2147483647 := by decide
  omega)
theorem nL_to (n : Nat) : (nL n).toInt32 = nI n := Int64.toInt32_ofNat'
theorem nL_int {n : Nat} (h : n < 2 ^ 63) : (nL n).toInt = n := Int64.toInt_ofNat_of_lt h
theorem nL_sb {a b : Nat} (h : b ≤ a) (ha : a < 2 ^ 63) : nL a - nL b = nL (a - b) := by
  apply Int64.toInt_inj.mp
  rw [Int64.toInt_sub, nL_int ha, nL_int (by omega), nL_int (by omega)]
  simp only [Int.bmod_def]
  omega
theorem nL_dv {a b : Nat} (ha : a < 2 ^ 63) (hb : b < 2 ^ 63) : nL a / nL b = nL (a / b) := by
  have hd : a / b ≤ a := Nat.div_le_self _ _
  apply Int64.toInt_inj.mp
  rw [Int64.toInt_div, nL_int ha, nL_int hb, nL_int (by omega), ← Int.ofNat_tdiv]
  generalize a / b = q at hd ⊢
  simp only [Int.bmod_def]
  omega
def drS (s : Nat) : Nat := (1103515245 * s + 12345) % 2147483648
theorem drS_lt (s : Nat) : drS s < 2 ^ 31 := Nat.mod_lt _ (by omega)
theorem drS_r {s : Nat} (h : s < 2 ^ 31) : ((((1103515245 : Int64) * (nI s).toInt64) + (12345 : Int64)) - (((1103515245 : Int64) * (nI s).toInt64) + (12345 : Int64)) / (2147483648 : Int64) * (2147483648 : Int64)).toInt32 = nI (drS s) := by
  have h2 : (1103515245 * s + 12345) / 2147483648 * 2147483648 ≤ 1103515245 * s + 12345 := Nat.div_mul_le_self _ _
  rw [nL_of h, show (1103515245 : Int64) = nL 1103515245 from rfl, show (12345 : Int64) = nL 12345 from rfl, show (2147483648 : Int64) = nL 2147483648 from rfl, nL_ml, nL_ad, nL_dv (by omega) (by omega), nL_ml, nL_sb h2 (by omega), nL_to, show 1103515245 * s + 12345 - (1103515245 * s + 12345) / 2147483648 * 2147483648 = drS s by unfold drS; omega]
theorem drS_c {s : Nat} (h : s < 2 ^ 31) : ((((1103515245 : Int64) * (nI s).toInt64) + (12345 : Int64)) &&& (2147483647 : Int64)).toInt32 = nI (drS s) := by
  rw [nL_of h, show (1103515245 : Int64) = nL 1103515245 from rfl, show (12345 : Int64) = nL 12345 from rfl, show (2147483647 : Int64) = nL (2 ^ 31 - 1) from rfl, nL_ml, nL_ad, nL_and, nL_to, Nat.and_two_pow_sub_one_eq_mod]
  rfl
theorem draw_r {N : Mem} {s m : Nat} (h1 : N.1 179 1 = nI s) (hs : s < 2 ^ 31) (hm : 0 < m) (hm2 : m < 100) : fX12_draw (nI m) N = some (nI (drS s / 65536 % m), mput N 179 1 (nI (drS s))) := by
  have := drS_lt s
  unfold fX12_draw
  rw [l_1, ald_n (by omega) (by omega), Option.bind_some, h1, drS_r hs, ast_n (by omega) (by omega), Option.bind_some, ald_n (by omega) (by omega), Option.bind_some, mput_at, if_pos (show (179 : Nat) = 179 ∧ (1 : Nat) = 1 from ⟨rfl, rfl⟩), l_0, if_neg (pI_ne (by omega) (by omega) (by omega)), show (65536 : Int32) = nI 65536 from rfl, mI_dv (by omega) (by omega), mI_md (by omega) (by omega)]
theorem draw_c {M : Mem} {s m : Nat} (h1 : M.1 1 5 = nI s) (hs : s < 2 ^ 31) (hm : 0 < m) (hm2 : m < 100) : fX9_draw 1 (nI m) M = some (nI (drS s / 65536 % m), mput M 1 5 (nI (drS s))) := by
  have := drS_lt s
  have e : nI (drS s) >>> ((16 : Int32) &&& 31) = nI (drS s / 65536) := by
    rw [show ((16 : Int32) &&& 31) = nI 16 from by decide, nS (by omega) (by omega)]
  unfold fX9_draw pf
  rw [Option.bind_some, h1, drS_c hs, l_0, if_neg (pI_nle (by omega) (by omega)), if_neg (pI_ne (by omega) (by omega) (by omega)), mput_at, if_pos ⟨rfl, rfl⟩, e, mI_md (by omega) (by omega)]
/-- a print without a groove -/
def clr (p g : Nat) : Nat := p &&& (2 ^ g ^^^ 4294967295)
theorem clr_n {p g : Nat} (hg : g < 16) : nI p &&& (((1 : Int32) <<< (nI g &&& 31)) ^^^ (-1 : Int32)) = nI (clr p g) := by
  rw [shl1 g (by omega), show (-1 : Int32) = nI 4294967295 from by decide, nX, nA]
  rfl
def bl : Nat → Nat → Nat → Nat × Nat
  | 0, p, s => (p, s)
  | n + 1, p, s => bl n (clr p (drS s / 65536 % 16)) (drS s)
theorem bl_sub : ∀ (n p s q : Nat), q &&& p = p → q &&& (bl n p s).1 = (bl n p s).1 := by
  intro n
  induction n with
  | zero => intro p s q h; exact h
  | succ n ih =>
    intro p s q h
    rw [bl]
    refine ih _ _ _ ?_
    unfold clr
    rw [← Nat.and_assoc, h]
theorem bl_lt : ∀ (n p s : Nat), s < 2 ^ 31 → (bl n p s).2 < 2 ^ 31 := by
  intro n
  induction n with
  | zero => intro p s h; exact h
  | succ n ih => intro p s h; rw [bl]; exact ih _ _ (drS_lt s)
theorem bl_c : ∀ (m j n p s : Nat) (M : Mem) (v : Nat), M.1 1 5 = nI s → s < 2 ^ 31 → j + m = v → v < 100 → m < n → lX9_blur_11 1 (nI v) n (nI p) (nI j) M = some (nI (bl m p s).1, mput M 1 5 (nI (bl m p s).2)) := by
  intro m
  induction m with
  | zero =>
    intro j n p s M v h1 h2 h3 h5 h4
    obtain ⟨n, rfl⟩ : ∃ n', n = n' + 1 := ⟨n - 1, by omega⟩
    rw [lX9_blur_11, if_pos (pI_le (by omega) (by omega))]
    congr 2
    refine mem_ext (fun a b => ?_) rfl
    rw [mput_at]
    by_cases h : a = 1 ∧ b = 5
    · rw [if_pos h, h.1, h.2, h1]; rfl
    · rw [if_neg h]
  | succ m ih =>
    intro j n p s M v h1 h2 h3 h5 h4
    obtain ⟨n, rfl⟩ : ∃ n', n = n' + 1 := ⟨n - 1, by omega⟩
    rw [lX9_blur_11, if_neg (pI_nle (by omega) (by omega)), show (16 : Int32) = nI 16 from rfl, draw_c h1 h2 (by omega) (by omega), Option.bind_some]
    simp only [un2]
    rw [clr_n (Nat.mod_lt _ (by omega)), l_1, nI_ad, ih (j + 1) n _ (drS s) _ v (by rw [mput_at, if_pos ⟨rfl, rfl⟩]) (drS_lt s) (by omega) h5 (by omega)]
    rw [bl]
    congr 2
    refine mem_ext (fun a b => ?_) rfl
    simp only [mput_at]
    by_cases h : a = 1 ∧ b = 5
    · rw [if_pos h, if_pos h]
    · rw [if_neg h, if_neg h, if_neg h]
theorem bl_r : ∀ (m j n p s : Nat) (N : Mem) (v : Nat), N.1 179 1 = nI s → s < 2 ^ 31 → j + m = v → v < 100 → m < n → lX12_comesOut_29 (nI v) n (nI p) (nI j) N = some (nI (bl m p s).1, mput N 179 1 (nI (bl m p s).2)) := by
  intro m
  induction m with
  | zero =>
    intro j n p s M v h1 h2 h3 h5 h4
    obtain ⟨n, rfl⟩ : ∃ n', n = n' + 1 := ⟨n - 1, by omega⟩
    rw [lX12_comesOut_29, if_pos (pI_le (by omega) (by omega))]
    congr 2
    refine mem_ext (fun a b => ?_) rfl
    rw [mput_at]
    by_cases h : a = 179 ∧ b = 1
    · rw [if_pos h, h.1, h.2, h1]; rfl
    · rw [if_neg h]
  | succ m ih =>
    intro j n p s M v h1 h2 h3 h5 h4
    obtain ⟨n, rfl⟩ : ∃ n', n = n' + 1 := ⟨n - 1, by omega⟩
    rw [lX12_comesOut_29, if_neg (pI_nle (by omega) (by omega)), show (16 : Int32) = nI 16 from rfl, draw_r h1 h2 (by omega) (by omega), Option.bind_some]
    simp only [un2]
    rw [clr_n (Nat.mod_lt _ (by omega)), l_1, nI_ad, ih (j + 1) n _ (drS s) _ v (by rw [mput_at, if_pos ⟨rfl, rfl⟩]) (drS_lt s) (by omega) h5 (by omega)]
    rw [bl]
    congr 2
    refine mem_ext (fun a b => ?_) rfl
    simp only [mput_at]
    by_cases h : a = 179 ∧ b = 1
    · rw [if_pos h, if_pos h]
    · rw [if_neg h, if_neg h, if_neg h]
/-! grooves that a print lacks -/
theorem pcf_split (b : Nat) : ∀ (n a b : Nat), pcf n a = pcf n (a &&& b) + pcf n (a &&& (b ^^^ (2 ^ n - 1))) := by
  intro n
  induction n with
  | zero => intro a b; rfl
  | succ n ih =>
    intro a b
    have h2 : ∀ x y : Nat, (x &&& y) / 2 = x / 2 &&& y / 2 := fun x y => Nat.eq_of_testBit_eq fun i => by
      rw [← Nat.testBit_succ, Nat.testBit_and, Nat.testBit_and, Nat.testBit_succ, Nat.testBit_succ]
    have h3 : (b ^^^ (2 ^ (n + 1) - 1)) / 2 = b / 2 ^^^ (2 ^ n - 1) := Nat.eq_of_testBit_eq fun i => by
      rw [← Nat.testBit_succ, Nat.testBit_xor, Nat.testBit_xor, Nat.testBit_succ, Nat.testBit_two_pow_sub_one, Nat.testBit_two_pow_sub_one]
      simp
    have hm : ∀ x : Nat, x % 2 = if x.testBit 0 = true then 1 else 0 := fun x => by
      rw [Nat.testBit_zero]
      by_cases h : x % 2 = 1
      · rw [if_pos (decide_eq_true h), h]
      · rw [if_neg (by rw [decide_eq_true_eq]; exact h)]; omega
    have h4 : a % 2 = (a &&& b) % 2 + (a &&& (b ^^^ (2 ^ (n + 1) - 1))) % 2 := by
      rw [hm a, hm (a &&& b), hm (a &&& (b ^^^ (2 ^ (n + 1) - 1))), Nat.testBit_and, Nat.testBit_and, Nat.testBit_xor, Nat.testBit_two_pow_sub_one]
      cases a.testBit 0 <;> cases b.testBit 0 <;> simp
    rw [pcf, pcf, pcf, h2, h2, h3, h4, ih (a / 2) (b / 2)]
    omega
theorem pc_lack {m p : Nat} (h : m &&& p = p) : pc (m &&& (p ^^^ 4294967295)) = pc m - pc p ∧ pc p ≤ pc m := by
  have := pcf_split 0 32 m p
  rw [h] at this
  have e : pcf 32 (m &&& (p ^^^ (2 ^ 32 - 1))) = pc (m &&& (p ^^^ 4294967295)) := rfl
  rw [e] at this
  have e2 : pcf 32 m = pc m := rfl
  have e3 : pcf 32 p = pc p := rfl
  omega
theorem lack_n (m p : Nat) : nI m &&& (nI p ^^^ (-1 : Int32)) = nI (m &&& (p ^^^ 4294967295)) := by
  rw [show (-1 : Int32) = nI 4294967295 from by decide, nX, nA]
