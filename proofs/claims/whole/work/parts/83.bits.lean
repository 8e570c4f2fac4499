/-! bits of whole numbers -/
theorem nA (a b : Nat) : nI a &&& nI b = nI (a &&& b) := by
  apply Int32.toBitVec_inj.mp
  show BitVec.ofNat 32 a &&& BitVec.ofNat 32 b = BitVec.ofNat 32 (a &&& b)
  exact BitVec.ofNat_and.symm
theorem nO (a b : Nat) : nI a ||| nI b = nI (a ||| b) := by
  apply Int32.toBitVec_inj.mp
  show BitVec.ofNat 32 a ||| BitVec.ofNat 32 b = BitVec.ofNat 32 (a ||| b)
  exact BitVec.ofNat_or.symm
theorem nX (a b : Nat) : nI a ^^^ nI b = nI (a ^^^ b) := by
  apply Int32.toBitVec_inj.mp
  show BitVec.ofNat 32 a ^^^ BitVec.ofNat 32 b = BitVec.ofNat 32 (a ^^^ b)
  exact BitVec.ofNat_xor.symm
theorem smod_k : ∀ k, k < 32 → ((BitVec.ofNat 32 k).smod 32#32).toNat = k := by decide +kernel
theorem nS {a k : Nat} (ha : a < 2 ^ 31) (hk : k < 32) : nI a >>> nI k = nI (a / 2 ^ k) := by
  have hd : a / 2 ^ k ≤ a := Nat.div_le_self _ _
  apply Int32.toInt_inj.mp
  rw [nI_int (by omega)]
  show (BitVec.sshiftRight' (nI a).toBitVec ((BitVec.ofNat 32 k).smod 32#32)).toInt = _
  rw [BitVec.toInt_sshiftRight', smod_k k hk]
  show (nI a).toInt >>> k = _
  rw [nI_int ha, Int.shiftRight_eq_div_pow]
  rfl
theorem and31 {k : Nat} (hk : k < 32) : nI k &&& 31 = nI k := by
  rw [l_31, nA, show (31 : Nat) = 2 ^ 5 - 1 from rfl, Nat.and_two_pow_sub_one_eq_mod, Nat.mod_eq_of_lt (by omega)]
theorem shl1 : ∀ k, k < 31 → (1 : Int32) <<< (nI k &&& 31) = nI (2 ^ k) := by decide +kernel
theorem bits_l : ∀ (k a n : Nat) (acc : Int32), a < 2 ^ k → k ≤ 31 → k < n → lX12_bits_4 n acc (nI a) = some (acc + nI (pc a)) := by
  intro k
  induction k with
  | zero =>
    intro a n acc h1 h2 h3
    obtain ⟨n, rfl⟩ : ∃ n', n = n' + 1 := ⟨n - 1, by omega⟩
    obtain rfl : a = 0 := by omega
    rw [lX12_bits_4, if_pos (show nI 0 ≤ 0 by decide), show pc 0 = 0 from rfl, sm_z]
  | succ k ih =>
    intro a n acc h1 h2 h3
    obtain ⟨n, rfl⟩ : ∃ n', n = n' + 1 := ⟨n - 1, by omega⟩
    have hp : 2 ^ (k + 1) ≤ 2 ^ 31 := Nat.pow_le_pow_right (by omega) h2
    by_cases h0 : a = 0
    · subst h0
      rw [lX12_bits_4, if_pos (show nI 0 ≤ 0 by decide), show pc 0 = 0 from rfl, sm_z]
    · rw [lX12_bits_4, l_0, if_neg (pI_nle (by omega) (by omega)), show ((1 : Int32) &&& 31) = nI 1 from by decide, nS (by omega) (by omega), l_1, nA, Nat.and_one_is_mod, show a / 2 ^ 1 = a / 2 from rfl, ih (a / 2) n _ (by rw [Nat.pow_succ] at h1; omega) (by omega) (by omega), Int32.add_assoc, nI_ad, ← pc_s (by omega)]
theorem bits_n {a : Nat} (h : a < 65536) : fX12_bits (nI a) = some (nI (pc a)) := by
  unfold fX12_bits
  rw [bits_l 31 a FUEL 0 (by omega) (by omega) (fuel8 (by omega)), Option.bind_some, Int32.zero_add]
/-! the machine's own count of bits -/
def bq1 (x : Int32) : Int32 := x - (((x).toUInt32 >>> (((1 : Int32)).toUInt32 &&& Int32.toUInt32 31)).toInt32 &&& (1431655765 : Int32))
def bq2 (y : Int32) : Int32 := (y &&& (858993459 : Int32)) + (((y).toUInt32 >>> (((2 : Int32)).toUInt32 &&& Int32.toUInt32 31)).toInt32 &&& (858993459 : Int32))
def bq3 (y : Int32) : Int32 := (y + ((y).toUInt32 >>> (((4 : Int32)).toUInt32 &&& Int32.toUInt32 31)).toInt32) &&& (252645135 : Int32)
def bq4 (y : Int32) : Int32 := y + ((y).toUInt32 >>> (((8 : Int32)).toUInt32 &&& Int32.toUInt32 31)).toInt32
def bq5 (y : Int32) : Int32 := (y + ((y).toUInt32 >>> (((16 : Int32)).toUInt32 &&& Int32.toUInt32 31)).toInt32) &&& (63 : Int32)
theorem bq_eq (x : Int32) : fJ6_bitCount_0f7a4 x = some (bq5 (bq4 (bq3 (bq2 (bq1 x))))) := rfl
theorem nU1 {x : Nat} (hx : x < 2 ^ 31) : ((nI x).toUInt32 >>> (((1 : Int32)).toUInt32 &&& Int32.toUInt32 31)).toInt32 = nI (x / 2) := by
  apply Int32.toBitVec_inj.mp
  show BitVec.ofNat 32 x >>> 1#32 = BitVec.ofNat 32 (x / 2)
  apply BitVec.eq_of_toNat_eq
  rw [BitVec.toNat_ofNat]
  show (BitVec.ofNat 32 x).toNat >>> 1 = _
  rw [BitVec.toNat_ofNat, Nat.shiftRight_eq_div_pow]
  omega
theorem nU2 {x : Nat} (hx : x < 2 ^ 31) : ((nI x).toUInt32 >>> (((2 : Int32)).toUInt32 &&& Int32.toUInt32 31)).toInt32 = nI (x / 4) := by
  apply Int32.toBitVec_inj.mp
  show BitVec.ofNat 32 x >>> 2#32 = BitVec.ofNat 32 (x / 4)
  apply BitVec.eq_of_toNat_eq
  rw [BitVec.toNat_ofNat]
  show (BitVec.ofNat 32 x).toNat >>> 2 = _
  rw [BitVec.toNat_ofNat, Nat.shiftRight_eq_div_pow]
  omega
theorem nU4 {x : Nat} (hx : x < 2 ^ 31) : ((nI x).toUInt32 >>> (((4 : Int32)).toUInt32 &&& Int32.toUInt32 31)).toInt32 = nI (x / 16) := by
  apply Int32.toBitVec_inj.mp
  show BitVec.ofNat 32 x >>> 4#32 = BitVec.ofNat 32 (x / 16)
  apply BitVec.eq_of_toNat_eq
  rw [BitVec.toNat_ofNat]
  show (BitVec.ofNat 32 x).toNat >>> 4 = _
  rw [BitVec.toNat_ofNat, Nat.shiftRight_eq_div_pow]
  omega
theorem nU8 {x : Nat} (hx : x < 2 ^ 31) : ((nI x).toUInt32 >>> (((8 : Int32)).toUInt32 &&& Int32.toUInt32 31)).toInt32 = nI (x / 256) := by
  apply Int32.toBitVec_inj.mp
  show BitVec.ofNat 32 x >>> 8#32 = BitVec.ofNat 32 (x / 256)
  apply BitVec.eq_of_toNat_eq
  rw [BitVec.toNat_ofNat]
  show (BitVec.ofNat 32 x).toNat >>> 8 = _
  rw [BitVec.toNat_ofNat, Nat.shiftRight_eq_div_pow]
  omega
theorem nU16 {x : Nat} (hx : x < 2 ^ 31) : ((nI x).toUInt32 >>> (((16 : Int32)).toUInt32 &&& Int32.toUInt32 31)).toInt32 = nI (x / 65536) := by
  apply Int32.toBitVec_inj.mp
  show BitVec.ofNat 32 x >>> 16#32 = BitVec.ofNat 32 (x / 65536)
  apply BitVec.eq_of_toNat_eq
  rw [BitVec.toNat_ofNat]
  show (BitVec.ofNat 32 x).toNat >>> 16 = _
  rw [BitVec.toNat_ofNat, Nat.shiftRight_eq_div_pow]
  omega
theorem pcf_w : ∀ (j n a : Nat), a < 2 ^ n → pcf (n + j) a = pcf n a := by
  intro j
  induction j with
  | zero => intro n a h; rfl
  | succ j ih =>
    intro n a h
    rw [← Nat.add_assoc, pcf_s (n + j) a (Nat.lt_of_lt_of_le h (Nat.pow_le_pow_right (by omega) (by omega))), ih n a h]
set_option maxRecDepth 100000 in
theorem bn_all (a : Nat) (ha : a < 256) (b : Nat) (hb : b < 256) : bn5 (bn4 (bn3 (bn2 (bn1 (256 * a + b))))) = pc (256 * a + b) := by
  have key : bnq (256 * a + b) = true := by
    have e : 256 * a + b = 256 * (16 * (a / 16) + a % 16) + b := by omega
    rw [e]
    have h2 : a % 16 < 16 := Nat.mod_lt _ (by omega)
    have h3 : a / 16 < 16 := by omega
    generalize a / 16 = q at h3 ⊢
    rcases (show q = 0 ∨ q = 1 ∨ q = 2 ∨ q = 3 ∨ q = 4 ∨ q = 5 ∨ q = 6 ∨ q = 7 ∨ q = 8 ∨ q = 9 ∨ q = 10 ∨ q = 11 ∨ q = 12 ∨ q = 13 ∨ q = 14 ∨ q = 15 by omega) with rfl | rfl | rfl | rfl | rfl | rfl | rfl | rfl | rfl | rfl | rfl | rfl | rfl | rfl | rfl | rfl
    · exact allb_at (f := fun b => bnq (256 * (16 * 0 + a % 16) + b)) 256 b hb (allb_at (f := fun a => allb 256 (fun b => bnq (256 * (16 * 0 + a) + b))) 16 (a % 16) h2 bn_0)
    · exact allb_at (f := fun b => bnq (256 * (16 * 1 + a % 16) + b)) 256 b hb (allb_at (f := fun a => allb 256 (fun b => bnq (256 * (16 * 1 + a) + b))) 16 (a % 16) h2 bn_1)
    · exact allb_at (f := fun b => bnq (256 * (16 * 2 + a % 16) + b)) 256 b hb (allb_at (f := fun a => allb 256 (fun b => bnq (256 * (16 * 2 + a) + b))) 16 (a % 16) h2 bn_2)
    · exact allb_at (f := fun b => bnq (256 * (16 * 3 + a % 16) + b)) 256 b hb (allb_at (f := fun a => allb 256 (fun b => bnq (256 * (16 * 3 + a) + b))) 16 (a % 16) h2 bn_3)
    · exact allb_at (f := fun b => bnq (256 * (16 * 4 + a % 16) + b)) 256 b hb (allb_at (f := fun a => allb 256 (fun b => bnq (256 * (16 * 4 + a) + b))) 16 (a % 16) h2 bn_4)
    · exact allb_at (f := fun b => bnq (256 * (16 * 5 + a % 16) + b)) 256 b hb (allb_at (f := fun a => allb 256 (fun b => bnq (256 * (16 * 5 + a) + b))) 16 (a % 16) h2 bn_5)
    · exact allb_at (f := fun b => bnq (256 * (16 * 6 + a % 16) + b)) 256 b hb (allb_at (f := fun a => allb 256 (fun b => bnq (256 * (16 * 6 + a) + b))) 16 (a % 16) h2 bn_6)
    · exact allb_at (f := fun b => bnq (256 * (16 * 7 + a % 16) + b)) 256 b hb (allb_at (f := fun a => allb 256 (fun b => bnq (256 * (16 * 7 + a) + b))) 16 (a % 16) h2 bn_7)
    · exact allb_at (f := fun b => bnq (256 * (16 * 8 + a % 16) + b)) 256 b hb (allb_at (f := fun a => allb 256 (fun b => bnq (256 * (16 * 8 + a) + b))) 16 (a % 16) h2 bn_8)
    · exact allb_at (f := fun b => bnq (256 * (16 * 9 + a % 16) + b)) 256 b hb (allb_at (f := fun a => allb 256 (fun b => bnq (256 * (16 * 9 + a) + b))) 16 (a % 16) h2 bn_9)
    · exact allb_at (f := fun b => bnq (256 * (16 * 10 + a % 16) + b)) 256 b hb (allb_at (f := fun a => allb 256 (fun b => bnq (256 * (16 * 10 + a) + b))) 16 (a % 16) h2 bn_10)
    · exact allb_at (f := fun b => bnq (256 * (16 * 11 + a % 16) + b)) 256 b hb (allb_at (f := fun a => allb 256 (fun b => bnq (256 * (16 * 11 + a) + b))) 16 (a % 16) h2 bn_11)
    · exact allb_at (f := fun b => bnq (256 * (16 * 12 + a % 16) + b)) 256 b hb (allb_at (f := fun a => allb 256 (fun b => bnq (256 * (16 * 12 + a) + b))) 16 (a % 16) h2 bn_12)
    · exact allb_at (f := fun b => bnq (256 * (16 * 13 + a % 16) + b)) 256 b hb (allb_at (f := fun a => allb 256 (fun b => bnq (256 * (16 * 13 + a) + b))) 16 (a % 16) h2 bn_13)
    · exact allb_at (f := fun b => bnq (256 * (16 * 14 + a % 16) + b)) 256 b hb (allb_at (f := fun a => allb 256 (fun b => bnq (256 * (16 * 14 + a) + b))) 16 (a % 16) h2 bn_14)
    · exact allb_at (f := fun b => bnq (256 * (16 * 15 + a % 16) + b)) 256 b hb (allb_at (f := fun a => allb 256 (fun b => bnq (256 * (16 * 15 + a) + b))) 16 (a % 16) h2 bn_15)
  have h1 : pc (256 * a + b) = pcf 16 (256 * a + b) := pcf_w 16 16 _ (by omega)
  rw [h1]
  exact Nat.eq_of_beq_eq_true key
set_option maxRecDepth 100000 in
theorem gs_all (a : Nat) (ha : a < 256) (b : Nat) (hb : b < 256) : gsq (256 * a + b) = true := by
  have e : 256 * a + b = 256 * (16 * (a / 16) + a % 16) + b := by omega
  rw [e]
  have h2 : a % 16 < 16 := Nat.mod_lt _ (by omega)
  have h3 : a / 16 < 16 := by omega
  generalize a / 16 = q at h3 ⊢
  rcases (show q = 0 ∨ q = 1 ∨ q = 2 ∨ q = 3 ∨ q = 4 ∨ q = 5 ∨ q = 6 ∨ q = 7 ∨ q = 8 ∨ q = 9 ∨ q = 10 ∨ q = 11 ∨ q = 12 ∨ q = 13 ∨ q = 14 ∨ q = 15 by omega) with rfl | rfl | rfl | rfl | rfl | rfl | rfl | rfl | rfl | rfl | rfl | rfl | rfl | rfl | rfl | rfl
  · exact allb_at (f := fun b => gsq (256 * (16 * 0 + a % 16) + b)) 256 b hb (allb_at (f := fun a => allb 256 (fun b => gsq (256 * (16 * 0 + a) + b))) 16 (a % 16) h2 gs_0)
  · exact allb_at (f := fun b => gsq (256 * (16 * 1 + a % 16) + b)) 256 b hb (allb_at (f := fun a => allb 256 (fun b => gsq (256 * (16 * 1 + a) + b))) 16 (a % 16) h2 gs_1)
  · exact allb_at (f := fun b => gsq (256 * (16 * 2 + a % 16) + b)) 256 b hb (allb_at (f := fun a => allb 256 (fun b => gsq (256 * (16 * 2 + a) + b))) 16 (a % 16) h2 gs_2)
  · exact allb_at (f := fun b => gsq (256 * (16 * 3 + a % 16) + b)) 256 b hb (allb_at (f := fun a => allb 256 (fun b => gsq (256 * (16 * 3 + a) + b))) 16 (a % 16) h2 gs_3)
  · exact allb_at (f := fun b => gsq (256 * (16 * 4 + a % 16) + b)) 256 b hb (allb_at (f := fun a => allb 256 (fun b => gsq (256 * (16 * 4 + a) + b))) 16 (a % 16) h2 gs_4)
  · exact allb_at (f := fun b => gsq (256 * (16 * 5 + a % 16) + b)) 256 b hb (allb_at (f := fun a => allb 256 (fun b => gsq (256 * (16 * 5 + a) + b))) 16 (a % 16) h2 gs_5)
  · exact allb_at (f := fun b => gsq (256 * (16 * 6 + a % 16) + b)) 256 b hb (allb_at (f := fun a => allb 256 (fun b => gsq (256 * (16 * 6 + a) + b))) 16 (a % 16) h2 gs_6)
  · exact allb_at (f := fun b => gsq (256 * (16 * 7 + a % 16) + b)) 256 b hb (allb_at (f := fun a => allb 256 (fun b => gsq (256 * (16 * 7 + a) + b))) 16 (a % 16) h2 gs_7)
  · exact allb_at (f := fun b => gsq (256 * (16 * 8 + a % 16) + b)) 256 b hb (allb_at (f := fun a => allb 256 (fun b => gsq (256 * (16 * 8 + a) + b))) 16 (a % 16) h2 gs_8)
  · exact allb_at (f := fun b => gsq (256 * (16 * 9 + a % 16) + b)) 256 b hb (allb_at (f := fun a => allb 256 (fun b => gsq (256 * (16 * 9 + a) + b))) 16 (a % 16) h2 gs_9)
  · exact allb_at (f := fun b => gsq (256 * (16 * 10 + a % 16) + b)) 256 b hb (allb_at (f := fun a => allb 256 (fun b => gsq (256 * (16 * 10 + a) + b))) 16 (a % 16) h2 gs_10)
  · exact allb_at (f := fun b => gsq (256 * (16 * 11 + a % 16) + b)) 256 b hb (allb_at (f := fun a => allb 256 (fun b => gsq (256 * (16 * 11 + a) + b))) 16 (a % 16) h2 gs_11)
  · exact allb_at (f := fun b => gsq (256 * (16 * 12 + a % 16) + b)) 256 b hb (allb_at (f := fun a => allb 256 (fun b => gsq (256 * (16 * 12 + a) + b))) 16 (a % 16) h2 gs_12)
  · exact allb_at (f := fun b => gsq (256 * (16 * 13 + a % 16) + b)) 256 b hb (allb_at (f := fun a => allb 256 (fun b => gsq (256 * (16 * 13 + a) + b))) 16 (a % 16) h2 gs_13)
  · exact allb_at (f := fun b => gsq (256 * (16 * 14 + a % 16) + b)) 256 b hb (allb_at (f := fun a => allb 256 (fun b => gsq (256 * (16 * 14 + a) + b))) 16 (a % 16) h2 gs_14)
  · exact allb_at (f := fun b => gsq (256 * (16 * 15 + a % 16) + b)) 256 b hb (allb_at (f := fun a => allb 256 (fun b => gsq (256 * (16 * 15 + a) + b))) 16 (a % 16) h2 gs_15)
theorem count_n {x : Nat} (hx : x < 65536) : fJ6_bitCount_0f7a4 (nI x) = some (nI (pc x)) := by
  have h1 : (x / 2) &&& 1431655765 ≤ x / 2 := Nat.and_le_left
  have h2 : bn1 x ≤ x := Nat.sub_le _ _
  have e1 : bq1 (nI x) = nI (bn1 x) := by
    unfold bq1
    rw [nU1 (by omega), show (1431655765 : Int32) = nI 1431655765 from rfl, nA, mI_sb (by omega) (by omega)]; rfl
  have e2 : bq2 (nI (bn1 x)) = nI (bn2 (bn1 x)) := by
    unfold bq2
    rw [nU2 (by omega), show (858993459 : Int32) = nI 858993459 from rfl, nA, nA, nI_ad]; rfl
  have h3 : (bn1 x &&& 858993459) ≤ bn1 x := Nat.and_le_left
  have h4 : ((bn1 x / 4) &&& 858993459) ≤ bn1 x / 4 := Nat.and_le_left
  have h5 : bn2 (bn1 x) ≤ 2 * x := by unfold bn2; omega
  have e3 : bq3 (nI (bn2 (bn1 x))) = nI (bn3 (bn2 (bn1 x))) := by
    unfold bq3
    rw [nU4 (by omega), show (252645135 : Int32) = nI 252645135 from rfl, nI_ad, nA]; rfl
  have h6 : bn3 (bn2 (bn1 x)) ≤ bn2 (bn1 x) + bn2 (bn1 x) / 16 := Nat.and_le_left
  have e4 : bq4 (nI (bn3 (bn2 (bn1 x)))) = nI (bn4 (bn3 (bn2 (bn1 x)))) := by
    unfold bq4
    rw [nU8 (by omega), nI_ad]; rfl
  have h7 : bn4 (bn3 (bn2 (bn1 x))) ≤ 2 * bn3 (bn2 (bn1 x)) := by unfold bn4; omega
  have e5 : bq5 (nI (bn4 (bn3 (bn2 (bn1 x))))) = nI (bn5 (bn4 (bn3 (bn2 (bn1 x))))) := by
    unfold bq5
    rw [nU16 (by omega), show (63 : Int32) = nI 63 from rfl, nI_ad, nA]; rfl
  have h8 := bn_all (x / 256) (by omega) (x % 256) (by omega)
  rw [show 256 * (x / 256) + x % 256 = x by omega] at h8
  rw [bq_eq, e1, e2, e3, e4, e5, h8]
/-! one has all grooves of the other -/
theorem and_not (a b : Int32) : a &&& (b ^^^ (-1 : Int32)) = 0 ↔ a &&& b = a := by
  rw [← Int32.toBitVec_inj, ← Int32.toBitVec_inj]
  show a.toBitVec &&& (b.toBitVec ^^^ BitVec.allOnes 32) = 0#32 ↔ a.toBitVec &&& b.toBitVec = a.toBitVec
  rw [BitVec.xor_allOnes]
  generalize a.toBitVec = x
  generalize b.toBitVec = y
  constructor
  · intro h
    apply BitVec.eq_of_getLsbD_eq
    intro i hi
    have := congrArg (fun z => z.getLsbD i) h
    simp only [BitVec.getLsbD_and, BitVec.getLsbD_not, BitVec.getLsbD_zero, hi, decide_true, Bool.true_and] at this ⊢
    cases hx : x.getLsbD i <;> cases hy : y.getLsbD i <;> simp [hx, hy] at this ⊢
  · intro h
    apply BitVec.eq_of_getLsbD_eq
    intro i hi
    have := congrArg (fun z => z.getLsbD i) h
    simp only [BitVec.getLsbD_and, BitVec.getLsbD_not, BitVec.getLsbD_zero, hi, decide_true, Bool.true_and] at this ⊢
    cases hx : x.getLsbD i <;> cases hy : y.getLsbD i <;> simp [hx, hy] at this ⊢
def ak (a b : Int32) : Prop := a &&& b = a ∨ a &&& b = b
theorem ak_sym {a b : Int32} : ak a b ↔ ak b a := by
  unfold ak
  rw [Int32.and_comm b a]
  exact Or.comm
theorem alike_c (a b : Int32) : ∃ r, fX4_alike a b = some r ∧ (r = true ↔ ak a b) := by
  unfold fX4_alike fX11_contains
  by_cases h1 : b &&& (a ^^^ (-1 : Int32)) = 0
  · rw [if_pos h1, Option.bind_some, if_pos rfl]
    refine ⟨true, rfl, ⟨fun _ => Or.inr ?_, fun _ => rfl⟩⟩
    rw [Int32.and_comm]; exact (and_not b a).mp h1
  · rw [if_neg h1, Option.bind_some, if_neg (by decide)]
    by_cases h2 : a &&& (b ^^^ (-1 : Int32)) = 0
    · rw [if_pos h2, Option.bind_some, if_pos rfl]
      exact ⟨true, rfl, ⟨fun _ => Or.inl ((and_not a b).mp h2), fun _ => rfl⟩⟩
    · rw [if_neg h2, Option.bind_some, if_neg (by decide)]
      refine ⟨false, rfl, ⟨(fun q => by cases q), ?_⟩⟩
      rintro (q | q)
      · exact absurd ((and_not a b).mpr q) h2
      · rw [Int32.and_comm] at q
        exact absurd ((and_not b a).mpr q) h1
theorem alike_r (a b : Int32) : ∃ r, fX12_isLike a b = some r ∧ (r = true ↔ ak a b) := by
  unfold fX12_isLike
  by_cases h1 : a &&& b = a
  · exact ⟨true, by rw [if_pos h1], ⟨fun _ => Or.inl h1, fun _ => rfl⟩⟩
  · by_cases h2 : a &&& b = b
    · exact ⟨true, by rw [if_neg h1, if_pos h2], ⟨fun _ => Or.inr h2, fun _ => rfl⟩⟩
    · refine ⟨false, by rw [if_neg h1, if_neg h2], ⟨(fun q => by cases q), ?_⟩⟩
      rintro (q | q)
      · exact absurd q h1
      · exact absurd q h2
