def pcf : Nat → Nat → Nat
  | 0, _ => 0
  | n + 1, a => a % 2 + pcf n (a / 2)
def pc (a : Nat) : Nat := pcf 32 a
theorem pcf_z : ∀ n, pcf n 0 = 0 := by
  intro n
  induction n with
  | zero => rfl
  | succ n ih => rw [pcf, ih]
theorem pcf_s : ∀ (n a : Nat), a < 2 ^ n → pcf (n + 1) a = pcf n a := by
  intro n
  induction n with
  | zero => intro a h; rw [show a = 0 by omega, pcf_z, pcf_z]
  | succ n ih =>
    intro a h
    rw [pcf, ih (a / 2) (by rw [Nat.pow_succ] at h; omega)]
    rfl
theorem pc_s {a : Nat} (h : a < 2 ^ 31) : pc a = a % 2 + pc (a / 2) := by
  show a % 2 + pcf 31 (a / 2) = _
  rw [← pcf_s 31 (a / 2) (by omega)]
  rfl
def bn1 (x : Nat) : Nat := x - ((x / 2) &&& 1431655765)
def bn2 (y : Nat) : Nat := (y &&& 858993459) + ((y / 4) &&& 858993459)
def bn3 (y : Nat) : Nat := (y + y / 16) &&& 252645135
def bn4 (y : Nat) : Nat := y + y / 256
def bn5 (y : Nat) : Nat := (y + y / 65536) &&& 63
def allb : Nat → (Nat → Bool) → Bool
  | 0, _ => true
  | n + 1, f => f n && allb n f
theorem allb_at {f : Nat → Bool} : ∀ (n i : Nat), i < n → allb n f = true → f i = true := by
  intro n
  induction n with
  | zero => intro i h; omega
  | succ n ih =>
    intro i h h2
    rw [allb, Bool.and_eq_true] at h2
    by_cases e : i = n
    · subst e; exact h2.1
    · exact ih i (by omega) h2.2
def bnq (x : Nat) : Bool := Nat.beq (bn5 (bn4 (bn3 (bn2 (bn1 x))))) (pcf 16 x)
theorem bn_0 : allb 16 (fun a => allb 256 (fun b => bnq (256 * (16 * 0 + a) + b))) = true := by decide +kernel
theorem bn_1 : allb 16 (fun a => allb 256 (fun b => bnq (256 * (16 * 1 + a) + b))) = true := by decide +kernel
theorem bn_2 : allb 16 (fun a => allb 256 (fun b => bnq (256 * (16 * 2 + a) + b))) = true := by decide +kernel
theorem bn_3 : allb 16 (fun a => allb 256 (fun b => bnq (256 * (16 * 3 + a) + b))) = true := by decide +kernel
theorem bn_4 : allb 16 (fun a => allb 256 (fun b => bnq (256 * (16 * 4 + a) + b))) = true := by decide +kernel
theorem bn_5 : allb 16 (fun a => allb 256 (fun b => bnq (256 * (16 * 5 + a) + b))) = true := by decide +kernel
theorem bn_6 : allb 16 (fun a => allb 256 (fun b => bnq (256 * (16 * 6 + a) + b))) = true := by decide +kernel
theorem bn_7 : allb 16 (fun a => allb 256 (fun b => bnq (256 * (16 * 7 + a) + b))) = true := by decide +kernel
theorem bn_8 : allb 16 (fun a => allb 256 (fun b => bnq (256 * (16 * 8 + a) + b))) = true := by decide +kernel
theorem bn_9 : allb 16 (fun a => allb 256 (fun b => bnq (256 * (16 * 9 + a) + b))) = true := by decide +kernel
theorem bn_10 : allb 16 (fun a => allb 256 (fun b => bnq (256 * (16 * 10 + a) + b))) = true := by decide +kernel
theorem bn_11 : allb 16 (fun a => allb 256 (fun b => bnq (256 * (16 * 11 + a) + b))) = true := by decide +kernel
theorem bn_12 : allb 16 (fun a => allb 256 (fun b => bnq (256 * (16 * 12 + a) + b))) = true := by decide +kernel
theorem bn_13 : allb 16 (fun a => allb 256 (fun b => bnq (256 * (16 * 13 + a) + b))) = true := by decide +kernel
theorem bn_14 : allb 16 (fun a => allb 256 (fun b => bnq (256 * (16 * 14 + a) + b))) = true := by decide +kernel
theorem bn_15 : allb 16 (fun a => allb 256 (fun b => bnq (256 * (16 * 15 + a) + b))) = true := by decide +kernel
def lowb (m : Nat) : Nat := m &&& (4294967296 - m)
def gos (m : Nat) : Nat := (m + lowb m) ||| ((((m + lowb m) ^^^ m) / lowb m) / 4)
def tzf : Nat → Nat → Nat
  | 0, _ => 0
  | n + 1, m => cond (Nat.beq (m % 2) 1) 0 (1 + tzf n (m / 2))
def onf : Nat → Nat → Nat
  | 0, _ => 0
  | n + 1, m => cond (Nat.beq (m % 2) 0) 0 (1 + onf n (m / 2))
def gq4 (m t k A : Nat) : Bool := Nat.ble 1 k && (Nat.beq m (A * 2 ^ (t + k + 1) + (2 ^ k - 1) * 2 ^ t) && (Nat.beq (gos m) (A * 2 ^ (t + k + 1) + 2 ^ (t + k) + 2 ^ (k - 1) - 1) && (Nat.ble 1 (lowb m) && Nat.ble (lowb m) m)))
def gq3 (m t q k : Nat) : Bool := gq4 m t k (q / 2 ^ (k + 1))
def gq2 (m t q : Nat) : Bool := gq3 m t q (onf 17 q)
def gq1 (m t : Nat) : Bool := gq2 m t (m / 2 ^ t)
def gsq (m : Nat) : Bool := Nat.beq m 0 || gq1 m (tzf 17 m)
theorem gs_0 : allb 16 (fun a => allb 256 (fun b => gsq (256 * (16 * 0 + a) + b))) = true := by decide +kernel
theorem gs_1 : allb 16 (fun a => allb 256 (fun b => gsq (256 * (16 * 1 + a) + b))) = true := by decide +kernel
theorem gs_2 : allb 16 (fun a => allb 256 (fun b => gsq (256 * (16 * 2 + a) + b))) = true := by decide +kernel
theorem gs_3 : allb 16 (fun a => allb 256 (fun b => gsq (256 * (16 * 3 + a) + b))) = true := by decide +kernel
theorem gs_4 : allb 16 (fun a => allb 256 (fun b => gsq (256 * (16 * 4 + a) + b))) = true := by decide +kernel
theorem gs_5 : allb 16 (fun a => allb 256 (fun b => gsq (256 * (16 * 5 + a) + b))) = true := by decide +kernel
theorem gs_6 : allb 16 (fun a => allb 256 (fun b => gsq (256 * (16 * 6 + a) + b))) = true := by decide +kernel
theorem gs_7 : allb 16 (fun a => allb 256 (fun b => gsq (256 * (16 * 7 + a) + b))) = true := by decide +kernel
theorem gs_8 : allb 16 (fun a => allb 256 (fun b => gsq (256 * (16 * 8 + a) + b))) = true := by decide +kernel
theorem gs_9 : allb 16 (fun a => allb 256 (fun b => gsq (256 * (16 * 9 + a) + b))) = true := by decide +kernel
theorem gs_10 : allb 16 (fun a => allb 256 (fun b => gsq (256 * (16 * 10 + a) + b))) = true := by decide +kernel
theorem gs_11 : allb 16 (fun a => allb 256 (fun b => gsq (256 * (16 * 11 + a) + b))) = true := by decide +kernel
theorem gs_12 : allb 16 (fun a => allb 256 (fun b => gsq (256 * (16 * 12 + a) + b))) = true := by decide +kernel
theorem gs_13 : allb 16 (fun a => allb 256 (fun b => gsq (256 * (16 * 13 + a) + b))) = true := by decide +kernel
theorem gs_14 : allb 16 (fun a => allb 256 (fun b => gsq (256 * (16 * 14 + a) + b))) = true := by decide +kernel
theorem gs_15 : allb 16 (fun a => allb 256 (fun b => gsq (256 * (16 * 15 + a) + b))) = true := by decide +kernel
theorem nA (a b : Nat) : nI a &&& nI b = nI (a &&& b) := by
  apply Int32.toBitVec_inj.mp
  show BitVec.ofNat 32 a &&& BitVec.ofNat 32 b = BitVec.ofNat 32 (a &&& b)
  exact BitVec.ofNat_and.symm
theorem nO (a b : Nat) : nI a ||| nI b = nI (a ||| b) := by
  apply Int32.toBitVec_inj.mp
  show BitVec.ofNat 32 a ||| BitVec.ofNat 32 b = BitVec.ofNat 32 (a ||| b)
  exact BitVec.ofNat_or.symm
theorem nX (a b : Nat) : nI a ^^^ nI b = nI (a ^^^ b) := by
  apply Int32.toBitVec_inj.mp
  show BitVec.ofNat 32 a ^^^ BitVec.ofNat 32 b = BitVec.ofNat 32 (a ^^^ b)
  exact BitVec.ofNat_xor.symm
theorem smod_k : ∀ k, k < 32 → ((BitVec.ofNat 32 k).smod 32#32).toNat = k := by decide +kernel
theorem nS {a k : Nat} (ha : a < 2 ^ 31) (hk : k < 32) : nI a >>> nI k = nI (a / 2 ^ k) := by
  have hd : a / 2 ^ k ≤ a := Nat.div_le_self _ _
  apply Int32.toInt_inj.mp
  rw [nI_int (by omega)]
  show (BitVec.sshiftRight' (nI a).toBitVec ((BitVec.ofNat 32 k).smod 32#32)).toInt = _
  rw [BitVec.toInt_sshiftRight', smod_k k hk]
  show (nI a).toInt >>> k = _
  rw [nI_int ha, Int.shiftRight_eq_div_pow]
  rfl
theorem and31 {k : Nat} (hk : k < 32) : nI k &&& 31 = nI k := by
  rw [l_31, nA, show (31 : Nat) = 2 ^ 5 - 1 from rfl, Nat.and_two_pow_sub_one_eq_mod, Nat.mod_eq_of_lt (by omega)]
theorem shl1 : ∀ k, k < 31 → (1 : Int32) <<< (nI k &&& 31) = nI (2 ^ k) := by decide +kernel
def bq1 (x : Int32) : Int32 := x - (((x).toUInt32 >>> (((1 : Int32)).toUInt32 &&& Int32.toUInt32 31)).toInt32 &&& (1431655765 : Int32))
def bq2 (y : Int32) : Int32 := (y &&& (858993459 : Int32)) + (((y).toUInt32 >>> (((2 : Int32)).toUInt32 &&& Int32.toUInt32 31)).toInt32 &&& (858993459 : Int32))
def bq3 (y : Int32) : Int32 := (y + ((y).toUInt32 >>> (((4 : Int32)).toUInt32 &&& Int32.toUInt32 31)).toInt32) &&& (252645135 : Int32)
def bq4 (y : Int32) : Int32 := y + ((y).toUInt32 >>> (((8 : Int32)).toUInt32 &&& Int32.toUInt32 31)).toInt32
def bq5 (y : Int32) : Int32 := (y + ((y).toUInt32 >>> (((16 : Int32)).toUInt32 &&& Int32.toUInt32 31)).toInt32) &&& (63 : Int32)
theorem bq_eq (x : Int32) : fJ6_bitCount_0f7a4 x = some (bq5 (bq4 (bq3 (bq2 (bq1 x))))) := rfl
theorem nU1 {x : Nat} (hx : x < 2 ^ 31) : ((nI x).toUInt32 >>> (((1 : Int32)).toUInt32 &&& Int32.toUInt32 31)).toInt32 = nI (x / 2) := by
  apply Int32.toBitVec_inj.mp
  show BitVec.ofNat 32 x >>> 1#32 = BitVec.ofNat 32 (x / 2)
  apply BitVec.eq_of_toNat_eq
  rw [BitVec.toNat_ofNat]
  show (BitVec.ofNat 32 x).toNat >>> 1 = _
  rw [BitVec.toNat_ofNat, Nat.shiftRight_eq_div_pow]
  omega
theorem nU2 {x : Nat} (hx : x < 2 ^ 31) : ((nI x).toUInt32 >>> (((2 : Int32)).toUInt32 &&& Int32.toUInt32 31)).toInt32 = nI (x / 4) := by
  apply Int32.toBitVec_inj.mp
  show BitVec.ofNat 32 x >>> 2#32 = BitVec.ofNat 32 (x / 4)
  apply BitVec.eq_of_toNat_eq
  rw [BitVec.toNat_ofNat]
  show (BitVec.ofNat 32 x).toNat >>> 2 = _
  rw [BitVec.toNat_ofNat, Nat.shiftRight_eq_div_pow]
  omega
theorem nU4 {x : Nat} (hx : x < 2 ^ 31) : ((nI x).toUInt32 >>> (((4 : Int32)).toUInt32 &&& Int32.toUInt32 31)).toInt32 = nI (x / 16) := by
  apply Int32.toBitVec_inj.mp
  show BitVec.ofNat 32 x >>> 4#32 = BitVec.ofNat 32 (x / 16)
  apply BitVec.eq_of_toNat_eq
  rw [BitVec.toNat_ofNat]
  show (BitVec.ofNat 32 x).toNat >>> 4 = _
  rw [BitVec.toNat_ofNat, Nat.shiftRight_eq_div_pow]
  omega
theorem nU8 {x : Nat} (hx : x < 2 ^ 31) : ((nI x).toUInt32 >>> (((8 : Int32)).toUInt32 &&& Int32.toUInt32 31)).toInt32 = nI (x / 256) := by
  apply Int32.toBitVec_inj.mp
  show BitVec.ofNat 32 x >>> 8#32 = BitVec.ofNat 32 (x / 256)
  apply BitVec.eq_of_toNat_eq
  rw [BitVec.toNat_ofNat]
  show (BitVec.ofNat 32 x).toNat >>> 8 = _
  rw [BitVec.toNat_ofNat, Nat.shiftRight_eq_div_pow]
  omega
theorem nU16 {x : Nat} (hx : x < 2 ^ 31) : ((nI x).toUInt32 >>> (((16 : Int32)).toUInt32 &&& Int32.toUInt32 31)).toInt32 = nI (x / 65536) := by
  apply Int32.toBitVec_inj.mp
  show BitVec.ofNat 32 x >>> 16#32 = BitVec.ofNat 32 (x / 65536)
  apply BitVec.eq_of_toNat_eq
  rw [BitVec.toNat_ofNat]
  show (BitVec.ofNat 32 x).toNat >>> 16 = _
  rw [BitVec.toNat_ofNat, Nat.shiftRight_eq_div_pow]
  omega
theorem pcf_w : ∀ (j n a : Nat), a < 2 ^ n → pcf (n + j) a = pcf n a := by
  intro j
  induction j with
  | zero => intro n a h; rfl
  | succ j ih =>
    intro n a h
    rw [← Nat.add_assoc, pcf_s (n + j) a (Nat.lt_of_lt_of_le h (Nat.pow_le_pow_right (by omega) (by omega))), ih n a h]
set_option maxRecDepth 100000 in
theorem bn_all (a : Nat) (ha : a < 256) (b : Nat) (hb : b < 256) : bn5 (bn4 (bn3 (bn2 (bn1 (256 * a + b))))) = pc (256 * a + b) := by
  have key : bnq (256 * a + b) = true := by
    have e : 256 * a + b = 256 * (16 * (a / 16) + a % 16) + b := by omega
    rw [e]
    have h2 : a % 16 < 16 := Nat.mod_lt _ (by omega)
    have h3 : a / 16 < 16 := by omega
    generalize a / 16 = q at h3 ⊢
    rcases (show q = 0 ∨ q = 1 ∨ q = 2 ∨ q = 3 ∨ q = 4 ∨ q = 5 ∨ q = 6 ∨ q = 7 ∨ q = 8 ∨ q = 9 ∨ q = 10 ∨ q = 11 ∨ q = 12 ∨ q = 13 ∨ q = 14 ∨ q = 15 by omega) with rfl | rfl | rfl | rfl | rfl | rfl | rfl | rfl | rfl | rfl | rfl | rfl | rfl | rfl | rfl | rfl
    · exact allb_at (f := fun b => bnq (256 * (16 * 0 + a % 16) + b)) 256 b hb (allb_at (f := fun a => allb 256 (fun b => bnq (256 * (16 * 0 + a) + b))) 16 (a % 16) h2 bn_0)
    · exact allb_at (f := fun b => bnq (256 * (16 * 1 + a % 16) + b)) 256 b hb (allb_at (f := fun a => allb 256 (fun b => bnq (256 * (16 * 1 + a) + b))) 16 (a % 16) h2 bn_1)
    · exact allb_at (f := fun b => bnq (256 * (16 * 2 + a % 16) + b)) 256 b hb (allb_at (f := fun a => allb 256 (fun b => bnq (256 * (16 * 2 + a) + b))) 16 (a % 16) h2 bn_2)
    · exact allb_at (f := fun b => bnq (256 * (16 * 3 + a % 16) + b)) 256 b hb (allb_at (f := fun a => allb 256 (fun b => bnq (256 * (16 * 3 + a) + b))) 16 (a % 16) h2 bn_3)
    · exact allb_at (f := fun b => bnq (256 * (16 * 4 + a % 16) + b)) 256 b hb (allb_at (f := fun a => allb 256 (fun b => bnq (256 * (16 * 4 + a) + b))) 16 (a % 16) h2 bn_4)
    · exact allb_at (f := fun b => bnq (256 * (16 * 5 + a % 16) + b)) 256 b hb (allb_at (f := fun a => allb 256 (fun b => bnq (256 * (16 * 5 + a) + b))) 16 (a % 16) h2 bn_5)
    · exact allb_at (f := fun b => bnq (256 * (16 * 6 + a % 16) + b)) 256 b hb (allb_at (f := fun a => allb 256 (fun b => bnq (256 * (16 * 6 + a) + b))) 16 (a % 16) h2 bn_6)
    · exact allb_at (f := fun b => bnq (256 * (16 * 7 + a % 16) + b)) 256 b hb (allb_at (f := fun a => allb 256 (fun b => bnq (256 * (16 * 7 + a) + b))) 16 (a % 16) h2 bn_7)
    · exact allb_at (f := fun b => bnq (256 * (16 * 8 + a % 16) + b)) 256 b hb (allb_at (f := fun a => allb 256 (fun b => bnq (256 * (16 * 8 + a) + b))) 16 (a % 16) h2 bn_8)
    · exact allb_at (f := fun b => bnq (256 * (16 * 9 + a % 16) + b)) 256 b hb (allb_at (f := fun a => allb 256 (fun b => bnq (256 * (16 * 9 + a) + b))) 16 (a % 16) h2 bn_9)
    · exact allb_at (f := fun b => bnq (256 * (16 * 10 + a % 16) + b)) 256 b hb (allb_at (f := fun a => allb 256 (fun b => bnq (256 * (16 * 10 + a) + b))) 16 (a % 16) h2 bn_10)
    · exact allb_at (f := fun b => bnq (256 * (16 * 11 + a % 16) + b)) 256 b hb (allb_at (f := fun a => allb 256 (fun b => bnq (256 * (16 * 11 + a) + b))) 16 (a % 16) h2 bn_11)
    · exact allb_at (f := fun b => bnq (256 * (16 * 12 + a % 16) + b)) 256 b hb (allb_at (f := fun a => allb 256 (fun b => bnq (256 * (16 * 12 + a) + b))) 16 (a % 16) h2 bn_12)
    · exact allb_at (f := fun b => bnq (256 * (16 * 13 + a % 16) + b)) 256 b hb (allb_at (f := fun a => allb 256 (fun b => bnq (256 * (16 * 13 + a) + b))) 16 (a % 16) h2 bn_13)
    · exact allb_at (f := fun b => bnq (256 * (16 * 14 + a % 16) + b)) 256 b hb (allb_at (f := fun a => allb 256 (fun b => bnq (256 * (16 * 14 + a) + b))) 16 (a % 16) h2 bn_14)
    · exact allb_at (f := fun b => bnq (256 * (16 * 15 + a % 16) + b)) 256 b hb (allb_at (f := fun a => allb 256 (fun b => bnq (256 * (16 * 15 + a) + b))) 16 (a % 16) h2 bn_15)
  have h1 : pc (256 * a + b) = pcf 16 (256 * a + b) := pcf_w 16 16 _ (by omega)
  rw [h1]
  exact Nat.eq_of_beq_eq_true key
set_option maxRecDepth 100000 in
theorem gs_all (a : Nat) (ha : a < 256) (b : Nat) (hb : b < 256) : gsq (256 * a + b) = true := by
  have e : 256 * a + b = 256 * (16 * (a / 16) + a % 16) + b := by omega
  rw [e]
  have h2 : a % 16 < 16 := Nat.mod_lt _ (by omega)
  have h3 : a / 16 < 16 := by omega
  generalize a / 16 = q at h3 ⊢
  rcases (show q = 0 ∨ q = 1 ∨ q = 2 ∨ q = 3 ∨ q = 4 ∨ q = 5 ∨ q = 6 ∨ q = 7 ∨ q = 8 ∨ q = 9 ∨ q = 10 ∨ q = 11 ∨ q = 12 ∨ q = 13 ∨ q = 14 ∨ q = 15 by omega) with rfl | rfl | rfl | rfl | rfl | rfl | rfl | rfl | rfl | rfl | rfl | rfl | rfl | rfl | rfl | rfl
  · exact allb_at (f := fun b => gsq (256 * (16 * 0 + a % 16) + b)) 256 b hb (allb_at (f := fun a => allb 256 (fun b => gsq (256 * (16 * 0 + a) + b))) 16 (a % 16) h2 gs_0)
  · exact allb_at (f := fun b => gsq (256 * (16 * 1 + a % 16) + b)) 256 b hb (allb_at (f := fun a => allb 256 (fun b => gsq (256 * (16 * 1 + a) + b))) 16 (a % 16) h2 gs_1)
  · exact allb_at (f := fun b => gsq (256 * (16 * 2 + a % 16) + b)) 256 b hb (allb_at (f := fun a => allb 256 (fun b => gsq (256 * (16 * 2 + a) + b))) 16 (a % 16) h2 gs_2)
  · exact allb_at (f := fun b => gsq (256 * (16 * 3 + a % 16) + b)) 256 b hb (allb_at (f := fun a => allb 256 (fun b => gsq (256 * (16 * 3 + a) + b))) 16 (a % 16) h2 gs_3)
  · exact allb_at (f := fun b => gsq (256 * (16 * 4 + a % 16) + b)) 256 b hb (allb_at (f := fun a => allb 256 (fun b => gsq (256 * (16 * 4 + a) + b))) 16 (a % 16) h2 gs_4)
  · exact allb_at (f := fun b => gsq (256 * (16 * 5 + a % 16) + b)) 256 b hb (allb_at (f := fun a => allb 256 (fun b => gsq (256 * (16 * 5 + a) + b))) 16 (a % 16) h2 gs_5)
  · exact allb_at (f := fun b => gsq (256 * (16 * 6 + a % 16) + b)) 256 b hb (allb_at (f := fun a => allb 256 (fun b => gsq (256 * (16 * 6 + a) + b))) 16 (a % 16) h2 gs_6)
  · exact allb_at (f := fun b => gsq (256 * (16 * 7 + a % 16) + b)) 256 b hb (allb_at (f := fun a => allb 256 (fun b => gsq (256 * (16 * 7 + a) + b))) 16 (a % 16) h2 gs_7)
  · exact allb_at (f := fun b => gsq (256 * (16 * 8 + a % 16) + b)) 256 b hb (allb_at (f := fun a => allb 256 (fun b => gsq (256 * (16 * 8 + a) + b))) 16 (a % 16) h2 gs_8)
  · exact allb_at (f := fun b => gsq (256 * (16 * 9 + a % 16) + b)) 256 b hb (allb_at (f := fun a => allb 256 (fun b => gsq (256 * (16 * 9 + a) + b))) 16 (a % 16) h2 gs_9)
  · exact allb_at (f := fun b => gsq (256 * (16 * 10 + a % 16) + b)) 256 b hb (allb_at (f := fun a => allb 256 (fun b => gsq (256 * (16 * 10 + a) + b))) 16 (a % 16) h2 gs_10)
  · exact allb_at (f := fun b => gsq (256 * (16 * 11 + a % 16) + b)) 256 b hb (allb_at (f := fun a => allb 256 (fun b => gsq (256 * (16 * 11 + a) + b))) 16 (a % 16) h2 gs_11)
  · exact allb_at (f := fun b => gsq (256 * (16 * 12 + a % 16) + b)) 256 b hb (allb_at (f := fun a => allb 256 (fun b => gsq (256 * (16 * 12 + a) + b))) 16 (a % 16) h2 gs_12)
  · exact allb_at (f := fun b => gsq (256 * (16 * 13 + a % 16) + b)) 256 b hb (allb_at (f := fun a => allb 256 (fun b => gsq (256 * (16 * 13 + a) + b))) 16 (a % 16) h2 gs_13)
  · exact allb_at (f := fun b => gsq (256 * (16 * 14 + a % 16) + b)) 256 b hb (allb_at (f := fun a => allb 256 (fun b => gsq (256 * (16 * 14 + a) + b))) 16 (a % 16) h2 gs_14)
  · exact allb_at (f := fun b => gsq (256 * (16 * 15 + a % 16) + b)) 256 b hb (allb_at (f := fun a => allb 256 (fun b => gsq (256 * (16 * 15 + a) + b))) 16 (a % 16) h2 gs_15)
theorem count_n {x : Nat} (hx : x < 65536) : fJ6_bitCount_0f7a4 (nI x) = some (nI (pc x)) := by
  have h1 : (x / 2) &&& 1431655765 ≤ x / 2 := Nat.and_le_left
  have h2 : bn1 x ≤ x := Nat.sub_le _ _
  have e1 : bq1 (nI x) = nI (bn1 x) := by
    unfold bq1
    rw [nU1 (by omega), show (1431655765 : Int32) = nI 1431655765 from rfl, nA, mI_sb (by omega) (by omega)]; rfl
  have e2 : bq2 (nI (bn1 x)) = nI (bn2 (bn1 x)) := by
    unfold bq2
    rw [nU2 (by omega), show (858993459 : Int32) = nI 858993459 from rfl, nA, nA, nI_ad]; rfl
  have h3 : (bn1 x &&& 858993459) ≤ bn1 x := Nat.and_le_left
  have h4 : ((bn1 x / 4) &&& 858993459) ≤ bn1 x / 4 := Nat.and_le_left
  have h5 : bn2 (bn1 x) ≤ 2 * x := by unfold bn2; omega
  have e3 : bq3 (nI (bn2 (bn1 x))) = nI (bn3 (bn2 (bn1 x))) := by
    unfold bq3
    rw [nU4 (by omega), show (252645135 : Int32) = nI 252645135 from rfl, nI_ad, nA]; rfl
  have h6 : bn3 (bn2 (bn1 x)) ≤ bn2 (bn1 x) + bn2 (bn1 x) / 16 := Nat.and_le_left
  have e4 : bq4 (nI (bn3 (bn2 (bn1 x)))) = nI (bn4 (bn3 (bn2 (bn1 x)))) := by
    unfold bq4
    rw [nU8 (by omega), nI_ad]; rfl
  have h7 : bn4 (bn3 (bn2 (bn1 x))) ≤ 2 * bn3 (bn2 (bn1 x)) := by unfold bn4; omega
  have e5 : bq5 (nI (bn4 (bn3 (bn2 (bn1 x))))) = nI (bn5 (bn4 (bn3 (bn2 (bn1 x))))) := by
    unfold bq5
    rw [nU16 (by omega), show (63 : Int32) = nI 63 from rfl, nI_ad, nA]; rfl
  have h8 := bn_all (x / 256) (by omega) (x % 256) (by omega)
  rw [show 256 * (x / 256) + x % 256 = x by omega] at h8
  rw [bq_eq, e1, e2, e3, e4, e5, h8]
theorem and_not (a b : Int32) : a &&& (b ^^^ (-1 : Int32)) = 0 ↔ a &&& b = a := by
  rw [← Int32.toBitVec_inj, ← Int32.toBitVec_inj]
  show a.toBitVec &&& (b.toBitVec ^^^ BitVec.allOnes 32) = 0#32 ↔ a.toBitVec &&& b.toBitVec = a.toBitVec
  rw [BitVec.xor_allOnes]
  generalize a.toBitVec = x
  generalize b.toBitVec = y
  constructor
  · intro h
    apply BitVec.eq_of_getLsbD_eq
    intro i hi
    have := congrArg (fun z => z.getLsbD i) h
    simp only [BitVec.getLsbD_and, BitVec.getLsbD_not, BitVec.getLsbD_zero, hi, decide_true, Bool.true_and] at this ⊢
    cases hx : x.getLsbD i <;> cases hy : y.getLsbD i <;> simp [hx, hy] at this ⊢
  · intro h
    apply BitVec.eq_of_getLsbD_eq
    intro i hi
    have := congrArg (fun z => z.getLsbD i) h
    simp only [BitVec.getLsbD_and, BitVec.getLsbD_not, BitVec.getLsbD_zero, hi, decide_true, Bool.true_and] at this ⊢
    cases hx : x.getLsbD i <;> cases hy : y.getLsbD i <;> simp [hx, hy] at this ⊢
def ak (a b : Int32) : Prop := a &&& b = a ∨ a &&& b = b
theorem ak_sym {a b : Int32} : ak a b ↔ ak b a := by
  unfold ak
  rw [Int32.and_comm b a]
  exact Or.comm
theorem alike_c (a b : Int32) : ∃ r, fX4_alike a b = some r ∧ (r = true ↔ ak a b) := by
  unfold fX4_alike fX11_contains
  by_cases h1 : b &&& (a ^^^ (-1 : Int32)) = 0
  · rw [if_pos h1, Option.bind_some, if_pos rfl]
    refine ⟨true, rfl, ⟨fun _ => Or.inr ?_, fun _ => rfl⟩⟩
    rw [Int32.and_comm]; exact (and_not b a).mp h1
  · rw [if_neg h1, Option.bind_some, if_neg (by decide)]
    by_cases h2 : a &&& (b ^^^ (-1 : Int32)) = 0
    · rw [if_pos h2, Option.bind_some, if_pos rfl]
      exact ⟨true, rfl, ⟨fun _ => Or.inl ((and_not a b).mp h2), fun _ => rfl⟩⟩
    · rw [if_neg h2, Option.bind_some, if_neg (by decide)]
      refine ⟨false, rfl, ⟨(fun q => by cases q), ?_⟩⟩
      rintro (q | q)
      · exact absurd ((and_not a b).mpr q) h2
      · rw [Int32.and_comm] at q
        exact absurd ((and_not b a).mpr q) h1
def akb (a b : Int32) : Bool := decide (a &&& b = a) || decide (a &&& b = b)
theorem akb_ak (a b : Int32) : akb a b = true ↔ ak a b := by simp [akb, ak]
theorem akb_sym (a b : Int32) : akb a b = akb b a := by
  have h : akb a b = true ↔ akb b a = true := (akb_ak a b).trans (ak_sym.trans (akb_ak b a).symm)
  cases h1 : akb a b <;> cases h2 : akb b a
  · rfl
  · rw [h1, h2] at h; exact absurd (h.mpr rfl) (by decide)
  · rw [h1, h2] at h; exact absurd (h.mp rfl) (by decide)
  · rfl
theorem bool_of {r s : Bool} (h : r = true ↔ s = true) : r = s := by
  cases r <;> cases s
  · rfl
  · exact absurd (h.mpr rfl) (by decide)
  · exact absurd (h.mp rfl) (by decide)
  · rfl
theorem alike_cb (a b : Int32) : fX4_alike a b = some (akb a b) := by
  obtain ⟨r, h1, h2⟩ := alike_c a b
  rw [h1, bool_of (h2.trans (akb_ak a b).symm)]
def kk (ρ : Nat → Int32) (i j : Nat) : Int32 := if akb (ρ (9 + 4 * i + 0)) (ρ (9 + 4 * j + 0)) = true then nI 1 else nI 0
theorem lp_in {M : Mem} {ρ : Nat → Int32} {h i : Nat} (H : HH M ρ h) (hi : i < h) : ∀ (m j n : Nat) (acc : Int32), j + m = h → m < n → lX4_likePairs_16 2 M (nI i) n acc (nI j) = some (acc + sm (kk ρ i) j m) := by
  intro m
  have hh := H.1
  induction m with
  | zero =>
    intro j n acc h1 h2
    obtain ⟨n, rfl⟩ : ∃ n', n = n' + 1 := ⟨n - 1, by omega⟩
    rw [lX4_likePairs_16, H.2.1, if_pos (pI_le (by omega) (by omega)), sm, sm_z]
  | succ m ih =>
    intro j n acc h1 h2
    obtain ⟨n, rfl⟩ : ∃ n', n = n' + 1 := ⟨n - 1, by omega⟩
    rw [lX4_likePairs_16, H.2.1, if_neg (pI_nle (by omega) (by omega)), show fX7_get (2 + 1) 4 8 (nI i) 0 M = some _ from H.gt (k := 0) hi (by omega), Option.bind_some, show fX7_get (2 + 1) 4 8 (nI j) 0 M = some _ from H.gt (k := 0) (by omega) (by omega), Option.bind_some, alike_cb, Option.bind_some, l_1, nI_ad, ih (j + 1) n _ (by omega) (by omega), ih (j + 1) n _ (by omega) (by omega), sm_s]
    unfold kk
    by_cases e : akb (ρ (9 + 4 * i + 0)) (ρ (9 + 4 * j + 0)) = true
    · rw [if_pos e, if_pos e]
    · rw [if_neg e, if_neg e, sm_z]
theorem lp_out {M : Mem} {ρ : Nat → Int32} {h : Nat} (H : HH M ρ h) : ∀ (m j n : Nat) (acc : Int32), j + m = h → m < n → lX4_likePairs_4 2 M n acc (nI j) = some (acc + sm (fun i => sm (kk ρ i) (i + 1) (h - (i + 1))) j m) := by
  intro m
  have hh := H.1
  induction m with
  | zero =>
    intro j n acc h1 h2
    obtain ⟨n, rfl⟩ : ∃ n', n = n' + 1 := ⟨n - 1, by omega⟩
    rw [lX4_likePairs_4, H.2.1, if_pos (pI_le (by omega) (by omega)), sm, sm_z]
  | succ m ih =>
    intro j n acc h1 h2
    obtain ⟨n, rfl⟩ : ∃ n', n = n' + 1 := ⟨n - 1, by omega⟩
    rw [lX4_likePairs_4, H.2.1, if_neg (pI_nle (by omega) (by omega)), l_1, nI_ad, lp_in H (by omega) (h - (j + 1)) (j + 1) FUEL _ (by omega) (fuel8 (by omega)), Option.bind_some, ih (j + 1) n _ (by omega) (by omega), sm_s]
theorem sm_add (f g : Nat → Int32) : ∀ (m a : Nat), sm (fun i => f i + g i) a m = sm f a m + sm g a m := by
  intro m
  induction m with
  | zero => intro a; rw [sm, sm, sm, sm_z]
  | succ m ih =>
    intro a
    rw [sm, ih (a + 1), sm, sm]
    ac_rfl
theorem sm_tri (K : Nat → Nat → Int32) (hK : ∀ i j, K i j = K j i) : ∀ h, sm (fun i => sm (K i) (i + 1) (h - (i + 1))) 0 h = sm (fun i => sm (K i) 0 i) 0 h := by
  intro h
  induction h with
  | zero => rfl
  | succ h ih =>
    rw [sm_end, sm_end, Nat.zero_add, ← ih, show h + 1 - (h + 1) = 0 by omega, show sm (K h) (h + 1) 0 = nI 0 from rfl, sm_z, show sm (K h) 0 h = sm (fun i => K i h) 0 h from sm_cg h 0 fun i _ _ => hK h i, ← sm_add]
    refine sm_cg h 0 fun i _ hi => ?_
    rw [show h + 1 - (i + 1) = (h - (i + 1)) + 1 by omega, sm_end, show i + 1 + (h - (i + 1)) = h by omega]
def Lk (ρ : Nat → Int32) (h : Nat) : Int32 := sm (fun i => sm (kk ρ i) 0 i) 0 h
theorem HH.likes {M : Mem} {ρ : Nat → Int32} {h : Nat} (H : HH M ρ h) : fX11_likeMarks M = some (Lk ρ h) := by
  have hh := H.1
  unfold fX11_likeMarks fX4_likePairs
  rw [l_0, lp_out H h 0 FUEL _ (by omega) (fuel8 (by omega)), Option.bind_some, Option.bind_some, show nI 0 = (0 : Int32) from rfl, Int32.zero_add, sm_tri (kk ρ) (fun i j => by unfold kk; rw [akb_sym])]
  rfl
theorem pc_pos : ∀ (n y : Nat), y < n → y < 2 ^ 31 → 0 < y → 0 < pc y := by
  intro n
  induction n with
  | zero => intro y h; omega
  | succ n ih =>
    intro y h1 h2 h3
    rw [pc_s h2]
    by_cases h4 : y % 2 = 1
    · omega
    · have := ih (y / 2) (by omega) (by omega) (by omega)
      omega
theorem pc_min : ∀ (n y : Nat), y < n → y < 2 ^ 31 → 2 ^ pc y ≤ y + 1 := by
  intro n
  induction n with
  | zero => intro y h; omega
  | succ n ih =>
    intro y h1 h2
    by_cases h0 : y = 0
    · subst h0; decide
    rw [pc_s h2]
    have h3 := ih (y / 2) (by omega) (by omega)
    rcases (show y % 2 = 0 ∨ y % 2 = 1 by omega) with h4 | h4
    · rw [h4, Nat.zero_add]; omega
    · rw [h4, Nat.add_comm, Nat.pow_succ]; omega
theorem pc_add : ∀ (n x y : Nat), y < 2 ^ n → x * 2 ^ n + y < 2 ^ 31 → pc (x * 2 ^ n + y) = pc x + pc y := by
  intro n
  induction n with
  | zero =>
    intro x y h1 h2
    rw [Nat.pow_zero] at h1
    obtain rfl : y = 0 := by omega
    rw [Nat.pow_zero, Nat.mul_one, Nat.add_zero, show pc 0 = 0 from rfl, Nat.add_zero]
  | succ n ih =>
    intro x y h1 h2
    have e : x * 2 ^ (n + 1) = 2 * (x * 2 ^ n) := by rw [Nat.pow_succ, ← Nat.mul_assoc, Nat.mul_comm]
    rw [Nat.pow_succ] at h1
    rw [e] at h2 ⊢
    rw [pc_s h2, show (2 * (x * 2 ^ n) + y) % 2 = y % 2 by omega, show (2 * (x * 2 ^ n) + y) / 2 = x * 2 ^ n + y / 2 by omega, ih x (y / 2) (by omega) (by omega), pc_s (a := y) (by omega)]
    omega
theorem pc_ones : ∀ k, k ≤ 31 → pc (2 ^ k - 1) = k := by decide +kernel
