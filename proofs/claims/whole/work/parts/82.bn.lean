/-! bits counted, by the kernel -/
def pcf : Nat → Nat → Nat
  | 0, _ => 0
  | n + 1, a => a % 2 + pcf n (a / 2)
def pc (a : Nat) : Nat := pcf 32 a
theorem pcf_z : ∀ n, pcf n 0 = 0 := by
  intro n
  induction n with
  | zero => rfl
  | succ n ih => rw [pcf, ih]
theorem pcf_s : ∀ (n a : Nat), a < 2 ^ n → pcf (n + 1) a = pcf n a := by
  intro n
  induction n with
  | zero => intro a h; rw [show a = 0 by omega, pcf_z, pcf_z]
  | succ n ih =>
    intro a h
    rw [pcf, ih (a / 2) (by rw [Nat.pow_succ] at h; omega)]
    rfl
theorem pc_s {a : Nat} (h : a < 2 ^ 31) : pc a = a % 2 + pc (a / 2) := by
  show a % 2 + pcf 31 (a / 2) = _
  rw [← pcf_s 31 (a / 2) (by omega)]
  rfl
def bn1 (x : Nat) : Nat := x - ((x / 2) &&& 1431655765)
def bn2 (y : Nat) : Nat := (y &&& 858993459) + ((y / 4) &&& 858993459)
def bn3 (y : Nat) : Nat := (y + y / 16) &&& 252645135
def bn4 (y : Nat) : Nat := y + y / 256
def bn5 (y : Nat) : Nat := (y + y / 65536) &&& 63
def allb : Nat → (Nat → Bool) → Bool
  | 0, _ => true
  | n + 1, f => f n && allb n f
theorem allb_at {f : Nat → Bool} : ∀ (n i : Nat), i < n → allb n f = true → f i = true := by
  intro n
  induction n with
  | zero => intro i h; omega
  | succ n ih =>
    intro i h h2
    rw [allb, Bool.and_eq_true] at h2
    by_cases e : i = n
    · subst e; exact h2.1
    · exact ih i (by omega) h2.2
def bnq (x : Nat) : Bool := Nat.beq (bn5 (bn4 (bn3 (bn2 (bn1 x))))) (pcf 16 x)
theorem bn_0 : allb 16 (fun a => allb 256 (fun b => bnq (256 * (16 * 0 + a) + b))) = true := by decide +kernel
theorem bn_1 : allb 16 (fun a => allb 256 (fun b => bnq (256 * (16 * 1 + a) + b))) = true := by decide +kernel
theorem bn_2 : allb 16 (fun a => allb 256 (fun b => bnq (256 * (16 * 2 + a) + b))) = true := by decide +kernel
theorem bn_3 : allb 16 (fun a => allb 256 (fun b => bnq (256 * (16 * 3 + a) + b))) = true := by decide +kernel
theorem bn_4 : allb 16 (fun a => allb 256 (fun b => bnq (256 * (16 * 4 + a) + b))) = true := by decide +kernel
theorem bn_5 : allb 16 (fun a => allb 256 (fun b => bnq (256 * (16 * 5 + a) + b))) = true := by decide +kernel
theorem bn_6 : allb 16 (fun a => allb 256 (fun b => bnq (256 * (16 * 6 + a) + b))) = true := by decide +kernel
theorem bn_7 : allb 16 (fun a => allb 256 (fun b => bnq (256 * (16 * 7 + a) + b))) = true := by decide +kernel
theorem bn_8 : allb 16 (fun a => allb 256 (fun b => bnq (256 * (16 * 8 + a) + b))) = true := by decide +kernel
theorem bn_9 : allb 16 (fun a => allb 256 (fun b => bnq (256 * (16 * 9 + a) + b))) = true := by decide +kernel
theorem bn_10 : allb 16 (fun a => allb 256 (fun b => bnq (256 * (16 * 10 + a) + b))) = true := by decide +kernel
theorem bn_11 : allb 16 (fun a => allb 256 (fun b => bnq (256 * (16 * 11 + a) + b))) = true := by decide +kernel
theorem bn_12 : allb 16 (fun a => allb 256 (fun b => bnq (256 * (16 * 12 + a) + b))) = true := by decide +kernel
theorem bn_13 : allb 16 (fun a => allb 256 (fun b => bnq (256 * (16 * 13 + a) + b))) = true := by decide +kernel
theorem bn_14 : allb 16 (fun a => allb 256 (fun b => bnq (256 * (16 * 14 + a) + b))) = true := by decide +kernel
theorem bn_15 : allb 16 (fun a => allb 256 (fun b => bnq (256 * (16 * 15 + a) + b))) = true := by decide +kernel
/-! the next mark with as many grooves: the machine's formula, and what it is -/
def lowb (m : Nat) : Nat := m &&& (4294967296 - m)
def gos (m : Nat) : Nat := (m + lowb m) ||| ((((m + lowb m) ^^^ m) / lowb m) / 4)
def tzf : Nat → Nat → Nat
  | 0, _ => 0
  | n + 1, m => cond (Nat.beq (m % 2) 1) 0 (1 + tzf n (m / 2))
def onf : Nat → Nat → Nat
  | 0, _ => 0
  | n + 1, m => cond (Nat.beq (m % 2) 0) 0 (1 + onf n (m / 2))
def gq4 (m t k A : Nat) : Bool := Nat.ble 1 k && (Nat.beq m (A * 2 ^ (t + k + 1) + (2 ^ k - 1) * 2 ^ t) && (Nat.beq (gos m) (A * 2 ^ (t + k + 1) + 2 ^ (t + k) + 2 ^ (k - 1) - 1) && (Nat.ble 1 (lowb m) && Nat.ble (lowb m) m)))
def gq3 (m t q k : Nat) : Bool := gq4 m t k (q / 2 ^ (k + 1))
def gq2 (m t q : Nat) : Bool := gq3 m t q (onf 17 q)
def gq1 (m t : Nat) : Bool := gq2 m t (m / 2 ^ t)
def gsq (m : Nat) : Bool := Nat.beq m 0 || gq1 m (tzf 17 m)
theorem gs_0 : allb 16 (fun a => allb 256 (fun b => gsq (256 * (16 * 0 + a) + b))) = true := by decide +kernel
theorem gs_1 : allb 16 (fun a => allb 256 (fun b => gsq (256 * (16 * 1 + a) + b))) = true := by decide +kernel
theorem gs_2 : allb 16 (fun a => allb 256 (fun b => gsq (256 * (16 * 2 + a) + b))) = true := by decide +kernel
theorem gs_3 : allb 16 (fun a => allb 256 (fun b => gsq (256 * (16 * 3 + a) + b))) = true := by decide +kernel
theorem gs_4 : allb 16 (fun a => allb 256 (fun b => gsq (256 * (16 * 4 + a) + b))) = true := by decide +kernel
theorem gs_5 : allb 16 (fun a => allb 256 (fun b => gsq (256 * (16 * 5 + a) + b))) = true := by decide +kernel
theorem gs_6 : allb 16 (fun a => allb 256 (fun b => gsq (256 * (16 * 6 + a) + b))) = true := by decide +kernel
theorem gs_7 : allb 16 (fun a => allb 256 (fun b => gsq (256 * (16 * 7 + a) + b))) = true := by decide +kernel
theorem gs_8 : allb 16 (fun a => allb 256 (fun b => gsq (256 * (16 * 8 + a) + b))) = true := by decide +kernel
theorem gs_9 : allb 16 (fun a => allb 256 (fun b => gsq (256 * (16 * 9 + a) + b))) = true := by decide +kernel
theorem gs_10 : allb 16 (fun a => allb 256 (fun b => gsq (256 * (16 * 10 + a) + b))) = true := by decide +kernel
theorem gs_11 : allb 16 (fun a => allb 256 (fun b => gsq (256 * (16 * 11 + a) + b))) = true := by decide +kernel
theorem gs_12 : allb 16 (fun a => allb 256 (fun b => gsq (256 * (16 * 12 + a) + b))) = true := by decide +kernel
theorem gs_13 : allb 16 (fun a => allb 256 (fun b => gsq (256 * (16 * 13 + a) + b))) = true := by decide +kernel
theorem gs_14 : allb 16 (fun a => allb 256 (fun b => gsq (256 * (16 * 14 + a) + b))) = true := by decide +kernel
theorem gs_15 : allb 16 (fun a => allb 256 (fun b => gsq (256 * (16 * 15 + a) + b))) = true := by decide +kernel
