/-! sums of whole numbers -/
def sN (f : Nat → Nat) : Nat → Nat → Nat
  | _, 0 => 0
  | a, m + 1 => f a + sN f (a + 1) m
def iN (P : Prop) [Decidable P] : Nat := if P then 1 else 0
theorem sN_cg {f g : Nat → Nat} : ∀ (m a : Nat), (∀ i, a ≤ i → i < a + m → f i = g i) → sN f a m = sN g a m := by
  intro m
  induction m with
  | zero => intro a _; rfl
  | succ m ih => intro a h; rw [sN, sN, h a (by omega) (by omega), ih (a + 1) fun i h1 h2 => h i (by omega) (by omega)]
theorem sN_end (f : Nat → Nat) : ∀ (m a : Nat), sN f a (m + 1) = sN f a m + f (a + m) := by
  intro m
  induction m with
  | zero => intro a; simp [sN]
  | succ m ih =>
    intro a
    rw [sN, ih (a + 1), sN, show a + 1 + m = a + (m + 1) by omega]; omega
theorem sN_add (f g : Nat → Nat) : ∀ (m a : Nat), sN (fun i => f i + g i) a m = sN f a m + sN g a m := by
  intro m
  induction m with
  | zero => intro a; rfl
  | succ m ih => intro a; rw [sN, sN, sN, ih (a + 1)]; omega
theorem sN_le {f g : Nat → Nat} : ∀ (m a : Nat), (∀ i, a ≤ i → i < a + m → f i ≤ g i) → sN f a m ≤ sN g a m := by
  intro m
  induction m with
  | zero => intro a _; exact Nat.le_refl _
  | succ m ih =>
    intro a h
    have h1 := h a (by omega) (by omega)
    have h2 := ih (a + 1) fun i h1 h2 => h i (by omega) (by omega)
    rw [sN, sN]; omega
theorem sN_c (k : Nat) : ∀ (m a : Nat), sN (fun _ => k) a m = m * k := by
  intro m
  induction m with
  | zero => intro a; simp [sN]
  | succ m ih => intro a; rw [sN, ih (a + 1), Nat.succ_mul]; omega
theorem sN_0 {f : Nat → Nat} (m a : Nat) (h : ∀ i, a ≤ i → i < a + m → f i = 0) : sN f a m = 0 := by
  rw [sN_cg m a h, sN_c]; omega
theorem sN_ln {f : Nat → Nat} (m a : Nat) (h : ∀ i, a ≤ i → i < a + m → f i ≤ 1) : sN f a m ≤ m := by
  have := sN_le (g := fun _ => 1) m a h
  rw [sN_c] at this; omega
theorem sN_mul (k : Nat) (f : Nat → Nat) : ∀ (m a : Nat), sN (fun i => k * f i) a m = k * sN f a m := by
  intro m
  induction m with
  | zero => intro a; simp [sN]
  | succ m ih => intro a; rw [sN, sN, ih (a + 1), Nat.mul_add]
theorem sN_swap (F : Nat → Nat → Nat) (m b : Nat) : ∀ (h a : Nat), sN (fun i => sN (F i) b m) a h = sN (fun r => sN (fun i => F i r) a h) b m := by
  intro h
  induction h with
  | zero => intro a; exact (sN_0 m b fun _ _ _ => rfl).symm
  | succ h ih =>
    intro a
    rw [sN, ih (a + 1), ← sN_add]
    rfl
/-- exactly one place -/
theorem sN_one (x : Nat) : ∀ (m a : Nat), sN (fun i => iN (x = i)) a m = iN (a ≤ x ∧ x < a + m) := by
  intro m
  induction m with
  | zero => intro a; unfold iN; rw [if_neg (by omega)]; rfl
  | succ m ih =>
    intro a
    rw [sN, ih (a + 1)]
    unfold iN
    by_cases h1 : x = a
    · rw [if_pos h1, if_neg (by omega), if_pos (by omega)]
    · rw [if_neg h1]
      by_cases h2 : a + 1 ≤ x ∧ x < a + 1 + m
      · rw [if_pos h2, if_pos (by omega)]
      · rw [if_neg h2, if_neg (by omega)]
theorem sm_n {f : Nat → Int32} {g : Nat → Nat} : ∀ (m a : Nat), (∀ i, a ≤ i → i < a + m → f i = nI (g i)) → sm f a m = nI (sN g a m) := by
  intro m
  induction m with
  | zero => intro a _; rfl
  | succ m ih => intro a h; rw [sm, sN, h a (by omega) (by omega), ih (a + 1) fun i h1 h2 => h i (by omega) (by omega), nI_ad]
theorem sm_i (P : Nat → Prop) [∀ i, Decidable (P i)] (m a : Nat) : sm (fun i => if P i then nI 1 else nI 0) a m = nI (sN (fun i => iN (P i)) a m) :=
  sm_n m a fun i _ _ => by unfold iN; by_cases h : P i <;> simp [h]
theorem iN_le (P : Prop) [Decidable P] : iN P ≤ 1 := by unfold iN; split <;> omega
theorem iN_p {P : Prop} [Decidable P] (h : P) : iN P = 1 := by unfold iN; rw [if_pos h]
theorem iN_n {P : Prop} [Decidable P] (h : ¬ P) : iN P = 0 := by unfold iN; rw [if_neg h]
theorem iN_cg {P Q : Prop} [Decidable P] [Decidable Q] (h : P ↔ Q) : iN P = iN Q := by
  by_cases hp : P
  · rw [iN_p hp, iN_p (h.mp hp)]
  · rw [iN_n hp, iN_n (fun q => hp (h.mpr q))]
theorem iN_im {P Q : Prop} [Decidable P] [Decidable Q] (h : P → Q) : iN P ≤ iN Q := by
  by_cases hp : P
  · rw [iN_p hp, iN_p (h hp)]; exact Nat.le_refl _
  · rw [iN_n hp]; exact Nat.zero_le _
/-- sums of long numbers -/
def sL (f : Nat → Int64) : Nat → Nat → Int64
  | _, 0 => 0
  | a, m + 1 => f a + sL f (a + 1) m
theorem sL_s (f : Nat → Int64) (x : Int64) (a m : Nat) : x + sL f a (m + 1) = (x + f a) + sL f (a + 1) m := by rw [sL, Int64.add_assoc]
theorem sL_z (f : Nat → Int64) (x : Int64) (a : Nat) : x + sL f a 0 = x := Int64.add_zero x
theorem sub_add4L (a b c d : Int64) : (a - b) + (c - d) = (a + c) - (b + d) := by
  rw [Int64.sub_eq_add_neg a b, Int64.sub_eq_add_neg c d, Int64.sub_eq_add_neg (a + c) (b + d), Int64.neg_add, Int64.sub_eq_add_neg (-b) d, Int64.add_assoc, Int64.add_assoc]
  congr 1
  rw [← Int64.add_assoc, Int64.add_comm (-b) c, Int64.add_assoc]
/-- an 'or' that is one of its two -/
theorem or_l {a b : Nat} : a ||| b = a ↔ a &&& b = b := by
  constructor
  · intro h
    rw [← h]
    apply Nat.eq_of_testBit_eq
    intro i
    rw [Nat.testBit_and, Nat.testBit_or]
    cases a.testBit i <;> cases b.testBit i <;> rfl
  · intro h
    rw [← h]
    apply Nat.eq_of_testBit_eq
    intro i
    rw [Nat.testBit_or, Nat.testBit_and]
    cases a.testBit i <;> cases b.testBit i <;> rfl
