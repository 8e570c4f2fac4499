def NG : Int32 := -1
def HH (M : Mem) (ρ : Nat → Int32) (h : Nat) : Prop := h ≤ 8 ∧ M.1 2 1 = nI h ∧ ρ 0 = nI h ∧ ∀ i k, i < h → k < 4 → M.1 (5 + k) i = ρ (9 + 4 * i + k)
def BB (M : Mem) (ρ : Nat → Int32) (b : Nat) : Prop := b ≤ 20 ∧ M.1 9 1 = nI b ∧ ρ 7 = nI b ∧ ∀ i k, i < b → k < 3 → M.1 (12 + k) i = ρ (41 + 3 * i + k)
def GG (M : Mem) (ρ : Nat → Int32) (g : Nat) : Prop := g ≤ 20 ∧ M.1 15 1 = nI g ∧ ρ 8 = nI g ∧ ∀ i k, i < g → k < 5 → M.1 (18 + k) i = ρ (101 + 5 * i + k)
def LL (M : Mem) (ρ : Nat → Int32) (c : Nat) : Prop := c < 2 ^ 30 ∧ M.1 23 1 = nI c ∧ ρ 5 = nI c ∧ M.1 23 2 = ρ 6 ∧ ∀ i k, i < c → i < 200 → k < 7 → M.1 (26 + k) i = ρ (201 + 7 * i + k)
def SC (M : Mem) (ρ : Nat → Int32) : Prop := M.1 1 4 = ρ 2 ∧ M.1 1 5 = ρ 1 ∧ M.1 1 6 = ρ 3 ∧ M.1 1 7 = ρ 4
def Vi (M : Mem) (ρ : Nat → Int32) (h b g c : Nat) : Prop := HH M ρ h ∧ BB M ρ b ∧ GG M ρ g ∧ LL M ρ c ∧ SC M ρ
theorem Vi_of {M : Mem} {ρ : Nat → Int32} {h b g c : Nat} (H : RVn M 1 ρ h b g c) : Vi M ρ h b g c := by
  obtain ⟨⟨h1, h2, h3, h4⟩, ⟨a1, a2, a3, a4⟩, ⟨r1, r2, r3, r4⟩, ⟨s1, s2, s3, s4, s5⟩, H5, H6, H7, H8⟩ := H
  exact ⟨⟨h1, a1, r1, fun i k hi hk => by rw [show 5 + k = 1 + (4 + k) by omega]; exact H5 i k hi hk⟩, ⟨h2, a2, r2, fun i k hi hk => by rw [show 12 + k = 1 + (11 + k) by omega]; exact H6 i k hi hk⟩, ⟨h3, a3, r3, fun i k hi hk => by rw [show 18 + k = 1 + (17 + k) by omega]; exact H7 i k hi hk⟩, ⟨h4, a4, r4, s5, fun i k hi hj hk => by rw [show 26 + k = 1 + (25 + k) by omega]; exact H8 i k hi hj hk⟩, ⟨s1, s2, s3, s4⟩⟩
theorem Vi.to {M : Mem} {ρ : Nat → Int32} {h b g c : Nat} (H : Vi M ρ h b g c) : RVn M 1 ρ h b g c := by
  obtain ⟨⟨h1, a1, r1, H5⟩, ⟨h2, a2, r2, H6⟩, ⟨h3, a3, r3, H7⟩, ⟨h4, a4, r4, s5, H8⟩, ⟨s1, s2, s3, s4⟩⟩ := H
  exact ⟨⟨h1, h2, h3, h4⟩, ⟨a1, a2, a3, a4⟩, ⟨r1, r2, r3, r4⟩, ⟨s1, s2, s3, s4, s5⟩, fun i k hi hk => by rw [show 1 + (4 + k) = 5 + k by omega]; exact H5 i k hi hk, fun i k hi hk => by rw [show 1 + (11 + k) = 12 + k by omega]; exact H6 i k hi hk, fun i k hi hk => by rw [show 1 + (17 + k) = 18 + k by omega]; exact H7 i k hi hk, fun i k hi hj hk => by rw [show 1 + (25 + k) = 26 + k by omega]; exact H8 i k hi hj hk⟩
theorem HH.cg {M M' : Mem} {ρ ρ' : Nat → Int32} {h : Nat} (H : HH M ρ h) (hM : ∀ q x, 2 ≤ q → q < 9 → M'.1 q x = M.1 q x) (hr : ∀ k, k < 41 → k = 0 ∨ 9 ≤ k → ρ' k = ρ k) : HH M' ρ' h := by
  obtain ⟨h1, h2, h3, h4⟩ := H
  refine ⟨h1, by rw [hM _ _ (by omega) (by omega)]; exact h2, by rw [hr _ (by omega) (by omega)]; exact h3, fun i k hi hk => by rw [hM _ _ (by omega) (by omega), hr _ (by omega) (by omega)]; exact h4 i k hi hk⟩
theorem BB.cg {M M' : Mem} {ρ ρ' : Nat → Int32} {b : Nat} (H : BB M ρ b) (hM : ∀ q x, 9 ≤ q → q < 15 → M'.1 q x = M.1 q x) (hr : ∀ k, k < 101 → k = 7 ∨ 41 ≤ k → ρ' k = ρ k) : BB M' ρ' b := by
  obtain ⟨h1, h2, h3, h4⟩ := H
  refine ⟨h1, by rw [hM _ _ (by omega) (by omega)]; exact h2, by rw [hr _ (by omega) (by omega)]; exact h3, fun i k hi hk => by rw [hM _ _ (by omega) (by omega), hr _ (by omega) (by omega)]; exact h4 i k hi hk⟩
theorem GG.cg {M M' : Mem} {ρ ρ' : Nat → Int32} {g : Nat} (H : GG M ρ g) (hM : ∀ q x, 15 ≤ q → q < 23 → M'.1 q x = M.1 q x) (hr : ∀ k, k < 201 → k = 8 ∨ 101 ≤ k → ρ' k = ρ k) : GG M' ρ' g := by
  obtain ⟨h1, h2, h3, h4⟩ := H
  refine ⟨h1, by rw [hM _ _ (by omega) (by omega)]; exact h2, by rw [hr _ (by omega) (by omega)]; exact h3, fun i k hi hk => by rw [hM _ _ (by omega) (by omega), hr _ (by omega) (by omega)]; exact h4 i k hi hk⟩
theorem LL.cg {M M' : Mem} {ρ ρ' : Nat → Int32} {c : Nat} (H : LL M ρ c) (hM : ∀ q x, 23 ≤ q → q < 33 → M'.1 q x = M.1 q x) (hr : ∀ k, k < 1601 → k = 5 ∨ k = 6 ∨ 201 ≤ k → ρ' k = ρ k) : LL M' ρ' c := by
  obtain ⟨h1, h2, h3, h4, h5⟩ := H
  refine ⟨h1, by rw [hM _ _ (by omega) (by omega)]; exact h2, by rw [hr _ (by omega) (by omega)]; exact h3, by rw [hM _ _ (by omega) (by omega), hr _ (by omega) (by omega)]; exact h4, fun i k hi hj hk => by rw [hM _ _ (by omega) (by omega), hr _ (by omega) (by omega)]; exact h5 i k hi hj hk⟩
theorem SC.cg {M M' : Mem} {ρ ρ' : Nat → Int32} (H : SC M ρ) (hM : ∀ x, M'.1 1 x = M.1 1 x) (hr : ∀ k, k = 1 ∨ k = 2 ∨ k = 3 ∨ k = 4 → ρ' k = ρ k) : SC M' ρ' := by
  obtain ⟨h1, h2, h3, h4⟩ := H
  refine ⟨?_, ?_, ?_, ?_⟩ <;> rw [hM, hr _ (by omega)] <;> assumption
theorem Vi.cg {M M' : Mem} {ρ ρ' : Nat → Int32} {h b g c : Nat} (H : Vi M ρ h b g c) (hM : ∀ q x, 1 ≤ q → q < 33 → M'.1 q x = M.1 q x) (hr : ∀ k, k < 1601 → ρ' k = ρ k) : Vi M' ρ' h b g c :=
  ⟨H.1.cg (fun q x _ _ => hM q x (by omega) (by omega)) (fun k _ _ => hr k (by omega)), H.2.1.cg (fun q x _ _ => hM q x (by omega) (by omega)) (fun k _ _ => hr k (by omega)), H.2.2.1.cg (fun q x _ _ => hM q x (by omega) (by omega)) (fun k _ _ => hr k (by omega)), H.2.2.2.1.cg (fun q x _ _ => hM q x (by omega) (by omega)) (fun k _ _ => hr k (by omega)), H.2.2.2.2.cg (fun x => hM 1 x (by omega) (by omega)) (fun k _ => hr k (by omega))⟩
/-- marks, excuses -/
def RH (ρ : Nat → Int32) (h : Nat) : Prop := (∀ i, i < h → ∃ m, 1 ≤ m ∧ m < 65536 ∧ ρ (9 + 4 * i) = nI m) ∧ (∀ i j, i < h → j < h → ρ (9 + 4 * i) = ρ (9 + 4 * j) → i = j) ∧ (∀ i, i < h → ∃ e, e < 2 ∧ ρ (9 + 4 * i + 3) = nI e)
/-- batches that wait -/
def RB (ρ : Nat → Int32) (h b : Nat) : Prop := ∀ i, i < b → (∃ a, a < h ∧ ρ (41 + 3 * i) = nI a) ∧ (∃ k, k < 3 ∧ ρ (41 + 3 * i + 1) = nI k) ∧ (∃ z, 1 ≤ z ∧ z ≤ 12 ∧ ρ (41 + 3 * i + 2) = nI z)
/-- holders -/
def RLv (ρ : Nat → Int32) (c : Nat) : Prop := ∀ r, r < c → r < 200 → (ρ (201 + 7 * r + 5) = NG ∨ ∃ x, x ≤ 8 ∧ ρ (201 + 7 * r + 5) = nI x)
/-- heat and s -/
def RS (ρ : Nat → Int32) : Prop := (∃ t, 20 ≤ t ∧ t ≤ 400 ∧ ρ 2 = nI t) ∧ ∃ s, s < 2 ^ 31 ∧ ρ 1 = nI s
def Wr (ρ : Nat → Int32) (h b c : Nat) : Prop := RH ρ h ∧ RB ρ h b ∧ RLv ρ c ∧ RS ρ
theorem RH.cg {ρ ρ' : Nat → Int32} {h : Nat} (hh : h ≤ 8) (H : RH ρ h) (hr : ∀ k, 9 ≤ k → k < 41 → ρ' k = ρ k) : RH ρ' h := by
  obtain ⟨h1, h2, h3⟩ := H
  refine ⟨fun i hi => by rw [hr _ (by omega) (by omega)]; exact h1 i hi, fun i j hi hj => by rw [hr _ (by omega) (by omega), hr _ (by omega) (by omega)]; exact h2 i j hi hj, fun i hi => by rw [hr _ (by omega) (by omega)]; exact h3 i hi⟩
theorem RB.cg {ρ ρ' : Nat → Int32} {h b : Nat} (hb : b ≤ 20) (H : RB ρ h b) (hr : ∀ k, 41 ≤ k → k < 101 → ρ' k = ρ k) : RB ρ' h b := fun i hi => by
  rw [hr _ (by omega) (by omega), hr _ (by omega) (by omega), hr _ (by omega) (by omega)]; exact H i hi
theorem RLv.cg {ρ ρ' : Nat → Int32} {c : Nat} (H : RLv ρ c) (hr : ∀ k, 201 ≤ k → k < 1601 → ρ' k = ρ k) : RLv ρ' c := fun r h1 h2 => by
  rw [hr _ (by omega) (by omega)]; exact H r h1 h2
theorem RS.cg {ρ ρ' : Nat → Int32} (H : RS ρ) (hr : ∀ k, k = 1 ∨ k = 2 → ρ' k = ρ k) : RS ρ' := by
  obtain ⟨h1, h2⟩ := H
  refine ⟨by rw [hr _ (by omega)]; exact h1, by rw [hr _ (by omega)]; exact h2⟩
theorem Wr.cg {ρ ρ' : Nat → Int32} {h b c : Nat} (hh : h ≤ 8) (hb : b ≤ 20) (H : Wr ρ h b c) (hr : ∀ k, k < 1601 → ρ' k = ρ k) : Wr ρ' h b c :=
  ⟨H.1.cg hh fun k _ _ => hr k (by omega), H.2.1.cg hb fun k _ _ => hr k (by omega), H.2.2.1.cg fun k _ _ => hr k (by omega), H.2.2.2.cg fun k _ => hr k (by omega)⟩
/-- what a call of the class's village leaves alone, what one of the reference's row leaves alone -/
def Fc (M M' : Mem) : Prop := (∀ q x, q = 0 ∨ 45 ≤ q → M'.1 q x = M.1 q x) ∧ M'.2 = M.2
theorem Fc.rf (M : Mem) : Fc M M := ⟨fun _ _ _ => rfl, rfl⟩
theorem Fc.tr {a b c : Mem} (h : Fc a b) (g : Fc b c) : Fc a c := ⟨fun q x hq => (g.1 q x hq).trans (h.1 q x hq), g.2.trans h.2⟩
theorem Fc.pt (M : Mem) {q k : Nat} (x : Int32) (hq : 1 ≤ q ∧ q < 45) : Fc M (mput M q k x) := ⟨fun a y ha => by rw [mput_at, if_neg (by omega)], rfl⟩
theorem nl (n : Nat) : (OfNat.ofNat n : Int32) = nI (OfNat.ofNat n) := rfl
theorem l_0 : (0 : Int32) = nI 0 := rfl
theorem l_1 : (1 : Int32) = nI 1 := rfl
theorem l_2 : (2 : Int32) = nI 2 := rfl
theorem l_3 : (3 : Int32) = nI 3 := rfl
theorem l_4 : (4 : Int32) = nI 4 := rfl
theorem l_5 : (5 : Int32) = nI 5 := rfl
theorem l_6 : (6 : Int32) = nI 6 := rfl
theorem l_7 : (7 : Int32) = nI 7 := rfl
theorem l_8 : (8 : Int32) = nI 8 := rfl
theorem l_9 : (9 : Int32) = nI 9 := rfl
theorem l_10 : (10 : Int32) = nI 10 := rfl
theorem l_11 : (11 : Int32) = nI 11 := rfl
theorem l_12 : (12 : Int32) = nI 12 := rfl
theorem l_13 : (13 : Int32) = nI 13 := rfl
theorem l_14 : (14 : Int32) = nI 14 := rfl
theorem l_15 : (15 : Int32) = nI 15 := rfl
theorem l_16 : (16 : Int32) = nI 16 := rfl
theorem l_17 : (17 : Int32) = nI 17 := rfl
theorem l_20 : (20 : Int32) = nI 20 := rfl
theorem l_24 : (24 : Int32) = nI 24 := rfl
theorem l_30 : (30 : Int32) = nI 30 := rfl
theorem l_31 : (31 : Int32) = nI 31 := rfl
theorem l_32 : (32 : Int32) = nI 32 := rfl
theorem l_40 : (40 : Int32) = nI 40 := rfl
theorem l_41 : (41 : Int32) = nI 41 := rfl
theorem l_48 : (48 : Int32) = nI 48 := rfl
theorem l_57 : (57 : Int32) = nI 57 := rfl
theorem l_59 : (59 : Int32) = nI 59 := rfl
theorem l_63 : (63 : Int32) = nI 63 := rfl
theorem l_90 : (90 : Int32) = nI 90 := rfl
theorem l_97 : (97 : Int32) = nI 97 := rfl
theorem l_99 : (99 : Int32) = nI 99 := rfl
theorem l_101 : (101 : Int32) = nI 101 := rfl
theorem l_122 : (122 : Int32) = nI 122 := rfl
theorem l_127 : (127 : Int32) = nI 127 := rfl
theorem l_150 : (150 : Int32) = nI 150 := rfl
theorem l_180 : (180 : Int32) = nI 180 := rfl
theorem l_200 : (200 : Int32) = nI 200 := rfl
theorem l_201 : (201 : Int32) = nI 201 := rfl
theorem l_260 : (260 : Int32) = nI 260 := rfl
theorem l_300 : (300 : Int32) = nI 300 := rfl
theorem l_400 : (400 : Int32) = nI 400 := rfl
theorem l_1000 : (1000 : Int32) = nI 1000 := rfl
theorem l_1601 : (1601 : Int32) = nI 1601 := rfl
theorem l_65535 : (65535 : Int32) = nI 65535 := rfl
theorem l_65536 : (65536 : Int32) = nI 65536 := rfl
theorem ng1 : -(nI 1) = NG := rfl
theorem NG_int : NG.toInt = -1 := by decide
theorem nI_ng {i : Nat} (hi : i < 2 ^ 31) : ¬ nI i = NG := fun q => by
  have := congrArg Int32.toInt q
  rw [nI_int hi, NG_int] at this
  omega
theorem ng_nI {i : Nat} (hi : i < 2 ^ 31) : ¬ NG = nI i := fun q => nI_ng hi q.symm
theorem ng_lt {i : Nat} (hi : i < 2 ^ 31) : NG < nI i := by
  rw [Int32.lt_iff_toInt_lt, nI_int hi, NG_int]; omega
theorem ng_le {i : Nat} (hi : i < 2 ^ 31) : NG ≤ nI i := by
  rw [Int32.le_iff_toInt_le, nI_int hi, NG_int]; omega
theorem nlt_ng {i : Nat} (hi : i < 2 ^ 31) : ¬ nI i < NG := by
  rw [Int32.lt_iff_toInt_lt, nI_int hi, NG_int]; omega
theorem nle_ng {i : Nat} (hi : i < 2 ^ 31) : ¬ nI i ≤ NG := by
  rw [Int32.le_iff_toInt_le, nI_int hi, NG_int]; omega
theorem nI_dec {a : Nat} (h : 1 ≤ a) (ha : a < 2 ^ 31) : nI a + NG = nI (a - 1) := by
  rw [← mI_sb h ha, Int32.sub_eq_add_neg]; rfl
theorem pI_lt {a b : Nat} (h : a < b) (hb : b < 2 ^ 31) : nI a < nI b := (mI_lt (by omega) hb).mpr h
theorem pI_nlt {a b : Nat} (h : b ≤ a) (ha : a < 2 ^ 31) : ¬ nI a < nI b := fun q => by have := (mI_lt ha (by omega)).mp q; omega
theorem pI_le {a b : Nat} (h : a ≤ b) (hb : b < 2 ^ 31) : nI a ≤ nI b := (mI_le (by omega) hb).mpr h
theorem pI_nle {a b : Nat} (h : b < a) (ha : a < 2 ^ 31) : ¬ nI a ≤ nI b := fun q => by have := (mI_le ha (by omega)).mp q; omega
theorem pI_ne {a b : Nat} (h : a ≠ b) (ha : a < 2 ^ 31) (hb : b < 2 ^ 31) : ¬ nI a = nI b := fun q => h ((mI_eq ha hb).mp q)
theorem mI_dv {a b : Nat} (ha : a < 2 ^ 31) (hb : b < 2 ^ 31) : nI a / nI b = nI (a / b) := by
  have hd : a / b ≤ a := Nat.div_le_self _ _
  by_cases h0 : b = 0
  · subst h0
    rw [Nat.div_zero]
    exact Int32.div_zero
  apply Int32.toInt_inj.mp
  rw [Int32.toInt_div, nI_int ha, nI_int hb, nI_int (by omega), ← Int.ofNat_tdiv]
  generalize a / b = q at hd ⊢
  simp only [Int.bmod_def]
  omega
/-- a remainder, as the machine has it -/
theorem mI_md {a b : Nat} (ha : a < 2 ^ 31) (hb : b < 2 ^ 31) : nI a - nI a / nI b * nI b = nI (a % b) := by
  have h1 : a / b * b ≤ a := Nat.div_mul_le_self a b
  rw [mI_dv ha hb, nI_ml', mI_sb h1 ha]
  have h2 := Nat.div_add_mod a b
  rw [Nat.mul_comm] at h2
  rw [show a - a / b * b = a % b by omega]
theorem mI_tc {i : Nat} (h : i < 2 ^ 31) : (nI i).toNatClampNeg = i := nI_nat h
def sm (f : Nat → Int32) : Nat → Nat → Int32
  | _, 0 => nI 0
  | a, m + 1 => f a + sm f (a + 1) m
theorem sm_cg {f g : Nat → Int32} : ∀ (m a : Nat), (∀ i, a ≤ i → i < a + m → f i = g i) → sm f a m = sm g a m := by
  intro m
  induction m with
  | zero => intro a _; rfl
  | succ m ih =>
    intro a h
    rw [sm, sm, h a (by omega) (by omega), ih (a + 1) (fun i h1 h2 => h i (by omega) (by omega))]
theorem sm_z (x : Int32) : x + nI 0 = x := by rw [show nI 0 = (0 : Int32) from rfl, Int32.add_zero]
theorem sm_s (f : Nat → Int32) (x : Int32) (a m : Nat) : x + sm f a (m + 1) = (x + f a) + sm f (a + 1) m := by rw [sm, Int32.add_assoc]
theorem sm_end (f : Nat → Int32) : ∀ (m a : Nat), sm f a (m + 1) = sm f a m + f (a + m) := by
  intro m
  induction m with
  | zero => intro a; rw [sm, sm, sm, sm_z, Nat.add_zero, Int32.add_comm, sm_z]
  | succ m ih =>
    intro a
    rw [sm, ih (a + 1), sm, Int32.add_assoc, show a + 1 + m = a + (m + 1) by omega]
/-- a whole turn about 200 places -/
theorem sm_rot (f : Nat → Int32) : ∀ a, sm (fun i => f (i % 200)) a 200 = sm f 0 200 := by
  intro a
  induction a with
  | zero => exact sm_cg 200 0 fun i _ h => by rw [Nat.mod_eq_of_lt (by omega)]
  | succ a ih =>
    rw [← ih]
    have h1 := sm_end (fun i => f (i % 200)) 200 a
    rw [sm] at h1
    simp only [Nat.add_mod_right] at h1
    rw [Int32.add_comm] at h1
    exact (Int32.add_left_inj _).mp h1
theorem sum_c {t tr k h : Nat} {M : Mem} (hr : tr < 2 ^ 31) (hh : h ≤ tr) (hk : k < 2 ^ 31) : ∀ (m j n : Nat) (acc : Int32), j + m = h → m < n → lX7_sum_28 t tr (nI h) (nI k) M n acc (nI j) = some (acc + sm (M.1 (t + (2 + k))) j m) := by
  intro m
  induction m with
  | zero =>
    intro j n acc h1 h2
    obtain ⟨n, rfl⟩ : ∃ n', n = n' + 1 := ⟨n - 1, by omega⟩
    rw [lX7_sum_28, if_pos (pI_le (by omega) (by omega)), sm, sm_z]
  | succ m ih =>
    intro j n acc h1 h2
    obtain ⟨n, rfl⟩ : ∃ n', n = n' + 1 := ⟨n - 1, by omega⟩
    rw [lX7_sum_28, if_neg (pI_nle (by omega) (by omega)), if_neg (pI_nle (by omega) (by omega)), mI_tc hk, ald_n (by omega) hr, Option.bind_some, l_1, nI_ad, ih (j + 1) n _ (by omega) (by omega), sm_s]
theorem cb_c {t tr k k2 h : Nat} {M : Mem} (x y : Int32) (hr : tr < 2 ^ 31) (hh : h ≤ tr) (hk : k < 2 ^ 31) (hk2 : k2 < 2 ^ 31) : ∀ (m j n : Nat) (acc : Int32), j + m = h → m < n → lX7_countBoth_53 t tr (nI h) (nI k) x (nI k2) y M n acc (nI j) = some (acc + sm (fun i => if M.1 (t + (2 + k)) i = x ∧ M.1 (t + (2 + k2)) i = y then nI 1 else nI 0) j m) := by
  intro m
  induction m with
  | zero =>
    intro j n acc h1 h2
    obtain ⟨n, rfl⟩ : ∃ n', n = n' + 1 := ⟨n - 1, by omega⟩
    rw [lX7_countBoth_53, if_pos (pI_le (by omega) (by omega)), sm, sm_z]
  | succ m ih =>
    intro j n acc h1 h2
    obtain ⟨n, rfl⟩ : ∃ n', n = n' + 1 := ⟨n - 1, by omega⟩
    rw [lX7_countBoth_53, if_neg (pI_nle (by omega) (by omega)), if_neg (pI_nle (by omega) (by omega)), mI_tc hk, ald_n (by omega) hr, Option.bind_some, mI_tc hk2, ald_n (by omega) hr, l_1, nI_ad, Option.bind_some, ih (j + 1) n _ (by omega) (by omega), ih (j + 1) n _ (by omega) (by omega), sm_s]
    by_cases e1 : M.1 (t + (2 + k)) j = x
    · rw [if_pos e1]
      by_cases e2 : M.1 (t + (2 + k2)) j = y
      · rw [if_pos e2, if_pos ⟨e1, e2⟩]
      · rw [if_neg e2, if_neg (fun q => e2 q.2), sm_z]
    · rw [if_neg e1, if_neg (fun q => e1 q.1), sm_z]
theorem X7_sum {t tw tr k h : Nat} {M : Mem} (hr : tr < 2 ^ 31) (hh : h ≤ tr) (hf : h < FUEL) (hk : k < tw) (hw : tw < 1000) : fX7_sum t tw tr (nI h) (nI k) M = some (sm (M.1 (t + (2 + k))) 0 h) := by
  unfold fX7_sum
  rw [l_0, if_neg (pI_nlt (by omega) (by omega)), if_pos (pI_lt hk (by omega)), if_neg (by rw [mI_tc (by omega)]; rintro (q | q); exact pI_nlt (by omega) (by omega) q; omega), sum_c hr hh (by omega) h 0 FUEL _ (by omega) hf, Option.bind_some, Int32.add_comm, sm_z]
theorem X7_both {t tw tr k k2 h : Nat} {M : Mem} (x y : Int32) (hr : tr < 2 ^ 31) (hh : h ≤ tr) (hf : h < FUEL) (hk : k < tw) (hk2 : k2 < tw) (hw : tw < 1000) : fX7_countBoth t tw tr (nI h) (nI k) x (nI k2) y M = some (sm (fun i => if M.1 (t + (2 + k)) i = x ∧ M.1 (t + (2 + k2)) i = y then nI 1 else nI 0) 0 h) := by
  unfold fX7_countBoth
  rw [l_0, if_neg (pI_nlt (by omega) (by omega)), if_neg (pI_nle hk (by omega)), if_neg (pI_nlt (by omega) (by omega)), if_pos (pI_lt hk2 (by omega)), if_neg (by rw [mI_tc (by omega)]; rintro (q | q); exact pI_nlt (by omega) (by omega) q; omega), if_neg (by rw [mI_tc (by omega)]; rintro (q | q); exact pI_nlt (by omega) (by omega) q; omega), cb_c x y hr hh (by omega) (by omega) h 0 FUEL _ (by omega) hf, Option.bind_some, Int32.add_comm, sm_z]
theorem X7_count {t tw tr k h : Nat} {M : Mem} (x : Int32) (hr : tr < 2 ^ 31) (hh : h ≤ tr) (hf : h < FUEL) (hk : k < tw) (hw : tw < 1000) : fX7_count t tw tr (nI h) (nI k) x M = some (sm (fun i => if M.1 (t + (2 + k)) i = x then nI 1 else nI 0) 0 h) := by
  unfold fX7_count
  rw [X7_both x x hr hh hf hk hk hw, Option.bind_some]
  simp only [and_self]
theorem fuel8 {h : Nat} (hh : h ≤ 1000) : h < FUEL := by unfold FUEL; omega
theorem HH.gt {M : Mem} {ρ : Nat → Int32} {h i k : Nat} (H : HH M ρ h) (hi : i < h) (hk : k < 4) : fX7_get 3 4 8 (nI i) (nI k) M = some (ρ (9 + 4 * i + k)) := by
  have h8 := H.1
  rw [X7_get hk (by omega) (by omega) (by omega), ← H.2.2.2 i k hi hk, show 3 + (2 + k) = 5 + k by omega]
theorem BB.gt {M : Mem} {ρ : Nat → Int32} {b i k : Nat} (H : BB M ρ b) (hi : i < b) (hk : k < 3) : fX7_get 10 3 20 (nI i) (nI k) M = some (ρ (41 + 3 * i + k)) := by
  have h8 := H.1
  rw [X7_get hk (by omega) (by omega) (by omega), ← H.2.2.2 i k hi hk, show 10 + (2 + k) = 12 + k by omega]
theorem GG.gt {M : Mem} {ρ : Nat → Int32} {g i k : Nat} (H : GG M ρ g) (hi : i < g) (hk : k < 5) : fX7_get 16 5 20 (nI i) (nI k) M = some (ρ (101 + 5 * i + k)) := by
  have h8 := H.1
  rw [X7_get hk (by omega) (by omega) (by omega), ← H.2.2.2 i k hi hk, show 16 + (2 + k) = 18 + k by omega]
theorem LL.gt {M : Mem} {ρ : Nat → Int32} {c i k : Nat} (H : LL M ρ c) (hi : i < c) (hj : i < 200) (hk : k < 7) : fX7_get 24 7 200 (nI i) (nI k) M = some (ρ (201 + 7 * i + k)) := by
  rw [X7_get hk (by omega) (by omega) (by omega), ← H.2.2.2.2 i k hi hj hk, show 24 + (2 + k) = 26 + k by omega]
theorem LL.val {M : Mem} {ρ : Nat → Int32} {c i k : Nat} (H : LL M ρ c) (hi : i < c) (hk : k < 7) : fX6_value 23 (nI i) (nI k) M = some (ρ (201 + 7 * (i % 200) + k)) := by
  have hc := H.1
  have h1 : i % 200 < 200 := Nat.mod_lt _ (by omega)
  have h2 : i % 200 ≤ i := Nat.mod_le _ _
  unfold fX6_value
  rw [l_200, mI_md (by omega) (by omega)]
  show (fX7_get 24 7 200 _ _ M).bind _ = _
  rw [H.gt (by omega) h1 hk]
  rfl
theorem LL.keptn {M : Mem} {ρ : Nat → Int32} {c : Nat} (H : LL M ρ c) : fX6_kept 23 M = some (nI (min c 200)) := by
  unfold fX6_kept
  have := kept_n H.1
  unfold kept at this
  rw [H.2.1, this]
theorem LL.first {M : Mem} {ρ : Nat → Int32} {c : Nat} (H : LL M ρ c) : fX6_firstKept 23 M = some (nI (c - 200)) := by
  have hc := H.1
  unfold fX6_firstKept
  rw [H.keptn, Option.bind_some, H.2.1]
  by_cases h : c ≤ 200
  · rw [Nat.min_eq_left h, mI_sb (by omega) (by omega), show c - c = c - 200 by omega]
  · rw [Nat.min_eq_right (by omega), mI_sb (by omega) (by omega)]
def sH (ρ : Nat → Int32) (h k : Nat) : Int32 := sm (fun i => ρ (9 + 4 * i + k)) 0 h
theorem HH.sum {M : Mem} {ρ : Nat → Int32} {h k : Nat} (H : HH M ρ h) (hk : k < 4) : fX7_sum 3 4 8 (nI h) (nI k) M = some (sH ρ h k) := by
  have hh := H.1
  rw [X7_sum (by omega) hh (fuel8 (by omega)) hk (by omega)]
  congr 1
  exact sm_cg h 0 fun i _ h2 => by rw [show 3 + (2 + k) = 5 + k by omega]; exact H.2.2.2 i k (by omega) hk
theorem HH.exc {M : Mem} {ρ : Nat → Int32} {h : Nat} (H : HH M ρ h) (W : RH ρ h) : fX7_count 3 4 8 (nI h) (nI 3) (nI 1) M = some (sH ρ h 3) := by
  have hh := H.1
  rw [X7_count _ (by omega) hh (fuel8 (by omega)) (by omega) (by omega)]
  congr 1
  refine sm_cg h 0 fun i _ h2 => ?_
  obtain ⟨e, he, he2⟩ := W.2.2 i (by omega)
  have h5 : M.1 (3 + (2 + 3)) i = nI e := by rw [← he2]; exact H.2.2.2 i 3 (by omega) (by omega)
  rw [h5, he2]
  rcases (show e = 0 ∨ e = 1 by omega) with rfl | rfl
  · rw [if_neg (pI_ne (by omega) (by omega) (by omega))]
  · rw [if_pos rfl]
/-- a household's due -/
def Du (ρ : Nat → Int32) (h i : Nat) : Int64 := (sH ρ h 1).toInt64 * (ρ (9 + 4 * i + 2)).toInt64 - (sH ρ h 2).toInt64 * (ρ (9 + 4 * i + 1)).toInt64
theorem HH.due {M : Mem} {ρ : Nat → Int32} {h i : Nat} (H : HH M ρ h) (hi : i < h) : fX4_dueOf 2 (nI i) M = some (Du ρ h i) := by
  unfold fX4_dueOf
  rw [H.2.1, l_1, l_2]
  show (fX7_sum 3 4 8 (nI h) (nI 1) M).bind _ = _
  rw [H.sum (by omega), Option.bind_some]
  show (fX7_sum 3 4 8 (nI h) (nI 2) M).bind _ = _
  rw [H.sum (by omega), Option.bind_some]
  show (fX7_get 3 4 8 (nI i) (nI 2) M).bind _ = _
  rw [H.gt hi (by omega), Option.bind_some]
  show (fX7_get 3 4 8 (nI i) (nI 1) M).bind _ = _
  rw [H.gt hi (by omega), Option.bind_some]
  rfl
/-- the better one of the best so far and the household j -/
def bt (ρ : Nat → Int32) (h j : Nat) (b : Option Nat) : Option Nat := match b with | none => some j | some p => if Du ρ h j ≤ Du ρ h p then some p else some j
def enc (o : Option Nat) : Int32 := match o with | none => NG | some i => nI i
/-- the next one for wood, among the households from j on, the best so far b -/
def nx (ρ : Nat → Int32) (h : Nat) (z : Bool) : Nat → Nat → Option Nat → Option Nat
  | 0, _, b => b
  | m + 1, j, b => nx ρ h z m (j + 1) (if z = true ∨ ρ (9 + 4 * j + 3) = nI 0 then (bt ρ h j b) else b)
theorem nx_c {M : Mem} {ρ : Nat → Int32} {h : Nat} (H : HH M ρ h) (z : Bool) : ∀ (m j n : Nat) (b : Option Nat) (y : Int64), j + m = h → m < n → (∀ p, b = some p → p < h ∧ y = Du ρ h p) → lX4_nextOne_33 2 M z n (enc b) y (nI j) = some (enc (nx ρ h z m j b)) := by
  intro m
  have hh := H.1
  induction m with
  | zero =>
    intro j n b y h1 h2 hb
    obtain ⟨n, rfl⟩ : ∃ n', n = n' + 1 := ⟨n - 1, by omega⟩
    rw [lX4_nextOne_33, H.2.1, if_pos (pI_le (by omega) (by omega)), nx]
  | succ m ih =>
    intro j n b y h1 h2 hb
    obtain ⟨n, rfl⟩ : ∃ n', n = n' + 1 := ⟨n - 1, by omega⟩
    have g : fX7_get (2 + 1) 4 8 (nI j) (nI 3) M = some (ρ (9 + 4 * j + 3)) := H.gt (by omega) (by omega)
    have inner : (fX4_dueOf 2 (nI j) M).bind (fun v11 => if enc b = (-1 : Int32) then lX4_nextOne_33 2 M z n (nI j) v11 (nI (j + 1)) else if v11 ≤ y then lX4_nextOne_33 2 M z n (enc b) y (nI (j + 1)) else lX4_nextOne_33 2 M z n (nI j) v11 (nI (j + 1))) = some (enc (nx ρ h z m (j + 1) (bt ρ h j b))) := by
      rw [H.due (by omega), Option.bind_some, show (-1 : Int32) = NG from rfl]
      cases b with
      | none =>
        rw [if_pos (show enc none = NG from rfl)]
        exact ih (j + 1) n (some j) _ (by omega) (by omega) (fun p hp => by cases hp; exact ⟨by omega, rfl⟩)
      | some p =>
        obtain ⟨hp1, hp2⟩ := hb p rfl
        rw [if_neg (show ¬ enc (some p) = NG from nI_ng (by omega)), hp2]
        by_cases hd : Du ρ h j ≤ Du ρ h p
        · rw [if_pos hd, bt]
          rw [if_pos hd]
          exact ih (j + 1) n (some p) _ (by omega) (by omega) (fun p' hp => by cases hp; exact ⟨hp1, rfl⟩)
        · rw [if_neg hd, bt]
          rw [if_neg hd]
          exact ih (j + 1) n (some j) _ (by omega) (by omega) (fun p' hp => by cases hp; exact ⟨by omega, rfl⟩)
    rw [lX4_nextOne_33, H.2.1, if_neg (pI_nle (by omega) (by omega)), l_1, l_3, nI_ad, g, Option.bind_some, nx]
    cases z with
    | true => rw [if_pos rfl, if_pos (Or.inl rfl)]; exact inner
    | false =>
      rw [if_neg (by decide), l_0]
      by_cases he : ρ (9 + 4 * j + 3) = nI 0
      · rw [if_pos he, if_pos (Or.inr he)]; exact inner
      · rw [if_neg he, if_neg (by rintro (q | q); exact absurd q (by decide); exact he q)]
        exact ih (j + 1) n b y (by omega) (by omega) hb
theorem nx_lt {ρ : Nat → Int32} {h : Nat} (z : Bool) : ∀ (m j : Nat) (b : Option Nat), j + m = h → (∀ p, b = some p → p < h) → ∀ p, nx ρ h z m j b = some p → p < h := by
  intro m
  induction m with
  | zero => intro j b h1 hb p hp; exact hb p hp
  | succ m ih =>
    intro j b h1 hb p hp
    rw [nx] at hp
    refine ih (j + 1) _ (by omega) (fun p' hp' => ?_) p hp
    split at hp'
    · cases b with
      | none => cases hp'; omega
      | some q =>
        rw [bt] at hp'
        split at hp'
        · exact hb p' hp'
        · cases hp'; omega
    · exact hb p' hp'
theorem nx_some {ρ : Nat → Int32} {h : Nat} (z : Bool) : ∀ (m j : Nat) (b : Option Nat), j + m = h → (b ≠ none ∨ ∃ i, j ≤ i ∧ i < h ∧ (z = true ∨ ρ (9 + 4 * i + 3) = nI 0)) → nx ρ h z m j b ≠ none := by
  intro m
  induction m with
  | zero =>
    intro j b h1 hb
    rcases hb with hb | ⟨i, h2, h3, _⟩
    · exact hb
    · omega
  | succ m ih =>
    intro j b h1 hb
    rw [nx]
    refine ih (j + 1) _ (by omega) ?_
    by_cases hc : z = true ∨ ρ (9 + 4 * j + 3) = nI 0
    · left
      rw [if_pos hc]
      cases b with
      | none => intro q; cases q
      | some p => rw [bt]; split <;> intro q <;> cases q
    · rw [if_neg hc]
      rcases hb with hb | ⟨i, h2, h3, h4⟩
      · exact Or.inl hb
      · refine Or.inr ⟨i, ?_, h3, h4⟩
        rcases Nat.lt_or_eq_of_le h2 with h5 | h5
        · omega
        · subst h5; exact absurd h4 hc
def nxt (ρ : Nat → Int32) (h : Nat) : Option Nat := nx ρ h (decide (sH ρ h 3 = nI h)) h 0 none
theorem HH.next {M : Mem} {ρ : Nat → Int32} {h : Nat} (H : HH M ρ h) (W : RH ρ h) : fX4_nextOne 2 M = some (enc (nxt ρ h)) := by
  unfold fX4_nextOne
  rw [H.2.1, l_1, l_3]
  show (fX7_count 3 4 8 (nI h) (nI 3) (nI 1) M).bind _ = _
  rw [H.exc W, Option.bind_some]
  have e : (if sH ρ h 3 = nI h then (some true : Option Bool) else some false) = some (decide (sH ρ h 3 = nI h)) := by
    by_cases hz : sH ρ h 3 = nI h
    · rw [if_pos hz, decide_eq_true hz]
    · rw [if_neg hz, decide_eq_false hz]
  rw [e, Option.bind_some, show (-(nI 1) : Int32) = enc none from rfl, l_0, nx_c H _ h 0 FUEL none _ (by omega) (fuel8 (by have := H.1; omega)) (fun p hp => by cases hp)]
  rfl
theorem sm_one {f : Nat → Int32} : ∀ (m a : Nat), (∀ i, a ≤ i → i < a + m → f i = nI 1) → sm f a m = nI m := by
  intro m
  induction m with
  | zero => intro a _; rfl
  | succ m ih =>
    intro a h
    rw [sm, h a (by omega) (by omega), ih (a + 1) (fun i h1 h2 => h i (by omega) (by omega)), nI_ad, Nat.add_comm]
/-- where there is a household, there is a next one -/
theorem nxt_some {ρ : Nat → Int32} {h : Nat} (W : RH ρ h) (hh : 0 < h) : ∃ p, p < h ∧ nxt ρ h = some p := by
  have h1 : nxt ρ h ≠ none := by
    refine nx_some _ h 0 none (by omega) (Or.inr ?_)
    by_cases hz : sH ρ h 3 = nI h
    · exact ⟨0, by omega, hh, Or.inl (decide_eq_true hz)⟩
    · have : ¬ ∀ i, i < h → ρ (9 + 4 * i + 3) = nI 1 := fun q => hz (sm_one h 0 fun i _ h2 => q i (by omega))
      by_cases hx : ∃ i, i < h ∧ ρ (9 + 4 * i + 3) = nI 0
      · obtain ⟨i, h2, h3⟩ := hx
        exact ⟨i, by omega, h2, Or.inr h3⟩
      · exact absurd (fun i hi => by
          obtain ⟨e, he, he2⟩ := W.2.2 i hi
          rcases (show e = 0 ∨ e = 1 by omega) with rfl | rfl
          · exact absurd ⟨i, hi, he2⟩ hx
          · exact he2) this
  cases hn : nxt ρ h with
  | none => exact absurd hn h1
  | some p => exact ⟨p, nx_lt _ h 0 none (by omega) (fun p hp => by cases hp) p hn, rfl⟩
theorem sm_k (f : Nat → Int32) (c : Nat) : sm (fun i => f (i % 200)) (c - 200) (min c 200) = sm f 0 (min c 200) := by
  by_cases h : c ≤ 200
  · rw [Nat.min_eq_left h, show c - 200 = 0 by omega]
    exact sm_cg c 0 fun i _ h2 => by rw [Nat.mod_eq_of_lt (by omega)]
  · rw [Nat.min_eq_right (by omega)]
    exact sm_rot f _
theorem sm_0 {f : Nat → Int32} : ∀ (m a : Nat), (∀ i, a ≤ i → i < a + m → f i = nI 0) → sm f a m = nI 0 := by
  intro m
  induction m with
  | zero => intro a _; rfl
  | succ m ih =>
    intro a h
    rw [sm, h a (by omega) (by omega), ih (a + 1) (fun i h1 h2 => h i (by omega) (by omega)), sm_z]
theorem sub_add4 (a b c d : Int32) : (a - b) + (c - d) = (a + c) - (b + d) := by
  simp only [Int32.sub_eq_add_neg, Int32.neg_add]
  ac_rfl
theorem sm_sub (f g : Nat → Int32) : ∀ (m a : Nat), sm (fun i => f i - g i) a m = sm f a m - sm g a m := by
  intro m
  induction m with
  | zero => intro a; rw [sm, sm, sm, Int32.sub_self]; rfl
  | succ m ih => intro a; rw [sm, ih (a + 1), sub_add4]; rfl
def sK (ρ : Nat → Int32) (c : Nat) (x : Int32) (b2 b3 : Bool) : Int32 := sm (fun i => if (b2 = true → ρ (201 + 7 * i + 0) = x) ∧ (b3 = true → ρ (201 + 7 * i + 5) = x) then nI 1 else nI 0) 0 (min c 200)
theorem LL.cb {M : Mem} {ρ : Nat → Int32} {c : Nat} (H : LL M ρ c) {k k2 : Nat} (x y : Int32) (hk : k < 7) (hk2 : k2 < 7) : fX6_countWithBoth 23 (nI k) x (nI k2) y M = some (sm (fun i => if ρ (201 + 7 * i + k) = x ∧ ρ (201 + 7 * i + k2) = y then nI 1 else nI 0) 0 (min c 200)) := by
  have h2 : min c 200 ≤ 200 := Nat.min_le_right _ _
  have h3 : min c 200 ≤ c := Nat.min_le_left _ _
  unfold fX6_countWithBoth
  rw [H.keptn, Option.bind_some]
  show (fX7_countBoth 24 7 200 _ _ _ _ _ M).bind _ = _
  rw [X7_both x y (by omega) h2 (fuel8 (by omega)) hk hk2 (by omega), Option.bind_some]
  congr 1
  refine sm_cg _ 0 fun i _ h4 => ?_
  rw [show 24 + (2 + k) = 26 + k by omega, show 24 + (2 + k2) = 26 + k2 by omega, H.2.2.2.2 i k (by omega) (by omega) hk, H.2.2.2.2 i k2 (by omega) (by omega) hk2]
theorem LL.cw {M : Mem} {ρ : Nat → Int32} {c : Nat} (H : LL M ρ c) {k : Nat} (x : Int32) (hk : k < 7) : fX6_countWith 23 (nI k) x M = some (sm (fun i => if ρ (201 + 7 * i + k) = x then nI 1 else nI 0) 0 (min c 200)) := by
  have h2 : min c 200 ≤ 200 := Nat.min_le_right _ _
  have h3 : min c 200 ≤ c := Nat.min_le_left _ _
  unfold fX6_countWith
  rw [H.keptn, Option.bind_some]
  show (fX7_count 24 7 200 _ _ _ M).bind _ = _
  rw [X7_count x (by omega) h2 (fuel8 (by omega)) hk (by omega), Option.bind_some]
  congr 1
  refine sm_cg _ 0 fun i _ h4 => ?_
  rw [show 24 + (2 + k) = 26 + k by omega, H.2.2.2.2 i k (by omega) (by omega) hk]
theorem sK_o (ρ : Nat → Int32) (c : Nat) (x : Int32) : sK ρ c x true false = sm (fun i => if ρ (201 + 7 * i + 0) = x then nI 1 else nI 0) 0 (min c 200) := by
  unfold sK
  simp only [Bool.false_eq_true, false_implies, true_implies, forall_const, and_true]
theorem sK_h (ρ : Nat → Int32) (c : Nat) (x : Int32) : sK ρ c x false true = sm (fun i => if ρ (201 + 7 * i + 5) = x then nI 1 else nI 0) 0 (min c 200) := by
  unfold sK
  simp only [Bool.false_eq_true, false_implies, true_implies, forall_const, true_and]
theorem sK_b (ρ : Nat → Int32) (c : Nat) (x : Int32) : sK ρ c x true true = sm (fun i => if ρ (201 + 7 * i + 0) = x ∧ ρ (201 + 7 * i + 5) = x then nI 1 else nI 0) 0 (min c 200) := by
  unfold sK
  simp only [true_implies, forall_const]
def Ba (ρ : Nat → Int32) (c : Nat) (x y : Int32) : Int32 := sm (fun i => if ρ (201 + 7 * i + 1) = y ∧ ρ (201 + 7 * i + 0) = x then nI 1 else nI 0) 0 (min c 200) - sm (fun i => if ρ (201 + 7 * i + 1) = y ∧ ρ (201 + 7 * i + 5) = x then nI 1 else nI 0) 0 (min c 200)
theorem LL.bal {M : Mem} {ρ : Nat → Int32} {c : Nat} (H : LL M ρ c) (x y : Int32) : fX6_balanceOf 23 x y M = some (Ba ρ c x y) := by
  unfold fX6_balanceOf
  rw [l_1, l_0, l_5, H.cb y x (by omega) (by omega), Option.bind_some, H.cb y x (by omega) (by omega), Option.bind_some]
  rfl
theorem ot_c {M : Mem} {ρ : Nat → Int32} {c : Nat} (H : LL M ρ c) (W : RLv ρ c) : ∀ (m j n : Nat) (acc : Int32), j + m = min c 200 → m < n → lX6_countWithOthers_4 23 M n acc (nI j) = some (acc + sm (fun i => if (nI 0 ≤ ρ (201 + 7 * i + 5) ∧ ρ (201 + 7 * i + 5) ≤ nI 7) ∧ ρ (201 + 7 * i + 5) ≠ ρ (201 + 7 * i + 0) then nI 1 else nI 0) j m) := by
  intro m
  have h3 : min c 200 ≤ 200 := Nat.min_le_right _ _
  have h4 : min c 200 ≤ c := Nat.min_le_left _ _
  induction m with
  | zero =>
    intro j n acc h1 h2
    obtain ⟨n, rfl⟩ : ∃ n', n = n' + 1 := ⟨n - 1, by omega⟩
    rw [lX6_countWithOthers_4, H.keptn, Option.bind_some, if_pos (pI_le (by omega) (by omega)), sm, sm_z]
  | succ m ih =>
    intro j n acc h1 h2
    obtain ⟨n, rfl⟩ : ∃ n', n = n' + 1 := ⟨n - 1, by omega⟩
    have g : ∀ k, k < 7 → fX7_get (23 + 1) 7 200 (nI j) (nI k) M = some (ρ (201 + 7 * j + k)) := fun k hk => H.gt (by omega) (by omega) hk
    rw [lX6_countWithOthers_4, H.keptn, Option.bind_some, if_neg (pI_nle (by omega) (by omega)), l_5, g 5 (by omega), Option.bind_some, l_0, g 0 (by omega), l_1, nI_ad, l_8, ng1, ih (j + 1) n _ (by omega) (by omega), ih (j + 1) n _ (by omega) (by omega), sm_s]
    rcases W j (by omega) (by omega) with e | ⟨x, hx, e⟩
    · rw [if_pos e, if_neg (fun q => absurd q.1.1 (by rw [e]; exact nle_ng (by omega))), sm_z]
    · rw [e, if_neg (nI_ng (by omega))]
      by_cases h8 : x = 8
      · subst h8
        rw [if_pos rfl, if_neg (fun q => absurd q.1.2 (pI_nle (by omega) (by omega))), sm_z]
      · rw [if_neg (pI_ne h8 (by omega) (by omega)), Option.bind_some]
        by_cases e3 : nI x = ρ (201 + 7 * j + 0)
        · rw [if_pos e3, if_neg (fun q => q.2 e3), sm_z]
        · rw [if_neg e3, if_pos ⟨⟨pI_le (by omega) (by omega), pI_le (by omega) (by omega)⟩, e3⟩]
theorem LL.others {M : Mem} {ρ : Nat → Int32} {c : Nat} (H : LL M ρ c) (W : RLv ρ c) : fX6_countWithOthers 23 M = some (sm (fun i => if (nI 0 ≤ ρ (201 + 7 * i + 5) ∧ ρ (201 + 7 * i + 5) ≤ nI 7) ∧ ρ (201 + 7 * i + 5) ≠ ρ (201 + 7 * i + 0) then nI 1 else nI 0) 0 (min c 200)) := by
  unfold fX6_countWithOthers
  have h2 : min c 200 ≤ 200 := Nat.min_le_right _ _
  rw [l_0, ot_c H W (min c 200) 0 FUEL _ (by omega) (fuel8 (by omega)), Option.bind_some, Int32.add_comm, sm_z]
theorem BB.of {M : Mem} {ρ : Nat → Int32} {b : Nat} (H : BB M ρ b) (x : Int32) : fX1_countOf 9 x M = some (sm (fun i => if ρ (41 + 3 * i + 0) = x then nI 1 else nI 0) 0 b) := by
  unfold fX1_countOf
  have hb := H.1
  rw [H.2.1, l_0]
  show (fX7_count 10 3 20 _ _ _ M).bind _ = _
  rw [X7_count x (by omega) hb (fuel8 (by omega)) (by omega) (by omega), Option.bind_some]
  congr 1
  refine sm_cg _ 0 fun i _ h4 => ?_
  rw [show 10 + (2 + 0) = 12 + 0 from rfl, H.2.2.2 i 0 (by omega) (by omega)]
theorem wn (x a b : Int32) : fX11_whyNotWithin x a b = some (if a ≤ x ∧ x ≤ b then 0 else 2) := by
  unfold fX11_whyNotWithin
  by_cases h0 : x < a
  · rw [if_pos h0, if_neg (fun q => absurd q.1 (Int32.not_le.mpr h0))]
  · rw [if_neg h0]
    by_cases h1 : x ≤ b
    · rw [if_pos h1, if_pos ⟨Int32.not_lt.mp h0, h1⟩]
    · rw [if_neg h1, if_neg (fun q => h1 q.2)]
theorem wb (x e e1 : Int32) (h : e - 1 = e1) : fX11_whyNotBelow x e = some (if 0 ≤ x ∧ x ≤ e1 then 0 else 2) := by
  unfold fX11_whyNotBelow
  rw [h, wn]; rfl
theorem rng {x : Int32} {B : Nat} (hB : B < 2 ^ 31) (h : 0 ≤ x ∧ x ≤ nI B) : ∃ k, k ≤ B ∧ x = nI k := by
  obtain ⟨e, hl⟩ := mI_of (Int32.not_lt.mpr h.1)
  refine ⟨_, ?_, e⟩
  have := h.2
  rw [e, mI_le hl hB] at this
  exact this
theorem who1 {M : Mem} {ρ : Nat → Int32} {h : Nat} (H : HH M ρ h) (x : Int32) : fX9_whyNoHousehold 1 x M = some (if 0 ≤ x ∧ x < nI h then 0 else 1) := who_c (v := 1) H.2.1 x
theorem who_i {i h : Nat} (hi : i < h) (hh : h ≤ 8) : (0 : Int32) ≤ nI i ∧ nI i < nI h := ⟨pI_le (a := 0) (by omega) (by omega), pI_lt hi (by omega)⟩
theorem rd_L (M : Mem) (x : Int64) (y : Int32) : (mput (mputL M 185 0 x) 178 4 y).2 185 0 = x := by simp [mput, mputL]
theorem bal_ok {M : Mem} {ρ : Nat → Int32} {h b g c i k : Nat} (V : Vi M ρ h b g c) (hi : i < h) (hk : k < 3) : fX11_balance (nI i) (nI k) M = some (Sum.inr (Ba ρ c (nI i) (nI k))) := by
  obtain ⟨H, B, G, L, S⟩ := V
  have hh := H.1
  unfold fX11_balance
  rw [who1 H, if_pos (who_i hi hh), Option.bind_some, refuse_0, Option.bind_some]
  simp only [xc]
  rw [wb (nI k) 3 2 rfl, if_pos ⟨pI_le (a := 0) (by omega) (by omega), pI_le (b := 2) (by omega) (by omega)⟩, Option.bind_some, refuse_0, Option.bind_some]
  simp only [xc]
  rw [L.bal]; rfl
theorem le_pred {x : Int32} {c : Nat} (hc : c < 2 ^ 31) (hx : 0 ≤ x) : x ≤ nI c - 1 ↔ x < nI c := by
  obtain ⟨e, hl⟩ := mI_of (Int32.not_lt.mpr hx)
  rw [e]
  by_cases h0 : c = 0
  · subst h0
    rw [show nI 0 - (1 : Int32) = NG from by decide]
    exact ⟨fun q => absurd q (nle_ng hl), fun q => absurd q (pI_nlt (by omega) hl)⟩
  · rw [l_1, mI_sb (by omega) hc, mI_le hl (by omega), mI_lt hl hc]
    omega
theorem LL.keeps {M : Mem} {ρ : Nat → Int32} {c : Nat} (H : LL M ρ c) (x : Int32) : fX6_keeps 23 x M = some (decide (nI (c - 200) ≤ x ∧ x < nI c)) := by
  unfold fX6_keeps
  rw [H.first, Option.bind_some, H.2.1]
  by_cases h0 : x < nI (c - 200)
  · rw [if_pos h0, decide_eq_false (fun q => absurd q.1 (Int32.not_le.mpr h0))]
  · rw [if_neg h0]
    by_cases h1 : nI c ≤ x
    · rw [if_pos h1, decide_eq_false (fun q => absurd q.2 (Int32.not_lt.mpr h1))]
    · rw [if_neg h1, decide_eq_true ⟨Int32.not_lt.mp h0, Int32.not_le.mp h1⟩]
theorem keeps_n {x : Int32} {c : Nat} (hc : c < 2 ^ 30) (H : nI (c - 200) ≤ x ∧ x < nI c) : ∃ i, i < c ∧ c - 200 ≤ i ∧ x = nI i := by
  have h0 : (0 : Int32) ≤ x := Int32.le_trans (pI_le (a := 0) (b := c - 200) (by omega) (by omega)) H.1
  obtain ⟨e, hl⟩ := mI_of (Int32.not_lt.mpr h0)
  refine ⟨_, ?_, ?_, e⟩
  · have := H.2; rw [e, mI_lt hl (by omega)] at this; exact this
  · have := H.1; rw [e, mI_le (by omega) hl] at this; exact this
theorem keeps_r {x : Int32} {c : Nat} (hc : c < 2 ^ 30) : (nI (c - 200) ≤ x ∧ x ≤ nI c - 1) ↔ (nI (c - 200) ≤ x ∧ x < nI c) := by
  constructor
  · rintro ⟨h1, h2⟩
    exact ⟨h1, (le_pred (by omega) (Int32.le_trans (pI_le (a := 0) (b := c - 200) (by omega) (by omega)) h1)).mp h2⟩
  · rintro ⟨h1, h2⟩
    exact ⟨h1, (le_pred (by omega) (Int32.le_trans (pI_le (a := 0) (b := c - 200) (by omega) (by omega)) h1)).mpr h2⟩
theorem loaf_ok {M : Mem} {ρ : Nat → Int32} {h b g c i k : Nat} (V : Vi M ρ h b g c) (hi : i < c) (hi2 : c - 200 ≤ i) (hk : k < 7) : fX11_loaf (nI i) (nI k) M = some (Sum.inr (ρ (201 + 7 * (i % 200) + k))) := by
  obtain ⟨H, B, G, L, S⟩ := V
  have hc := L.1
  unfold fX11_loaf
  rw [L.keeps, decide_eq_true ⟨pI_le hi2 (by omega), pI_lt hi (by omega)⟩, Option.bind_some, if_pos rfl, Option.bind_some, refuse_0, Option.bind_some]
  simp only [xc]
  rw [wb (nI k) 7 6 rfl, if_pos ⟨pI_le (a := 0) (by omega) (by omega), pI_le (b := 6) (by omega) (by omega)⟩, Option.bind_some, refuse_0, Option.bind_some]
  simp only [xc]
  rw [L.val hi hk]; rfl
theorem load_ok {M : Mem} {ρ : Nat → Int32} {h b g c i k : Nat} (V : Vi M ρ h b g c) (hi : i < g) (hk : k < 5) : fX11_load (nI i) (nI k) M = some (Sum.inr (ρ (101 + 5 * i + k))) := by
  obtain ⟨H, B, G, L, S⟩ := V
  have hg := G.1
  unfold fX11_load
  rw [if_pos (show (0 : Int32) ≤ nI i from pI_le (a := 0) (by omega) (by omega)), wb (nI k) 5 4 rfl, if_pos ⟨pI_le (a := 0) (by omega) (by omega), pI_le (b := 4) (by omega) (by omega)⟩, Option.bind_some, Option.bind_some, refuse_0, Option.bind_some]
  simp only [xc]
  unfold fX5_size fX5_value
  rw [G.2.1, Option.bind_some, if_neg (pI_nle hi (by omega))]
  show ((fX7_get 16 5 20 _ _ M).bind _).bind _ = _
  rw [G.gt hi hk]; rfl
def ru (ρ : Nat → Int32) (k : Nat) (x : Int32) : Nat → Int32 := fun j => if j = k then x else ρ j
theorem ru_at (ρ : Nat → Int32) (k : Nat) (x : Int32) : ru ρ k x k = x := by simp [ru]
theorem ru_ne {ρ : Nat → Int32} {k j : Nat} (x : Int32) (h : j ≠ k) : ru ρ k x j = ρ j := by simp [ru, h]
theorem HH.pt {M : Mem} {ρ : Nat → Int32} {h i k : Nat} (H : HH M ρ h) (hi : i < 8) (hk : k < 4) (x : Int32) : HH (mput M (5 + k) i x) (ru ρ (9 + 4 * i + k) x) h := by
  obtain ⟨h1, h2, h3, h4⟩ := H
  refine ⟨h1, by rw [mput_at, if_neg (by omega)]; exact h2, by rw [ru_ne _ (by omega)]; exact h3, fun i' k' hi' hk' => ?_⟩
  rw [mput_at]
  by_cases e : 5 + k' = 5 + k ∧ i' = i
  · obtain ⟨e1, rfl⟩ := e
    obtain rfl : k' = k := by omega
    rw [if_pos ⟨rfl, rfl⟩, ru_at]
  · rw [if_neg e, ru_ne _ (by omega)]; exact h4 i' k' hi' hk'
theorem BB.pt {M : Mem} {ρ : Nat → Int32} {b i k : Nat} (B : BB M ρ b) (hk : k < 3) (x : Int32) : BB (mput M (12 + k) i x) (ru ρ (41 + 3 * i + k) x) b := by
  obtain ⟨h1, h2, h3, h4⟩ := B
  refine ⟨h1, by rw [mput_at, if_neg (by omega)]; exact h2, by rw [ru_ne _ (by omega)]; exact h3, fun i' k' hi' hk' => ?_⟩
  rw [mput_at]
  by_cases e : 12 + k' = 12 + k ∧ i' = i
  · obtain ⟨e1, rfl⟩ := e
    obtain rfl : k' = k := by omega
    rw [if_pos ⟨rfl, rfl⟩, ru_at]
  · rw [if_neg e, ru_ne _ (by omega)]; exact h4 i' k' hi' hk'
theorem LL.pt {M : Mem} {ρ : Nat → Int32} {c i k : Nat} (L : LL M ρ c) (hk : k < 7) (x : Int32) : LL (mput M (26 + k) i x) (ru ρ (201 + 7 * i + k) x) c := by
  obtain ⟨h1, h2, h3, h5, h4⟩ := L
  refine ⟨h1, by rw [mput_at, if_neg (by omega)]; exact h2, by rw [ru_ne _ (by omega)]; exact h3, by rw [mput_at, if_neg (by omega), ru_ne _ (by omega)]; exact h5, fun i' k' hi' hj' hk' => ?_⟩
  rw [mput_at]
  by_cases e : 26 + k' = 26 + k ∧ i' = i
  · obtain ⟨e1, rfl⟩ := e
    obtain rfl : k' = k := by omega
    rw [if_pos ⟨rfl, rfl⟩, ru_at]
  · rw [if_neg e, ru_ne _ (by omega)]; exact h4 i' k' hi' hj' hk'
theorem Vi.ptH {M : Mem} {ρ : Nat → Int32} {h b g c i k : Nat} (V : Vi M ρ h b g c) (hi : i < 8) (hk : k < 4) (x : Int32) : Vi (mput M (5 + k) i x) (ru ρ (9 + 4 * i + k) x) h b g c :=
  ⟨V.1.pt hi hk x, V.2.1.cg (fun q y _ _ => by rw [mput_at, if_neg (by omega)]) (fun j _ _ => ru_ne _ (by omega)), V.2.2.1.cg (fun q y _ _ => by rw [mput_at, if_neg (by omega)]) (fun j _ _ => ru_ne _ (by omega)), V.2.2.2.1.cg (fun q y _ _ => by rw [mput_at, if_neg (by omega)]) (fun j _ _ => ru_ne _ (by omega)), V.2.2.2.2.cg (fun y => by rw [mput_at, if_neg (by omega)]) (fun j _ => ru_ne _ (by omega))⟩
theorem Vi.ptB {M : Mem} {ρ : Nat → Int32} {h b g c i k : Nat} (V : Vi M ρ h b g c) (hi : i < 20) (hk : k < 3) (x : Int32) : Vi (mput M (12 + k) i x) (ru ρ (41 + 3 * i + k) x) h b g c :=
  ⟨V.1.cg (fun q y _ _ => by rw [mput_at, if_neg (by omega)]) (fun j _ _ => ru_ne _ (by omega)), V.2.1.pt hk x, V.2.2.1.cg (fun q y _ _ => by rw [mput_at, if_neg (by omega)]) (fun j _ _ => ru_ne _ (by omega)), V.2.2.2.1.cg (fun q y _ _ => by rw [mput_at, if_neg (by omega)]) (fun j _ _ => ru_ne _ (by omega)), V.2.2.2.2.cg (fun y => by rw [mput_at, if_neg (by omega)]) (fun j _ => ru_ne _ (by omega))⟩
theorem Vi.ptL {M : Mem} {ρ : Nat → Int32} {h b g c i k : Nat} (V : Vi M ρ h b g c) (hi : i < 200) (hk : k < 7) (x : Int32) : Vi (mput M (26 + k) i x) (ru ρ (201 + 7 * i + k) x) h b g c :=
  ⟨V.1.cg (fun q y _ _ => by rw [mput_at, if_neg (by omega)]) (fun j _ _ => ru_ne _ (by omega)), V.2.1.cg (fun q y _ _ => by rw [mput_at, if_neg (by omega)]) (fun j _ _ => ru_ne _ (by omega)), V.2.2.1.cg (fun q y _ _ => by rw [mput_at, if_neg (by omega)]) (fun j _ _ => ru_ne _ (by omega)), V.2.2.2.1.pt hk x, V.2.2.2.2.cg (fun y => by rw [mput_at, if_neg (by omega)]) (fun j _ => ru_ne _ (by omega))⟩
theorem HH.grow {M : Mem} {ρ : Nat → Int32} {h : Nat} (H : HH M ρ h) (hh : h < 8) (hc : ∀ k, k < 4 → M.1 (5 + k) h = ρ (9 + 4 * h + k)) : HH (mput M 2 1 (nI (h + 1))) (ru ρ 0 (nI (h + 1))) (h + 1) := by
  obtain ⟨h1, h2, h3, h4⟩ := H
  refine ⟨by omega, by rw [mput_at, if_pos ⟨rfl, rfl⟩], ru_at _ _ _, fun i k hi hk => ?_⟩
  rw [mput_at, if_neg (by omega), ru_ne _ (by omega)]
  by_cases e : i = h
  · subst e; exact hc k hk
  · exact h4 i k (by omega) hk
theorem BB.grow {M : Mem} {ρ : Nat → Int32} {b : Nat} (B : BB M ρ b) (hb : b < 20) (hc : ∀ k, k < 3 → M.1 (12 + k) b = ρ (41 + 3 * b + k)) : BB (mput M 9 1 (nI (b + 1))) (ru ρ 7 (nI (b + 1))) (b + 1) := by
  obtain ⟨h1, h2, h3, h4⟩ := B
  refine ⟨by omega, by rw [mput_at, if_pos ⟨rfl, rfl⟩], ru_at _ _ _, fun i k hi hk => ?_⟩
  rw [mput_at, if_neg (by omega), ru_ne _ (by omega)]
  by_cases e : i = b
  · subst e; exact hc k hk
  · exact h4 i k (by omega) hk
theorem with_c {M : Mem} {ρ : Nat → Int32} {h : Nat} (H : HH M ρ h) (x : Int32) : (fX4_withMark 2 x M = some NG ∧ ∀ i, i < h → ρ (9 + 4 * i) ≠ x) ∨ ∃ i, i < h ∧ ρ (9 + 4 * i) = x ∧ fX4_withMark 2 x M = some (nI i) := by
  have cell : ∀ i, i < h → M.1 (1 + (4 + 0)) i = ρ (9 + 4 * i) := fun i hi => H.2.2.2 i 0 hi (by omega)
  rcases mark_c (v := 1) H.1 H.2.1 x h 0 FUEL (by omega) (fuel8 (by have := H.1; omega)) with ⟨p1, p2⟩ | ⟨i, p1, p2, p3, p4, p5⟩
  · left
    refine ⟨?_, fun i hi q => p2 i (by omega) hi ((cell i hi).trans q)⟩
    unfold fX4_withMark
    rw [l_0, show (2 : Nat) = 1 + 1 from rfl, p1]; rfl
  · right
    refine ⟨i, p2, (cell i p2).symm.trans p3, ?_⟩
    unfold fX4_withMark
    rw [l_0, show (2 : Nat) = 1 + 1 from rfl, p4]; rfl
theorem mark_n {x : Int32} (h : 1 ≤ x ∧ x ≤ 65535) : ∃ m, 1 ≤ m ∧ m < 65536 ∧ x = nI m := by
  have h0 : (0 : Int32) ≤ x := Int32.le_trans (show (0 : Int32) ≤ 1 by decide) h.1
  obtain ⟨m, hm, rfl⟩ := rng (B := 65535) (by omega) ⟨h0, h.2⟩
  refine ⟨m, ?_, by omega, rfl⟩
  have := h.1
  rw [l_1, mI_le (by omega) (by omega)] at this
  exact this
theorem add_b {M : Mem} {b : Nat} (hb : b < 20) (hc : M.1 9 1 = nI b) (x y z : Int32) : fX1_add 9 x y z M = some (nI b, mput (mput (mput (mput M (12 + 0) b x) (12 + 1) b y) (12 + 2) b z) 9 1 (nI (b + 1))) := by
  unfold fX1_add
  rw [hc, show fX7_put (9 + 1) 3 20 (nI b) 0 x M = some (mput M (12 + 0) b x) from X7_put (k := 0) (by omega) (by omega) hb (by omega), Option.bind_some]
  rw [show fX7_put (9 + 1) 3 20 (nI b) 1 y (mput M (12 + 0) b x) = some (mput (mput M (12 + 0) b x) (12 + 1) b y) from X7_put (k := 1) (by omega) (by omega) hb (by omega), Option.bind_some]
  rw [show fX7_put (9 + 1) 3 20 (nI b) 2 z (mput (mput M (12 + 0) b x) (12 + 1) b y) = some _ from X7_put (k := 2) (by omega) (by omega) hb (by omega), Option.bind_some]
  unfold pf
  rw [Option.bind_some, show (mput (mput (mput M (12 + 0) b x) (12 + 1) b y) (10 + (2 + 2)) b z).1 9 1 = nI b from by rw [mput_at, if_neg (by omega), mput_at, if_neg (by omega), mput_at, if_neg (by omega)]; exact hc, l_1, nI_ad]
/-- a batch less, on the reference's side -/
def dr (ρ : Nat → Int32) (i b : Nat) : Nat → Int32 := fun k => if k = 7 then nI (b - 1) else if 41 + 3 * i ≤ k ∧ k < 41 + 3 * (b - 1) then ρ (k + 3) else ρ k
/-- a batch less, on the class's side -/
theorem rem_loop {i b : Nat} (hb : b ≤ 20) (hi : i < b) : ∀ (m j n : Nat) (M : Mem), j + m = 3 → m < n → lX7_remove_20 10 3 20 (nI i) (nI b) n (nI j) M = some (fun q x => if 12 + j ≤ q ∧ q < 15 ∧ i ≤ x ∧ x < b - 1 then M.1 q (x + 1) else M.1 q x, M.2) := by
  intro m
  induction m with
  | zero =>
    intro j n M h1 h2
    obtain ⟨n, rfl⟩ : ∃ n', n = n' + 1 := ⟨n - 1, by omega⟩
    rw [lX7_remove_20, if_pos (pI_le (by omega) (by omega))]
    congr 1
    refine mem_ext (fun q k => ?_) rfl
    show M.1 q k = if _ then _ else _
    rw [if_neg (by omega)]
  | succ m ih =>
    intro j n M h1 h2
    obtain ⟨n, rfl⟩ : ∃ n', n = n' + 1 := ⟨n - 1, by omega⟩
    have hj := nI_nat (n := j) (by omega)
    have hv : ¬ (nI j < 0 ∨ 3 ≤ (nI j).toNatClampNeg) := by
      rw [hj]; rintro (q | q)
      · exact mI_nn (by omega) q
      · omega
    have ea : acp M (10 + (2 + j)) 20 (10 + (2 + j)) 20 (nI (i + 1)) (nI i) (nI (b - i - 1)) = some (mcpy M (10 + (2 + j)) (10 + (2 + j)) (i + 1) i (b - i - 1)) := by
      unfold acp
      rw [if_neg (by
        rw [nI_nat (by omega), nI_nat (by omega), nI_nat (by omega)]
        rintro (q | q | q | q | q)
        · exact mI_nn (by omega) q
        · exact mI_nn (by omega) q
        · exact mI_nn (by omega) q
        · omega
        · omega), nI_nat (by omega), nI_nat (by omega), nI_nat (by omega)]
    rw [lX7_remove_20, if_neg (pI_nle (by omega) (by omega)), if_neg hv, if_neg hv, hj, l_1, nI_ad, mI_sb (by omega) (by omega), mI_sb (by omega) (by omega), ea, Option.bind_some, nI_ad, ih (j + 1) n _ (by omega) (by omega)]
    congr 1
    refine mem_ext (fun q x => ?_) rfl
    simp only [mcpy]
    by_cases h3 : q = 10 + (2 + j)
    · subst h3
      rw [if_neg (by omega), if_pos rfl]
      by_cases h4 : i ≤ x ∧ x < b - 1
      · rw [if_pos ⟨by omega, by omega, h4⟩]
        simp only [va_cpy]
        rw [if_pos (by omega), show i + 1 + (x - i) = x + 1 by omega]
      · rw [if_neg (fun w => h4 w.2.2)]
        simp only [va_cpy]
        rw [if_neg (by omega)]
    · by_cases h4 : 12 + (j + 1) ≤ q ∧ q < 15 ∧ i ≤ x ∧ x < b - 1
      · rw [if_pos h4, if_neg (by omega), if_pos ⟨by omega, h4.2⟩]
      · rw [if_neg h4, if_neg (by omega), if_neg (by omega)]
theorem has_c {M : Mem} {ρ : Nat → Int32} {h : Nat} (H : HH M ρ h) (x : Int32) : fX4_has 2 x M = some (decide (0 ≤ x ∧ x < nI h)) := by
  unfold fX4_has
  rw [H.2.1]
  by_cases h0 : x < 0
  · rw [if_pos h0, decide_eq_false (fun q => absurd q.1 (Int32.not_le.mpr h0))]
  · rw [if_neg h0]
    by_cases h1 : nI h ≤ x
    · rw [if_pos h1, decide_eq_false (fun q => absurd q.2 (Int32.not_lt.mpr h1))]
    · rw [if_neg h1, decide_eq_true ⟨Int32.not_lt.mp h0, Int32.not_le.mp h1⟩]
def Hc (ρ ρ' : Nat → Int32) (c : Nat) : Prop := (∀ k, k < 201 → ρ' k = ρ k) ∧ (RLv ρ c → RLv ρ' c)
theorem Hc.rf (ρ : Nat → Int32) (c : Nat) : Hc ρ ρ c := ⟨fun _ _ => rfl, fun h => h⟩
theorem Hc.tr {ρ σ τ : Nat → Int32} {c : Nat} (h : Hc ρ σ c) (g : Hc σ τ c) : Hc ρ τ c := ⟨fun k hk => (g.1 k hk).trans (h.1 k hk), fun w => g.2 (h.2 w)⟩
theorem Hc.pt (ρ : Nat → Int32) {c r : Nat} {x : Int32} (hx : x = NG ∨ ∃ y, y ≤ 8 ∧ x = nI y) : Hc ρ (ru ρ (201 + 7 * r + 5) x) c := ⟨fun k hk => ru_ne _ (by omega), fun w r' h1 h2 => by
  by_cases e : r' = r
  · subst e; rw [ru_at]; exact hx
  · rw [ru_ne _ (by omega)]; exact w r' h1 h2⟩
theorem Hc.wr {ρ ρ' : Nat → Int32} {h b c : Nat} (hh : h ≤ 8) (hb : b ≤ 20) (H : Hc ρ ρ' c) (W : Wr ρ h b c) : Wr ρ' h b c :=
  ⟨W.1.cg hh fun k _ _ => H.1 k (by omega), W.2.1.cg hb fun k _ _ => H.1 k (by omega), H.2 W.2.2.1, W.2.2.2.cg fun k _ => H.1 k (by omega)⟩
theorem give_c {M : Mem} {j : Nat} (hj : j < 2 ^ 31) (x : Int32) : fX6_give 23 (nI j) x M = some (mput M (26 + 5) (j % 200) x) := by
  have h1 : j % 200 < 200 := Nat.mod_lt _ (by omega)
  unfold fX6_give
  rw [l_200, mI_md (by omega) (by omega), l_5]
  show (fX7_put 24 7 200 _ _ _ M).bind _ = _
  rw [X7_put (by omega) (by omega) h1 (by omega)]; rfl
theorem dn_lt {f : Nat} (hf : f < 2 ^ 31) : nI f - 1 < nI f := by
  by_cases h : f = 0
  · subst h; decide
  · rw [l_1, mI_sb (by omega) hf]; exact pI_lt (by omega) hf
theorem dn_s (f m : Nat) : nI (f + (m + 1)) - 1 = nI (f + m) := by
  rw [show f + (m + 1) = f + m + 1 by omega, ← nI_ad (f + m) 1, l_1, Int32.add_sub_cancel]
def gc (ρ : Nat → Int32) (j m : Nat) : Nat → Int32 := fun k => if 201 ≤ k ∧ (k - 201) % 7 = 5 ∧ j ≤ (k - 201) / 7 ∧ (k - 201) / 7 < j + m ∧ ρ k = nI 8 then NG else ρ k
def gr (ρ : Nat → Int32) (j m : Nat) : Nat → Int32 := fun k => if 201 ≤ k ∧ (k - 201) % 7 = 5 ∧ ((k - 201) / 7 + 200 - j % 200) % 200 < m ∧ ρ k = nI 8 then NG else ρ k
def f8 (ρ : Nat → Int32) : Nat → Int32 := fun i => if ρ (201 + 7 * i + 5) = nI 8 then nI 1 else nI 0
theorem gc_c {h b g c : Nat} : ∀ (m j n : Nat) (a : Int32) (M : Mem) (ρ : Nat → Int32), Vi M ρ h b g c → j + m = min c 200 → m < n → ∃ M', lX6_emptyShelf_4 23 n a (nI j) M = some (a + sm (f8 ρ) j m, M') ∧ Vi M' (gc ρ j m) h b g c ∧ Fc M M' := by
  intro m
  induction m with
  | zero =>
    intro j n a M ρ V h1 h2
    obtain ⟨n, rfl⟩ : ∃ n', n = n' + 1 := ⟨n - 1, by omega⟩
    have L := V.2.2.2.1
    have hm : min c 200 ≤ 200 := Nat.min_le_right _ _
    refine ⟨M, ?_, V.cg (fun _ _ _ _ => rfl) (fun k _ => ?_), Fc.rf M⟩
    · rw [lX6_emptyShelf_4, L.keptn, Option.bind_some, if_pos (pI_le (by omega) (by omega)), sm, sm_z]
    · simp only [gc]; rw [if_neg (by omega)]
  | succ m ih =>
    intro j n a M ρ V h1 h2
    obtain ⟨n, rfl⟩ : ∃ n', n = n' + 1 := ⟨n - 1, by omega⟩
    have L := V.2.2.2.1
    have hm : min c 200 ≤ 200 := Nat.min_le_right _ _
    have hm2 : min c 200 ≤ c := Nat.min_le_left _ _
    have ec : lX6_emptyShelf_4 23 (n + 1) a (nI j) M = if ρ (201 + 7 * j + 5) = nI 8 then lX6_emptyShelf_4 23 n (a + nI 1) (nI (j + 1)) (mput M (26 + 5) j NG) else lX6_emptyShelf_4 23 n a (nI (j + 1)) M := by
      rw [lX6_emptyShelf_4, L.keptn, Option.bind_some, if_neg (pI_nle (by omega) (by omega))]
      rw [show fX7_get (23 + 1) 7 200 (nI j) 5 M = some _ from L.gt (k := 5) (by omega) (by omega) (by omega), Option.bind_some, show fX7_put (23 + 1) 7 200 (nI j) 5 (-1) M = some (mput M (26 + 5) j NG) from X7_put (k := 5) (by omega) (by omega) (by omega) (by omega), Option.bind_some, show nI j + (1 : Int32) = nI (j + 1) from nI_ad j 1]
      rfl
    by_cases e : ρ (201 + 7 * j + 5) = nI 8
    · have V1 := V.ptL (show j < 200 by omega) (show 5 < 7 by omega) NG
      obtain ⟨M', a1, a2, a3⟩ := ih (j + 1) n (a + nI 1) _ _ V1 (by omega) (by omega)
      refine ⟨M', ?_, a2.cg (fun _ _ _ _ => rfl) (fun k hk => ?_), (Fc.pt M _ (by omega)).tr a3⟩
      · rw [ec, if_pos e, a1, sm_s, show f8 ρ j = nI 1 from if_pos e]
        congr 3
        exact sm_cg m (j + 1) fun i h3 h4 => by simp only [f8]; rw [ru_ne _ (by omega)]
      · simp only [gc]
        by_cases e2 : k = 201 + 7 * j + 5
        · subst e2
          rw [if_pos (by refine ⟨by omega, by omega, by omega, by omega, e⟩), if_neg (fun q => by have := q.2.2.1; omega), ru_at]
        · rw [ru_ne _ e2]
          by_cases e3 : 201 ≤ k ∧ (k - 201) % 7 = 5 ∧ j ≤ (k - 201) / 7 ∧ (k - 201) / 7 < j + (m + 1) ∧ ρ k = nI 8
          · rw [if_pos e3, if_pos (by refine ⟨e3.1, e3.2.1, by omega, by omega, e3.2.2.2.2⟩)]
          · rw [if_neg e3, if_neg (fun q => e3 ⟨q.1, q.2.1, by omega, by omega, q.2.2.2.2⟩)]
    · obtain ⟨M', a1, a2, a3⟩ := ih (j + 1) n a M ρ V (by omega) (by omega)
      refine ⟨M', ?_, a2.cg (fun _ _ _ _ => rfl) (fun k hk => ?_), a3⟩
      · rw [ec, if_neg e, a1, sm_s, show f8 ρ j = nI 0 from if_neg e, sm_z]
      · simp only [gc]
        by_cases e3 : 201 ≤ k ∧ (k - 201) % 7 = 5 ∧ j ≤ (k - 201) / 7 ∧ (k - 201) / 7 < j + (m + 1) ∧ ρ k = nI 8
        · have : k ≠ 201 + 7 * j + 5 := fun q => e (by rw [← q]; exact e3.2.2.2.2)
          rw [if_pos e3, if_pos (by refine ⟨e3.1, e3.2.1, by omega, by omega, e3.2.2.2.2⟩)]
        · rw [if_neg e3, if_neg (fun q => e3 ⟨q.1, q.2.1, by omega, by omega, q.2.2.2.2⟩)]
