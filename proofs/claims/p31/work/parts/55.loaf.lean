def nL (n : Nat) : Int64 := Int64.ofNat n
theorem nL_ad (a b : Nat) : nL a + nL b = nL (a + b) := (Int64.ofNat_add a b).symm
theorem nL_ml (a b : Nat) : nL a * nL b = nL (a * b) := (Int64.ofNat_mul a b).symm
theorem nL_and (a b : Nat) : nL a &&& nL b = nL (a &&& b) := by
  apply Int64.toBitVec_inj.mp
  show BitVec.ofNat 64 a &&& BitVec.ofNat 64 b = BitVec.ofNat 64 (a &&& b)
  exact BitVec.ofNat_and.symm
theorem nL_of {n : Nat} (h : n < 2 ^ 31) : (nI n).toInt64 = nL n := Int32.toInt64_ofNat' (by
  have : Int32.maxValue.toInt = 2147483647 := by decide
  omega)
theorem nL_to (n : Nat) : (nL n).toInt32 = nI n := Int64.toInt32_ofNat'
theorem nL_int {n : Nat} (h : n < 2 ^ 63) : (nL n).toInt = n := Int64.toInt_ofNat_of_lt h
theorem nL_sb {a b : Nat} (h : b ≤ a) (ha : a < 2 ^ 63) : nL a - nL b = nL (a - b) := by
  apply Int64.toInt_inj.mp
  rw [Int64.toInt_sub, nL_int ha, nL_int (by omega), nL_int (by omega)]
  simp only [Int.bmod_def]
  omega
theorem nL_dv {a b : Nat} (ha : a < 2 ^ 63) (hb : b < 2 ^ 63) : nL a / nL b = nL (a / b) := by
  have hd : a / b ≤ a := Nat.div_le_self _ _
  apply Int64.toInt_inj.mp
  rw [Int64.toInt_div, nL_int ha, nL_int hb, nL_int (by omega), ← Int.ofNat_tdiv]
  generalize a / b = q at hd ⊢
  simp only [Int.bmod_def]
  omega
def drS (s : Nat) : Nat := (1103515245 * s + 12345) % 2147483648
theorem drS_lt (s : Nat) : drS s < 2 ^ 31 := Nat.mod_lt _ (by omega)
theorem drS_r {s : Nat} (h : s < 2 ^ 31) : ((((1103515245 : Int64) * (nI s).toInt64) + (12345 : Int64)) - (((1103515245 : Int64) * (nI s).toInt64) + (12345 : Int64)) / (2147483648 : Int64) * (2147483648 : Int64)).toInt32 = nI (drS s) := by
  have h2 : (1103515245 * s + 12345) / 2147483648 * 2147483648 ≤ 1103515245 * s + 12345 := Nat.div_mul_le_self _ _
  rw [nL_of h, show (1103515245 : Int64) = nL 1103515245 from rfl, show (12345 : Int64) = nL 12345 from rfl, show (2147483648 : Int64) = nL 2147483648 from rfl, nL_ml, nL_ad, nL_dv (by omega) (by omega), nL_ml, nL_sb h2 (by omega), nL_to, show 1103515245 * s + 12345 - (1103515245 * s + 12345) / 2147483648 * 2147483648 = drS s by unfold drS; omega]
theorem drS_c {s : Nat} (h : s < 2 ^ 31) : ((((1103515245 : Int64) * (nI s).toInt64) + (12345 : Int64)) &&& (2147483647 : Int64)).toInt32 = nI (drS s) := by
  rw [nL_of h, show (1103515245 : Int64) = nL 1103515245 from rfl, show (12345 : Int64) = nL 12345 from rfl, show (2147483647 : Int64) = nL (2 ^ 31 - 1) from rfl, nL_ml, nL_ad, nL_and, nL_to, Nat.and_two_pow_sub_one_eq_mod]
  rfl
theorem draw_c {M : Mem} {s m : Nat} (h1 : M.1 1 5 = nI s) (hs : s < 2 ^ 31) (hm : 0 < m) (hm2 : m < 100) : fX9_draw 1 (nI m) M = some (nI (drS s / 65536 % m), mput M 1 5 (nI (drS s))) := by
  have := drS_lt s
  have e : nI (drS s) >>> ((16 : Int32) &&& 31) = nI (drS s / 65536) := by
    rw [show ((16 : Int32) &&& 31) = nI 16 from by decide, nS (by omega) (by omega)]
  unfold fX9_draw pf
  rw [Option.bind_some, h1, drS_c hs, l_0, if_neg (pI_nle (by omega) (by omega)), if_neg (pI_ne (by omega) (by omega) (by omega)), mput_at, if_pos ⟨rfl, rfl⟩, e, mI_md (by omega) (by omega)]
/-- a print without a groove -/
def clr (p g : Nat) : Nat := p &&& (2 ^ g ^^^ 4294967295)
theorem clr_n {p g : Nat} (hg : g < 16) : nI p &&& (((1 : Int32) <<< (nI g &&& 31)) ^^^ (-1 : Int32)) = nI (clr p g) := by
  rw [shl1 g (by omega), show (-1 : Int32) = nI 4294967295 from by decide, nX, nA]
  rfl
def bl : Nat → Nat → Nat → Nat × Nat
  | 0, p, s => (p, s)
  | n + 1, p, s => bl n (clr p (drS s / 65536 % 16)) (drS s)
theorem bl_sub : ∀ (n p s q : Nat), q &&& p = p → q &&& (bl n p s).1 = (bl n p s).1 := by
  intro n
  induction n with
  | zero => intro p s q h; exact h
  | succ n ih =>
    intro p s q h
    rw [bl]
    refine ih _ _ _ ?_
    unfold clr
    rw [← Nat.and_assoc, h]
theorem bl_lt : ∀ (n p s : Nat), s < 2 ^ 31 → (bl n p s).2 < 2 ^ 31 := by
  intro n
  induction n with
  | zero => intro p s h; exact h
  | succ n ih => intro p s h; rw [bl]; exact ih _ _ (drS_lt s)
theorem bl_c : ∀ (m j n p s : Nat) (M : Mem) (v : Nat), M.1 1 5 = nI s → s < 2 ^ 31 → j + m = v → v < 100 → m < n → lX9_blur_11 1 (nI v) n (nI p) (nI j) M = some (nI (bl m p s).1, mput M 1 5 (nI (bl m p s).2)) := by
  intro m
  induction m with
  | zero =>
    intro j n p s M v h1 h2 h3 h5 h4
    obtain ⟨n, rfl⟩ : ∃ n', n = n' + 1 := ⟨n - 1, by omega⟩
    rw [lX9_blur_11, if_pos (pI_le (by omega) (by omega))]
    congr 2
    refine mem_ext (fun a b => ?_) rfl
    rw [mput_at]
    by_cases h : a = 1 ∧ b = 5
    · rw [if_pos h, h.1, h.2, h1]; rfl
    · rw [if_neg h]
  | succ m ih =>
    intro j n p s M v h1 h2 h3 h5 h4
    obtain ⟨n, rfl⟩ : ∃ n', n = n' + 1 := ⟨n - 1, by omega⟩
    rw [lX9_blur_11, if_neg (pI_nle (by omega) (by omega)), show (16 : Int32) = nI 16 from rfl, draw_c h1 h2 (by omega) (by omega), Option.bind_some]
    simp only [un2]
    rw [clr_n (Nat.mod_lt _ (by omega)), l_1, nI_ad, ih (j + 1) n _ (drS s) _ v (by rw [mput_at, if_pos ⟨rfl, rfl⟩]) (drS_lt s) (by omega) h5 (by omega)]
    rw [bl]
    congr 2
    refine mem_ext (fun a b => ?_) rfl
    simp only [mput_at]
    by_cases h : a = 1 ∧ b = 5
    · rw [if_pos h, if_pos h]
    · rw [if_neg h, if_neg h, if_neg h]
theorem pcf_split (b : Nat) : ∀ (n a b : Nat), pcf n a = pcf n (a &&& b) + pcf n (a &&& (b ^^^ (2 ^ n - 1))) := by
  intro n
  induction n with
  | zero => intro a b; rfl
  | succ n ih =>
    intro a b
    have h2 : ∀ x y : Nat, (x &&& y) / 2 = x / 2 &&& y / 2 := fun x y => Nat.eq_of_testBit_eq fun i => by
      rw [← Nat.testBit_succ, Nat.testBit_and, Nat.testBit_and, Nat.testBit_succ, Nat.testBit_succ]
    have h3 : (b ^^^ (2 ^ (n + 1) - 1)) / 2 = b / 2 ^^^ (2 ^ n - 1) := Nat.eq_of_testBit_eq fun i => by
      rw [← Nat.testBit_succ, Nat.testBit_xor, Nat.testBit_xor, Nat.testBit_succ, Nat.testBit_two_pow_sub_one, Nat.testBit_two_pow_sub_one]
      simp
    have hm : ∀ x : Nat, x % 2 = if x.testBit 0 = true then 1 else 0 := fun x => by
      rw [Nat.testBit_zero]
      by_cases h : x % 2 = 1
      · rw [if_pos (decide_eq_true h), h]
      · rw [if_neg (by rw [decide_eq_true_eq]; exact h)]; omega
    have h4 : a % 2 = (a &&& b) % 2 + (a &&& (b ^^^ (2 ^ (n + 1) - 1))) % 2 := by
      rw [hm a, hm (a &&& b), hm (a &&& (b ^^^ (2 ^ (n + 1) - 1))), Nat.testBit_and, Nat.testBit_and, Nat.testBit_xor, Nat.testBit_two_pow_sub_one]
      cases a.testBit 0 <;> cases b.testBit 0 <;> simp
    rw [pcf, pcf, pcf, h2, h2, h3, h4, ih (a / 2) (b / 2)]
    omega
theorem pc_lack {m p : Nat} (h : m &&& p = p) : pc (m &&& (p ^^^ 4294967295)) = pc m - pc p ∧ pc p ≤ pc m := by
  have := pcf_split 0 32 m p
  rw [h] at this
  have e : pcf 32 (m &&& (p ^^^ (2 ^ 32 - 1))) = pc (m &&& (p ^^^ 4294967295)) := rfl
  rw [e] at this
  have e2 : pcf 32 m = pc m := rfl
  have e3 : pcf 32 p = pc p := rfl
  omega
theorem lack_n (m p : Nat) : nI m &&& (nI p ^^^ (-1 : Int32)) = nI (m &&& (p ^^^ 4294967295)) := by
  rw [show (-1 : Int32) = nI 4294967295 from by decide, nX, nA]
def DV (M : Mem) (γ : Nat → Int32) (h c : Nat) : Prop := HH M γ h ∧ LL M γ c ∧ M.1 1 5 = γ 1 ∧ M.1 1 6 = γ 3
def bp (mk s : Nat) : Nat × Nat := bl (drS s / 65536 % 4) mk (drS s)
def pv (pl : Bool) : Int32 := if pl = true then nI 1 else nI 0
def cm (γ : Nat → Int32) (c s mk o k : Nat) (pl : Bool) : Nat → Int32 :=
  ru (ru (ru (ru (ru (ru (ru (ru (ru (ru γ 1 (nI (bp mk s).2)) (201 + 7 * (c % 200) + 0) (nI o)) (201 + 7 * (c % 200) + 1) (nI k)) (201 + 7 * (c % 200) + 2) (γ 3)) (201 + 7 * (c % 200) + 3) (pv pl)) (201 + 7 * (c % 200) + 4) (nI (bp mk s).1)) (201 + 7 * (c % 200) + 5) NG) (201 + 7 * (c % 200) + 6) (nI (pc mk - pc (bp mk s).1))) 5 (nI (c + 1))) 6 (γ 6 + pv pl)
theorem LL.grow {M : Mem} {γ : Nat → Int32} {c : Nat} (L : LL M γ c) (hc : c + 1 < 2 ^ 30) (hr : ∀ k, k < 7 → M.1 (26 + k) (c % 200) = γ (201 + 7 * (c % 200) + k)) : LL (mput M 23 1 (nI (c + 1))) (ru γ 5 (nI (c + 1))) (c + 1) := by
  obtain ⟨h1, h2, h3, h4, h5⟩ := L
  refine ⟨hc, by rw [mput_at, if_pos ⟨rfl, rfl⟩], ru_at _ _ _, by rw [mput_at, if_neg (by omega), ru_ne _ (by omega)]; exact h4, fun i k hi hj hk => ?_⟩
  rw [mput_at, if_neg (by omega), ru_ne _ (by omega)]
  by_cases e : i < c
  · exact h5 i k e hj hk
  · have e2 : i = c := by omega
    have e3 : c % 200 = i := by rw [Nat.mod_eq_of_lt (by omega)]; omega
    rw [← e3]; exact hr k hk
theorem LL.pale {M : Mem} {γ : Nat → Int32} {c : Nat} (L : LL M γ c) (x : Int32) : LL (mput M 23 2 x) (ru γ 6 x) c := by
  obtain ⟨h1, h2, h3, h4, h5⟩ := L
  exact ⟨h1, by rw [mput_at, if_neg (by omega)]; exact h2, by rw [ru_ne _ (by omega)]; exact h3, by rw [mput_at, if_pos ⟨rfl, rfl⟩, ru_at], fun i k hi hj hk => by rw [mput_at, if_neg (by omega), ru_ne _ (by omega)]; exact h5 i k hi hj hk⟩
theorem LL.same {M M' : Mem} {γ γ' : Nat → Int32} {c : Nat} (L : LL M γ c) (h1 : ∀ q x, 23 ≤ q → q < 33 → M'.1 q x = M.1 q x) (h2 : ∀ k, k < 1601 → (k = 5 ∨ k = 6 ∨ 201 ≤ k) → γ' k = γ k) : LL M' γ' c := L.cg h1 (fun k hk h => h2 k hk h)
theorem bp_c {M : Mem} {s mk : Nat} (h1 : M.1 1 5 = nI s) (hs : s < 2 ^ 31) : fX9_blur 1 (nI mk) M = some (nI (bp mk s).1, mput (mput M 1 5 (nI (drS s))) 1 5 (nI (bp mk s).2)) := by
  have hm : drS s / 65536 % 4 < 4 := Nat.mod_lt _ (by omega)
  unfold fX9_blur
  rw [l_4, draw_c h1 hs (by omega) (by omega), Option.bind_some]
  simp only [un2]
  rw [l_0, bl_c (drS s / 65536 % 4) 0 FUEL mk (drS s) _ _ (by rw [mput_at, if_pos ⟨rfl, rfl⟩]) (drS_lt s) (by omega) (by omega) (fuel8 (by omega))]
  rfl
theorem bp_ok {mk s : Nat} (hm : mk < 65536) : mk &&& (bp mk s).1 = (bp mk s).1 ∧ (bp mk s).1 < 65536 ∧ (bp mk s).2 < 2 ^ 31 := by
  have h1 : mk &&& (bp mk s).1 = (bp mk s).1 := bl_sub _ _ _ _ (Nat.and_self mk)
  have h2 : mk &&& (bp mk s).1 ≤ mk := Nat.and_le_left
  rw [h1] at h2
  exact ⟨h1, by omega, bl_lt _ _ _ (drS_lt s)⟩
theorem put_l {M : Mem} {i k : Nat} (hi : i < 200) (hk : k < 7) (x : Int32) : fX7_put (23 + 1) 7 200 (nI i) (nI k) x M = some (mput M (26 + k) i x) := by
  have := X7_put (t := 24) (w := 7) (r := 200) (M := M) (x := x) hk (by omega) hi (by omega)
  rw [show 24 + (2 + k) = 26 + k by omega] at this
  exact this
theorem loaf_c {M : Mem} {γ : Nat → Int32} {h c s mk o k : Nat} (pl : Bool) (D : DV M γ h c) (h1 : γ 1 = nI s) (hs : s < 2 ^ 31) (hm : mk < 65536) (hc : c + 1 < 2 ^ 30) : ∃ M', (fX9_blur 1 (nI mk) M).bind (un2 fun v19 M20 => fX6_add 23 (nI o) (nI k) (M.1 1 6) pl (nI mk) v19 M20) = some M' ∧ DV M' (cm γ c s mk o k pl) h (c + 1) ∧ (∀ q x, ¬ (q = 1 ∧ x = 5) → (q < 23 ∨ 33 ≤ q) → M'.1 q x = M.1 q x) ∧ M'.2 = M.2 := by
  obtain ⟨H, L, d1, d2⟩ := D
  obtain ⟨b1, b2, b3⟩ := bp_ok (s := s) hm
  have hr : c % 200 < 200 := Nat.mod_lt _ (by omega)
  obtain ⟨i, hi⟩ : ∃ i, i = c % 200 := ⟨_, rfl⟩
  obtain ⟨M0, hM0⟩ : ∃ M0, M0 = mput (mput M 1 5 (nI (drS s))) 1 5 (nI (bp mk s).2) := ⟨_, rfl⟩
  have c0 : ∀ q x, q ≠ 1 → M0.1 q x = M.1 q x := fun q x hq => by rw [hM0, mput_at, if_neg (by omega), mput_at, if_neg (by omega)]
  have La : LL M0 (ru γ 1 (nI (bp mk s).2)) c := L.cg (fun q x _ _ => c0 q x (by omega)) (fun k' _ _ => ru_ne _ (by omega))
  obtain ⟨M7, hM7⟩ : ∃ M7, M7 = mput (mput (mput (mput (mput (mput (mput M0 (26 + 0) i (nI o)) (26 + 1) i (nI k)) (26 + 2) i (γ 3)) (26 + 3) i (pv pl)) (26 + 4) i (nI (bp mk s).1)) (26 + 5) i NG) (26 + 6) i (nI (pc mk - pc (bp mk s).1)) := ⟨_, rfl⟩
  obtain ⟨γ7, hγ7⟩ : ∃ γ7, γ7 = ru (ru (ru (ru (ru (ru (ru (ru γ 1 (nI (bp mk s).2)) (201 + 7 * i + 0) (nI o)) (201 + 7 * i + 1) (nI k)) (201 + 7 * i + 2) (γ 3)) (201 + 7 * i + 3) (pv pl)) (201 + 7 * i + 4) (nI (bp mk s).1)) (201 + 7 * i + 5) NG) (201 + 7 * i + 6) (nI (pc mk - pc (bp mk s).1)) := ⟨_, rfl⟩
  have L7 : LL M7 γ7 c := by
    rw [hM7, hγ7]
    exact ((((((La.pt (by omega) _).pt (by omega) _).pt (by omega) _).pt (by omega) _).pt (by omega) _).pt (by omega) _).pt (by omega) _
  have L8 : LL (mput M7 23 1 (nI (c + 1))) (ru γ7 5 (nI (c + 1))) (c + 1) := L7.grow hc (fun k' hk' => by
    rw [← hi, hM7, hγ7]
    rcases (show k' = 0 ∨ k' = 1 ∨ k' = 2 ∨ k' = 3 ∨ k' = 4 ∨ k' = 5 ∨ k' = 6 by omega) with rfl | rfl | rfl | rfl | rfl | rfl | rfl <;> simp [mput_at, ru])
  have g6 : γ7 6 = γ 6 := by rw [hγ7, ru_ne _ (by omega), ru_ne _ (by omega), ru_ne _ (by omega), ru_ne _ (by omega), ru_ne _ (by omega), ru_ne _ (by omega), ru_ne _ (by omega), ru_ne _ (by omega)]
  have c7 : ∀ q x, q < 26 ∨ 33 ≤ q → M7.1 q x = M0.1 q x := fun q x hq => by rw [hM7, mput_at, if_neg (by omega), mput_at, if_neg (by omega), mput_at, if_neg (by omega), mput_at, if_neg (by omega), mput_at, if_neg (by omega), mput_at, if_neg (by omega), mput_at, if_neg (by omega)]
  have ecm : cm γ c s mk o k pl = ru (ru γ7 5 (nI (c + 1))) 6 (γ 6 + pv pl) := by rw [hγ7, hi]; rfl
  obtain ⟨lk1, lk2⟩ := pc_lack b1
  have hpm : pc mk < 2 ^ 31 := by
    have := pc_min (mk + 1) mk (by omega) (by omega)
    have h5 := Nat.lt_two_pow_self (n := pc mk)
    omega
  have eadd : (fX9_blur 1 (nI mk) M).bind (un2 fun v19 M20 => fX6_add 23 (nI o) (nI k) (M.1 1 6) pl (nI mk) v19 M20) = if pl = true then some (mput (mput M7 23 1 (nI (c + 1))) 23 2 (γ 6 + 1)) else some (mput M7 23 1 (nI (c + 1))) := by
    rw [bp_c (d1.trans h1) hs, Option.bind_some, ← hM0]
    simp only [un2]
    unfold fX6_add
    have e1 : M0.1 23 1 - M0.1 23 1 / 200 * 200 = nI i := by rw [c0 23 1 (by omega), L.2.1, l_200, mI_md (by have := L.1; omega) (by omega), hi]
    have ez : (if pl = true then (some (1 : Int32) : Option Int32) else some 0) = some (pv pl) := by cases pl <;> rfl
    rw [e1, ez, l_0, put_l (by omega) (by omega), Option.bind_some, l_1, put_l (by omega) (by omega), Option.bind_some, l_2, put_l (by omega) (by omega), Option.bind_some, Option.bind_some, l_3, put_l (by omega) (by omega), Option.bind_some, l_4, put_l (by omega) (by omega), Option.bind_some, l_5, show (-(nI 1) : Int32) = NG from rfl, put_l (by omega) (by omega), Option.bind_some, d2]
    rw [show nI mk &&& (nI (bp mk s).1 ^^^ NG) = nI (mk &&& ((bp mk s).1 ^^^ 4294967295)) from lack_n _ _]
    rw [count_n (by have : mk &&& ((bp mk s).1 ^^^ 4294967295) ≤ mk := Nat.and_le_left; omega), Option.bind_some, lk1, l_6, put_l (by omega) (by omega), Option.bind_some, ← hM7]
    unfold pf
    rw [Option.bind_some, c7 23 1 (by omega), c0 23 1 (by omega), L.2.1, nI_ad]
    cases pl
    · rw [if_neg (by decide), if_neg (by decide)]
    · rw [if_pos rfl, if_pos rfl, Option.bind_some, mput_at, if_neg (by omega), c7 23 2 (by omega), c0 23 2 (by omega), L.2.2.2.1]
  have hd : ∀ M', (∀ q x, q ≠ 23 → M'.1 q x = M7.1 q x) → LL M' (cm γ c s mk o k pl) (c + 1) → DV M' (cm γ c s mk o k pl) h (c + 1) := fun M' hM' L' => by
    have cg : ∀ j, j ≠ 1 → j ≠ 5 → j ≠ 6 → j < 201 → cm γ c s mk o k pl j = γ j := fun j q1 q2 q3 q4 => by
      rw [ecm, ru_ne _ q3, ru_ne _ q2, hγ7, ru_ne _ (by omega), ru_ne _ (by omega), ru_ne _ (by omega), ru_ne _ (by omega), ru_ne _ (by omega), ru_ne _ (by omega), ru_ne _ (by omega), ru_ne _ (by omega)]
    refine ⟨H.cg (fun q x _ _ => by rw [hM' _ _ (by omega), c7 _ _ (by omega), c0 _ _ (by omega)]) (fun j _ _ => cg j (by omega) (by omega) (by omega) (by omega)), L', ?_, ?_⟩
    · rw [hM' _ _ (by omega), c7 _ _ (by omega), hM0, mput_at, if_pos ⟨rfl, rfl⟩, ecm, ru_ne _ (by omega), ru_ne _ (by omega), hγ7, ru_ne _ (by omega), ru_ne _ (by omega), ru_ne _ (by omega), ru_ne _ (by omega), ru_ne _ (by omega), ru_ne _ (by omega), ru_ne _ (by omega), ru_at]
    · rw [hM' _ _ (by omega), c7 _ _ (by omega), hM0, mput_at, if_neg (by omega), mput_at, if_neg (by omega), cg 3 (by omega) (by omega) (by omega) (by omega)]
      exact d2
  rw [eadd]
  cases pl with
  | true =>
    rw [if_pos rfl]
    refine ⟨_, rfl, hd _ (fun q x hq => by rw [mput_at, if_neg (by omega), mput_at, if_neg (by omega)]) (by rw [ecm]; exact L8.pale _), fun q x h3 h4 => ?_, ?_⟩
    · rw [mput_at, if_neg (by omega), mput_at, if_neg (by omega), c7 _ _ (by omega), hM0, mput_at, if_neg h3, mput_at, if_neg h3]
    · rw [hM7, hM0]; rfl
  | false =>
    rw [if_neg (by decide)]
    refine ⟨_, rfl, hd _ (fun q x hq => by rw [mput_at, if_neg (by omega)]) ?_, fun q x h3 h4 => ?_, ?_⟩
    · refine L8.cg (fun _ _ _ _ => rfl) (fun j _ _ => ?_)
      rw [ecm]
      by_cases e : j = 6
      · rw [e, ru_at, ru_ne _ (by omega), g6]; exact sm_z _
      · exact ru_ne _ e
    · rw [mput_at, if_neg (by omega), c7 _ _ (by omega), hM0, mput_at, if_neg h3, mput_at, if_neg h3]
    · rw [hM7, hM0]; rfl
abbrev Gs : Type := (Nat → Int32) × Nat × Nat
def cmz (mk o k : Nat) (pl : Bool) : Nat → Gs → Gs
  | 0, G => G
  | z + 1, G => cmz mk o k pl z (cm G.1 G.2.1 G.2.2 mk o k pl, G.2.1 + 1, (bp mk G.2.2).2)
def bt1 (mkf : Nat → Nat) (t : Nat) (x : T3) (G : Gs) : Gs := cmz (mkf x.1) x.1 x.2.1 (decide (t < lo x.2.1 - 30)) x.2.2 (ru G.1 (9 + 4 * x.1 + 2) (G.1 (9 + 4 * x.1 + 2) + nI x.2.2), G.2.1, G.2.2)
def btl (mkf : Nat → Nat) (t : Nat) : List T3 → Gs → Gs
  | [], G => G
  | x :: T, G => btl mkf t T (bt1 mkf t x G)
def bm : List T3 → Int32 → Int32
  | [], a => a
  | x :: T, a => bm T (a ||| ((1 : Int32) <<< (nI x.1 &&& 31)))
def GI (mkf : Nat → Nat) (h : Nat) (G : Gs) : Prop := G.1 1 = nI G.2.2 ∧ G.2.2 < 2 ^ 31 ∧ G.1 5 = nI G.2.1 ∧ ∀ i, i < h → G.1 (9 + 4 * i) = nI (mkf i) ∧ mkf i < 65536
theorem cm_lo {γ : Nat → Int32} {c s mk o k : Nat} {pl : Bool} {j : Nat} (h1 : j ≠ 1) (h5 : j ≠ 5) (h6 : j ≠ 6) (h : j < 201) : cm γ c s mk o k pl j = γ j := by
  unfold cm
  rw [ru_ne _ h6, ru_ne _ h5, ru_ne _ (by omega), ru_ne _ (by omega), ru_ne _ (by omega), ru_ne _ (by omega), ru_ne _ (by omega), ru_ne _ (by omega), ru_ne _ (by omega), ru_ne _ h1]
theorem cm_1 (γ : Nat → Int32) (c s mk o k : Nat) (pl : Bool) : cm γ c s mk o k pl 1 = nI (bp mk s).2 ∧ cm γ c s mk o k pl 5 = nI (c + 1) := by
  unfold cm
  constructor
  · rw [ru_ne _ (by omega), ru_ne _ (by omega), ru_ne _ (by omega), ru_ne _ (by omega), ru_ne _ (by omega), ru_ne _ (by omega), ru_ne _ (by omega), ru_ne _ (by omega), ru_ne _ (by omega), ru_at]
  · rw [ru_ne _ (by omega), ru_at]
theorem GI.come {mkf : Nat → Nat} {h : Nat} {G : Gs} (I : GI mkf h G) (hh : h ≤ 8) {mk : Nat} (hm : mk < 65536) (o k : Nat) (pl : Bool) : GI mkf h (cm G.1 G.2.1 G.2.2 mk o k pl, G.2.1 + 1, (bp mk G.2.2).2) := by
  obtain ⟨i1, i2, i3, i4⟩ := I
  obtain ⟨e1, e2⟩ := cm_1 G.1 G.2.1 G.2.2 mk o k pl
  refine ⟨e1, (bp_ok (s := G.2.2) hm).2.2, e2, fun i hi => ?_⟩
  dsimp only
  rw [cm_lo (by omega) (by omega) (by omega) (by omega)]
  exact i4 i hi
theorem cmz_ok {mkf : Nat → Nat} {h mk : Nat} (hh : h ≤ 8) (hm : mk < 65536) (o k : Nat) (pl : Bool) : ∀ (z : Nat) (G : Gs), GI mkf h G → GI mkf h (cmz mk o k pl z G) ∧ (cmz mk o k pl z G).2.1 = G.2.1 + z ∧ ∀ j, j ≠ 1 → j ≠ 5 → j ≠ 6 → j < 201 → (cmz mk o k pl z G).1 j = G.1 j := by
  intro z
  induction z with
  | zero => intro G I; exact ⟨I, rfl, fun _ _ _ _ _ => rfl⟩
  | succ z ih =>
    intro G I
    obtain ⟨a1, a2, a3⟩ := ih _ (I.come hh hm o k pl)
    rw [cmz]
    refine ⟨a1, by rw [a2]; dsimp only; omega, fun j h1 h2 h3 h4 => ?_⟩
    rw [a3 j h1 h2 h3 h4]
    exact cm_lo h1 h2 h3 h4
theorem bz_c {mkf : Nat → Nat} {h mk o k z : Nat} (hh : h ≤ 8) (hm : mk < 65536) (pl : Bool) (hz : z < 100) : ∀ (m j n : Nat) (M : Mem) (G : Gs), DV M G.1 h G.2.1 → GI mkf h G → j + m = z → m < n → G.2.1 + m < 2 ^ 30 → ∃ M', lX9_bakeBatch_72 1 (nI o) (nI k) (nI z) (nI mk) pl n (nI j) M = some M' ∧ DV M' (cmz mk o k pl m G).1 h (cmz mk o k pl m G).2.1 ∧ (∀ q x, ¬ (q = 1 ∧ x = 5) → (q < 23 ∨ 33 ≤ q) → M'.1 q x = M.1 q x) ∧ M'.2 = M.2 := by
  intro m
  induction m with
  | zero =>
    intro j n M G D I h1 h2 h3
    obtain ⟨n, rfl⟩ : ∃ n', n = n' + 1 := ⟨n - 1, by omega⟩
    refine ⟨M, ?_, D, fun _ _ _ _ => rfl, rfl⟩
    rw [lX9_bakeBatch_72, if_pos (pI_le (by omega) (by omega))]
  | succ m ih =>
    intro j n M G D I h1 h2 h3
    obtain ⟨n, rfl⟩ : ∃ n', n = n' + 1 := ⟨n - 1, by omega⟩
    obtain ⟨M1, a1, a2, a3, a4⟩ := loaf_c (o := o) (k := k) pl D I.1 I.2.1 hm (by omega)
    obtain ⟨M2, b1, b2, b3, b4⟩ := ih (j + 1) n M1 _ a2 (I.come hh hm o k pl) (by omega) (by omega) (by dsimp only; omega)
    refine ⟨M2, ?_, by rw [cmz]; exact b2, fun q x h4 h5 => (b3 q x h4 h5).trans (a3 q x h4 h5), b4.trans a4⟩
    rw [lX9_bakeBatch_72, if_neg (pI_nle (by omega) (by omega)), l_1, nI_ad]
    rw [bp_c (D.2.2.1.trans I.1) I.2.1, Option.bind_some] at a1 ⊢
    simp only [un2] at a1 ⊢
    rw [a1, Option.bind_some]
    exact b1
theorem GI.lay {mkf : Nat → Nat} {h : Nat} {G : Gs} (I : GI mkf h G) (hh : h ≤ 8) (o : Nat) (x : Int32) : GI mkf h (ru G.1 (9 + 4 * o + 2) x, G.2.1, G.2.2) := by
  obtain ⟨i1, i2, i3, i4⟩ := I
  refine ⟨?_, i2, ?_, fun i hi => ?_⟩
  · dsimp only
    rw [ru_ne _ (by omega)]; exact i1
  · dsimp only
    rw [ru_ne _ (by omega)]; exact i3
  · dsimp only
    rw [ru_ne _ (by omega)]; exact i4 i hi
theorem bt1_ok {mkf : Nat → Nat} {h : Nat} (hh : h ≤ 8) {G : Gs} (I : GI mkf h G) (t : Nat) {x : T3} (hx : x.1 < h) : GI mkf h (bt1 mkf t x G) ∧ (bt1 mkf t x G).2.1 = G.2.1 + x.2.2 ∧ (∀ j, j ≠ 1 → j ≠ 5 → j ≠ 6 → j < 201 → (∀ i, i < h → j ≠ 9 + 4 * i + 2) → (bt1 mkf t x G).1 j = G.1 j) := by
  obtain ⟨a1, a2, a3⟩ := cmz_ok hh (I.2.2.2 x.1 hx).2 x.1 x.2.1 (decide (t < lo x.2.1 - 30)) x.2.2 _ (I.lay hh x.1 (G.1 (9 + 4 * x.1 + 2) + nI x.2.2))
  refine ⟨a1, a2, fun j h1 h2 h3 h4 h5 => ?_⟩
  refine (a3 j h1 h2 h3 h4).trans ?_
  dsimp only
  exact ru_ne _ (h5 x.1 hx)
theorem btl_ok {mkf : Nat → Nat} {h : Nat} (hh : h ≤ 8) (t : Nat) : ∀ (T : List T3) (G : Gs), GI mkf h G → (∀ x, x ∈ T → x.1 < h) → GI mkf h (btl mkf t T G) ∧ (btl mkf t T G).2.1 = G.2.1 + sz T ∧ (∀ j, j ≠ 1 → j ≠ 5 → j ≠ 6 → j < 201 → (∀ i, i < h → j ≠ 9 + 4 * i + 2) → (btl mkf t T G).1 j = G.1 j) := by
  intro T
  induction T with
  | nil => intro G I _; exact ⟨I, rfl, fun _ _ _ _ _ _ => rfl⟩
  | cons x T ih =>
    intro G I hT
    obtain ⟨a1, a2, a3⟩ := bt1_ok hh I t (hT x List.mem_cons_self)
    obtain ⟨b1, b2, b3⟩ := ih _ a1 (fun y hy => hT y (List.mem_cons_of_mem _ hy))
    rw [btl]
    refine ⟨b1, by rw [b2, a2, sz]; omega, fun j h1 h2 h3 h4 h5 => (b3 j h1 h2 h3 h4 h5).trans (a3 j h1 h2 h3 h4 h5)⟩
theorem PB.v0 {M : Mem} {O : List Nat} {tr : Nat → T3} (H : PB M O tr) {p : Nat} (hp : p < O.length) : fX1_value 9 (nI (O.getD p 0)) 0 M = some (nI (tr p).1) := by
  obtain ⟨a, b, c, d, e⟩ := H.2.2 p hp
  unfold fX1_value
  show (fX7_get 10 3 20 _ (nI 0) M).bind _ = _
  rw [X7_get (by omega) (by omega) (by omega) (by omega), Option.bind_some, ← c]
theorem DV.lay {M : Mem} {γ : Nat → Int32} {h c : Nat} (D : DV M γ h c) {o : Nat} (ho : o < h) (x : Int32) : DV (mput M (5 + 2) o x) (ru γ (9 + 4 * o + 2) x) h c := by
  obtain ⟨H, L, d1, d2⟩ := D
  have hh := H.1
  exact ⟨H.pt (by omega) (by omega) x, L.cg (fun q y _ _ => by rw [mput_at, if_neg (by omega)]) (fun j _ _ => ru_ne _ (by omega)), by rw [mput_at, if_neg (by omega), ru_ne _ (by omega)]; exact d1, by rw [mput_at, if_neg (by omega), ru_ne _ (by omega)]; exact d2⟩
theorem batch_c {mkf : Nat → Nat} {M : Mem} {O : List Nat} {tr : Nat → T3} {h p t : Nat} {G : Gs} (P : PB M O tr) (hp : p < O.length) (hx : (tr p).1 < h) (D : DV M G.1 h G.2.1) (I : GI mkf h G) (hc : G.2.1 + 12 < 2 ^ 30) (ht : t ≤ 400) : ∃ M', fX9_bakeBatch 1 (nI (O.getD p 0)) (nI t) M = some M' ∧ DV M' (bt1 mkf t (tr p) G).1 h (bt1 mkf t (tr p) G).2.1 ∧ (∀ q x, ¬ (q = 1 ∧ x = 5) → q ≠ 7 → (q < 23 ∨ 33 ≤ q) → M'.1 q x = M.1 q x) ∧ M'.2 = M.2 := by
  have hh := D.1.1
  obtain ⟨-, ⟨t1, t2, t3, t4⟩, -⟩ := P.2.2 p hp
  obtain ⟨i5, i6⟩ := I.2.2.2 (tr p).1 hx
  obtain ⟨o, ho⟩ : ∃ o, o = (tr p).1 := ⟨_, rfl⟩
  obtain ⟨k, hk⟩ : ∃ k, k = (tr p).2.1 := ⟨_, rfl⟩
  obtain ⟨z, hz⟩ : ∃ z, z = (tr p).2.2 := ⟨_, rfl⟩
  have ev := P.v0 hp
  have ek := P.v1 hp
  have ez := P.v2 hp
  rw [← ho] at ev i5 i6 hx t1
  rw [← hk] at ek t2
  rw [← hz] at ez t3 t4
  obtain ⟨l1, l2, l3⟩ := lo_le k
  have hl30 : 30 ≤ lo k := by
    rcases (show k = 0 ∨ k = 1 ∨ k = 2 by omega) with rfl | rfl | rfl <;> decide
  obtain ⟨M1, a1, a2, a3, a4⟩ := bz_c (mkf := mkf) (o := o) (k := k) (z := z) hh i6 (decide (t < lo k - 30)) (by omega) z 0 FUEL _ (ru G.1 (9 + 4 * o + 2) (G.1 (9 + 4 * o + 2) + nI z), G.2.1, G.2.2) (D.lay hx _) (I.lay hh o _) (by omega) (fuel8 (by omega)) (by dsimp only; omega)
  refine ⟨M1, ?_, ?_, fun q x h1 h2 h3 => by rw [a3 q x h1 h3, mput_at, if_neg (by omega)], a4⟩
  · unfold fX9_bakeBatch fX4_value fX4_putIn fX3_paleBelow
    show (fX1_value 9 (nI (O.getD p 0)) 0 M).bind _ = _
    rw [ev, Option.bind_some]
    show (fX1_value 9 (nI (O.getD p 0)) 1 M).bind _ = _
    rw [ek, Option.bind_some]
    show (fX1_value 9 (nI (O.getD p 0)) 2 M).bind _ = _
    rw [ez, Option.bind_some]
    show ((fX7_get 3 4 8 (nI o) (nI 0) M).bind _).bind _ = _
    rw [D.1.gt hx (by omega), Option.bind_some, Option.bind_some, show G.1 (9 + 4 * o + 0) = nI (mkf o) from i5, l_0, if_neg (pI_nlt (by omega) (by omega)), l_3, if_neg (pI_nle (by omega) (by omega)), lo_s t2, Option.bind_some, Option.bind_some, l_30, mI_sb hl30 (by omega)]
    have ep : (if nI (lo k - 30) ≤ nI t then (some false : Option Bool) else some true) = some (decide (t < lo k - 30)) := by
      by_cases hq : t < lo k - 30
      · rw [if_neg (pI_nle hq (by omega)), decide_eq_true hq]
      · rw [if_pos (pI_le (by omega) (by omega)), decide_eq_false hq]
    rw [ep, Option.bind_some]
    show (((fX7_get 3 4 8 (nI o) (nI 2) M).bind _).bind _) = _
    rw [D.1.gt hx (by omega), Option.bind_some]
    show (((fX7_put 3 4 8 (nI o) (nI 2) _ M).bind _).bind _) = _
    rw [X7_put (by omega) (by omega) (by omega) (by omega), Option.bind_some, Option.bind_some]
    show ((lX9_bakeBatch_72 1 (nI o) (nI k) (nI z) (nI (mkf o)) (decide (t < lo k - 30)) FUEL (nI 0) (mput M (5 + 2) o (G.1 (9 + 4 * o + 2) + nI z))).bind _) = _
    rw [a1]; rfl
  · unfold bt1
    rw [← ho, ← hk, ← hz]
    exact a2
theorem loads_in {mkf : Nat → Nat} {O : List Nat} {tr : Nat → T3} {h L t : Nat} (hL : L < 20) (ht : t ≤ 400) (ht20 : ∀ p, p < O.length → (tr p).1 < h) : ∀ (m j n : Nat) (a : Int32) (M : Mem) (G : Gs), PB M O tr → DV M G.1 h G.2.1 → GI mkf h G → M.1 22 L = nI t → j + m = O.length → m < n → G.2.1 + 12 * m < 2 ^ 30 → ∃ M', lX9_bakeLoads_18 1 (nI L) n a (nI j) M = some (bm (sl (fun p => decide (M.1 35 p = nI L)) tr j m) a, M') ∧ PB M' O tr ∧ DV M' (btl mkf t (sl (fun p => decide (M.1 35 p = nI L)) tr j m) G).1 h (btl mkf t (sl (fun p => decide (M.1 35 p = nI L)) tr j m) G).2.1 ∧ GI mkf h (btl mkf t (sl (fun p => decide (M.1 35 p = nI L)) tr j m) G) ∧ (∀ q x, ¬ (q = 1 ∧ x = 5) → q ≠ 7 → (q < 23 ∨ 33 ≤ q) → M'.1 q x = M.1 q x) ∧ M'.2 = M.2 := by
  intro m
  induction m with
  | zero =>
    intro j n a M G P D I h22 h1 h2 h3
    obtain ⟨n, rfl⟩ : ∃ n', n = n' + 1 := ⟨n - 1, by omega⟩
    have hO := P.2.1
    refine ⟨M, ?_, P, D, I, fun _ _ _ _ _ => rfl, rfl⟩
    rw [lX9_bakeLoads_18]
    unfold fX3_size
    rw [Option.bind_some, P.1.1, if_pos (pI_le (by omega) (by omega))]
    rfl
  | succ m ih =>
    intro j n a M G P D I h22 h1 h2 h3
    obtain ⟨n, rfl⟩ : ∃ n', n = n' + 1 := ⟨n - 1, by omega⟩
    have hO := P.2.1
    have hh := D.1.1
    rw [sl]
    by_cases c : M.1 35 j = nI L
    · rw [if_pos (decide_eq_true c)]
      obtain ⟨M1, a1, a2, a3, a4⟩ := batch_c P (show j < O.length by omega) (ht20 j (by omega)) D I (by omega) ht
      have P1 : PB M1 O tr := P.cg (a3 33 4 (by omega) (by omega) (by omega)) (fun q x hq => a3 q x (by omega) (by omega) (by omega))
      obtain ⟨g1, g2, -⟩ := bt1_ok hh I t (ht20 j (by omega))
      obtain ⟨-, ⟨t1, t2, t3, t4⟩, -⟩ := P.2.2 j (by omega)
      obtain ⟨M2, b1, b2, b3, b4, b5, b6⟩ := ih (j + 1) n (a ||| ((1 : Int32) <<< (nI (tr j).1 &&& 31))) M1 _ P1 a2 g1 (by rw [a3 22 L (by omega) (by omega) (by omega)]; exact h22) (by omega) (by omega) (by omega)
      have es : sl (fun p => decide (M1.1 35 p = nI L)) tr (j + 1) m = sl (fun p => decide (M.1 35 p = nI L)) tr (j + 1) m := sl_cg tr m (j + 1) fun i _ _ => by rw [a3 35 i (by omega) (by omega) (by omega)]
      rw [es] at b1 b3 b4
      refine ⟨M2, ?_, b2, b3, b4, fun q x h4 h5 h6 => (b5 q x h4 h5 h6).trans (a3 q x h4 h5 h6), b6.trans a4⟩
      rw [lX9_bakeLoads_18]
      unfold fX3_size fX5_value
      rw [Option.bind_some, P.1.1, if_neg (pI_nle (by omega) (by omega)), loadAt_n P.1 hO (by omega), Option.bind_some, if_pos c, batchAt_n P.1 hO (by omega), Option.bind_some]
      show (((fX7_get 16 5 20 (nI L) (nI 4) M).bind _).bind _) = _
      rw [X7_get (by omega) (by omega) hL (by omega), Option.bind_some, Option.bind_some, show M.1 (16 + (2 + 4)) L = nI t from h22, a1, Option.bind_some]
      show ((fX1_value 9 (nI (O.getD j 0)) 0 M1).bind _) = _
      rw [P1.v0 (by omega), Option.bind_some, l_1, nI_ad]
      exact b1
    · rw [if_neg (by rw [decide_eq_true_eq]; exact c)]
      obtain ⟨M2, b1, b2, b3, b4, b5, b6⟩ := ih (j + 1) n a M G P D I h22 (by omega) (by omega) (by omega)
      refine ⟨M2, ?_, b2, b3, b4, b5, b6⟩
      rw [lX9_bakeLoads_18]
      unfold fX3_size
      rw [Option.bind_some, P.1.1, if_neg (pI_nle (by omega) (by omega)), loadAt_n P.1 hO (by omega), Option.bind_some, if_neg c, l_1, nI_ad]
      exact b1
/-- all loads, in their order -/
def ldl (mkf : Nat → Nat) : List L4 → Gs → Gs
  | [], G => G
  | l :: Ls, G => ldl mkf Ls (btl mkf l.2.2.2 l.2.1 G)
def bml : List L4 → Int32 → Int32
  | [], a => a
  | l :: Ls, a => bml Ls (bm l.2.1 a)
def ldi (mkf : Nat → Nat) (Ls : List L4) : Nat → Nat → Gs → Gs
  | _, 0, G => G
  | L, m + 1, G => ldi mkf Ls (L + 1) m (btl mkf (Ls.getD L L0).2.2.2 (Ls.getD L L0).2.1 G)
def bmi (Ls : List L4) : Nat → Nat → Int32 → Int32
  | _, 0, a => a
  | L, m + 1, a => bmi Ls (L + 1) m (bm (Ls.getD L L0).2.1 a)
theorem ldi_cons (mkf : Nat → Nat) (l : L4) (Ls : List L4) : ∀ (m L : Nat) (G : Gs), ldi mkf (l :: Ls) (L + 1) m G = ldi mkf Ls L m G := by
  intro m
  induction m with
  | zero => intro L G; rfl
  | succ m ih => intro L G; rw [ldi, ldi, ih (L + 1)]; rfl
theorem ldi_ldl (mkf : Nat → Nat) : ∀ (Ls : List L4) (G : Gs), ldi mkf Ls 0 Ls.length G = ldl mkf Ls G := by
  intro Ls
  induction Ls with
  | nil => intro G; rfl
  | cons l Ls ih => intro G; rw [List.length_cons, ldi, ldi_cons, ih]; rfl
theorem bmi_cons (l : L4) (Ls : List L4) : ∀ (m L : Nat) (a : Int32), bmi (l :: Ls) (L + 1) m a = bmi Ls L m a := by
  intro m
  induction m with
  | zero => intro L a; rfl
  | succ m ih => intro L a; rw [bmi, bmi, ih (L + 1)]; rfl
theorem bmi_bml : ∀ (Ls : List L4) (a : Int32), bmi Ls 0 Ls.length a = bml Ls a := by
  intro Ls
  induction Ls with
  | nil => intro a; rfl
  | cons l Ls ih => intro a; rw [List.length_cons, bmi, bmi_cons, ih]; rfl
theorem sl_sz {q : Nat → Bool} {tr : Nat → T3} : ∀ (m j : Nat), (∀ i, j ≤ i → i < j + m → (tr i).2.2 ≤ 12) → sz (sl q tr j m) ≤ 12 * m := by
  intro m
  induction m with
  | zero => intro j _; exact Nat.zero_le _
  | succ m ih =>
    intro j h
    have h1 := h j (by omega) (by omega)
    have h2 := ih (j + 1) (fun i h3 h4 => h i (by omega) (by omega))
    rw [sl]
    split
    · rw [sz]; omega
    · omega
theorem sl_mem {q : Nat → Bool} {tr : Nat → T3} : ∀ (m j : Nat) (x : T3), x ∈ sl q tr j m → ∃ i, j ≤ i ∧ i < j + m ∧ x = tr i := by
  intro m
  induction m with
  | zero => intro j x h; cases h
  | succ m ih =>
    intro j x h
    rw [sl] at h
    by_cases hq : q j = true
    · rw [if_pos hq] at h
      rcases List.mem_cons.mp h with h | h
      · exact ⟨j, Nat.le_refl _, by omega, h⟩
      · obtain ⟨i, h1, h2, h3⟩ := ih _ _ h
        exact ⟨i, by omega, by omega, h3⟩
    · rw [if_neg hq] at h
      obtain ⟨i, h1, h2, h3⟩ := ih _ _ h
      exact ⟨i, by omega, by omega, h3⟩
theorem loads_c {mkf : Nat → Nat} {O : List Nat} {tr : Nat → T3} {h : Nat} {Ls : List L4} (hLs : Ls.length ≤ 20) (htr : ∀ p, p < O.length → (tr p).1 < h) (hht : ∀ L, L < Ls.length → (Ls.getD L L0).2.2.2 ≤ 400) : ∀ (m L n : Nat) (a : Int32) (M : Mem) (G : Gs), PB M O tr → DV M G.1 h G.2.1 → GI mkf h G → M.1 15 1 = nI Ls.length → (∀ i, i < Ls.length → M.1 22 i = nI (Ls.getD i L0).2.2.2) → (∀ i, i < Ls.length → sl (fun p => decide (M.1 35 p = nI i)) tr 0 O.length = (Ls.getD i L0).2.1) → L + m = Ls.length → m < n → G.2.1 + 300 * m < 2 ^ 29 → ∃ M', lX9_bakeLoads_4 1 n a (nI L) M = some (bmi Ls L m a, M') ∧ PB M' O tr ∧ DV M' (ldi mkf Ls L m G).1 h (ldi mkf Ls L m G).2.1 ∧ GI mkf h (ldi mkf Ls L m G) ∧ (ldi mkf Ls L m G).2.1 ≤ G.2.1 + 240 * m ∧ (∀ j, j ≠ 1 → j ≠ 5 → j ≠ 6 → j < 201 → (∀ i, i < h → j ≠ 9 + 4 * i + 2) → (ldi mkf Ls L m G).1 j = G.1 j) ∧ (∀ q x, ¬ (q = 1 ∧ x = 5) → q ≠ 7 → (q < 23 ∨ 33 ≤ q) → M'.1 q x = M.1 q x) ∧ M'.2 = M.2 := by
  intro m
  induction m with
  | zero =>
    intro L n a M G P D I h15 h22 h35 h1 h2 h3
    obtain ⟨n, rfl⟩ : ∃ n', n = n' + 1 := ⟨n - 1, by omega⟩
    refine ⟨M, ?_, P, D, I, Nat.le_refl _, fun _ _ _ _ _ _ => rfl, fun _ _ _ _ _ => rfl, rfl⟩
    rw [lX9_bakeLoads_4]
    unfold fX5_size
    show (some (M.1 15 1)).bind _ = _
    rw [Option.bind_some, h15, if_pos (pI_le (by omega) (by omega))]
    rfl
  | succ m ih =>
    intro L n a M G P D I h15 h22 h35 h1 h2 h3
    obtain ⟨n, rfl⟩ : ∃ n', n = n' + 1 := ⟨n - 1, by omega⟩
    have hO := P.2.1
    obtain ⟨M1, a1, a2, a3, a4, a5, a6⟩ := loads_in (mkf := mkf) (L := L) (by omega) (hht L (by omega)) htr O.length 0 FUEL a M G P D I (h22 L (by omega)) (by omega) (fuel8 (by omega)) (by omega)
    have hmem : ∀ x, x ∈ (Ls.getD L L0).2.1 → x.1 < h := fun x hx => by
      rw [← h35 L (by omega)] at hx
      obtain ⟨i, i1, i2, i3⟩ := sl_mem _ _ _ hx
      rw [i3]; exact htr i (by omega)
    have hsz : sz (Ls.getD L L0).2.1 ≤ 240 := by
      rw [← h35 L (by omega)]
      have := sl_sz (q := fun p => decide (M.1 35 p = nI L)) (tr := tr) O.length 0 (fun i _ hi => by
        obtain ⟨-, ⟨t1, t2, t3, t4⟩, -⟩ := P.2.2 i (by omega)
        exact t4)
      omega
    rw [h35 L (by omega)] at a1 a3 a4
    obtain ⟨-, c2, c3⟩ := btl_ok D.1.1 (Ls.getD L L0).2.2.2 (Ls.getD L L0).2.1 G I hmem
    obtain ⟨M2, b1, b2, b3, b4, b5, b6, b7, b8⟩ := ih (L + 1) n _ M1 _ a2 a3 a4 (by rw [a5 15 1 (by omega) (by omega) (by omega)]; exact h15) (fun i hi => by rw [a5 22 i (by omega) (by omega) (by omega)]; exact h22 i hi) (fun i hi => by
      rw [← h35 i hi]
      exact sl_cg tr O.length 0 fun p _ _ => by rw [a5 35 p (by omega) (by omega) (by omega)]) (by omega) (by omega) (by omega)
    refine ⟨M2, ?_, b2, by rw [ldi]; exact b3, by rw [ldi]; exact b4, by rw [ldi]; omega, fun j q1 q2 q3 q4 q5 => by rw [ldi, b6 j q1 q2 q3 q4 q5, c3 j q1 q2 q3 q4 q5], fun q x h4 h5 h6 => (b7 q x h4 h5 h6).trans (a5 q x h4 h5 h6), b8.trans a6⟩
    rw [lX9_bakeLoads_4]
    unfold fX5_size
    show (some (M.1 15 1)).bind _ = _
    rw [Option.bind_some, h15, if_neg (pI_nle (by omega) (by omega)), l_0, a1, Option.bind_some]
    simp only [un2]
    rw [l_1, nI_ad, bmi]
    exact b1
theorem any_nI (y : Int32) : ∃ n, y = nI n := ⟨y.toBitVec.toNat, by
  apply Int32.toBitVec_inj.mp
  show y.toBitVec = BitVec.ofNat 32 y.toBitVec.toNat
  apply BitVec.eq_of_toNat_eq
  rw [BitVec.toNat_ofNat, Nat.mod_eq_of_lt y.toBitVec.isLt]⟩
theorem pc_16 {x : Nat} (hx : x < 65536) : pc x ≤ 16 := by
  have h1 := pc_min (x + 1) x (by omega) (by omega)
  refine Nat.le_of_not_lt fun q => ?_
  have h2 := Nat.pow_le_pow_right (n := 2) (by omega) (show 17 ≤ pc x by omega)
  omega
def TR (a1 a2 b1 b2 : Int32) (b3 : Bool) : Prop := (a1 = nI 8 ∧ a2 = nI 17 ∧ b2 = nI 99 ∧ b3 = false) ∨ ∃ v, v ≤ 16 ∧ a2 = nI v ∧ b2 = nI v ∧ ((b3 = true ∧ ∃ p, p < 8 ∧ a1 = nI p ∧ b1 = nI p) ∨ (b3 = false ∧ a1 = nI 8))
