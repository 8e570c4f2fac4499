/-! loaves counted: the class by places, the reference by numbers -/
theorem sm_k (f : Nat → Int32) (c : Nat) : sm (fun i => f (i % 200)) (c - 200) (min c 200) = sm f 0 (min c 200) := by
  by_cases h : c ≤ 200
  · rw [Nat.min_eq_left h, show c - 200 = 0 by omega]
    exact sm_cg c 0 fun i _ h2 => by rw [Nat.mod_eq_of_lt (by omega)]
  · rw [Nat.min_eq_right (by omega)]
    exact sm_rot f _
theorem sm_0 {f : Nat → Int32} : ∀ (m a : Nat), (∀ i, a ≤ i → i < a + m → f i = nI 0) → sm f a m = nI 0 := by
  intro m
  induction m with
  | zero => intro a _; rfl
  | succ m ih =>
    intro a h
    rw [sm, h a (by omega) (by omega), ih (a + 1) (fun i h1 h2 => h i (by omega) (by omega)), sm_z]
theorem sub_add4 (a b c d : Int32) : (a - b) + (c - d) = (a + c) - (b + d) := by
  simp only [Int32.sub_eq_add_neg, Int32.neg_add]
  ac_rfl
theorem sm_sub (f g : Nat → Int32) : ∀ (m a : Nat), sm (fun i => f i - g i) a m = sm f a m - sm g a m := by
  intro m
  induction m with
  | zero => intro a; rw [sm, sm, sm, Int32.sub_self]; rfl
  | succ m ih => intro a; rw [sm, ih (a + 1), sub_add4]; rfl
theorem kept_r {N : Mem} {ρ : Nat → Int32} {c : Nat} (R : Ro N ρ) (hc : c < 2 ^ 30) (h5 : ρ 5 = nI c) (x : Int32) (b2 b3 : Bool) : ∀ (m j n : Nat) (acc : Int32), j + m = c → m < n → lX12_kept_9 x b2 b3 N n acc (nI j) = some (acc + sm (fun i => if (b2 = true → ρ (201 + 7 * (i % 200) + 0) = x) ∧ (b3 = true → ρ (201 + 7 * (i % 200) + 5) = x) then nI 1 else nI 0) j m) := by
  intro m
  induction m with
  | zero =>
    intro j n acc h1 h2
    obtain ⟨n, rfl⟩ : ∃ n', n = n' + 1 := ⟨n - 1, by omega⟩
    rw [lX12_kept_9, l_5, R.at (by omega), Option.bind_some, h5, if_pos (pI_le (by omega) (by omega)), sm, sm_z]
  | succ m ih =>
    intro j n acc h1 h2
    obtain ⟨n, rfl⟩ : ∃ n', n = n' + 1 := ⟨n - 1, by omega⟩
    rw [lX12_kept_9, l_5, R.at (by omega), Option.bind_some, h5, if_neg (pI_nle (by omega) (by omega)), l_0, R.loaf (by omega) (by omega), R.loaf (by omega) (by omega), Option.bind_some, Option.bind_some, l_1, nI_ad, ih (j + 1) n _ (by omega) (by omega), ih (j + 1) n _ (by omega) (by omega), sm_s]
    cases b2 <;> cases b3 <;> simp only [if_true, Bool.false_eq_true, if_false, false_implies, true_implies, forall_const, and_true, true_and]
    · by_cases e : ρ (201 + 7 * (j % 200) + 5) = x
      · rw [if_pos e, if_pos e]
      · rw [if_neg e, if_neg e]
    · by_cases e : ρ (201 + 7 * (j % 200) + 0) = x
      · rw [if_pos e, if_pos e]
      · rw [if_neg e, if_neg e]
    · by_cases e : ρ (201 + 7 * (j % 200) + 0) = x
      · rw [if_pos e]
        by_cases e2 : ρ (201 + 7 * (j % 200) + 5) = x
        · rw [if_pos e2, if_pos ⟨e, e2⟩]
        · rw [if_neg e2, if_neg (fun q => e2 q.2)]
      · rw [if_neg e, if_neg (fun q => e q.1)]
def sK (ρ : Nat → Int32) (c : Nat) (x : Int32) (b2 b3 : Bool) : Int32 := sm (fun i => if (b2 = true → ρ (201 + 7 * i + 0) = x) ∧ (b3 = true → ρ (201 + 7 * i + 5) = x) then nI 1 else nI 0) 0 (min c 200)
theorem X12_kept {N : Mem} {ρ : Nat → Int32} {c : Nat} (R : Ro N ρ) (hc : c < 2 ^ 30) (h5 : ρ 5 = nI c) (x : Int32) (b2 b3 : Bool) : fX12_kept x b2 b3 N = some (sK ρ c x b2 b3) := by
  unfold fX12_kept
  have h2 : min c 200 ≤ 200 := Nat.min_le_right _ _
  rw [first_r R hc h5, Option.bind_some, l_0, kept_r R hc h5 x b2 b3 (min c 200) (c - 200) FUEL _ (by omega) (fuel8 (by omega)), Option.bind_some, Int32.add_comm, sm_z]
  congr 1
  exact sm_k (fun i => if (b2 = true → ρ (201 + 7 * i + 0) = x) ∧ (b3 = true → ρ (201 + 7 * i + 5) = x) then nI 1 else nI 0) c
theorem LL.cb {M : Mem} {ρ : Nat → Int32} {c : Nat} (H : LL M ρ c) {k k2 : Nat} (x y : Int32) (hk : k < 7) (hk2 : k2 < 7) : fX6_countWithBoth 23 (nI k) x (nI k2) y M = some (sm (fun i => if ρ (201 + 7 * i + k) = x ∧ ρ (201 + 7 * i + k2) = y then nI 1 else nI 0) 0 (min c 200)) := by
  have h2 : min c 200 ≤ 200 := Nat.min_le_right _ _
  have h3 : min c 200 ≤ c := Nat.min_le_left _ _
  unfold fX6_countWithBoth
  rw [H.keptn, Option.bind_some]
  show (fX7_countBoth 24 7 200 _ _ _ _ _ M).bind _ = _
  rw [X7_both x y (by omega) h2 (fuel8 (by omega)) hk hk2 (by omega), Option.bind_some]
  congr 1
  refine sm_cg _ 0 fun i _ h4 => ?_
  rw [show 24 + (2 + k) = 26 + k by omega, show 24 + (2 + k2) = 26 + k2 by omega, H.2.2.2.2 i k (by omega) (by omega) hk, H.2.2.2.2 i k2 (by omega) (by omega) hk2]
theorem LL.cw {M : Mem} {ρ : Nat → Int32} {c : Nat} (H : LL M ρ c) {k : Nat} (x : Int32) (hk : k < 7) : fX6_countWith 23 (nI k) x M = some (sm (fun i => if ρ (201 + 7 * i + k) = x then nI 1 else nI 0) 0 (min c 200)) := by
  have h2 : min c 200 ≤ 200 := Nat.min_le_right _ _
  have h3 : min c 200 ≤ c := Nat.min_le_left _ _
  unfold fX6_countWith
  rw [H.keptn, Option.bind_some]
  show (fX7_count 24 7 200 _ _ _ M).bind _ = _
  rw [X7_count x (by omega) h2 (fuel8 (by omega)) hk (by omega), Option.bind_some]
  congr 1
  refine sm_cg _ 0 fun i _ h4 => ?_
  rw [show 24 + (2 + k) = 26 + k by omega, H.2.2.2.2 i k (by omega) (by omega) hk]
theorem sK_o (ρ : Nat → Int32) (c : Nat) (x : Int32) : sK ρ c x true false = sm (fun i => if ρ (201 + 7 * i + 0) = x then nI 1 else nI 0) 0 (min c 200) := by
  unfold sK
  simp only [Bool.false_eq_true, false_implies, true_implies, forall_const, and_true]
theorem sK_h (ρ : Nat → Int32) (c : Nat) (x : Int32) : sK ρ c x false true = sm (fun i => if ρ (201 + 7 * i + 5) = x then nI 1 else nI 0) 0 (min c 200) := by
  unfold sK
  simp only [Bool.false_eq_true, false_implies, true_implies, forall_const, true_and]
theorem sK_b (ρ : Nat → Int32) (c : Nat) (x : Int32) : sK ρ c x true true = sm (fun i => if ρ (201 + 7 * i + 0) = x ∧ ρ (201 + 7 * i + 5) = x then nI 1 else nI 0) 0 (min c 200) := by
  unfold sK
  simp only [true_implies, forall_const]
/-! balances -/
theorem bal_r {N : Mem} {ρ : Nat → Int32} {c : Nat} (R : Ro N ρ) (hc : c < 2 ^ 30) (h5 : ρ 5 = nI c) (x y : Int32) : ∀ (m j n : Nat) (acc : Int32), j + m = c → m < n → lX12_balanceOf_8 x y N n acc (nI j) = some (acc + sm (fun i => (if ρ (201 + 7 * (i % 200) + 1) = y ∧ ρ (201 + 7 * (i % 200) + 0) = x then nI 1 else nI 0) - (if ρ (201 + 7 * (i % 200) + 1) = y ∧ ρ (201 + 7 * (i % 200) + 5) = x then nI 1 else nI 0)) j m) := by
  intro m
  induction m with
  | zero =>
    intro j n acc h1 h2
    obtain ⟨n, rfl⟩ : ∃ n', n = n' + 1 := ⟨n - 1, by omega⟩
    rw [lX12_balanceOf_8, l_5, R.at (by omega), Option.bind_some, h5, if_pos (pI_le (by omega) (by omega)), sm, sm_z]
  | succ m ih =>
    intro j n acc h1 h2
    obtain ⟨n, rfl⟩ : ∃ n', n = n' + 1 := ⟨n - 1, by omega⟩
    rw [lX12_balanceOf_8, l_5, R.at (by omega), Option.bind_some, h5, if_neg (pI_nle (by omega) (by omega)), l_0, l_1, R.loaf (by omega) (by omega), Option.bind_some, R.loaf (by omega) (by omega), Option.bind_some, R.loaf (by omega) (by omega), nI_ad]
    by_cases e1 : ρ (201 + 7 * (j % 200) + 1) = y
    · rw [if_pos e1]
      by_cases e2 : ρ (201 + 7 * (j % 200) + 0) = x
      · rw [if_pos e2, Option.bind_some, Option.bind_some]
        by_cases e3 : ρ (201 + 7 * (j % 200) + 5) = x
        · rw [if_pos e3, ih (j + 1) n _ (by omega) (by omega), sm_s, if_pos ⟨e1, e2⟩, if_pos ⟨e1, e3⟩]
        · rw [if_neg e3, ih (j + 1) n _ (by omega) (by omega), sm_s, if_pos ⟨e1, e2⟩, if_neg (fun q => e3 q.2)]
      · rw [if_neg e2, Option.bind_some, Option.bind_some]
        by_cases e3 : ρ (201 + 7 * (j % 200) + 5) = x
        · rw [if_pos e3, ih (j + 1) n _ (by omega) (by omega), sm_s, if_neg (fun q => e2 q.2), if_pos ⟨e1, e3⟩]
        · rw [if_neg e3, ih (j + 1) n _ (by omega) (by omega), sm_s, if_neg (fun q => e2 q.2), if_neg (fun q => e3 q.2)]
    · rw [if_neg e1, ih (j + 1) n _ (by omega) (by omega), sm_s, if_neg (fun q => e1 q.1), if_neg (fun q => e1 q.1), Int32.sub_self, l_0, sm_z]
def Ba (ρ : Nat → Int32) (c : Nat) (x y : Int32) : Int32 := sm (fun i => if ρ (201 + 7 * i + 1) = y ∧ ρ (201 + 7 * i + 0) = x then nI 1 else nI 0) 0 (min c 200) - sm (fun i => if ρ (201 + 7 * i + 1) = y ∧ ρ (201 + 7 * i + 5) = x then nI 1 else nI 0) 0 (min c 200)
theorem Ro.bal {N : Mem} {ρ : Nat → Int32} {c : Nat} (R : Ro N ρ) (hc : c < 2 ^ 30) (h5 : ρ 5 = nI c) (x y : Int32) : fX12_balanceOf x y N = some (Ba ρ c x y) := by
  unfold fX12_balanceOf
  have h2 : min c 200 ≤ 200 := Nat.min_le_right _ _
  rw [first_r R hc h5, Option.bind_some, l_0, bal_r R hc h5 x y (min c 200) (c - 200) FUEL _ (by omega) (fuel8 (by omega)), Option.bind_some, Int32.add_comm, sm_z, sm_k (fun i => (if ρ (201 + 7 * i + 1) = y ∧ ρ (201 + 7 * i + 0) = x then nI 1 else nI 0) - (if ρ (201 + 7 * i + 1) = y ∧ ρ (201 + 7 * i + 5) = x then nI 1 else nI 0)) c, sm_sub]
  rfl
theorem LL.bal {M : Mem} {ρ : Nat → Int32} {c : Nat} (H : LL M ρ c) (x y : Int32) : fX6_balanceOf 23 x y M = some (Ba ρ c x y) := by
  unfold fX6_balanceOf
  rw [l_1, l_0, l_5, H.cb y x (by omega) (by omega), Option.bind_some, H.cb y x (by omega) (by omega), Option.bind_some]
  rfl
/-! loaves on the shelf, loaves with others -/
theorem kw_r {N : Mem} {ρ : Nat → Int32} {c : Nat} (R : Ro N ρ) (hc : c < 2 ^ 30) (h5 : ρ 5 = nI c) (b1 : Bool) : ∀ (m j n : Nat) (acc : Int32), j + m = c → m < n → lX12_keptWith_7 b1 N n acc (nI j) = some (acc + sm (fun i => if b1 = true then (if ρ (201 + 7 * (i % 200) + 5) = nI 8 then nI 1 else nI 0) else (if (nI 0 ≤ ρ (201 + 7 * (i % 200) + 5) ∧ ρ (201 + 7 * (i % 200) + 5) ≤ nI 7) ∧ ρ (201 + 7 * (i % 200) + 5) ≠ ρ (201 + 7 * (i % 200) + 0) then nI 1 else nI 0)) j m) := by
  intro m
  induction m with
  | zero =>
    intro j n acc h1 h2
    obtain ⟨n, rfl⟩ : ∃ n', n = n' + 1 := ⟨n - 1, by omega⟩
    rw [lX12_keptWith_7, l_5, R.at (by omega), Option.bind_some, h5, if_pos (pI_le (by omega) (by omega)), sm, sm_z]
  | succ m ih =>
    intro j n acc h1 h2
    obtain ⟨n, rfl⟩ : ∃ n', n = n' + 1 := ⟨n - 1, by omega⟩
    rw [lX12_keptWith_7, l_5, R.at (by omega), Option.bind_some, h5, if_neg (pI_nle (by omega) (by omega)), R.loaf (by omega) (by omega), Option.bind_some, l_0, l_1, l_8, l_7, R.loaf (by omega) (by omega), nI_ad, ih (j + 1) n _ (by omega) (by omega), ih (j + 1) n _ (by omega) (by omega), sm_s]
    cases b1 with
    | true =>
      rw [if_pos rfl, if_pos rfl]
      by_cases e : ρ (201 + 7 * (j % 200) + 5) = nI 8
      · rw [if_pos e, if_pos e]
      · rw [if_neg e, if_neg e]
    | false =>
      rw [if_neg (by decide), if_neg (by decide)]
      unfold fX12_in
      by_cases e1 : ρ (201 + 7 * (j % 200) + 5) < nI 0
      · rw [if_pos e1, Option.bind_some, if_neg (by decide), if_neg (fun q => absurd q.1.1 (Int32.not_le.mpr e1))]
      · rw [if_neg e1]
        by_cases e2 : nI 7 < ρ (201 + 7 * (j % 200) + 5)
        · rw [if_pos e2, Option.bind_some, if_neg (by decide), if_neg (fun q => absurd q.1.2 (Int32.not_le.mpr e2))]
        · rw [if_neg e2, Option.bind_some, if_pos rfl, Option.bind_some]
          by_cases e3 : ρ (201 + 7 * (j % 200) + 5) = ρ (201 + 7 * (j % 200) + 0)
          · rw [if_pos e3, if_neg (fun q => q.2 e3)]
          · rw [if_neg e3, if_pos ⟨⟨Int32.not_lt.mp e1, Int32.not_lt.mp e2⟩, e3⟩]
theorem X12_kw {N : Mem} {ρ : Nat → Int32} {c : Nat} (R : Ro N ρ) (hc : c < 2 ^ 30) (h5 : ρ 5 = nI c) (b1 : Bool) : fX12_keptWith b1 N = some (sm (fun i => if b1 = true then (if ρ (201 + 7 * i + 5) = nI 8 then nI 1 else nI 0) else (if (nI 0 ≤ ρ (201 + 7 * i + 5) ∧ ρ (201 + 7 * i + 5) ≤ nI 7) ∧ ρ (201 + 7 * i + 5) ≠ ρ (201 + 7 * i + 0) then nI 1 else nI 0)) 0 (min c 200)) := by
  unfold fX12_keptWith
  have h2 : min c 200 ≤ 200 := Nat.min_le_right _ _
  rw [first_r R hc h5, Option.bind_some, l_0, kw_r R hc h5 b1 (min c 200) (c - 200) FUEL _ (by omega) (fuel8 (by omega)), Option.bind_some, Int32.add_comm, sm_z]
  congr 1
  exact sm_k (fun i => if b1 = true then (if ρ (201 + 7 * i + 5) = nI 8 then nI 1 else nI 0) else (if (nI 0 ≤ ρ (201 + 7 * i + 5) ∧ ρ (201 + 7 * i + 5) ≤ nI 7) ∧ ρ (201 + 7 * i + 5) ≠ ρ (201 + 7 * i + 0) then nI 1 else nI 0)) c
theorem ot_c {M : Mem} {ρ : Nat → Int32} {c : Nat} (H : LL M ρ c) (W : RLv ρ c) : ∀ (m j n : Nat) (acc : Int32), j + m = min c 200 → m < n → lX6_countWithOthers_4 23 M n acc (nI j) = some (acc + sm (fun i => if (nI 0 ≤ ρ (201 + 7 * i + 5) ∧ ρ (201 + 7 * i + 5) ≤ nI 7) ∧ ρ (201 + 7 * i + 5) ≠ ρ (201 + 7 * i + 0) then nI 1 else nI 0) j m) := by
  intro m
  have h3 : min c 200 ≤ 200 := Nat.min_le_right _ _
  have h4 : min c 200 ≤ c := Nat.min_le_left _ _
  induction m with
  | zero =>
    intro j n acc h1 h2
    obtain ⟨n, rfl⟩ : ∃ n', n = n' + 1 := ⟨n - 1, by omega⟩
    rw [lX6_countWithOthers_4, H.keptn, Option.bind_some, if_pos (pI_le (by omega) (by omega)), sm, sm_z]
  | succ m ih =>
    intro j n acc h1 h2
    obtain ⟨n, rfl⟩ : ∃ n', n = n' + 1 := ⟨n - 1, by omega⟩
    have g : ∀ k, k < 7 → fX7_get (23 + 1) 7 200 (nI j) (nI k) M = some (ρ (201 + 7 * j + k)) := fun k hk => H.gt (by omega) (by omega) hk
    rw [lX6_countWithOthers_4, H.keptn, Option.bind_some, if_neg (pI_nle (by omega) (by omega)), l_5, g 5 (by omega), Option.bind_some, l_0, g 0 (by omega), l_1, nI_ad, l_8, ng1, ih (j + 1) n _ (by omega) (by omega), ih (j + 1) n _ (by omega) (by omega), sm_s]
    rcases W j (by omega) (by omega) with e | ⟨x, hx, e⟩
    · rw [if_pos e, if_neg (fun q => absurd q.1.1 (by rw [e]; exact nle_ng (by omega))), sm_z]
    · rw [e, if_neg (nI_ng (by omega))]
      by_cases h8 : x = 8
      · subst h8
        rw [if_pos rfl, if_neg (fun q => absurd q.1.2 (pI_nle (by omega) (by omega))), sm_z]
      · rw [if_neg (pI_ne h8 (by omega) (by omega)), Option.bind_some]
        by_cases e3 : nI x = ρ (201 + 7 * j + 0)
        · rw [if_pos e3, if_neg (fun q => q.2 e3), sm_z]
        · rw [if_neg e3, if_pos ⟨⟨pI_le (by omega) (by omega), pI_le (by omega) (by omega)⟩, e3⟩]
theorem LL.others {M : Mem} {ρ : Nat → Int32} {c : Nat} (H : LL M ρ c) (W : RLv ρ c) : fX6_countWithOthers 23 M = some (sm (fun i => if (nI 0 ≤ ρ (201 + 7 * i + 5) ∧ ρ (201 + 7 * i + 5) ≤ nI 7) ∧ ρ (201 + 7 * i + 5) ≠ ρ (201 + 7 * i + 0) then nI 1 else nI 0) 0 (min c 200)) := by
  unfold fX6_countWithOthers
  have h2 : min c 200 ≤ 200 := Nat.min_le_right _ _
  rw [l_0, ot_c H W (min c 200) 0 FUEL _ (by omega) (fuel8 (by omega)), Option.bind_some, Int32.add_comm, sm_z]
/-! a household's batches -/
theorem hb_r {N : Mem} {ρ : Nat → Int32} {b : Nat} (R : Ro N ρ) (hb : b ≤ 20) (h7 : ρ 7 = nI b) (x : Int32) : ∀ (m j n : Nat) (acc : Int32), j + m = b → m < n → lX12_tellHouse_59 x N n acc (nI j) = some (acc + sm (fun i => if ρ (41 + 3 * i + 0) = x then nI 1 else nI 0) j m) := by
  intro m
  induction m with
  | zero =>
    intro j n acc h1 h2
    obtain ⟨n, rfl⟩ : ∃ n', n = n' + 1 := ⟨n - 1, by omega⟩
    rw [lX12_tellHouse_59, l_7, R.at (by omega), Option.bind_some, h7, if_pos (pI_le (by omega) (by omega)), sm, sm_z]
  | succ m ih =>
    intro j n acc h1 h2
    obtain ⟨n, rfl⟩ : ∃ n', n = n' + 1 := ⟨n - 1, by omega⟩
    rw [lX12_tellHouse_59, l_7, R.at (by omega), Option.bind_some, h7, if_neg (pI_nle (by omega) (by omega)), l_41, l_3, nI_ml', nI_ad, R.at (by omega), Option.bind_some, l_1, nI_ad, l_0, ih (j + 1) n _ (by omega) (by omega), ih (j + 1) n _ (by omega) (by omega), sm_s]
    by_cases e : ρ (41 + 3 * j + 0) = x
    · rw [if_pos e, if_pos (show ρ (41 + 3 * j) = x from e)]
    · rw [if_neg e, if_neg (show ¬ ρ (41 + 3 * j) = x from e)]
theorem BB.of {M : Mem} {ρ : Nat → Int32} {b : Nat} (H : BB M ρ b) (x : Int32) : fX1_countOf 9 x M = some (sm (fun i => if ρ (41 + 3 * i + 0) = x then nI 1 else nI 0) 0 b) := by
  unfold fX1_countOf
  have hb := H.1
  rw [H.2.1, l_0]
  show (fX7_count 10 3 20 _ _ _ M).bind _ = _
  rw [X7_count x (by omega) hb (fuel8 (by omega)) (by omega) (by omega), Option.bind_some]
  congr 1
  refine sm_cg _ 0 fun i _ h4 => ?_
  rw [show 10 + (2 + 0) = 12 + 0 from rfl, H.2.2.2 i 0 (by omega) (by omega)]
