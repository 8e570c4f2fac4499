/-! sums, dues, the next one: both sides -/
theorem sum_r {N : Mem} {ρ : Nat → Int32} {h k : Nat} (R : Ro N ρ) (h0 : ρ 0 = nI h) (hh : h ≤ 8) (hk : k < 4) : ∀ (m j n : Nat) (acc : Int32), j + m = h → m < n → lX12_sum_4 (nI k) N n acc (nI j) = some (acc + sm (fun i => ρ (9 + 4 * i + k)) j m) := by
  intro m
  induction m with
  | zero =>
    intro j n acc h1 h2
    obtain ⟨n, rfl⟩ : ∃ n', n = n' + 1 := ⟨n - 1, by omega⟩
    rw [lX12_sum_4, l_0, R.at (by omega), Option.bind_some, h0, if_pos (pI_le (by omega) (by omega)), sm, sm_z]
  | succ m ih =>
    intro j n acc h1 h2
    obtain ⟨n, rfl⟩ : ∃ n', n = n' + 1 := ⟨n - 1, by omega⟩
    rw [lX12_sum_4, l_0, R.at (by omega), Option.bind_some, h0, if_neg (pI_nle (by omega) (by omega)), R.of (by omega) hk, Option.bind_some, l_1, nI_ad, ih (j + 1) n _ (by omega) (by omega), sm_s]
theorem exc_r {N : Mem} {ρ : Nat → Int32} {h : Nat} (R : Ro N ρ) (h0 : ρ 0 = nI h) (hh : h ≤ 8) : ∀ (m j n : Nat) (acc : Int32), j + m = h → m < n → lX12_excused_4 N n acc (nI j) = some (acc + sm (fun i => ρ (9 + 4 * i + 3)) j m) := by
  intro m
  induction m with
  | zero =>
    intro j n acc h1 h2
    obtain ⟨n, rfl⟩ : ∃ n', n = n' + 1 := ⟨n - 1, by omega⟩
    rw [lX12_excused_4, l_0, R.at (by omega), Option.bind_some, h0, if_pos (pI_le (by omega) (by omega)), sm, sm_z]
  | succ m ih =>
    intro j n acc h1 h2
    obtain ⟨n, rfl⟩ : ∃ n', n = n' + 1 := ⟨n - 1, by omega⟩
    rw [lX12_excused_4, l_0, R.at (by omega), Option.bind_some, h0, if_neg (pI_nle (by omega) (by omega)), l_3, R.of (by omega) (by omega), Option.bind_some, l_1, nI_ad, ih (j + 1) n _ (by omega) (by omega), sm_s]
def sH (ρ : Nat → Int32) (h k : Nat) : Int32 := sm (fun i => ρ (9 + 4 * i + k)) 0 h
theorem X12_sum {N : Mem} {ρ : Nat → Int32} {h k : Nat} (R : Ro N ρ) (h0 : ρ 0 = nI h) (hh : h ≤ 8) (hk : k < 4) : fX12_sum (nI k) N = some (sH ρ h k) := by
  unfold fX12_sum
  rw [l_0, sum_r R h0 hh hk h 0 FUEL _ (by omega) (fuel8 (by omega)), Option.bind_some, Int32.add_comm, sm_z]
  rfl
theorem X12_exc {N : Mem} {ρ : Nat → Int32} {h : Nat} (R : Ro N ρ) (h0 : ρ 0 = nI h) (hh : h ≤ 8) : fX12_excused N = some (sH ρ h 3) := by
  unfold fX12_excused
  rw [l_0, exc_r R h0 hh h 0 FUEL _ (by omega) (fuel8 (by omega)), Option.bind_some, Int32.add_comm, sm_z]
  rfl
theorem HH.sum {M : Mem} {ρ : Nat → Int32} {h k : Nat} (H : HH M ρ h) (hk : k < 4) : fX7_sum 3 4 8 (nI h) (nI k) M = some (sH ρ h k) := by
  have hh := H.1
  rw [X7_sum (by omega) hh (fuel8 (by omega)) hk (by omega)]
  congr 1
  exact sm_cg h 0 fun i _ h2 => by rw [show 3 + (2 + k) = 5 + k by omega]; exact H.2.2.2 i k (by omega) hk
theorem HH.exc {M : Mem} {ρ : Nat → Int32} {h : Nat} (H : HH M ρ h) (W : RH ρ h) : fX7_count 3 4 8 (nI h) (nI 3) (nI 1) M = some (sH ρ h 3) := by
  have hh := H.1
  rw [X7_count _ (by omega) hh (fuel8 (by omega)) (by omega) (by omega)]
  congr 1
  refine sm_cg h 0 fun i _ h2 => ?_
  obtain ⟨e, he, he2⟩ := W.2.2 i (by omega)
  have h5 : M.1 (3 + (2 + 3)) i = nI e := by rw [← he2]; exact H.2.2.2 i 3 (by omega) (by omega)
  rw [h5, he2]
  rcases (show e = 0 ∨ e = 1 by omega) with rfl | rfl
  · rw [if_neg (pI_ne (by omega) (by omega) (by omega))]
  · rw [if_pos rfl]
/-- a household's due -/
def Du (ρ : Nat → Int32) (h i : Nat) : Int64 := (sH ρ h 1).toInt64 * (ρ (9 + 4 * i + 2)).toInt64 - (sH ρ h 2).toInt64 * (ρ (9 + 4 * i + 1)).toInt64
theorem HH.due {M : Mem} {ρ : Nat → Int32} {h i : Nat} (H : HH M ρ h) (hi : i < h) : fX4_dueOf 2 (nI i) M = some (Du ρ h i) := by
  unfold fX4_dueOf
  rw [H.2.1, l_1, l_2]
  show (fX7_sum 3 4 8 (nI h) (nI 1) M).bind _ = _
  rw [H.sum (by omega), Option.bind_some]
  show (fX7_sum 3 4 8 (nI h) (nI 2) M).bind _ = _
  rw [H.sum (by omega), Option.bind_some]
  show (fX7_get 3 4 8 (nI i) (nI 2) M).bind _ = _
  rw [H.gt hi (by omega), Option.bind_some]
  show (fX7_get 3 4 8 (nI i) (nI 1) M).bind _ = _
  rw [H.gt hi (by omega), Option.bind_some]
  rfl
theorem Ro.due {N : Mem} {ρ : Nat → Int32} {h i : Nat} (R : Ro N ρ) (h0 : ρ 0 = nI h) (hh : h ≤ 8) (hi : i < h) : fX12_dueOf (nI i) N = some (Du ρ h i) := by
  unfold fX12_dueOf
  rw [l_1, l_2, X12_sum R h0 hh (by omega), Option.bind_some, R.of (by omega) (by omega), Option.bind_some, X12_sum R h0 hh (by omega), Option.bind_some, R.of (by omega) (by omega), Option.bind_some]
  rfl
/-- the better one of the best so far and the household j -/
def bt (ρ : Nat → Int32) (h j : Nat) (b : Option Nat) : Option Nat := match b with | none => some j | some p => if Du ρ h j ≤ Du ρ h p then some p else some j
def enc (o : Option Nat) : Int32 := match o with | none => NG | some i => nI i
/-- the next one for wood, among the households from j on, the best so far b -/
def nx (ρ : Nat → Int32) (h : Nat) (z : Bool) : Nat → Nat → Option Nat → Option Nat
  | 0, _, b => b
  | m + 1, j, b => nx ρ h z m (j + 1) (if z = true ∨ ρ (9 + 4 * j + 3) = nI 0 then (bt ρ h j b) else b)
theorem nx_c {M : Mem} {ρ : Nat → Int32} {h : Nat} (H : HH M ρ h) (z : Bool) : ∀ (m j n : Nat) (b : Option Nat) (y : Int64), j + m = h → m < n → (∀ p, b = some p → p < h ∧ y = Du ρ h p) → lX4_nextOne_33 2 M z n (enc b) y (nI j) = some (enc (nx ρ h z m j b)) := by
  intro m
  have hh := H.1
  induction m with
  | zero =>
    intro j n b y h1 h2 hb
    obtain ⟨n, rfl⟩ : ∃ n', n = n' + 1 := ⟨n - 1, by omega⟩
    rw [lX4_nextOne_33, H.2.1, if_pos (pI_le (by omega) (by omega)), nx]
  | succ m ih =>
    intro j n b y h1 h2 hb
    obtain ⟨n, rfl⟩ : ∃ n', n = n' + 1 := ⟨n - 1, by omega⟩
    have g : fX7_get (2 + 1) 4 8 (nI j) (nI 3) M = some (ρ (9 + 4 * j + 3)) := H.gt (by omega) (by omega)
    have inner : (fX4_dueOf 2 (nI j) M).bind (fun v11 => if enc b = (-1 : Int32) then lX4_nextOne_33 2 M z n (nI j) v11 (nI (j + 1)) else if v11 ≤ y then lX4_nextOne_33 2 M z n (enc b) y (nI (j + 1)) else lX4_nextOne_33 2 M z n (nI j) v11 (nI (j + 1))) = some (enc (nx ρ h z m (j + 1) (bt ρ h j b))) := by
      rw [H.due (by omega), Option.bind_some, show (-1 : Int32) = NG from rfl]
      cases b with
      | none =>
        rw [if_pos (show enc none = NG from rfl)]
        exact ih (j + 1) n (some j) _ (by omega) (by omega) (fun p hp => by cases hp; exact ⟨by omega, rfl⟩)
      | some p =>
        obtain ⟨hp1, hp2⟩ := hb p rfl
        rw [if_neg (show ¬ enc (some p) = NG from nI_ng (by omega)), hp2]
        by_cases hd : Du ρ h j ≤ Du ρ h p
        · rw [if_pos hd, bt]
          rw [if_pos hd]
          exact ih (j + 1) n (some p) _ (by omega) (by omega) (fun p' hp => by cases hp; exact ⟨hp1, rfl⟩)
        · rw [if_neg hd, bt]
          rw [if_neg hd]
          exact ih (j + 1) n (some j) _ (by omega) (by omega) (fun p' hp => by cases hp; exact ⟨by omega, rfl⟩)
    rw [lX4_nextOne_33, H.2.1, if_neg (pI_nle (by omega) (by omega)), l_1, l_3, nI_ad, g, Option.bind_some, nx]
    cases z with
    | true => rw [if_pos rfl, if_pos (Or.inl rfl)]; exact inner
    | false =>
      rw [if_neg (by decide), l_0]
      by_cases he : ρ (9 + 4 * j + 3) = nI 0
      · rw [if_pos he, if_pos (Or.inr he)]; exact inner
      · rw [if_neg he, if_neg (by rintro (q | q); exact absurd q (by decide); exact he q)]
        exact ih (j + 1) n b y (by omega) (by omega) hb
theorem nx_r {N : Mem} {ρ : Nat → Int32} {h : Nat} (R : Ro N ρ) (h0 : ρ 0 = nI h) (hh : h ≤ 8) (z : Bool) : ∀ (m j n : Nat) (b : Option Nat), j + m = h → m < n → (∀ p, b = some p → p < h) → lX12_next_23 N z n (enc b) (nI j) = some (enc (nx ρ h z m j b)) := by
  intro m
  induction m with
  | zero =>
    intro j n b h1 h2 hb
    obtain ⟨n, rfl⟩ : ∃ n', n = n' + 1 := ⟨n - 1, by omega⟩
    rw [lX12_next_23, l_0, R.at (by omega), Option.bind_some, h0, if_pos (pI_le (by omega) (by omega)), nx]
  | succ m ih =>
    intro j n b h1 h2 hb
    obtain ⟨n, rfl⟩ : ∃ n', n = n' + 1 := ⟨n - 1, by omega⟩
    have inner : (if enc b = (-1 : Int32) then lX12_next_23 N z n (nI j) (nI (j + 1)) else (fX12_dueOf (nI j) N).bind fun v17 => (fX12_dueOf (enc b) N).bind fun v19 => if v17 ≤ v19 then lX12_next_23 N z n (enc b) (nI (j + 1)) else lX12_next_23 N z n (nI j) (nI (j + 1))) = some (enc (nx ρ h z m (j + 1) (bt ρ h j b))) := by
      rw [show (-1 : Int32) = NG from rfl]
      cases b with
      | none =>
        rw [if_pos (show enc none = NG from rfl)]
        exact ih (j + 1) n (some j) (by omega) (by omega) (fun p hp => by cases hp; omega)
      | some p =>
        have hp1 := hb p rfl
        rw [if_neg (show ¬ enc (some p) = NG from nI_ng (by omega)), R.due h0 hh (by omega), Option.bind_some, show fX12_dueOf (enc (some p)) N = some (Du ρ h p) from R.due h0 hh hp1, Option.bind_some]
        by_cases hd : Du ρ h j ≤ Du ρ h p
        · rw [if_pos hd, bt]
          rw [if_pos hd]
          exact ih (j + 1) n (some p) (by omega) (by omega) (fun p' hp => by cases hp; exact hp1)
        · rw [if_neg hd, bt]
          rw [if_neg hd]
          exact ih (j + 1) n (some j) (by omega) (by omega) (fun p' hp => by cases hp; omega)
    rw [lX12_next_23, l_0, R.at (by omega), Option.bind_some, h0, if_neg (pI_nle (by omega) (by omega)), l_1, l_3, nI_ad, R.of (by omega) (by omega), Option.bind_some, nx]
    cases z with
    | true => rw [if_pos rfl, if_pos (Or.inl rfl)]; exact inner
    | false =>
      rw [if_neg (by decide)]
      by_cases he : ρ (9 + 4 * j + 3) = nI 0
      · rw [if_pos he, if_pos (Or.inr he)]; exact inner
      · rw [if_neg he, if_neg (by rintro (q | q); exact absurd q (by decide); exact he q)]
        exact ih (j + 1) n b (by omega) (by omega) hb
theorem nx_lt {ρ : Nat → Int32} {h : Nat} (z : Bool) : ∀ (m j : Nat) (b : Option Nat), j + m = h → (∀ p, b = some p → p < h) → ∀ p, nx ρ h z m j b = some p → p < h := by
  intro m
  induction m with
  | zero => intro j b h1 hb p hp; exact hb p hp
  | succ m ih =>
    intro j b h1 hb p hp
    rw [nx] at hp
    refine ih (j + 1) _ (by omega) (fun p' hp' => ?_) p hp
    split at hp'
    · cases b with
      | none => cases hp'; omega
      | some q =>
        rw [bt] at hp'
        split at hp'
        · exact hb p' hp'
        · cases hp'; omega
    · exact hb p' hp'
theorem nx_some {ρ : Nat → Int32} {h : Nat} (z : Bool) : ∀ (m j : Nat) (b : Option Nat), j + m = h → (b ≠ none ∨ ∃ i, j ≤ i ∧ i < h ∧ (z = true ∨ ρ (9 + 4 * i + 3) = nI 0)) → nx ρ h z m j b ≠ none := by
  intro m
  induction m with
  | zero =>
    intro j b h1 hb
    rcases hb with hb | ⟨i, h2, h3, _⟩
    · exact hb
    · omega
  | succ m ih =>
    intro j b h1 hb
    rw [nx]
    refine ih (j + 1) _ (by omega) ?_
    by_cases hc : z = true ∨ ρ (9 + 4 * j + 3) = nI 0
    · left
      rw [if_pos hc]
      cases b with
      | none => intro q; cases q
      | some p => rw [bt]; split <;> intro q <;> cases q
    · rw [if_neg hc]
      rcases hb with hb | ⟨i, h2, h3, h4⟩
      · exact Or.inl hb
      · refine Or.inr ⟨i, ?_, h3, h4⟩
        rcases Nat.lt_or_eq_of_le h2 with h5 | h5
        · omega
        · subst h5; exact absurd h4 hc
def nxt (ρ : Nat → Int32) (h : Nat) : Option Nat := nx ρ h (decide (sH ρ h 3 = nI h)) h 0 none
theorem HH.next {M : Mem} {ρ : Nat → Int32} {h : Nat} (H : HH M ρ h) (W : RH ρ h) : fX4_nextOne 2 M = some (enc (nxt ρ h)) := by
  unfold fX4_nextOne
  rw [H.2.1, l_1, l_3]
  show (fX7_count 3 4 8 (nI h) (nI 3) (nI 1) M).bind _ = _
  rw [H.exc W, Option.bind_some]
  have e : (if sH ρ h 3 = nI h then (some true : Option Bool) else some false) = some (decide (sH ρ h 3 = nI h)) := by
    by_cases hz : sH ρ h 3 = nI h
    · rw [if_pos hz, decide_eq_true hz]
    · rw [if_neg hz, decide_eq_false hz]
  rw [e, Option.bind_some, show (-(nI 1) : Int32) = enc none from rfl, l_0, nx_c H _ h 0 FUEL none _ (by omega) (fuel8 (by have := H.1; omega)) (fun p hp => by cases hp)]
  rfl
theorem Ro.next {N : Mem} {ρ : Nat → Int32} {h : Nat} (R : Ro N ρ) (h0 : ρ 0 = nI h) (hh : h ≤ 8) : fX12_next N = some (enc (nxt ρ h)) := by
  unfold fX12_next
  rw [X12_exc R h0 hh, Option.bind_some, l_0, R.at (by omega), Option.bind_some, h0]
  have e : (if sH ρ h 3 = nI h then (some true : Option Bool) else some false) = some (decide (sH ρ h 3 = nI h)) := by
    by_cases hz : sH ρ h 3 = nI h
    · rw [if_pos hz, decide_eq_true hz]
    · rw [if_neg hz, decide_eq_false hz]
  rw [e, Option.bind_some, show (-1 : Int32) = enc none from rfl, nx_r R h0 hh _ h 0 FUEL none (by omega) (fuel8 (by omega)) (fun p hp => by cases hp)]
  rfl
theorem sm_one {f : Nat → Int32} : ∀ (m a : Nat), (∀ i, a ≤ i → i < a + m → f i = nI 1) → sm f a m = nI m := by
  intro m
  induction m with
  | zero => intro a _; rfl
  | succ m ih =>
    intro a h
    rw [sm, h a (by omega) (by omega), ih (a + 1) (fun i h1 h2 => h i (by omega) (by omega)), nI_ad, Nat.add_comm]
/-- where there is a household, there is a next one -/
theorem nxt_some {ρ : Nat → Int32} {h : Nat} (W : RH ρ h) (hh : 0 < h) : ∃ p, p < h ∧ nxt ρ h = some p := by
  have h1 : nxt ρ h ≠ none := by
    refine nx_some _ h 0 none (by omega) (Or.inr ?_)
    by_cases hz : sH ρ h 3 = nI h
    · exact ⟨0, by omega, hh, Or.inl (decide_eq_true hz)⟩
    · have : ¬ ∀ i, i < h → ρ (9 + 4 * i + 3) = nI 1 := fun q => hz (sm_one h 0 fun i _ h2 => q i (by omega))
      by_cases hx : ∃ i, i < h ∧ ρ (9 + 4 * i + 3) = nI 0
      · obtain ⟨i, h2, h3⟩ := hx
        exact ⟨i, by omega, h2, Or.inr h3⟩
      · exact absurd (fun i hi => by
          obtain ⟨e, he, he2⟩ := W.2.2 i hi
          rcases (show e = 0 ∨ e = 1 by omega) with rfl | rfl
          · exact absurd ⟨i, hi, he2⟩ hx
          · exact he2) this
  cases hn : nxt ρ h with
  | none => exact absurd hn h1
  | some p => exact ⟨p, nx_lt _ h 0 none (by omega) (fun p hp => by cases hp) p hn, rfl⟩
