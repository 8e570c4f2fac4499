/-! is there a household with this number: both sides -/
theorem who_c {M : Mem} {v h : Nat} (hc : M.1 (v + 1) 1 = nI h) (x : Int32) : fX9_whyNoHousehold v x M = some (if 0 ≤ x ∧ x < nI h then 0 else 1) := by
  unfold fX9_whyNoHousehold fX4_has
  rw [hc]
  by_cases h0 : x < 0
  · rw [if_pos h0, Option.bind_some, if_neg (by decide), if_neg (fun q => absurd q.1 (Int32.not_le.mpr h0))]
  · rw [if_neg h0]
    by_cases h1 : nI h ≤ x
    · rw [if_pos h1, Option.bind_some, if_neg (by decide), if_neg (fun q => absurd q.2 (Int32.not_lt.mpr h1))]
    · rw [if_neg h1, Option.bind_some, if_pos rfl, if_pos ⟨Int32.not_lt.mp h0, Int32.not_le.mp h1⟩]
theorem in_below {h : Nat} (hh : h ≤ 8) (x : Int32) : fX12_in x 0 (nI h - 1) = some (decide (0 ≤ x ∧ x < nI h)) := by
  unfold fX12_in
  by_cases h0 : x < 0
  · rw [if_pos h0, decide_eq_false (fun q => absurd q.1 (Int32.not_le.mpr h0))]
  · rw [if_neg h0]
    obtain ⟨e, hl⟩ := mI_of h0
    by_cases hz : h = 0
    · subst hz
      rw [if_pos (by
        rw [show nI 0 - (1 : Int32) = -1 from by decide, Int32.lt_iff_toInt_lt, e, nI_int hl]
        have : (-1 : Int32).toInt = -1 := by decide
        omega), decide_eq_false (fun q => by
        have := q.2
        rw [e, mI_lt hl (by omega)] at this
        omega)]
    · rw [show nI h - (1 : Int32) = nI (h - 1) from mI_sb (a := h) (b := 1) (by omega) (by omega)]
      by_cases h1 : x < nI h
      · rw [if_neg (fun q => by
          rw [e, mI_lt hl (by omega)] at h1
          rw [e, mI_lt (by omega) hl] at q
          omega), decide_eq_true ⟨Int32.not_lt.mp h0, h1⟩]
      · rw [if_pos (by
          rw [e, mI_lt hl (by omega)] at h1
          rw [e, mI_lt (by omega) hl]
          omega), decide_eq_false (fun q => h1 q.2)]
theorem who_m {M : Mem} {h : Nat} (hc : M.1 179 0 = nI h) (hh : h ≤ 8) (x : Int32) : fX12_isHouse x M = some (decide (0 ≤ x ∧ x < nI h)) := by
  unfold fX12_isHouse
  rw [show (0 : Int32) = nI 0 from rfl, ald_n (by omega) (by omega), Option.bind_some, hc]
  show (fX12_in x 0 (nI h - 1)).bind _ = _
  rw [in_below hh]
  rfl
/-- a household's number is a place -/
theorem who_n {x : Int32} {h : Nat} (hh : h ≤ 8) (H : 0 ≤ x ∧ x < nI h) : ∃ k, k < h ∧ x = nI k := by
  obtain ⟨e, hl⟩ := mI_of (Int32.not_lt.mpr H.1)
  refine ⟨_, ?_, e⟩
  have := H.2
  rw [e, mI_lt hl (by omega)] at this
  exact this
