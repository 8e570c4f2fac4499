/-! who has a mark: both sides -/
theorem mark_c {M : Mem} {v h : Nat} (hh : h ≤ 8) (hc : M.1 (v + 1) 1 = nI h) (x : Int32) : ∀ (k j n : Nat), j + k = h → k < n → (lX4_withMark_2 (v + 1) x M n (nI j) = some (Sum.inr ()) ∧ ∀ i, j ≤ i → i < h → M.1 (v + (4 + 0)) i ≠ x) ∨ ∃ i, j ≤ i ∧ i < h ∧ M.1 (v + (4 + 0)) i = x ∧ lX4_withMark_2 (v + 1) x M n (nI j) = some (Sum.inl (nI i)) ∧ ∀ i', j ≤ i' → i' < i → M.1 (v + (4 + 0)) i' ≠ x := by
  intro k
  induction k with
  | zero =>
    intro j n h1 h2
    obtain ⟨n, rfl⟩ : ∃ n', n = n' + 1 := ⟨n - 1, by omega⟩
    left
    unfold lX4_withMark_2
    rw [hc, if_pos ((mI_le (by omega) (by omega)).mpr (by omega))]
    exact ⟨rfl, fun i h3 h4 => absurd h4 (by omega)⟩
  | succ k ih =>
    intro j n h1 h2
    obtain ⟨n, rfl⟩ : ∃ n', n = n' + 1 := ⟨n - 1, by omega⟩
    have e : lX4_withMark_2 (v + 1) x M (n + 1) (nI j) = if M.1 (v + (4 + 0)) j = x then some (Sum.inl (nI j)) else lX4_withMark_2 (v + 1) x M n (nI (j + 1)) := by
      rw [lX4_withMark_2]
      rw [hc, if_neg (fun q => by rw [mI_le (by omega) (by omega)] at q; omega), show fX7_get (v + 1 + 1) 4 8 (nI j) 0 M = some (M.1 (v + 1 + 1 + (2 + 0)) j) from X7_get (k := 0) (by omega) (by omega) (by omega) (by omega), Option.bind_some, show nI j + (1 : Int32) = nI (j + 1) from nI_ad j 1]
    rw [e]
    by_cases hx : M.1 (v + (4 + 0)) j = x
    · right
      rw [if_pos hx]
      exact ⟨j, Nat.le_refl _, by omega, hx, rfl, fun i' h3 h4 => absurd h4 (by omega)⟩
    · rw [if_neg hx]
      rcases ih (j + 1) n (by omega) (by omega) with ⟨q1, q2⟩ | ⟨i, q1, q2, q3, q4, q5⟩
      · refine Or.inl ⟨q1, fun i h3 h4 => ?_⟩
        by_cases hi : i = j
        · rw [hi]; exact hx
        · exact q2 i (by omega) h4
      · refine Or.inr ⟨i, by omega, q2, q3, q4, fun i' h3 h4 => ?_⟩
        by_cases hi : i' = j
        · rw [hi]; exact hx
        · exact q5 i' (by omega) h4
theorem mark_m {M : Mem} {h : Nat} (hh : h ≤ 8) (hc : M.1 179 0 = nI h) (x y : Int32) : ∀ (k j n : Nat) (a : Bool), j + k = h → k < n → ∃ r, lX12_isTaken_5 x y M n a (nI j) = some r ∧ (r = true ↔ a = true ∨ ∃ i, j ≤ i ∧ i < h ∧ nI i ≠ y ∧ M.1 179 (9 + 4 * i + 0) = x) := by
  intro k
  induction k with
  | zero =>
    intro j n a h1 h2
    obtain ⟨n, rfl⟩ : ∃ n', n = n' + 1 := ⟨n - 1, by omega⟩
    refine ⟨a, ?_, ⟨Or.inl, fun q => q.elim id fun ⟨i, q1, q2, _⟩ => absurd q2 (by omega)⟩⟩
    rw [lX12_isTaken_5, show ald (M.1 179) 1601 0 = some (M.1 179 0) from ald_n (j := 0) (by omega) (by omega), Option.bind_some, hc, if_pos ((mI_le (by omega) (by omega)).mpr (by omega))]
  | succ k ih =>
    intro j n a h1 h2
    obtain ⟨n, rfl⟩ : ∃ n', n = n' + 1 := ⟨n - 1, by omega⟩
    have e : lX12_isTaken_5 x y M (n + 1) a (nI j) = lX12_isTaken_5 x y M n (a || (!decide (nI j = y) && decide (M.1 179 (9 + 4 * j + 0) = x))) (nI (j + 1)) := by
      rw [lX12_isTaken_5, show ald (M.1 179) 1601 0 = some (M.1 179 0) from ald_n (j := 0) (by omega) (by omega), Option.bind_some, hc, if_neg (fun q => by rw [mI_le (by omega) (by omega)] at q; omega), show fX12_of (nI j) 0 M = some (M.1 179 (9 + 4 * j + 0)) from X12_of' (k := 0) (by omega) (by omega), Option.bind_some, show nI j + (1 : Int32) = nI (j + 1) from nI_ad j 1]
      cases a
      · rw [if_neg (by decide)]
        by_cases h3 : nI j = y
        · rw [if_pos h3, decide_eq_true h3]; rfl
        · rw [if_neg h3, decide_eq_false h3]
          by_cases h4 : M.1 179 (9 + 4 * j + 0) = x
          · rw [if_pos h4, decide_eq_true h4]; rfl
          · rw [if_neg h4, decide_eq_false h4]; rfl
      · rw [if_pos rfl]; rfl
    obtain ⟨r, q1, q2⟩ := ih (j + 1) n (a || (!decide (nI j = y) && decide (M.1 179 (9 + 4 * j + 0) = x))) (by omega) (by omega)
    refine ⟨r, e.trans q1, q2.trans ?_⟩
    simp only [Bool.or_eq_true, Bool.and_eq_true, Bool.not_eq_true', decide_eq_false_iff_not, decide_eq_true_eq]
    constructor
    · rintro ((h3 | h3) | ⟨i, i1, i2, i3, i4⟩)
      · exact Or.inl h3
      · exact Or.inr ⟨j, Nat.le_refl _, by omega, h3.1, h3.2⟩
      · exact Or.inr ⟨i, by omega, i2, i3, i4⟩
    · rintro (h3 | ⟨i, i1, i2, i3, i4⟩)
      · exact Or.inl (Or.inl h3)
      · by_cases hi : i = j
        · subst hi; exact Or.inl (Or.inr ⟨i3, i4⟩)
        · exact Or.inr ⟨i, by omega, i2, i3, i4⟩
