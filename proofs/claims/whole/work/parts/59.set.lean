/-- a household's cell, changed on both sides -/
theorem RVn.setH {M M3 : Mem} {v : Nat} {row row3 : Nat → Int32} {h b g c : Nat} (H : RVn M v row h b g c) {i k : Nat} (hi : i < 8) (hk : k < 4) (x : Int32)
    (hc : ∀ a y, a < 32 → ¬ (a = 4 + k ∧ y = i) → M3.1 (v + a) y = M.1 (v + a) y) (hc1 : M3.1 (v + (4 + k)) i = x) (hr : ∀ j, j < 1601 → j ≠ 9 + 4 * i + k → row3 j = row j) (hr1 : row3 (9 + 4 * i + k) = x) : RVn M3 v row3 h b g c := by
  obtain ⟨a1, a2, a3, a4, a5, a6, a7, a8⟩ := H
  refine ⟨a1, ?_, ?_, ?_, fun i' k' hi' hk' => ?_, fun i' k' hi' hk' => ?_, fun i' k' hi' hk' => ?_, fun i' k' hi' hj' hk' => ?_⟩
  · rw [hc 1 1 (by omega) (by omega), hc 8 1 (by omega) (by omega), hc 14 1 (by omega) (by omega), hc 22 1 (by omega) (by omega)]; exact a2
  · rw [hr 0 (by omega) (by omega), hr 7 (by omega) (by omega), hr 8 (by omega) (by omega), hr 5 (by omega) (by omega)]; exact a3
  · rw [hc 0 4 (by omega) (by omega), hc 0 5 (by omega) (by omega), hc 0 6 (by omega) (by omega), hc 0 7 (by omega) (by omega), hc 22 2 (by omega) (by omega), hr 2 (by omega) (by omega), hr 1 (by omega) (by omega), hr 3 (by omega) (by omega), hr 4 (by omega) (by omega), hr 6 (by omega) (by omega)]
    exact a4
  · by_cases he : k' = k ∧ i' = i
    · obtain ⟨rfl, rfl⟩ := he
      rw [hc1, hr1]
    · rw [hc _ _ (by omega) (by omega), hr _ (by omega) (by omega)]; exact a5 i' k' hi' hk'
  · rw [hc _ _ (by omega) (by omega), hr _ (by omega) (by omega)]; exact a6 i' k' hi' hk'
  · rw [hc _ _ (by omega) (by omega), hr _ (by omega) (by omega)]; exact a7 i' k' hi' hk'
  · rw [hc _ _ (by omega) (by omega), hr _ (by omega) (by omega)]; exact a8 i' k' hi' hj' hk'
