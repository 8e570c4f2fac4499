theorem joins_m {M : Mem} {h : Nat} (hh : h < 8) (hc : M.1 179 0 = nI h) (x : Int32) : fX12_joins x M = some (nI h, mput (mput (mput (mput (mput M 179 (9 + 4 * h + 0) x) 179 (9 + 4 * h + 1) 0) 179 (9 + 4 * h + 2) 0) 179 (9 + 4 * h + 3) 0) 179 0 (nI (h + 1))) := by
  unfold fX12_joins
  rw [show ald (M.1 179) 1601 0 = some (nI h) from by rw [show ald (M.1 179) 1601 0 = some (M.1 179 0) from ald_n (j := 0) (by omega) (by omega), hc], Option.bind_some]
  rw [show fX12_lays (nI h) 0 x M = some (mput M 179 (9 + 4 * h + 0) x) from X12_lays' (k := 0) hh (by omega), Option.bind_some]
  rw [show fX12_lays (nI h) 1 0 (mput M 179 (9 + 4 * h + 0) x) = some _ from X12_lays' (k := 1) hh (by omega), Option.bind_some]
  rw [show fX12_lays (nI h) 2 0 (mput (mput M 179 (9 + 4 * h + 0) x) 179 (9 + 4 * h + 1) 0) = some _ from X12_lays' (k := 2) hh (by omega), Option.bind_some]
  rw [show fX12_lays (nI h) 3 0 (mput (mput (mput M 179 (9 + 4 * h + 0) x) 179 (9 + 4 * h + 1) 0) 179 (9 + 4 * h + 2) 0) = some _ from X12_lays' (k := 3) hh (by omega), Option.bind_some]
  obtain ⟨N, hN⟩ : ∃ N, N = mput (mput (mput (mput M 179 (9 + 4 * h + 0) x) 179 (9 + 4 * h + 1) 0) 179 (9 + 4 * h + 2) 0) 179 (9 + 4 * h + 3) 0 := ⟨_, rfl⟩
  rw [← hN]
  have e : N.1 179 0 = nI h := by rw [hN, mput_at, if_neg (by omega), mput_at, if_neg (by omega), mput_at, if_neg (by omega), mput_at, if_neg (by omega)]; exact hc
  rw [show ald (N.1 179) 1601 0 = some (N.1 179 0) from ald_n (j := 0) (by omega) (by omega), e, Option.bind_some, show nI h + (1 : Int32) = nI (h + 1) from nI_ad h 1, show ast N 179 1601 0 (nI (h + 1)) = some (mput N 179 0 (nI (h + 1))) from ast_n (j := 0) (by omega) (by omega)]
  rfl
/-- a household more, on both sides -/
theorem RVn.addH {M M3 : Mem} {v : Nat} {row row3 : Nat → Int32} {h b g c : Nat} (H : RVn M v row h b g c) (hh : h < 8) (f : Nat → Int32)
    (hc : ∀ a y, a < 32 → ¬ (a = 1 ∧ y = 1) → ¬ (4 ≤ a ∧ a < 8 ∧ y = h) → M3.1 (v + a) y = M.1 (v + a) y) (hc0 : M3.1 (v + 1) 1 = nI (h + 1)) (hc1 : ∀ k, k < 4 → M3.1 (v + (4 + k)) h = f k) (hr : ∀ j, j < 1601 → j ≠ 0 → (j < 9 + 4 * h ∨ 9 + 4 * h + 4 ≤ j) → row3 j = row j) (hr0 : row3 0 = nI (h + 1)) (hr1 : ∀ k, k < 4 → row3 (9 + 4 * h + k) = f k) : RVn M3 v row3 (h + 1) b g c := by
  obtain ⟨a1, a2, a3, a4, a5, a6, a7, a8⟩ := H
  refine ⟨⟨by omega, a1.2⟩, ?_, ?_, ?_, fun i' k' hi' hk' => ?_, fun i' k' hi' hk' => ?_, fun i' k' hi' hk' => ?_, fun i' k' hi' hj' hk' => ?_⟩
  · rw [hc0, hc 8 1 (by omega) (by omega) (by omega), hc 14 1 (by omega) (by omega) (by omega), hc 22 1 (by omega) (by omega) (by omega)]; exact ⟨rfl, a2.2⟩
  · rw [hr0, hr 7 (by omega) (by omega) (by omega), hr 8 (by omega) (by omega) (by omega), hr 5 (by omega) (by omega) (by omega)]; exact ⟨rfl, a3.2⟩
  · rw [hc 0 4 (by omega) (by omega) (by omega), hc 0 5 (by omega) (by omega) (by omega), hc 0 6 (by omega) (by omega) (by omega), hc 0 7 (by omega) (by omega) (by omega), hc 22 2 (by omega) (by omega) (by omega), hr 2 (by omega) (by omega) (by omega), hr 1 (by omega) (by omega) (by omega), hr 3 (by omega) (by omega) (by omega), hr 4 (by omega) (by omega) (by omega), hr 6 (by omega) (by omega) (by omega)]
    exact a4
  · by_cases he : i' = h
    · subst he
      rw [hc1 k' hk', hr1 k' hk']
    · rw [hc _ _ (by omega) (by omega) (by omega), hr _ (by omega) (by omega) (by omega)]; exact a5 i' k' (by omega) hk'
  · rw [hc _ _ (by omega) (by omega) (by omega), hr _ (by omega) (by omega) (by omega)]; exact a6 i' k' hi' hk'
  · rw [hc _ _ (by omega) (by omega) (by omega), hr _ (by omega) (by omega) (by omega)]; exact a7 i' k' hi' hk'
  · rw [hc _ _ (by omega) (by omega) (by omega), hr _ (by omega) (by omega) (by omega)]; exact a8 i' k' hi' hj' hk'
