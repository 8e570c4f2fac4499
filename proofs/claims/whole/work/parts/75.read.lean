/-! a loaf, a load, the whole: both sides -/
theorem le_pred {x : Int32} {c : Nat} (hc : c < 2 ^ 31) (hx : 0 ≤ x) : x ≤ nI c - 1 ↔ x < nI c := by
  obtain ⟨e, hl⟩ := mI_of (Int32.not_lt.mpr hx)
  rw [e]
  by_cases h0 : c = 0
  · subst h0
    rw [show nI 0 - (1 : Int32) = NG from by decide]
    exact ⟨fun q => absurd q (nle_ng hl), fun q => absurd q (pI_nlt (by omega) hl)⟩
  · rw [l_1, mI_sb (by omega) hc, mI_le hl (by omega), mI_lt hl hc]
    omega
theorem LL.keeps {M : Mem} {ρ : Nat → Int32} {c : Nat} (H : LL M ρ c) (x : Int32) : fX6_keeps 23 x M = some (decide (nI (c - 200) ≤ x ∧ x < nI c)) := by
  unfold fX6_keeps
  rw [H.first, Option.bind_some, H.2.1]
  by_cases h0 : x < nI (c - 200)
  · rw [if_pos h0, decide_eq_false (fun q => absurd q.1 (Int32.not_le.mpr h0))]
  · rw [if_neg h0]
    by_cases h1 : nI c ≤ x
    · rw [if_pos h1, decide_eq_false (fun q => absurd q.2 (Int32.not_lt.mpr h1))]
    · rw [if_neg h1, decide_eq_true ⟨Int32.not_lt.mp h0, Int32.not_le.mp h1⟩]
theorem keeps_n {x : Int32} {c : Nat} (hc : c < 2 ^ 30) (H : nI (c - 200) ≤ x ∧ x < nI c) : ∃ i, i < c ∧ c - 200 ≤ i ∧ x = nI i := by
  have h0 : (0 : Int32) ≤ x := Int32.le_trans (pI_le (a := 0) (b := c - 200) (by omega) (by omega)) H.1
  obtain ⟨e, hl⟩ := mI_of (Int32.not_lt.mpr h0)
  refine ⟨_, ?_, ?_, e⟩
  · have := H.2; rw [e, mI_lt hl (by omega)] at this; exact this
  · have := H.1; rw [e, mI_le (by omega) hl] at this; exact this
theorem keeps_r {x : Int32} {c : Nat} (hc : c < 2 ^ 30) : (nI (c - 200) ≤ x ∧ x ≤ nI c - 1) ↔ (nI (c - 200) ≤ x ∧ x < nI c) := by
  constructor
  · rintro ⟨h1, h2⟩
    exact ⟨h1, (le_pred (by omega) (Int32.le_trans (pI_le (a := 0) (b := c - 200) (by omega) (by omega)) h1)).mp h2⟩
  · rintro ⟨h1, h2⟩
    exact ⟨h1, (le_pred (by omega) (Int32.le_trans (pI_le (a := 0) (b := c - 200) (by omega) (by omega)) h1)).mpr h2⟩
theorem loaf_ok {M : Mem} {ρ : Nat → Int32} {h b g c i k : Nat} (V : Vi M ρ h b g c) (hi : i < c) (hi2 : c - 200 ≤ i) (hk : k < 7) : fX11_loaf (nI i) (nI k) M = some (Sum.inr (ρ (201 + 7 * (i % 200) + k))) := by
  obtain ⟨H, B, G, L, S⟩ := V
  have hc := L.1
  unfold fX11_loaf
  rw [L.keeps, decide_eq_true ⟨pI_le hi2 (by omega), pI_lt hi (by omega)⟩, Option.bind_some, if_pos rfl, Option.bind_some, refuse_0, Option.bind_some]
  simp only [xc]
  rw [wb (nI k) 7 6 rfl, if_pos ⟨pI_le (a := 0) (by omega) (by omega), pI_le (b := 6) (by omega) (by omega)⟩, Option.bind_some, refuse_0, Option.bind_some]
  simp only [xc]
  rw [L.val hi hk]; rfl
theorem step15 {n : Nat} {M : Mem} {h b g c s l t : Nat} (F : Fu n M h b g c s l t) (p q : Int32) : ∃ M3, LS15 p q M M3 ∧ Iv (n + 1) M3 := by
  have V := F.vi
  have L := V.2.2.2.1
  have hc := L.1
  by_cases h1 : nI (c - 200) ≤ p ∧ p < nI c
  · by_cases h2 : 0 ≤ q ∧ q ≤ 6
    · obtain ⟨i, hi, hi2, rfl⟩ := keeps_n hc h1
      obtain ⟨k, hk, rfl⟩ := rng (B := 6) (by omega) h2
      refine ⟨_, Or.inl ⟨_, _, loaf_ok V hi hi2 (show k < 7 by omega), ?_, thr_n _ 0, rfl, rd_L _ _ _⟩, F.rd _ _⟩
      unfold fX12_loaf
      rw [first_r (Ro.idL M _) hc L.2.2.1, Option.bind_some, l_5, (Ro.idL M _).at (by omega), Option.bind_some, L.2.2.1, inn, Option.bind_some, if_pos (decide_eq_true ((keeps_r hc).mpr h1)), inn, Option.bind_some, if_pos (decide_eq_true h2), Option.bind_some, ref0, Option.bind_some]
      simp only [un2, Bool.false_eq_true, if_false]
      rw [(Ro.rd _ _).loaf (by omega) (by omega)]; rfl
    · refine ⟨_, Or.inr (Or.inr ⟨0, ?_, ?_, thr_n _ 2⟩), F.rf _⟩
      · unfold fX11_loaf
        rw [L.keeps, decide_eq_true h1, Option.bind_some, if_pos rfl, Option.bind_some, refuse_0, Option.bind_some]
        simp only [xc]
        rw [wb q 7 6 rfl, if_neg h2, Option.bind_some, refuse_k.2.1, Option.bind_some]
      · unfold fX12_loaf
        rw [first_r (Ro.id M) hc L.2.2.1, Option.bind_some, l_5, (Ro.id M).at (by omega), Option.bind_some, L.2.2.1, inn, Option.bind_some, if_pos (decide_eq_true ((keeps_r hc).mpr h1)), inn, Option.bind_some, if_neg (by rw [decide_eq_true_eq]; exact h2), Option.bind_some, ref2, Option.bind_some]
        rfl
  · refine ⟨_, Or.inr (Or.inl ⟨0, ?_, ?_, thr_n _ 1⟩), F.rf _⟩
    · unfold fX11_loaf
      rw [L.keeps, decide_eq_false h1, Option.bind_some, if_neg (by decide), Option.bind_some, refuse_k.1, Option.bind_some]
      rfl
    · unfold fX12_loaf
      rw [first_r (Ro.id M) hc L.2.2.1, Option.bind_some, l_5, (Ro.id M).at (by omega), Option.bind_some, L.2.2.1, inn, Option.bind_some, if_neg (by rw [decide_eq_true_eq, keeps_r hc]; exact h1), Option.bind_some, ref1, Option.bind_some]
      rfl
theorem load_ok {M : Mem} {ρ : Nat → Int32} {h b g c i k : Nat} (V : Vi M ρ h b g c) (hi : i < g) (hk : k < 5) : fX11_load (nI i) (nI k) M = some (Sum.inr (ρ (101 + 5 * i + k))) := by
  obtain ⟨H, B, G, L, S⟩ := V
  have hg := G.1
  unfold fX11_load
  rw [if_pos (show (0 : Int32) ≤ nI i from pI_le (a := 0) (by omega) (by omega)), wb (nI k) 5 4 rfl, if_pos ⟨pI_le (a := 0) (by omega) (by omega), pI_le (b := 4) (by omega) (by omega)⟩, Option.bind_some, Option.bind_some, refuse_0, Option.bind_some]
  simp only [xc]
  unfold fX5_size fX5_value
  rw [G.2.1, Option.bind_some, if_neg (pI_nle hi (by omega))]
  show ((fX7_get 16 5 20 _ _ M).bind _).bind _ = _
  rw [G.gt hi hk]; rfl
theorem step16 {n : Nat} {M : Mem} {h b g c s l t : Nat} (F : Fu n M h b g c s l t) (p q : Int32) : ∃ M3, LS16 p q M M3 ∧ Iv (n + 1) M3 := by
  have V := F.vi
  have G := V.2.2.1
  have hg := G.1
  by_cases h1 : p < 0
  · refine ⟨_, Or.inr ⟨0, ?_, ?_, thr_n _ 1⟩, F.rf _⟩
    · unfold fX11_load
      rw [if_neg (Int32.not_le.mpr h1), Option.bind_some, refuse_k.2.1, Option.bind_some]
      rfl
    · unfold fX12_load
      rw [if_pos h1, Option.bind_some, ref1, Option.bind_some]
      rfl
  by_cases h2 : 0 ≤ q ∧ q ≤ 4
  · obtain ⟨e, hl⟩ := mI_of h1
    obtain ⟨k, hk, rfl⟩ := rng (B := 4) (by omega) h2
    generalize p.toNatClampNeg = i at e hl
    subst e
    by_cases h3 : i < g
    · refine ⟨_, Or.inl ⟨_, _, load_ok V h3 (show k < 5 by omega), ?_, thr_n _ 0, rfl, rd_L _ _ _⟩, F.rd _ _⟩
      unfold fX12_load
      rw [if_neg h1, inn, Option.bind_some, if_pos (decide_eq_true h2), Option.bind_some, ref0, Option.bind_some]
      simp only [un2, Bool.false_eq_true, if_false]
      rw [l_8, (Ro.rd _ _).at (by omega), Option.bind_some, G.2.2.1, if_pos (pI_lt h3 (by omega)), l_101, l_5, nI_ml', nI_ad, nI_ad, (Ro.rd _ _).at (by omega)]; rfl
    · refine ⟨_, Or.inl ⟨-1, -1, ?_, ?_, thr_n _ 0, rfl, rd_L _ _ _⟩, F.rd _ _⟩
      · unfold fX11_load
        rw [if_pos (Int32.not_lt.mp h1), wb (nI k) 5 4 rfl, if_pos h2, Option.bind_some, Option.bind_some, refuse_0, Option.bind_some]
        simp only [xc]
        unfold fX5_size
        rw [G.2.1, Option.bind_some, if_pos (pI_le (by omega) hl)]
      · unfold fX12_load
        rw [if_neg h1, inn, Option.bind_some, if_pos (decide_eq_true h2), Option.bind_some, ref0, Option.bind_some]
        simp only [un2, Bool.false_eq_true, if_false]
        rw [l_8, (Ro.rd _ _).at (by omega), Option.bind_some, G.2.2.1, if_neg (pI_nlt (by omega) hl)]
  · refine ⟨_, Or.inr ⟨0, ?_, ?_, thr_n _ 1⟩, F.rf _⟩
    · unfold fX11_load
      rw [if_pos (Int32.not_lt.mp h1), wb q 5 4 rfl, if_neg h2, Option.bind_some, Option.bind_some, refuse_k.2.1, Option.bind_some]
      rfl
    · unfold fX12_load
      rw [if_neg h1, inn, Option.bind_some, if_neg (by rw [decide_eq_true_eq]; exact h2), Option.bind_some, ref1, Option.bind_some]
      rfl
/-! a value of the whole -/
theorem whole_ok {M : Mem} {ρ : Nat → Int32} {h b g c k : Nat} (V : Vi M ρ h b g c) (W : RLv ρ c) (hk : k < 14) : ∃ r, fX11_whole (nI k) M = some (Sum.inr r) ∧ ∀ N, Ro N ρ → fX12_tellWhole (nI k) N = some r := by
  obtain ⟨H, B, G, L, S⟩ := V
  have hh := H.1
  have hb := B.1
  have hc := L.1
  have e0 : fX11_whole (nI k) M = if nI k = 0 then ((fX4_size 2 M).bind fun v6 => some (Sum.inr v6)) else if nI k = 1 then (some (Sum.inr (M.1 1 6))) else if nI k = 2 then (some (Sum.inr (M.1 1 4))) else if nI k = 3 then ((fX1_size 9 M).bind fun v8 => some (Sum.inr v8)) else if nI k = 4 then ((fX4_sumOf 2 (1 : Int32) M).bind fun v10 => some (Sum.inr v10)) else if nI k = 5 then ((fX4_sumOf 2 (2 : Int32) M).bind fun v12 => some (Sum.inr v12)) else if nI k = 6 then (some (Sum.inr (M.1 1 7))) else if nI k = 7 then ((fX6_cameOut 23 M).bind fun v14 => some (Sum.inr v14)) else if nI k = 8 then ((fX6_pale 23 M).bind fun v16 => some (Sum.inr v16)) else if nI k = 9 then ((fX6_kept 23 M).bind fun v18 => some (Sum.inr v18)) else if nI k = 10 then ((fX6_countWith 23 (5 : Int32) (8 : Int32) M).bind fun v20 => some (Sum.inr v20)) else if nI k = 11 then ((fX6_countWithOthers 23 M).bind fun v22 => some (Sum.inr v22)) else if nI k = 12 then ((fX5_size 15 M).bind fun v24 => some (Sum.inr v24)) else (some (Sum.inr (M.1 1 5))) := by
    unfold fX11_whole
    rw [wb (nI k) 14 13 rfl, if_pos ⟨pI_le (a := 0) (by omega) (by omega), pI_le (b := 13) (by omega) (by omega)⟩, Option.bind_some, refuse_0, Option.bind_some]
    rfl
  rcases (show k = 0 ∨ k = 1 ∨ k = 2 ∨ k = 3 ∨ k = 4 ∨ k = 5 ∨ k = 6 ∨ k = 7 ∨ k = 8 ∨ k = 9 ∨ k = 10 ∨ k = 11 ∨ k = 12 ∨ k = 13 by omega) with rfl | rfl | rfl | rfl | rfl | rfl | rfl | rfl | rfl | rfl | rfl | rfl | rfl | rfl
  · refine ⟨nI h, ?_, fun N R => ?_⟩
    · rw [e0, if_pos (show nI 0 = 0 from rfl)]; unfold fX4_size; rw [H.2.1]; rfl
    · unfold fX12_tellWhole; rw [if_pos (show nI 0 = 0 from rfl)]; rw [l_0, R.at (by omega), H.2.2.1]; rfl
  · refine ⟨ρ 3, ?_, fun N R => ?_⟩
    · rw [e0, if_neg (by decide), if_pos (show nI 1 = 1 from rfl)]; rw [S.2.2.1]
    · unfold fX12_tellWhole; rw [if_neg (by decide), if_pos (show nI 1 = 1 from rfl)]; rw [l_3, R.at (by omega)]; rfl
  · refine ⟨ρ 2, ?_, fun N R => ?_⟩
    · rw [e0, if_neg (by decide), if_neg (by decide), if_pos (show nI 2 = 2 from rfl)]; rw [S.1]
    · unfold fX12_tellWhole; rw [if_neg (by decide), if_neg (by decide), if_pos (show nI 2 = 2 from rfl)]; rw [l_2, R.at (by omega)]; rfl
  · refine ⟨nI b, ?_, fun N R => ?_⟩
    · rw [e0, if_neg (by decide), if_neg (by decide), if_neg (by decide), if_pos (show nI 3 = 3 from rfl)]; unfold fX1_size; rw [B.2.1]; rfl
    · unfold fX12_tellWhole; rw [if_neg (by decide), if_neg (by decide), if_neg (by decide), if_pos (show nI 3 = 3 from rfl)]; rw [l_7, R.at (by omega), B.2.2.1]; rfl
  · refine ⟨sH ρ h 1, ?_, fun N R => ?_⟩
    · rw [e0, if_neg (by decide), if_neg (by decide), if_neg (by decide), if_neg (by decide), if_pos (show nI 4 = 4 from rfl)]; unfold fX4_sumOf; rw [H.2.1, l_1]; show ((fX7_sum 3 4 8 _ _ M).bind _).bind _ = _; rw [H.sum (by omega)]; rfl
    · unfold fX12_tellWhole; rw [if_neg (by decide), if_neg (by decide), if_neg (by decide), if_neg (by decide), if_pos (show nI 4 = 4 from rfl)]; rw [l_1, X12_sum R H.2.2.1 hh (by omega)]; rfl
  · refine ⟨sH ρ h 2, ?_, fun N R => ?_⟩
    · rw [e0, if_neg (by decide), if_neg (by decide), if_neg (by decide), if_neg (by decide), if_neg (by decide), if_pos (show nI 5 = 5 from rfl)]; unfold fX4_sumOf; rw [H.2.1, l_2]; show ((fX7_sum 3 4 8 _ _ M).bind _).bind _ = _; rw [H.sum (by omega)]; rfl
    · unfold fX12_tellWhole; rw [if_neg (by decide), if_neg (by decide), if_neg (by decide), if_neg (by decide), if_neg (by decide), if_pos (show nI 5 = 5 from rfl)]; rw [l_2, X12_sum R H.2.2.1 hh (by omega)]; rfl
  · refine ⟨ρ 4, ?_, fun N R => ?_⟩
    · rw [e0, if_neg (by decide), if_neg (by decide), if_neg (by decide), if_neg (by decide), if_neg (by decide), if_neg (by decide), if_pos (show nI 6 = 6 from rfl)]; rw [S.2.2.2]
    · unfold fX12_tellWhole; rw [if_neg (by decide), if_neg (by decide), if_neg (by decide), if_neg (by decide), if_neg (by decide), if_neg (by decide), if_pos (show nI 6 = 6 from rfl)]; rw [l_4, R.at (by omega)]; rfl
  · refine ⟨nI c, ?_, fun N R => ?_⟩
    · rw [e0, if_neg (by decide), if_neg (by decide), if_neg (by decide), if_neg (by decide), if_neg (by decide), if_neg (by decide), if_neg (by decide), if_pos (show nI 7 = 7 from rfl)]; unfold fX6_cameOut; rw [L.2.1]; rfl
    · unfold fX12_tellWhole; rw [if_neg (by decide), if_neg (by decide), if_neg (by decide), if_neg (by decide), if_neg (by decide), if_neg (by decide), if_neg (by decide), if_pos (show nI 7 = 7 from rfl)]; rw [l_5, R.at (by omega), L.2.2.1]; rfl
  · refine ⟨ρ 6, ?_, fun N R => ?_⟩
    · rw [e0, if_neg (by decide), if_neg (by decide), if_neg (by decide), if_neg (by decide), if_neg (by decide), if_neg (by decide), if_neg (by decide), if_neg (by decide), if_pos (show nI 8 = 8 from rfl)]; unfold fX6_pale; rw [L.2.2.2.1]; rfl
    · unfold fX12_tellWhole; rw [if_neg (by decide), if_neg (by decide), if_neg (by decide), if_neg (by decide), if_neg (by decide), if_neg (by decide), if_neg (by decide), if_neg (by decide), if_pos (show nI 8 = 8 from rfl)]; rw [l_6, R.at (by omega)]; rfl
  · refine ⟨nI (min c 200), ?_, fun N R => ?_⟩
    · rw [e0, if_neg (by decide), if_neg (by decide), if_neg (by decide), if_neg (by decide), if_neg (by decide), if_neg (by decide), if_neg (by decide), if_neg (by decide), if_neg (by decide), if_pos (show nI 9 = 9 from rfl)]; rw [L.keptn]; rfl
    · unfold fX12_tellWhole; rw [if_neg (by decide), if_neg (by decide), if_neg (by decide), if_neg (by decide), if_neg (by decide), if_neg (by decide), if_neg (by decide), if_neg (by decide), if_neg (by decide), if_pos (show nI 9 = 9 from rfl)]; rw [first_r R hc L.2.2.1, l_5, R.at (by omega), L.2.2.1, Option.bind_some, Option.bind_some, mI_sb (by omega) (by omega), show c - (c - 200) = min c 200 by omega]
  · refine ⟨sm (fun i => if ρ (201 + 7 * i + 5) = nI 8 then nI 1 else nI 0) 0 (min c 200), ?_, fun N R => ?_⟩
    · rw [e0, if_neg (by decide), if_neg (by decide), if_neg (by decide), if_neg (by decide), if_neg (by decide), if_neg (by decide), if_neg (by decide), if_neg (by decide), if_neg (by decide), if_neg (by decide), if_pos (show nI 10 = 10 from rfl)]; rw [l_5, l_8, L.cw _ (by omega)]; rfl
    · unfold fX12_tellWhole; rw [if_neg (by decide), if_neg (by decide), if_neg (by decide), if_neg (by decide), if_neg (by decide), if_neg (by decide), if_neg (by decide), if_neg (by decide), if_neg (by decide), if_neg (by decide), if_pos (show nI 10 = 10 from rfl)]; rw [X12_kw R hc L.2.2.1]; simp only [if_true]; rfl
  · refine ⟨sm (fun i => if (nI 0 ≤ ρ (201 + 7 * i + 5) ∧ ρ (201 + 7 * i + 5) ≤ nI 7) ∧ ρ (201 + 7 * i + 5) ≠ ρ (201 + 7 * i + 0) then nI 1 else nI 0) 0 (min c 200), ?_, fun N R => ?_⟩
    · rw [e0, if_neg (by decide), if_neg (by decide), if_neg (by decide), if_neg (by decide), if_neg (by decide), if_neg (by decide), if_neg (by decide), if_neg (by decide), if_neg (by decide), if_neg (by decide), if_neg (by decide), if_pos (show nI 11 = 11 from rfl)]; rw [L.others W]; rfl
    · unfold fX12_tellWhole; rw [if_neg (by decide), if_neg (by decide), if_neg (by decide), if_neg (by decide), if_neg (by decide), if_neg (by decide), if_neg (by decide), if_neg (by decide), if_neg (by decide), if_neg (by decide), if_neg (by decide), if_pos (show nI 11 = 11 from rfl)]; rw [X12_kw R hc L.2.2.1]; simp only [Bool.false_eq_true, if_false]; rfl
  · refine ⟨nI g, ?_, fun N R => ?_⟩
    · rw [e0, if_neg (by decide), if_neg (by decide), if_neg (by decide), if_neg (by decide), if_neg (by decide), if_neg (by decide), if_neg (by decide), if_neg (by decide), if_neg (by decide), if_neg (by decide), if_neg (by decide), if_neg (by decide), if_pos (show nI 12 = 12 from rfl)]; unfold fX5_size; rw [G.2.1]; rfl
    · unfold fX12_tellWhole; rw [if_neg (by decide), if_neg (by decide), if_neg (by decide), if_neg (by decide), if_neg (by decide), if_neg (by decide), if_neg (by decide), if_neg (by decide), if_neg (by decide), if_neg (by decide), if_neg (by decide), if_neg (by decide), if_pos (show nI 12 = 12 from rfl)]; rw [l_8, R.at (by omega), G.2.2.1]; rfl
  · refine ⟨ρ 1, ?_, fun N R => ?_⟩
    · rw [e0, if_neg (by decide), if_neg (by decide), if_neg (by decide), if_neg (by decide), if_neg (by decide), if_neg (by decide), if_neg (by decide), if_neg (by decide), if_neg (by decide), if_neg (by decide), if_neg (by decide), if_neg (by decide), if_neg (by decide)]; rw [S.2.1]
    · unfold fX12_tellWhole; rw [if_neg (by decide), if_neg (by decide), if_neg (by decide), if_neg (by decide), if_neg (by decide), if_neg (by decide), if_neg (by decide), if_neg (by decide), if_neg (by decide), if_neg (by decide), if_neg (by decide), if_neg (by decide), if_neg (by decide)]; rw [l_1, R.at (by omega)]; rfl
theorem step17 {n : Nat} {M : Mem} {h b g c s l t : Nat} (F : Fu n M h b g c s l t) (p : Int32) : ∃ M3, LS17 p M M3 ∧ Iv (n + 1) M3 := by
  by_cases h2 : 0 ≤ p ∧ p ≤ 13
  · obtain ⟨k, hk, rfl⟩ := rng (B := 13) (by omega) h2
    obtain ⟨r, e1, e2⟩ := whole_ok F.vi F.2.1.2.2.1 (show k < 14 by omega)
    refine ⟨_, Or.inl ⟨r, r, e1, ?_, thr_n _ 0, rfl, rd_L _ _ _⟩, F.rd _ _⟩
    unfold fX12_whole
    rw [inn, Option.bind_some, if_pos (decide_eq_true h2), Option.bind_some, ref0, Option.bind_some]
    simp only [un2, Bool.false_eq_true, if_false]
    rw [e2 _ (Ro.rd _ _)]; rfl
  · refine ⟨_, Or.inr ⟨0, ?_, ?_, thr_n _ 1⟩, F.rf _⟩
    · unfold fX11_whole
      rw [wb p 14 13 rfl, if_neg h2, Option.bind_some, refuse_k.2.1, Option.bind_some]
      rfl
    · unfold fX12_whole
      rw [inn, Option.bind_some, if_neg (by rw [decide_eq_true_eq]; exact h2), Option.bind_some, ref1, Option.bind_some]
      rfl
