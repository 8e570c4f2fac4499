/-! the readers: both sides -/
theorem wn (x a b : Int32) : fX11_whyNotWithin x a b = some (if a ≤ x ∧ x ≤ b then 0 else 2) := by
  unfold fX11_whyNotWithin
  by_cases h0 : x < a
  · rw [if_pos h0, if_neg (fun q => absurd q.1 (Int32.not_le.mpr h0))]
  · rw [if_neg h0]
    by_cases h1 : x ≤ b
    · rw [if_pos h1, if_pos ⟨Int32.not_lt.mp h0, h1⟩]
    · rw [if_neg h1, if_neg (fun q => h1 q.2)]
theorem wb (x e e1 : Int32) (h : e - 1 = e1) : fX11_whyNotBelow x e = some (if 0 ≤ x ∧ x ≤ e1 then 0 else 2) := by
  unfold fX11_whyNotBelow
  rw [h, wn]; rfl
theorem inn (x a b : Int32) : fX12_in x a b = some (decide (a ≤ x ∧ x ≤ b)) := by
  unfold fX12_in
  by_cases h0 : x < a
  · rw [if_pos h0, decide_eq_false (fun q => absurd q.1 (Int32.not_le.mpr h0))]
  · rw [if_neg h0]
    by_cases h1 : b < x
    · rw [if_pos h1, decide_eq_false (fun q => absurd q.2 (Int32.not_le.mpr h1))]
    · rw [if_neg h1, decide_eq_true ⟨Int32.not_lt.mp h0, Int32.not_lt.mp h1⟩]
theorem rng {x : Int32} {B : Nat} (hB : B < 2 ^ 31) (h : 0 ≤ x ∧ x ≤ nI B) : ∃ k, k ≤ B ∧ x = nI k := by
  obtain ⟨e, hl⟩ := mI_of (Int32.not_lt.mpr h.1)
  refine ⟨_, ?_, e⟩
  have := h.2
  rw [e, mI_le hl hB] at this
  exact this
theorem who1 {M : Mem} {ρ : Nat → Int32} {h : Nat} (H : HH M ρ h) (x : Int32) : fX9_whyNoHousehold 1 x M = some (if 0 ≤ x ∧ x < nI h then 0 else 1) := who_c (v := 1) H.2.1 x
theorem who2 {N : Mem} {ρ : Nat → Int32} {h : Nat} (R : Ro N ρ) (h0 : ρ 0 = nI h) (hh : h ≤ 8) (x : Int32) : fX12_isHouse x N = some (decide (0 ≤ x ∧ x < nI h)) := who_m ((R 0 (by omega)).trans h0) hh x
theorem who_i {i h : Nat} (hi : i < h) (hh : h ≤ 8) : (0 : Int32) ≤ nI i ∧ nI i < nI h := ⟨pI_le (a := 0) (by omega) (by omega), pI_lt hi (by omega)⟩
theorem ref0 (M : Mem) : fX12_refused 0 M = some (false, mput M 178 4 0) := rfl
theorem ref1 (M : Mem) : fX12_refused 1 M = some (true, mput M 178 4 1) := rfl
theorem ref2 (M : Mem) : fX12_refused 2 M = some (true, mput M 178 4 2) := rfl
theorem ref3 (M : Mem) : fX12_refused 3 M = some (true, mput M 178 4 3) := rfl
theorem Ro.rd {M : Mem} (x : Int64) (y : Int32) : Ro (mput (mputL M 185 0 x) 178 4 y) (M.1 179) := fun k _ => by rw [mput_at, if_neg (by omega)]; rfl
theorem Ro.rf' (M : Mem) (y : Int32) : Ro (mput M 178 4 y) (M.1 179) := fun k _ => by rw [mput_at, if_neg (by omega)]
theorem Ro.id (M : Mem) : Ro M (M.1 179) := fun _ _ => rfl
theorem Ro.idL (M : Mem) (x : Int64) : Ro (mputL M 185 0 x) (M.1 179) := fun _ _ => rfl
theorem Fu.rd {n : Nat} {M : Mem} {h b g c s l t : Nat} (F : Fu n M h b g c s l t) (x : Int64) (y : Int32) : Iv (n + 1) (mput (mputL M 185 0 x) 178 4 y) :=
  ⟨h, b, g, c, s, l, t, F.keep (fun q x h1 h2 h3 h4 h5 => by rw [mput_at, if_neg (by omega)]; rfl) (fun x hx => by rw [mput_at, if_neg (by omega)]; rfl)⟩
theorem Fu.rf {n : Nat} {M : Mem} {h b g c s l t : Nat} (F : Fu n M h b g c s l t) (y : Int32) : Iv (n + 1) (mput M 178 4 y) :=
  ⟨h, b, g, c, s, l, t, F.keep (fun q x h1 h2 h3 h4 h5 => by rw [mput_at, if_neg (by omega)]) (fun x hx => by rw [mput_at, if_neg (by omega)])⟩
theorem thr_n (M : Mem) (y : Int32) : fX12_thrown (mput M 178 4 y) = some y := rfl
theorem Fu.vi {n : Nat} {M : Mem} {h b g c s l t : Nat} (F : Fu n M h b g c s l t) : Vi M (M.1 179) h b g c := Vi_of F.1.1
theorem rd_L (M : Mem) (x : Int64) (y : Int32) : (mput (mputL M 185 0 x) 178 4 y).2 185 0 = x := by simp [mput, mputL]
/-- a household's value -/
theorem house_ok {M : Mem} {ρ : Nat → Int32} {h b g c i k : Nat} (V : Vi M ρ h b g c) (hi : i < h) (hk : k < 8) : ∃ r, fX11_household (nI i) (nI k) M = some (Sum.inr r) ∧ ∀ N, Ro N ρ → fX12_tellHouse (nI i) (nI k) N = some r := by
  obtain ⟨H, B, G, L, S⟩ := V
  have hh := H.1
  have hb := B.1
  have e0 : fX11_household (nI i) (nI k) M = if nI k = 4 then ((fX6_countWith 23 (0 : Int32) (nI i) M).bind fun v10 => some (Sum.inr v10)) else if nI k = 5 then ((fX6_countWith 23 (5 : Int32) (nI i) M).bind fun v12 => some (Sum.inr v12)) else if nI k = 6 then ((fX6_countWithBoth 23 (0 : Int32) (nI i) (5 : Int32) (nI i) M).bind fun v14 => some (Sum.inr v14)) else if nI k = 7 then ((fX1_countOf 9 (nI i) M).bind fun v16 => some (Sum.inr v16)) else ((fX4_value 2 (nI i) (nI k) M).bind fun v18 => some (Sum.inr v18)) := by
    unfold fX11_household
    rw [who1 H, if_pos (who_i hi hh), Option.bind_some, refuse_0, Option.bind_some]
    simp only [xc]
    rw [wb (nI k) 8 7 rfl, if_pos ⟨pI_le (a := 0) (by omega) (by omega), pI_le (b := 7) (by omega) (by omega)⟩, Option.bind_some, refuse_0, Option.bind_some]
  rcases (show k < 4 ∨ k = 4 ∨ k = 5 ∨ k = 6 ∨ k = 7 by omega) with hk4 | rfl | rfl | rfl | rfl
  · refine ⟨ρ (9 + 4 * i + k), ?_, fun N R => ?_⟩
    · rw [e0, l_4, l_5, l_6, l_7, if_neg (pI_ne (b := 4) (by omega) (by omega) (by omega)), if_neg (pI_ne (b := 5) (by omega) (by omega) (by omega)), if_neg (pI_ne (b := 6) (by omega) (by omega) (by omega)), if_neg (pI_ne (b := 7) (by omega) (by omega) (by omega))]
      unfold fX4_value
      show ((fX7_get 3 4 8 _ _ M).bind _).bind _ = _
      rw [H.gt hi hk4]; rfl
    · unfold fX12_tellHouse
      rw [l_4, l_5, l_6, l_7, if_neg (pI_ne (b := 4) (by omega) (by omega) (by omega)), if_neg (pI_ne (b := 5) (by omega) (by omega) (by omega)), if_neg (pI_ne (b := 6) (by omega) (by omega) (by omega)), if_neg (pI_ne (b := 7) (by omega) (by omega) (by omega)), R.of (by omega) hk4]; rfl
  · refine ⟨sK ρ c (nI i) true false, ?_, fun N R => ?_⟩
    · rw [e0, if_pos (show nI 4 = 4 from rfl), l_0, L.cw (nI i) (by omega), ← sK_o]; rfl
    · unfold fX12_tellHouse
      rw [if_pos (show nI 4 = 4 from rfl), X12_kept R L.1 L.2.2.1]; rfl
  · refine ⟨sK ρ c (nI i) false true, ?_, fun N R => ?_⟩
    · rw [e0, if_neg (by decide), if_pos (show nI 5 = 5 from rfl), l_5, L.cw (nI i) (by omega), ← sK_h]; rfl
    · unfold fX12_tellHouse
      rw [if_neg (by decide), if_pos (show nI 5 = 5 from rfl), X12_kept R L.1 L.2.2.1]; rfl
  · refine ⟨sK ρ c (nI i) true true, ?_, fun N R => ?_⟩
    · rw [e0, if_neg (by decide), if_neg (by decide), if_pos (show nI 6 = 6 from rfl), l_0, l_5, L.cb (nI i) (nI i) (by omega) (by omega), ← sK_b]; rfl
    · unfold fX12_tellHouse
      rw [if_neg (by decide), if_neg (by decide), if_pos (show nI 6 = 6 from rfl), X12_kept R L.1 L.2.2.1]; rfl
  · refine ⟨sm (fun i' => if ρ (41 + 3 * i' + 0) = nI i then nI 1 else nI 0) 0 b, ?_, fun N R => ?_⟩
    · rw [e0, if_neg (by decide), if_neg (by decide), if_neg (by decide), if_pos (show nI 7 = 7 from rfl), B.of (nI i)]; rfl
    · unfold fX12_tellHouse
      rw [if_neg (by decide), if_neg (by decide), if_neg (by decide), if_pos (show nI 7 = 7 from rfl), l_0, hb_r R hb B.2.2.1 (nI i) b 0 FUEL _ (by omega) (fuel8 (by omega)), Option.bind_some, Int32.add_comm, sm_z]
theorem step10 {n : Nat} {M : Mem} {h b g c s l t : Nat} (F : Fu n M h b g c s l t) (p q : Int32) : ∃ M3, LS10 p q M M3 ∧ Iv (n + 1) M3 := by
  have V := F.vi
  have H := V.1
  have hh := H.1
  by_cases h1 : 0 ≤ p ∧ p < nI h
  · by_cases h2 : 0 ≤ q ∧ q ≤ 7
    · obtain ⟨i, hi, rfl⟩ := who_n hh h1
      obtain ⟨k, hk, rfl⟩ := rng (B := 7) (by omega) h2
      obtain ⟨r, e1, e2⟩ := house_ok V hi (show k < 8 by omega)
      refine ⟨_, Or.inl ⟨r, r, e1, ?_, thr_n _ 0, rfl, rd_L _ _ _⟩, F.rd _ _⟩
      unfold fX12_household
      rw [who2 (Ro.idL M _) H.2.2.1 hh, Option.bind_some, if_pos (decide_eq_true h1), inn, Option.bind_some, if_pos (decide_eq_true h2), Option.bind_some, ref0, Option.bind_some]
      simp only [un2, Bool.false_eq_true, if_false]
      rw [e2 _ (Ro.rd _ _)]; rfl
    · refine ⟨_, Or.inr (Or.inr ⟨0, ?_, ?_, thr_n _ 2⟩), F.rf _⟩
      · unfold fX11_household
        rw [who1 H, if_pos h1, Option.bind_some, refuse_0, Option.bind_some]
        simp only [xc]
        rw [wb q 8 7 rfl, if_neg h2, Option.bind_some, refuse_k.2.1, Option.bind_some]
      · unfold fX12_household
        rw [who2 (Ro.id M) H.2.2.1 hh, Option.bind_some, if_pos (decide_eq_true h1), inn, Option.bind_some, if_neg (by rw [decide_eq_true_eq]; exact h2), Option.bind_some, ref2, Option.bind_some]
        rfl
  · refine ⟨_, Or.inr (Or.inl ⟨0, ?_, ?_, thr_n _ 1⟩), F.rf _⟩
    · unfold fX11_household
      rw [who1 H, if_neg h1, Option.bind_some, refuse_k.1, Option.bind_some]
      rfl
    · unfold fX12_household
      rw [who2 (Ro.id M) H.2.2.1 hh, Option.bind_some, if_neg (by rw [decide_eq_true_eq]; exact h1), Option.bind_some, ref1, Option.bind_some]
      rfl
theorem step11 {n : Nat} {M : Mem} {h b g c s l t : Nat} (F : Fu n M h b g c s l t) (p : Int32) : ∃ M3, LS11 p M M3 ∧ Iv (n + 1) M3 := by
  have V := F.vi
  have H := V.1
  have hh := H.1
  by_cases h1 : 0 ≤ p ∧ p < nI h
  · obtain ⟨i, hi, rfl⟩ := who_n hh h1
    refine ⟨_, Or.inl ⟨Du (M.1 179) h i, Du (M.1 179) h i, ?_, ?_, thr_n _ 0, rfl, rd_L _ _ _⟩, F.rd _ _⟩
    · unfold fX11_due
      rw [who1 H, if_pos h1, Option.bind_some, refuse_0, Option.bind_some]
      simp only [xc]
      rw [H.due hi]; rfl
    · unfold fX12_due
      rw [who2 (Ro.idL M _) H.2.2.1 hh, Option.bind_some, if_pos (decide_eq_true h1), Option.bind_some, ref0, Option.bind_some]
      simp only [un2, Bool.false_eq_true, if_false]
      rw [(Ro.rd _ _).due H.2.2.1 hh hi]; rfl
  · refine ⟨_, Or.inr ⟨0, ?_, ?_, thr_n _ 1⟩, F.rf _⟩
    · unfold fX11_due
      rw [who1 H, if_neg h1, Option.bind_some, refuse_k.1, Option.bind_some]
      rfl
    · unfold fX12_due
      rw [who2 (Ro.id M) H.2.2.1 hh, Option.bind_some, if_neg (by rw [decide_eq_true_eq]; exact h1), Option.bind_some, ref1, Option.bind_some]
      rfl
theorem step12 {n : Nat} {M : Mem} {h b g c s l t : Nat} (F : Fu n M h b g c s l t) : ∃ M3, LS12 M M3 ∧ Iv (n + 1) M3 := by
  have H := F.vi.1
  refine ⟨_, ⟨enc (nxt (M.1 179) h), ?_, ?_⟩, F.rf 0⟩
  · unfold fX11_nextForWood
    rw [H.next F.2.1.1]; rfl
  · unfold fX12_nextForWood pf
    rw [Option.bind_some, (Ro.rf' M 0).next H.2.2.1 H.1]; rfl
theorem bal_ok {M : Mem} {ρ : Nat → Int32} {h b g c i k : Nat} (V : Vi M ρ h b g c) (hi : i < h) (hk : k < 3) : fX11_balance (nI i) (nI k) M = some (Sum.inr (Ba ρ c (nI i) (nI k))) := by
  obtain ⟨H, B, G, L, S⟩ := V
  have hh := H.1
  unfold fX11_balance
  rw [who1 H, if_pos (who_i hi hh), Option.bind_some, refuse_0, Option.bind_some]
  simp only [xc]
  rw [wb (nI k) 3 2 rfl, if_pos ⟨pI_le (a := 0) (by omega) (by omega), pI_le (b := 2) (by omega) (by omega)⟩, Option.bind_some, refuse_0, Option.bind_some]
  simp only [xc]
  rw [L.bal]; rfl
theorem step13 {n : Nat} {M : Mem} {h b g c s l t : Nat} (F : Fu n M h b g c s l t) (p q : Int32) : ∃ M3, LS13 p q M M3 ∧ Iv (n + 1) M3 := by
  have V := F.vi
  have H := V.1
  have L := V.2.2.2.1
  have hh := H.1
  by_cases h1 : 0 ≤ p ∧ p < nI h
  · by_cases h2 : 0 ≤ q ∧ q ≤ 2
    · obtain ⟨i, hi, rfl⟩ := who_n hh h1
      obtain ⟨k, hk, rfl⟩ := rng (B := 2) (by omega) h2
      refine ⟨_, Or.inl ⟨_, _, bal_ok V hi (show k < 3 by omega), ?_, thr_n _ 0, rfl, rd_L _ _ _⟩, F.rd _ _⟩
      unfold fX12_balance
      rw [who2 (Ro.idL M _) H.2.2.1 hh, Option.bind_some, if_pos (decide_eq_true h1), inn, Option.bind_some, if_pos (decide_eq_true h2), Option.bind_some, ref0, Option.bind_some]
      simp only [un2, Bool.false_eq_true, if_false]
      rw [(Ro.rd _ _).bal L.1 L.2.2.1]; rfl
    · refine ⟨_, Or.inr (Or.inr ⟨0, ?_, ?_, thr_n _ 2⟩), F.rf _⟩
      · unfold fX11_balance
        rw [who1 H, if_pos h1, Option.bind_some, refuse_0, Option.bind_some]
        simp only [xc]
        rw [wb q 3 2 rfl, if_neg h2, Option.bind_some, refuse_k.2.1, Option.bind_some]
      · unfold fX12_balance
        rw [who2 (Ro.id M) H.2.2.1 hh, Option.bind_some, if_pos (decide_eq_true h1), inn, Option.bind_some, if_neg (by rw [decide_eq_true_eq]; exact h2), Option.bind_some, ref2, Option.bind_some]
        rfl
  · refine ⟨_, Or.inr (Or.inl ⟨0, ?_, ?_, thr_n _ 1⟩), F.rf _⟩
    · unfold fX11_balance
      rw [who1 H, if_neg h1, Option.bind_some, refuse_k.1, Option.bind_some]
      rfl
    · unfold fX12_balance
      rw [who2 (Ro.id M) H.2.2.1 hh, Option.bind_some, if_neg (by rw [decide_eq_true_eq]; exact h1), Option.bind_some, ref1, Option.bind_some]
      rfl
