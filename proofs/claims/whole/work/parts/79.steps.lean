theorem und' {n : Nat} {M : Mem} {h b g c s l t : Nat} (F : Fu n M h b g c s l t) {fc fr : Mem → Option (Int32 × Mem)} (hop : ∀ M1, Vi M1 (M.1 179) h b g c → Wr (M.1 179) h b c → Opp fc fr M1 (M.1 179) c) :
    ∃ Mp r M1 M2 M3, fX8_push 1 M = some Mp ∧ fc Mp = some (r, M1) ∧ Ro (mputL M1 185 0 r.toInt64) (M.1 179) ∧ fX12_saves (mput (mputL M1 185 0 r.toInt64) 178 4 0) = some M2 ∧ fr M2 = some (r, M3) ∧ fX12_thrown M3 = some 0 ∧ M3.2 185 0 = r.toInt64 ∧ Iv (n + 1) M3 := by
  obtain ⟨Mp, r, M1, e1, e2, e3, e4⟩ := und F hop
  obtain ⟨M2, M3, q1, q2, q3, q4, q5⟩ := e4 (mputL M1 185 0 r.toInt64) rfl
  exact ⟨Mp, r, M1, M2, M3, e1, e2, fun k _ => e3 179 k (by omega), q1, q2, by unfold fX12_thrown; rw [q3], by rw [q4]; simp [mputL], q5⟩
theorem stp0 {n : Nat} {M : Mem} {h b g c s l t : Nat} (F : Fu n M h b g c s l t) (p : Int32) : ∃ M3, LS0 p M M3 ∧ Iv (n + 1) M3 := by
  rcases join_tri F.vi.1 p with ⟨w1, w2⟩ | ⟨w1, w2⟩ | ⟨w1, w2, h8, hx, hd⟩
  · refine ⟨_, Or.inr (Or.inl ⟨0, ?_, ?_, thr_n _ 1⟩), F.rf _⟩
    · unfold fX11_join; rw [w1, Option.bind_some, refuse_k.2.1]; rfl
    · unfold fX12_join; rw [w2 _ (Ro.id M), Option.bind_some, ref1]; rfl
  · refine ⟨_, Or.inr (Or.inr ⟨0, ?_, ?_, thr_n _ 2⟩), F.rf _⟩
    · unfold fX11_join; rw [w1, Option.bind_some, refuse_k.2.2]; rfl
    · unfold fX12_join; rw [w2 _ (Ro.id M), Option.bind_some, ref2]; rfl
  · obtain ⟨Mp, r, M1, M2, M3, e1, e2, R, e3, e4, e5, e6, e7⟩ := und' F (fun M1 V W => op_join V W h8 hx hd)
    refine ⟨M3, Or.inl ⟨r, M1, r, ?_, ?_, e5, rfl, e6⟩, e7⟩
    · unfold fX11_join
      rw [w1, Option.bind_some, refuse_0, Option.bind_some]
      show (fX8_push 1 M).bind _ = _
      rw [e1, Option.bind_some, e2]; rfl
    · unfold fX12_join
      rw [w2 _ R, Option.bind_some, ref0, Option.bind_some]
      show (fX12_saves _).bind _ = _
      rw [e3, Option.bind_some, e4]; rfl
theorem has_c {M : Mem} {ρ : Nat → Int32} {h : Nat} (H : HH M ρ h) (x : Int32) : fX4_has 2 x M = some (decide (0 ≤ x ∧ x < nI h)) := by
  unfold fX4_has
  rw [H.2.1]
  by_cases h0 : x < 0
  · rw [if_pos h0, decide_eq_false (fun q => absurd q.1 (Int32.not_le.mpr h0))]
  · rw [if_neg h0]
    by_cases h1 : nI h ≤ x
    · rw [if_pos h1, decide_eq_false (fun q => absurd q.2 (Int32.not_lt.mpr h1))]
    · rw [if_neg h1, decide_eq_true ⟨Int32.not_lt.mp h0, Int32.not_le.mp h1⟩]
theorem stp1 {n : Nat} {M : Mem} {h b g c s l t : Nat} (F : Fu n M h b g c s l t) (p q : Int32) : ∃ M3, LS1 p q M M3 ∧ Iv (n + 1) M3 := by
  have V := F.vi
  have H := V.1
  have hh := H.1
  by_cases h1 : 0 ≤ p ∧ p < nI h
  · by_cases h2 : 1 ≤ q ∧ q ≤ 65535
    · obtain ⟨i, hi, rfl⟩ := who_n hh h1
      rcases remark_tri H F.2.1.1 hi q h2 with ⟨w1, w2⟩ | ⟨w1, w2, hd⟩
      · refine ⟨_, Or.inr (Or.inr (Or.inr ⟨0, ?_, ?_, thr_n _ 3⟩)), F.rf _⟩
        · unfold fX11_remark; rw [w1, Option.bind_some, refuse_k.2.2]; rfl
        · unfold fX12_remark fX12_isMark
          rw [who2 (Ro.id M) H.2.2.1 hh, Option.bind_some, if_pos (decide_eq_true h1), inn, Option.bind_some, Option.bind_some, if_pos (decide_eq_true h2), w2 _ (Ro.id M), Option.bind_some, if_pos rfl, Option.bind_some, ref3]; rfl
      · obtain ⟨Mp, r, M1, M2, M3, e1, e2, R, e3, e4, e5, e6, e7⟩ := und' F (fun M1 V W => op_remark V W hi (mark_n h2) hd)
        refine ⟨M3, Or.inl ⟨r, M1, r, ?_, ?_, e5, rfl, e6⟩, e7⟩
        · unfold fX11_remark
          rw [w1, Option.bind_some, refuse_0, Option.bind_some]
          show (fX8_push 1 M).bind _ = _
          rw [e1, Option.bind_some, e2]; rfl
        · unfold fX12_remark fX12_isMark
          rw [who2 R H.2.2.1 hh, Option.bind_some, if_pos (decide_eq_true h1), inn, Option.bind_some, Option.bind_some, if_pos (decide_eq_true h2), w2 _ R, Option.bind_some, if_neg (by decide), Option.bind_some, ref0, Option.bind_some]
          show (fX12_saves _).bind _ = _
          rw [e3, Option.bind_some]; exact e4
    · refine ⟨_, Or.inr (Or.inr (Or.inl ⟨0, ?_, ?_, thr_n _ 2⟩)), F.rf _⟩
      · unfold fX11_remark fX9_whyNoOtherMark
        show ((((fX4_has 2 p M).bind _).bind _) = _)
        rw [has_c H, Option.bind_some, if_pos (decide_eq_true h1), wn, if_neg h2, Option.bind_some, if_neg (by decide), Option.bind_some, refuse_k.2.1]; rfl
      · unfold fX12_remark fX12_isMark
        rw [who2 (Ro.id M) H.2.2.1 hh, Option.bind_some, if_pos (decide_eq_true h1), inn, Option.bind_some, Option.bind_some, if_neg (by rw [decide_eq_true_eq]; exact h2), Option.bind_some, ref2]; rfl
  · refine ⟨_, Or.inr (Or.inl ⟨0, ?_, ?_, thr_n _ 1⟩), F.rf _⟩
    · unfold fX11_remark fX9_whyNoOtherMark
      show ((((fX4_has 2 p M).bind _).bind _) = _)
      rw [has_c H, Option.bind_some, if_neg (by rw [decide_eq_true_eq]; exact h1), Option.bind_some, refuse_k.1]; rfl
    · unfold fX12_remark
      rw [who2 (Ro.id M) H.2.2.1 hh, Option.bind_some, if_neg (by rw [decide_eq_true_eq]; exact h1), Option.bind_some, ref1]; rfl
theorem stp2 {n : Nat} {M : Mem} {h b g c s l t : Nat} (F : Fu n M h b g c s l t) (p : Int32) : ∃ M3, LS2 p M M3 ∧ Iv (n + 1) M3 := by
  have H := F.vi.1
  have hh := H.1
  by_cases h1 : 0 ≤ p ∧ p < nI h
  · obtain ⟨i, hi, rfl⟩ := who_n hh h1
    obtain ⟨Mp, r, M1, M2, M3, e1, e2, R, e3, e4, e5, e6, e7⟩ := und' F (fc := fX4_excuseOne 2 (nI i)) (fr := fun N => (fX12_lays (nI i) (3 : Int32) (1 : Int32) N).bind fun M12 => (fX12_excused M12).bind fun v14 => some (v14, M12)) (fun M1 V W => by
      obtain ⟨r, M', a1, a2, a3, a4, a5⟩ := op_excuse V W hi
      refine ⟨r, M', _, h, b, g, c, a1, a2, a3, by omega, a4, fun N R => ?_⟩
      obtain ⟨N', b1, b2, b3, b4⟩ := a5 N R
      exact ⟨N', by show Option.bind _ _ = _; rw [b1, Option.bind_some, b4]; rfl, b2, b3⟩)
    refine ⟨M3, Or.inl ⟨r, M1, r, ?_, ?_, e5, rfl, e6⟩, e7⟩
    · unfold fX11_excuse
      rw [who1 H, if_pos h1, Option.bind_some, refuse_0, Option.bind_some]
      show (fX8_push 1 M).bind _ = _
      rw [e1, Option.bind_some, e2]; rfl
    · unfold fX12_excuse
      rw [who2 R H.2.2.1 hh, Option.bind_some, if_pos (decide_eq_true h1), Option.bind_some, ref0, Option.bind_some]
      show (fX12_saves _).bind _ = _
      rw [e3, Option.bind_some]; exact e4
  · refine ⟨_, Or.inr ⟨0, ?_, ?_, thr_n _ 1⟩, F.rf _⟩
    · unfold fX11_excuse
      rw [who1 H, if_neg h1, Option.bind_some, refuse_k.1]; rfl
    · unfold fX12_excuse
      rw [who2 (Ro.id M) H.2.2.1 hh, Option.bind_some, if_neg (by rw [decide_eq_true_eq]; exact h1), Option.bind_some, ref1]; rfl
theorem stp3 {n : Nat} {M : Mem} {h b g c s l t : Nat} (F : Fu n M h b g c s l t) (p q z : Int32) : ∃ M3, LS3 p q z M M3 ∧ Iv (n + 1) M3 := by
  rcases bring_tri F.vi p q z with ⟨w1, w2⟩ | ⟨w1, w2⟩ | ⟨w1, w2⟩ | ⟨w1, w2, hb, hx, hy, hz⟩
  · refine ⟨_, Or.inr (Or.inl ⟨0, ?_, ?_, thr_n _ 1⟩), F.rf _⟩
    · unfold fX11_bring; rw [w1, Option.bind_some, refuse_k.1]; rfl
    · unfold fX12_bring; rw [w2 _ (Ro.id M), Option.bind_some, ref1]; rfl
  · refine ⟨_, Or.inr (Or.inr (Or.inl ⟨0, ?_, ?_, thr_n _ 2⟩)), F.rf _⟩
    · unfold fX11_bring; rw [w1, Option.bind_some, refuse_k.2.1]; rfl
    · unfold fX12_bring; rw [w2 _ (Ro.id M), Option.bind_some, ref2]; rfl
  · refine ⟨_, Or.inr (Or.inr (Or.inr ⟨0, ?_, ?_, thr_n _ 3⟩)), F.rf _⟩
    · unfold fX11_bring; rw [w1, Option.bind_some, refuse_k.2.2]; rfl
    · unfold fX12_bring; rw [w2 _ (Ro.id M), Option.bind_some, ref3]; rfl
  · obtain ⟨Mp, r, M1, M2, M3, e1, e2, R, e3, e4, e5, e6, e7⟩ := und' F (fun M1 V W => op_bring V W hb hx hy hz)
    refine ⟨M3, Or.inl ⟨r, M1, r, ?_, ?_, e5, rfl, e6⟩, e7⟩
    · unfold fX11_bring
      rw [w1, Option.bind_some, refuse_0, Option.bind_some]
      show (fX8_push 1 M).bind _ = _
      rw [e1, Option.bind_some, e2]; rfl
    · unfold fX12_bring
      rw [w2 _ R, Option.bind_some, ref0, Option.bind_some]
      show (fX12_saves _).bind _ = _
      rw [e3, Option.bind_some, e4]; rfl
theorem stp4 {n : Nat} {M : Mem} {h b g c s l t : Nat} (F : Fu n M h b g c s l t) (p : Int32) : ∃ M3, LS4 p M M3 ∧ Iv (n + 1) M3 := by
  have B := F.vi.2.1
  have hb := B.1
  have eh : fX1_has 9 p M = some (decide (0 ≤ p ∧ p < nI b)) := by
    unfold fX1_has
    rw [B.2.1]
    by_cases h0 : p < 0
    · rw [if_pos h0, decide_eq_false (fun q => absurd q.1 (Int32.not_le.mpr h0))]
    · rw [if_neg h0]
      by_cases h1 : nI b ≤ p
      · rw [if_pos h1, decide_eq_false (fun q => absurd q.2 (Int32.not_lt.mpr h1))]
      · rw [if_neg h1, decide_eq_true ⟨Int32.not_lt.mp h0, Int32.not_le.mp h1⟩]
  have er : ∀ N, Ro N (M.1 179) → fX12_in p 0 (nI b - 1) = some (decide (0 ≤ p ∧ p < nI b)) := fun N R => by
    rw [inn]
    congr 1
    by_cases h0 : 0 ≤ p
    · by_cases h1 : p < nI b
      · rw [decide_eq_true ⟨h0, (le_pred (by omega) h0).mpr h1⟩, decide_eq_true ⟨h0, h1⟩]
      · rw [decide_eq_false (fun q => h1 ((le_pred (by omega) h0).mp q.2)), decide_eq_false (fun q => h1 q.2)]
    · rw [decide_eq_false (fun q => h0 q.1), decide_eq_false (fun q => h0 q.1)]
  by_cases h1 : 0 ≤ p ∧ p < nI b
  · obtain ⟨i, hi, rfl⟩ : ∃ i, i < b ∧ p = nI i := by
      obtain ⟨e, hl⟩ := mI_of (Int32.not_lt.mpr h1.1)
      refine ⟨_, ?_, e⟩
      have := h1.2
      rw [e, mI_lt hl (by omega)] at this
      exact this
    obtain ⟨Mp, r, M1, M2, M3, e1, e2, R, e3, e4, e5, e6, e7⟩ := und' F (fun M1 V W => op_take V W hi)
    refine ⟨M3, Or.inl ⟨r, M1, r, ?_, ?_, e5, rfl, e6⟩, e7⟩
    · unfold fX11_takeBack
      rw [eh, Option.bind_some, if_pos (decide_eq_true h1), Option.bind_some, refuse_0, Option.bind_some]
      show (fX8_push 1 M).bind _ = _
      rw [e1, Option.bind_some, e2]; rfl
    · unfold fX12_takeBack
      rw [l_7, R.at (by omega), Option.bind_some, B.2.2.1, er _ R, Option.bind_some, if_pos (decide_eq_true h1), Option.bind_some, ref0, Option.bind_some]
      show (fX12_saves _).bind _ = _
      rw [e3, Option.bind_some]; exact e4
  · refine ⟨_, Or.inr ⟨0, ?_, ?_, thr_n _ 1⟩, F.rf _⟩
    · unfold fX11_takeBack
      rw [eh, Option.bind_some, if_neg (by rw [decide_eq_true_eq]; exact h1), Option.bind_some, refuse_k.1]; rfl
    · unfold fX12_takeBack
      rw [l_7, (Ro.id M).at (by omega), Option.bind_some, B.2.2.1, er _ (Ro.id M), Option.bind_some, if_neg (by rw [decide_eq_true_eq]; exact h1), Option.bind_some, ref1]; rfl
theorem stp5 {n : Nat} {M : Mem} {h b g c s l t : Nat} (F : Fu n M h b g c s l t) (p : Int32) : ∃ M3, LS5 p M M3 ∧ Iv (n + 1) M3 := by
  by_cases hp : 0 ≤ p
  · obtain ⟨Mp, r, M1, M2, M3, e1, e2, R, e3, e4, e5, e6, e7⟩ := und' F (fun M1 V W => op_setS V W hp)
    refine ⟨M3, Or.inl ⟨r, M1, r, ?_, ?_, e5, rfl, e6⟩, e7⟩
    · unfold fX11_setS
      rw [if_pos hp, Option.bind_some, refuse_0, Option.bind_some]
      show (fX8_push 1 M).bind _ = _
      rw [e1, Option.bind_some, e2]; rfl
    · unfold fX12_setS
      rw [if_pos hp, Option.bind_some, ref0, Option.bind_some]
      show (fX12_saves _).bind _ = _
      rw [e3, Option.bind_some]; exact e4
  · refine ⟨_, Or.inr ⟨0, ?_, ?_, thr_n _ 1⟩, F.rf _⟩
    · unfold fX11_setS
      rw [if_neg hp, Option.bind_some, refuse_k.2.1]; rfl
    · unfold fX12_setS
      rw [if_neg hp, Option.bind_some, ref1]; rfl
