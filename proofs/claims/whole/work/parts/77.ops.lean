theorem op_setS {M : Mem} {ρ : Nat → Int32} {h b g c : Nat} (V : Vi M ρ h b g c) (W : Wr ρ h b c) {x : Int32} (hx : 0 ≤ x) : Opp (fX9_changeS 1 x) (fun N => (ald (N.1 179) 1601 (1 : Int32)).bind fun v9 => (ast N 179 1601 (1 : Int32) x).bind fun M12 => some (v9, M12)) M ρ c := by
  refine ⟨ρ 1, mput M 1 5 x, ru ρ 1 x, h, b, g, c, ?_, ?_, ?_, by omega, Fc.pt M x (by omega), fun N R => ⟨mput N 179 1 x, ?_, R.pt 1 x, Fr.pt N x⟩⟩
  · unfold fX9_changeS pf
    rw [Option.bind_some, V.2.2.2.2.2.1]
  · refine ⟨V.1.cg (fun q y _ _ => by rw [mput_at, if_neg (by omega)]) (fun j _ _ => ru_ne _ (by omega)), V.2.1.cg (fun q y _ _ => by rw [mput_at, if_neg (by omega)]) (fun j _ _ => ru_ne _ (by omega)), V.2.2.1.cg (fun q y _ _ => by rw [mput_at, if_neg (by omega)]) (fun j _ _ => ru_ne _ (by omega)), V.2.2.2.1.cg (fun q y _ _ => by rw [mput_at, if_neg (by omega)]) (fun j _ _ => ru_ne _ (by omega)), ?_⟩
    obtain ⟨s1, s2, s3, s4⟩ := V.2.2.2.2
    refine ⟨?_, ?_, ?_, ?_⟩
    · rw [mput_at, if_neg (by omega), ru_ne _ (by omega)]; exact s1
    · rw [mput_at, if_pos ⟨rfl, rfl⟩, ru_at]
    · rw [mput_at, if_neg (by omega), ru_ne _ (by omega)]; exact s3
    · rw [mput_at, if_neg (by omega), ru_ne _ (by omega)]; exact s4
  · obtain ⟨e, hl⟩ := mI_of (Int32.not_lt.mpr hx)
    exact ⟨W.1.cg V.1.1 (fun k _ _ => ru_ne _ (by omega)), W.2.1.cg V.2.1.1 (fun k _ _ => ru_ne _ (by omega)), W.2.2.1.cg (fun k _ _ => ru_ne _ (by omega)), by rw [ru_ne _ (by omega)]; exact W.2.2.2.1, ⟨_, hl, by rw [ru_at]; exact e⟩⟩
  · show Option.bind _ _ = _
    rw [l_1, R.at (by omega), Option.bind_some, ast_n (by omega) (by omega)]; rfl
/-- may a household have another mark -/
theorem remark_tri {M : Mem} {ρ : Nat → Int32} {h i : Nat} (H : HH M ρ h) (W : RH ρ h) (hi : i < h) (x : Int32) (hx : 1 ≤ x ∧ x ≤ 65535) : (fX9_whyNoOtherMark 1 (nI i) x M = some 3 ∧ ∀ N, Ro N ρ → fX12_isTaken x (nI i) N = some true) ∨ (fX9_whyNoOtherMark 1 (nI i) x M = some 0 ∧ (∀ N, Ro N ρ → fX12_isTaken x (nI i) N = some false) ∧ ∀ j, j < h → j ≠ i → ρ (9 + 4 * j) ≠ x) := by
  have hh := H.1
  have e1 : fX9_whyNoOtherMark 1 (nI i) x M = (fX4_withMark 2 x M).bind fun v8 => if v8 = (-1 : Int32) then (some (0 : Int32)) else (if v8 = nI i then (some (0 : Int32)) else (some (3 : Int32))) := by
    unfold fX9_whyNoOtherMark fX4_has
    rw [H.2.1, if_neg (show ¬ nI i < 0 from mI_nn (by omega)), if_neg (pI_nle hi (by omega)), Option.bind_some, if_pos rfl, wn, if_pos hx, Option.bind_some, if_pos rfl]
  have tf : ∀ N, Ro N ρ → ∀ r : Bool, (r = true ↔ ∃ j, j < h ∧ nI j ≠ nI i ∧ ρ (9 + 4 * j) = x) → fX12_isTaken x (nI i) N = some r := fun N R r hr => by
    obtain ⟨r', q1, q2⟩ := taken_r R H.2.2.1 hh x (nI i)
    rw [q1]
    congr 1
    cases r <;> cases r'
    · rfl
    · exact absurd (hr.mpr (q2.mp rfl)) (by decide)
    · exact absurd (q2.mpr (hr.mp rfl)) (by decide)
    · rfl
  rcases with_c H x with ⟨p1, p2⟩ | ⟨j, p1, p2, p3⟩
  · right
    refine ⟨by rw [e1, p1]; rfl, fun N R => tf N R false ⟨fun q => absurd q (by decide), fun ⟨j, j1, j2, j3⟩ => absurd j3 (p2 j j1)⟩, fun j hj _ => p2 j hj⟩
  · by_cases hj : j = i
    · right
      subst hj
      have hd : ∀ k, k < h → k ≠ j → ρ (9 + 4 * k) ≠ x := fun k hk hkj q => hkj (W.2.1 k j hk p1 (q.trans p2.symm))
      refine ⟨by rw [e1, p3, Option.bind_some, if_neg (show ¬ nI j = -1 from nI_ng (by omega)), if_pos rfl], fun N R => tf N R false ⟨fun q => absurd q (by decide), fun ⟨k, j1, j2, j3⟩ => absurd j3 (hd k j1 (fun q => j2 (by rw [q])))⟩, hd⟩
    · left
      refine ⟨by rw [e1, p3, Option.bind_some, if_neg (show ¬ nI j = -1 from nI_ng (by omega)), if_neg (pI_ne hj (by omega) (by omega))], fun N R => tf N R true ⟨fun _ => ⟨j, p1, pI_ne hj (by omega) (by omega), p2⟩, fun _ => rfl⟩⟩
theorem op_remark {M : Mem} {ρ : Nat → Int32} {h b g c i : Nat} (V : Vi M ρ h b g c) (W : Wr ρ h b c) {x : Int32} (hi : i < h) (hx : ∃ m, 1 ≤ m ∧ m < 65536 ∧ x = nI m) (hd : ∀ j, j < h → j ≠ i → ρ (9 + 4 * j) ≠ x) : Opp (fX4_changeMark 2 (nI i) x) (fun N => (fX12_of (nI i) (0 : Int32) N).bind fun v18 => (fX12_lays (nI i) (0 : Int32) x N).bind fun M20 => some (v18, M20)) M ρ c := by
  have hh := V.1.1
  refine ⟨ρ (9 + 4 * i + 0), mput M (5 + 0) i x, ru ρ (9 + 4 * i + 0) x, h, b, g, c, ?_, V.ptH (by omega) (by omega) x, ?_, by omega, Fc.pt M x (by omega), fun N R => ⟨mput N 179 (9 + 4 * i + 0) x, ?_, R.pt _ x, Fr.pt N x⟩⟩
  · unfold fX4_changeMark
    show (fX7_get 3 4 8 _ _ M).bind _ = _
    rw [l_0, V.1.gt hi (by omega), Option.bind_some]
    show (fX7_put 3 4 8 _ _ _ M).bind _ = _
    rw [X7_put (by omega) (by omega) (by omega) (by omega)]; rfl
  · obtain ⟨⟨w1, w2, w3⟩, w4, w5, w6⟩ := W
    have hb := V.2.1.1
    have cx : ru ρ (9 + 4 * i + 0) x (9 + 4 * i) = x := ru_at _ _ _
    have cz : ∀ j, j ≠ 9 + 4 * i → ru ρ (9 + 4 * i + 0) x j = ρ j := fun j hj => ru_ne _ (by omega)
    refine ⟨⟨fun j hj => ?_, fun j k hj hk hjk => ?_, fun j hj => by rw [cz _ (by omega)]; exact w3 j hj⟩, w4.cg hb fun k _ _ => cz k (by omega), w5.cg fun k _ _ => cz k (by omega), w6.cg fun k _ => cz k (by omega)⟩
    · by_cases e : j = i
      · subst e; rw [cx]; exact hx
      · rw [cz _ (by omega)]; exact w1 j hj
    · by_cases e : j = i
      · subst e
        by_cases e2 : k = j
        · exact e2.symm
        · rw [cx, cz _ (by omega)] at hjk
          exact absurd hjk.symm (hd k hk e2)
      · by_cases e2 : k = i
        · subst e2
          rw [cx, cz _ (by omega)] at hjk
          exact absurd hjk (hd j hj e)
        · rw [cz _ (by omega), cz _ (by omega)] at hjk
          exact w2 j k hj hk hjk
  · show Option.bind _ _ = _
    rw [l_0, R.of (by omega) (by omega), Option.bind_some, X12_lays' (by omega) (by omega)]; rfl
theorem op_excuse {M : Mem} {ρ : Nat → Int32} {h b g c i : Nat} (V : Vi M ρ h b g c) (W : Wr ρ h b c) (hi : i < h) : ∃ r M', fX4_excuseOne 2 (nI i) M = some (r, M') ∧ Vi M' (ru ρ (9 + 4 * i + 3) 1) h b g c ∧ Wr (ru ρ (9 + 4 * i + 3) 1) h b c ∧ Fc M M' ∧ ∀ N, Ro N ρ → ∃ N', fX12_lays (nI i) 3 1 N = some N' ∧ Ro N' (ru ρ (9 + 4 * i + 3) 1) ∧ Fr N N' ∧ fX12_excused N' = some r := by
  have hh := V.1.1
  have hb := V.2.1.1
  have V1 := V.ptH (show i < 8 by omega) (show 3 < 4 by omega) 1
  have W1 : Wr (ru ρ (9 + 4 * i + 3) 1) h b c := by
    obtain ⟨⟨w1, w2, w3⟩, w4, w5, w6⟩ := W
    have cz : ∀ j, j ≠ 9 + 4 * i + 3 → ru ρ (9 + 4 * i + 3) 1 j = ρ j := fun j hj => ru_ne _ hj
    refine ⟨⟨fun j hj => by rw [cz _ (by omega)]; exact w1 j hj, fun j k hj hk hjk => by rw [cz _ (by omega), cz _ (by omega)] at hjk; exact w2 j k hj hk hjk, fun j hj => ?_⟩, w4.cg hb fun k _ _ => cz k (by omega), w5.cg fun k _ _ => cz k (by omega), w6.cg fun k _ => cz k (by omega)⟩
    by_cases e : j = i
    · subst e; rw [ru_at]; exact ⟨1, by omega, rfl⟩
    · rw [cz _ (by omega)]; exact w3 j hj
  refine ⟨sH (ru ρ (9 + 4 * i + 3) 1) h 3, mput M (5 + 3) i 1, ?_, V1, W1, Fc.pt M _ (by omega), fun N R => ⟨mput N 179 (9 + 4 * i + 3) 1, ?_, R.pt _ _, Fr.pt N _, ?_⟩⟩
  · unfold fX4_excuseOne
    show (fX7_put 3 4 8 _ _ _ M).bind _ = _
    rw [l_3, X7_put (by omega) (by omega) (by omega) (by omega), Option.bind_some]
    show (fX7_count 3 4 8 ((mput M (5 + 3) i 1).1 2 1) (nI 3) 1 (mput M (5 + 3) i 1)).bind _ = _
    rw [V1.1.2.1, l_1]
    have := V1.1.exc W1.1
    rw [l_1] at this
    rw [this]; rfl
  · rw [l_3, X12_lays' (by omega) (by omega)]
  · exact X12_exc (R.pt _ _) (by rw [ru_ne _ (by omega)]; exact V.1.2.2.1) hh
/-! batches brought and taken back -/
theorem bring_tri {M : Mem} {ρ : Nat → Int32} {h b g c : Nat} (V : Vi M ρ h b g c) (x y z : Int32) : (fX9_whyNoBatch 1 x y z M = some 1 ∧ ∀ N, Ro N ρ → fX12_badBatch x y z N = some 1) ∨ (fX9_whyNoBatch 1 x y z M = some 2 ∧ ∀ N, Ro N ρ → fX12_badBatch x y z N = some 2) ∨ (fX9_whyNoBatch 1 x y z M = some 3 ∧ ∀ N, Ro N ρ → fX12_badBatch x y z N = some 3) ∨ (fX9_whyNoBatch 1 x y z M = some 0 ∧ (∀ N, Ro N ρ → fX12_badBatch x y z N = some 0) ∧ b < 20 ∧ (∃ a, a < h ∧ x = nI a) ∧ (∃ k, k < 3 ∧ y = nI k) ∧ ∃ w, 1 ≤ w ∧ w ≤ 12 ∧ z = nI w) := by
  obtain ⟨H, B, -⟩ := V
  have hh := H.1
  have hb := B.1
  have eh : fX4_has (1 + 1) x M = some (decide (0 ≤ x ∧ x < nI h)) := by
    have := who1 H x
    unfold fX9_whyNoHousehold at this
    unfold fX4_has at this ⊢
    rw [H.2.1] at this ⊢
    by_cases h0 : x < 0
    · rw [if_pos h0, decide_eq_false (fun q => absurd q.1 (Int32.not_le.mpr h0))]
    · rw [if_neg h0]
      by_cases h1 : nI h ≤ x
      · rw [if_pos h1, decide_eq_false (fun q => absurd q.2 (Int32.not_lt.mpr h1))]
      · rw [if_neg h1, decide_eq_true ⟨Int32.not_lt.mp h0, Int32.not_le.mp h1⟩]
  by_cases h1 : 0 ≤ x ∧ x < nI h
  · by_cases h2 : 0 ≤ y ∧ y ≤ 2
    · by_cases h3 : 1 ≤ z ∧ z ≤ 12
      · have e1 : fX9_whyNoBatch 1 x y z M = if nI b = 20 then some 3 else some 0 := by
          unfold fX9_whyNoBatch fX1_isFull
          rw [eh, Option.bind_some, if_pos (decide_eq_true h1), wb y 3 2 rfl, if_pos h2, Option.bind_some, if_pos rfl, wn, if_pos h3, Option.bind_some, if_pos rfl]
          show ((if M.1 9 1 = 20 then some true else some false).bind _) = _
          rw [B.2.1]
          by_cases h4 : nI b = 20
          · rw [if_pos h4, if_pos h4]; rfl
          · rw [if_neg h4, if_neg h4]; rfl
        have e2 : ∀ N, Ro N ρ → fX12_badBatch x y z N = if nI b = 20 then some 3 else some 0 := fun N R => by
          unfold fX12_badBatch
          rw [who2 R H.2.2.1 hh, Option.bind_some, if_pos (decide_eq_true h1), inn, Option.bind_some, if_pos (decide_eq_true h2), inn, Option.bind_some, if_pos (decide_eq_true h3), l_7, R.at (by omega), Option.bind_some, B.2.2.1]
        by_cases h4 : b = 20
        · subst h4
          exact Or.inr (Or.inr (Or.inl ⟨by rw [e1, if_pos (show nI 20 = 20 from rfl)], fun N R => by rw [e2 N R, if_pos (show nI 20 = 20 from rfl)]⟩))
        · refine Or.inr (Or.inr (Or.inr ⟨by rw [e1, l_20, if_neg (pI_ne h4 (by omega) (by omega))], fun N R => by rw [e2 N R, l_20, if_neg (pI_ne h4 (by omega) (by omega))], by omega, who_n hh h1, ?_, ?_⟩))
          · obtain ⟨k, hk, e⟩ := rng (B := 2) (by omega) h2
            exact ⟨k, by omega, e⟩
          · have h0 : (0 : Int32) ≤ z := Int32.le_trans (show (0 : Int32) ≤ 1 by decide) h3.1
            obtain ⟨w, hw, rfl⟩ := rng (B := 12) (by omega) ⟨h0, h3.2⟩
            refine ⟨w, ?_, hw, rfl⟩
            have := h3.1
            rw [l_1, mI_le (by omega) (by omega)] at this
            exact this
      · refine Or.inr (Or.inl ⟨?_, fun N R => ?_⟩)
        · unfold fX9_whyNoBatch
          rw [eh, Option.bind_some, if_pos (decide_eq_true h1), wb y 3 2 rfl, if_pos h2, Option.bind_some, if_pos rfl, wn, if_neg h3, Option.bind_some, if_neg (by decide)]
        · unfold fX12_badBatch
          rw [who2 R H.2.2.1 hh, Option.bind_some, if_pos (decide_eq_true h1), inn, Option.bind_some, if_pos (decide_eq_true h2), inn, Option.bind_some, if_neg (by rw [decide_eq_true_eq]; exact h3)]
    · refine Or.inr (Or.inl ⟨?_, fun N R => ?_⟩)
      · unfold fX9_whyNoBatch
        rw [eh, Option.bind_some, if_pos (decide_eq_true h1), wb y 3 2 rfl, if_neg h2, Option.bind_some, if_neg (by decide)]
      · unfold fX12_badBatch
        rw [who2 R H.2.2.1 hh, Option.bind_some, if_pos (decide_eq_true h1), inn, Option.bind_some, if_neg (by rw [decide_eq_true_eq]; exact h2)]
  · refine Or.inl ⟨?_, fun N R => ?_⟩
    · unfold fX9_whyNoBatch
      rw [eh, Option.bind_some, if_neg (by rw [decide_eq_true_eq]; exact h1)]
    · unfold fX12_badBatch
      rw [who2 R H.2.2.1 hh, Option.bind_some, if_neg (by rw [decide_eq_true_eq]; exact h1)]
theorem add_b {M : Mem} {b : Nat} (hb : b < 20) (hc : M.1 9 1 = nI b) (x y z : Int32) : fX1_add 9 x y z M = some (nI b, mput (mput (mput (mput M (12 + 0) b x) (12 + 1) b y) (12 + 2) b z) 9 1 (nI (b + 1))) := by
  unfold fX1_add
  rw [hc, show fX7_put (9 + 1) 3 20 (nI b) 0 x M = some (mput M (12 + 0) b x) from X7_put (k := 0) (by omega) (by omega) hb (by omega), Option.bind_some]
  rw [show fX7_put (9 + 1) 3 20 (nI b) 1 y (mput M (12 + 0) b x) = some (mput (mput M (12 + 0) b x) (12 + 1) b y) from X7_put (k := 1) (by omega) (by omega) hb (by omega), Option.bind_some]
  rw [show fX7_put (9 + 1) 3 20 (nI b) 2 z (mput (mput M (12 + 0) b x) (12 + 1) b y) = some _ from X7_put (k := 2) (by omega) (by omega) hb (by omega), Option.bind_some]
  unfold pf
  rw [Option.bind_some, show (mput (mput (mput M (12 + 0) b x) (12 + 1) b y) (10 + (2 + 2)) b z).1 9 1 = nI b from by rw [mput_at, if_neg (by omega), mput_at, if_neg (by omega), mput_at, if_neg (by omega)]; exact hc, l_1, nI_ad]
theorem brings_r {N : Mem} {ρ : Nat → Int32} {b : Nat} (R : Ro N ρ) (hb : b < 20) (h7 : ρ 7 = nI b) (x y z : Int32) : fX12_brings x y z N = some (nI b, mput (mput (mput (mput N 179 (41 + 3 * b + 0) x) 179 (41 + 3 * b + 1) y) 179 (41 + 3 * b + 2) z) 179 7 (nI (b + 1))) := by
  have R1 := R.pt (41 + 3 * b + 0) x
  have R2 := R1.pt (41 + 3 * b + 1) y
  have R3 := R2.pt (41 + 3 * b + 2) z
  have R4 := R3.pt 7 (nI (b + 1))
  unfold fX12_brings
  rw [l_7, R.at (by omega), Option.bind_some, h7, l_41, l_3, nI_ml', nI_ad, ast_n (by omega) (by omega), Option.bind_some, l_1, nI_ad, ast_n (by omega) (by omega), Option.bind_some, l_2, nI_ad, ast_n (by omega) (by omega), Option.bind_some]
  show (ald ((mput (mput (mput N 179 (41 + 3 * b + 0) x) 179 (41 + 3 * b + 1) y) 179 (41 + 3 * b + 2) z).1 179) 1601 (nI 7)).bind _ = _
  rw [R3.at (by omega), ru_ne _ (by omega), ru_ne _ (by omega), ru_ne _ (by omega), h7, Option.bind_some, nI_ad, ast_n (by omega) (by omega), Option.bind_some]
  show (ald ((mput (mput (mput (mput N 179 (41 + 3 * b + 0) x) 179 (41 + 3 * b + 1) y) 179 (41 + 3 * b + 2) z) 179 7 (nI (b + 1))).1 179) 1601 (nI 7)).bind _ = _
  rw [R4.at (by omega), ru_at, Option.bind_some, mI_sb (by omega) (by omega)]
  rfl
theorem op_bring {M : Mem} {ρ : Nat → Int32} {h b g c : Nat} (V : Vi M ρ h b g c) (W : Wr ρ h b c) {x y z : Int32} (hb : b < 20) (hx : ∃ a, a < h ∧ x = nI a) (hy : ∃ k, k < 3 ∧ y = nI k) (hz : ∃ w, 1 ≤ w ∧ w ≤ 12 ∧ z = nI w) : Opp (fX1_add 9 x y z) (fX12_brings x y z) M ρ c := by
  have V1 := ((V.ptB hb (k := 0) (by omega) x).ptB hb (k := 1) (by omega) y).ptB hb (k := 2) (by omega) z
  obtain ⟨M4, hM4⟩ : ∃ M4, M4 = mput (mput (mput M (12 + 0) b x) (12 + 1) b y) (12 + 2) b z := ⟨_, rfl⟩
  obtain ⟨ρ4, hρ4⟩ : ∃ ρ4, ρ4 = ru (ru (ru ρ (41 + 3 * b + 0) x) (41 + 3 * b + 1) y) (41 + 3 * b + 2) z := ⟨_, rfl⟩
  rw [← hM4, ← hρ4] at V1
  have cn : ∀ j, j < 41 + 3 * b ∨ 44 + 3 * b ≤ j → ρ4 j = ρ j := fun j hj => by rw [hρ4, ru_ne _ (by omega), ru_ne _ (by omega), ru_ne _ (by omega)]
  have c0 : ρ4 (41 + 3 * b) = x := by rw [hρ4, ru_ne _ (by omega), ru_ne _ (by omega)]; exact ru_at _ _ _
  have c1 : ρ4 (41 + 3 * b + 1) = y := by rw [hρ4, ru_ne _ (by omega)]; exact ru_at _ _ _
  have c2 : ρ4 (41 + 3 * b + 2) = z := by rw [hρ4]; exact ru_at _ _ _
  have V2 : Vi (mput M4 9 1 (nI (b + 1))) (ru ρ4 7 (nI (b + 1))) h (b + 1) g c := by
    refine ⟨V1.1.cg (fun q y _ _ => by rw [mput_at, if_neg (by omega)]) (fun j _ _ => ru_ne _ (by omega)), V1.2.1.grow hb (fun k hk => ?_), V1.2.2.1.cg (fun q y _ _ => by rw [mput_at, if_neg (by omega)]) (fun j _ _ => ru_ne _ (by omega)), V1.2.2.2.1.cg (fun q y _ _ => by rw [mput_at, if_neg (by omega)]) (fun j _ _ => ru_ne _ (by omega)), V1.2.2.2.2.cg (fun y => by rw [mput_at, if_neg (by omega)]) (fun j _ => ru_ne _ (by omega))⟩
    rw [hM4, hρ4]
    rcases (show k = 0 ∨ k = 1 ∨ k = 2 by omega) with rfl | rfl | rfl <;> simp [mput_at, ru]
  refine ⟨nI b, mput M4 9 1 (nI (b + 1)), ru ρ4 7 (nI (b + 1)), h, b + 1, g, c, by rw [hM4]; exact add_b hb V.2.1.2.1 x y z, V2, ?_, by omega, ?_, fun N R => ?_⟩
  · obtain ⟨w3, w4, w5, w6⟩ := W
    have hh := V.1.1
    refine ⟨w3.cg hh fun k h1 h2 => by rw [ru_ne _ (by omega), cn k (by omega)], fun i hi => ?_, w5.cg fun k h1 h2 => by rw [ru_ne _ (by omega), cn k (by omega)], w6.cg fun k hk => by rw [ru_ne _ (by omega), cn k (by omega)]⟩
    rw [ru_ne _ (by omega), ru_ne _ (by omega), ru_ne _ (by omega)]
    by_cases e : i = b
    · subst e; rw [c0, c1, c2]; exact ⟨hx, hy, hz⟩
    · rw [cn _ (by omega), cn _ (by omega), cn _ (by omega)]; exact w4 i (by omega)
  · rw [hM4]
    exact (((Fc.pt M x (by omega)).tr (Fc.pt _ y (by omega))).tr (Fc.pt _ z (by omega))).tr (Fc.pt _ _ (by omega))
  · refine ⟨_, brings_r R hb V.2.1.2.2.1 x y z, ?_, ?_⟩
    · rw [hρ4]
      exact (((R.pt _ x).pt _ y).pt _ z).pt _ _
    · exact (((Fr.pt N x).tr (Fr.pt _ y)).tr (Fr.pt _ z)).tr (Fr.pt _ _)
