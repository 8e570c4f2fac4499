/-! cells changed on both sides -/
def ru (ρ : Nat → Int32) (k : Nat) (x : Int32) : Nat → Int32 := fun j => if j = k then x else ρ j
theorem ru_at (ρ : Nat → Int32) (k : Nat) (x : Int32) : ru ρ k x k = x := by simp [ru]
theorem ru_ne {ρ : Nat → Int32} {k j : Nat} (x : Int32) (h : j ≠ k) : ru ρ k x j = ρ j := by simp [ru, h]
theorem Ro.pt {N : Mem} {ρ : Nat → Int32} (R : Ro N ρ) (k : Nat) (x : Int32) : Ro (mput N 179 k x) (ru ρ k x) := fun j hj => by
  rw [mput_at]
  by_cases h : j = k
  · subst h; rw [if_pos ⟨rfl, rfl⟩, ru_at]
  · rw [if_neg (fun q => h q.2), ru_ne x h]; exact R j hj
theorem Ro.cg {N N' : Mem} {ρ : Nat → Int32} (R : Ro N ρ) (h : ∀ k, k < 1601 → N'.1 179 k = N.1 179 k) : Ro N' ρ := fun j hj => (h j hj).trans (R j hj)
theorem HH.pt {M : Mem} {ρ : Nat → Int32} {h i k : Nat} (H : HH M ρ h) (hi : i < 8) (hk : k < 4) (x : Int32) : HH (mput M (5 + k) i x) (ru ρ (9 + 4 * i + k) x) h := by
  obtain ⟨h1, h2, h3, h4⟩ := H
  refine ⟨h1, by rw [mput_at, if_neg (by omega)]; exact h2, by rw [ru_ne _ (by omega)]; exact h3, fun i' k' hi' hk' => ?_⟩
  rw [mput_at]
  by_cases e : 5 + k' = 5 + k ∧ i' = i
  · obtain ⟨e1, rfl⟩ := e
    obtain rfl : k' = k := by omega
    rw [if_pos ⟨rfl, rfl⟩, ru_at]
  · rw [if_neg e, ru_ne _ (by omega)]; exact h4 i' k' hi' hk'
theorem BB.pt {M : Mem} {ρ : Nat → Int32} {b i k : Nat} (B : BB M ρ b) (hk : k < 3) (x : Int32) : BB (mput M (12 + k) i x) (ru ρ (41 + 3 * i + k) x) b := by
  obtain ⟨h1, h2, h3, h4⟩ := B
  refine ⟨h1, by rw [mput_at, if_neg (by omega)]; exact h2, by rw [ru_ne _ (by omega)]; exact h3, fun i' k' hi' hk' => ?_⟩
  rw [mput_at]
  by_cases e : 12 + k' = 12 + k ∧ i' = i
  · obtain ⟨e1, rfl⟩ := e
    obtain rfl : k' = k := by omega
    rw [if_pos ⟨rfl, rfl⟩, ru_at]
  · rw [if_neg e, ru_ne _ (by omega)]; exact h4 i' k' hi' hk'
theorem LL.pt {M : Mem} {ρ : Nat → Int32} {c i k : Nat} (L : LL M ρ c) (hk : k < 7) (x : Int32) : LL (mput M (26 + k) i x) (ru ρ (201 + 7 * i + k) x) c := by
  obtain ⟨h1, h2, h3, h5, h4⟩ := L
  refine ⟨h1, by rw [mput_at, if_neg (by omega)]; exact h2, by rw [ru_ne _ (by omega)]; exact h3, by rw [mput_at, if_neg (by omega), ru_ne _ (by omega)]; exact h5, fun i' k' hi' hj' hk' => ?_⟩
  rw [mput_at]
  by_cases e : 26 + k' = 26 + k ∧ i' = i
  · obtain ⟨e1, rfl⟩ := e
    obtain rfl : k' = k := by omega
    rw [if_pos ⟨rfl, rfl⟩, ru_at]
  · rw [if_neg e, ru_ne _ (by omega)]; exact h4 i' k' hi' hj' hk'
theorem Vi.ptH {M : Mem} {ρ : Nat → Int32} {h b g c i k : Nat} (V : Vi M ρ h b g c) (hi : i < 8) (hk : k < 4) (x : Int32) : Vi (mput M (5 + k) i x) (ru ρ (9 + 4 * i + k) x) h b g c :=
  ⟨V.1.pt hi hk x, V.2.1.cg (fun q y _ _ => by rw [mput_at, if_neg (by omega)]) (fun j _ _ => ru_ne _ (by omega)), V.2.2.1.cg (fun q y _ _ => by rw [mput_at, if_neg (by omega)]) (fun j _ _ => ru_ne _ (by omega)), V.2.2.2.1.cg (fun q y _ _ => by rw [mput_at, if_neg (by omega)]) (fun j _ _ => ru_ne _ (by omega)), V.2.2.2.2.cg (fun y => by rw [mput_at, if_neg (by omega)]) (fun j _ => ru_ne _ (by omega))⟩
theorem Vi.ptB {M : Mem} {ρ : Nat → Int32} {h b g c i k : Nat} (V : Vi M ρ h b g c) (hi : i < 20) (hk : k < 3) (x : Int32) : Vi (mput M (12 + k) i x) (ru ρ (41 + 3 * i + k) x) h b g c :=
  ⟨V.1.cg (fun q y _ _ => by rw [mput_at, if_neg (by omega)]) (fun j _ _ => ru_ne _ (by omega)), V.2.1.pt hk x, V.2.2.1.cg (fun q y _ _ => by rw [mput_at, if_neg (by omega)]) (fun j _ _ => ru_ne _ (by omega)), V.2.2.2.1.cg (fun q y _ _ => by rw [mput_at, if_neg (by omega)]) (fun j _ _ => ru_ne _ (by omega)), V.2.2.2.2.cg (fun y => by rw [mput_at, if_neg (by omega)]) (fun j _ => ru_ne _ (by omega))⟩
theorem Vi.ptL {M : Mem} {ρ : Nat → Int32} {h b g c i k : Nat} (V : Vi M ρ h b g c) (hi : i < 200) (hk : k < 7) (x : Int32) : Vi (mput M (26 + k) i x) (ru ρ (201 + 7 * i + k) x) h b g c :=
  ⟨V.1.cg (fun q y _ _ => by rw [mput_at, if_neg (by omega)]) (fun j _ _ => ru_ne _ (by omega)), V.2.1.cg (fun q y _ _ => by rw [mput_at, if_neg (by omega)]) (fun j _ _ => ru_ne _ (by omega)), V.2.2.1.cg (fun q y _ _ => by rw [mput_at, if_neg (by omega)]) (fun j _ _ => ru_ne _ (by omega)), V.2.2.2.1.pt hk x, V.2.2.2.2.cg (fun y => by rw [mput_at, if_neg (by omega)]) (fun j _ => ru_ne _ (by omega))⟩
theorem HH.grow {M : Mem} {ρ : Nat → Int32} {h : Nat} (H : HH M ρ h) (hh : h < 8) (hc : ∀ k, k < 4 → M.1 (5 + k) h = ρ (9 + 4 * h + k)) : HH (mput M 2 1 (nI (h + 1))) (ru ρ 0 (nI (h + 1))) (h + 1) := by
  obtain ⟨h1, h2, h3, h4⟩ := H
  refine ⟨by omega, by rw [mput_at, if_pos ⟨rfl, rfl⟩], ru_at _ _ _, fun i k hi hk => ?_⟩
  rw [mput_at, if_neg (by omega), ru_ne _ (by omega)]
  by_cases e : i = h
  · subst e; exact hc k hk
  · exact h4 i k (by omega) hk
theorem BB.grow {M : Mem} {ρ : Nat → Int32} {b : Nat} (B : BB M ρ b) (hb : b < 20) (hc : ∀ k, k < 3 → M.1 (12 + k) b = ρ (41 + 3 * b + k)) : BB (mput M 9 1 (nI (b + 1))) (ru ρ 7 (nI (b + 1))) (b + 1) := by
  obtain ⟨h1, h2, h3, h4⟩ := B
  refine ⟨by omega, by rw [mput_at, if_pos ⟨rfl, rfl⟩], ru_at _ _ _, fun i k hi hk => ?_⟩
  rw [mput_at, if_neg (by omega), ru_ne _ (by omega)]
  by_cases e : i = b
  · subst e; exact hc k hk
  · exact h4 i k (by omega) hk
/-! who has a mark -/
theorem taken_r {N : Mem} {ρ : Nat → Int32} {h : Nat} (R : Ro N ρ) (h0 : ρ 0 = nI h) (hh : h ≤ 8) (x y : Int32) : ∃ r, fX12_isTaken x y N = some r ∧ (r = true ↔ ∃ i, i < h ∧ nI i ≠ y ∧ ρ (9 + 4 * i) = x) := by
  obtain ⟨r, q1, q2⟩ := mark_m hh ((R 0 (by omega)).trans h0) x y h 0 FUEL false (by omega) (fuel8 (by omega))
  refine ⟨r, by unfold fX12_isTaken; rw [l_0, q1]; rfl, q2.trans ⟨?_, ?_⟩⟩
  · rintro (q | ⟨i, i1, i2, i3, i4⟩)
    · cases q
    · exact ⟨i, i2, i3, by rw [← R _ (by omega)]; exact i4⟩
  · rintro ⟨i, i2, i3, i4⟩
    exact Or.inr ⟨i, by omega, i2, i3, by rw [R _ (by omega)]; exact i4⟩
theorem with_c {M : Mem} {ρ : Nat → Int32} {h : Nat} (H : HH M ρ h) (x : Int32) : (fX4_withMark 2 x M = some NG ∧ ∀ i, i < h → ρ (9 + 4 * i) ≠ x) ∨ ∃ i, i < h ∧ ρ (9 + 4 * i) = x ∧ fX4_withMark 2 x M = some (nI i) := by
  have cell : ∀ i, i < h → M.1 (1 + (4 + 0)) i = ρ (9 + 4 * i) := fun i hi => H.2.2.2 i 0 hi (by omega)
  rcases mark_c (v := 1) H.1 H.2.1 x h 0 FUEL (by omega) (fuel8 (by have := H.1; omega)) with ⟨p1, p2⟩ | ⟨i, p1, p2, p3, p4, p5⟩
  · left
    refine ⟨?_, fun i hi q => p2 i (by omega) hi ((cell i hi).trans q)⟩
    unfold fX4_withMark
    rw [l_0, show (2 : Nat) = 1 + 1 from rfl, p1]; rfl
  · right
    refine ⟨i, p2, (cell i p2).symm.trans p3, ?_⟩
    unfold fX4_withMark
    rw [l_0, show (2 : Nat) = 1 + 1 from rfl, p4]; rfl
theorem mark_n {x : Int32} (h : 1 ≤ x ∧ x ≤ 65535) : ∃ m, 1 ≤ m ∧ m < 65536 ∧ x = nI m := by
  have h0 : (0 : Int32) ≤ x := Int32.le_trans (show (0 : Int32) ≤ 1 by decide) h.1
  obtain ⟨m, hm, rfl⟩ := rng (B := 65535) (by omega) ⟨h0, h.2⟩
  refine ⟨m, ?_, by omega, rfl⟩
  have := h.1
  rw [l_1, mI_le (by omega) (by omega)] at this
  exact this
/-- may one join with this mark -/
theorem join_tri {M : Mem} {ρ : Nat → Int32} {h : Nat} (H : HH M ρ h) (x : Int32) : (fX9_whyNoJoining 1 x M = some 2 ∧ ∀ N, Ro N ρ → fX12_badJoin x N = some 1) ∨ (fX9_whyNoJoining 1 x M = some 3 ∧ ∀ N, Ro N ρ → fX12_badJoin x N = some 2) ∨ (fX9_whyNoJoining 1 x M = some 0 ∧ (∀ N, Ro N ρ → fX12_badJoin x N = some 0) ∧ h < 8 ∧ (∃ m, 1 ≤ m ∧ m < 65536 ∧ x = nI m) ∧ ∀ i, i < h → ρ (9 + 4 * i) ≠ x) := by
  have hh := H.1
  by_cases h1 : 1 ≤ x ∧ x ≤ 65535
  · right
    have e1 : fX9_whyNoJoining 1 x M = (fX4_isFull 2 M).bind fun b5 => if b5 = true then (some (3 : Int32)) else ((fX4_withMark 2 x M).bind fun v8 => if v8 = (-1 : Int32) then (some (0 : Int32)) else (some (3 : Int32))) := by
      unfold fX9_whyNoJoining
      rw [wn, if_pos h1, Option.bind_some, if_pos rfl]
    have e2 : ∀ N, Ro N ρ → fX12_badJoin x N = if nI h = (8 : Int32) then (some (2 : Int32)) else ((fX12_isTaken x (-1 : Int32) N).bind fun b9 => if b9 = true then (some (2 : Int32)) else (some (0 : Int32))) := fun N R => by
      unfold fX12_badJoin fX12_isMark
      rw [inn, Option.bind_some, Option.bind_some, if_pos (decide_eq_true h1), l_0, R.at (by omega), Option.bind_some, H.2.2.1]
    unfold fX4_isFull at e1
    rw [H.2.1] at e1
    by_cases h8 : h = 8
    · left
      subst h8
      rw [if_pos (show nI 8 = 8 from rfl), Option.bind_some, if_pos rfl] at e1
      exact ⟨e1, fun N R => by rw [e2 N R, if_pos (show nI 8 = 8 from rfl)]⟩
    · rw [l_8, if_neg (pI_ne h8 (by omega) (by omega)), Option.bind_some, if_neg (by decide)] at e1
      rcases with_c H x with ⟨p1, p2⟩ | ⟨i, p1, p2, p3⟩
      · right
        rw [p1, Option.bind_some, if_pos (show NG = -1 from rfl)] at e1
        refine ⟨e1, fun N R => ?_, by omega, mark_n h1, p2⟩
        obtain ⟨r, q1, q2⟩ := taken_r R H.2.2.1 hh x (-1)
        rw [e2 N R, l_8, if_neg (pI_ne h8 (by omega) (by omega)), q1, Option.bind_some, if_neg (fun q => by
          obtain ⟨i, i1, i2, i3⟩ := q2.mp q
          exact p2 i i1 i3)]
      · left
        rw [p3, Option.bind_some, if_neg (show ¬ nI i = -1 from nI_ng (by omega))] at e1
        refine ⟨e1, fun N R => ?_⟩
        obtain ⟨r, q1, q2⟩ := taken_r R H.2.2.1 hh x (-1)
        rw [e2 N R, l_8, if_neg (pI_ne h8 (by omega) (by omega)), q1, Option.bind_some, if_pos (q2.mpr ⟨i, p1, nI_ng (by omega), p2⟩)]
  · left
    constructor
    · unfold fX9_whyNoJoining
      rw [wn, if_neg h1, Option.bind_some, if_neg (by decide)]
    · intro N R
      unfold fX12_badJoin fX12_isMark
      rw [inn, Option.bind_some, Option.bind_some, if_neg (by rw [decide_eq_true_eq]; exact h1)]
theorem op_join {M : Mem} {ρ : Nat → Int32} {h b g c : Nat} (V : Vi M ρ h b g c) (W : Wr ρ h b c) {x : Int32} (h8 : h < 8) (hx : ∃ m, 1 ≤ m ∧ m < 65536 ∧ x = nI m) (hd : ∀ i, i < h → ρ (9 + 4 * i) ≠ x) : Opp (fX4_add 2 x) (fX12_joins x) M ρ c := by
  have V1 := (((V.ptH h8 (k := 0) (by omega) x).ptH h8 (k := 1) (by omega) 0).ptH h8 (k := 2) (by omega) 0).ptH h8 (k := 3) (by omega) 0
  obtain ⟨M4, hM4⟩ : ∃ M4, M4 = mput (mput (mput (mput M (5 + 0) h x) (5 + 1) h 0) (5 + 2) h 0) (5 + 3) h 0 := ⟨_, rfl⟩
  obtain ⟨ρ4, hρ4⟩ : ∃ ρ4, ρ4 = ru (ru (ru (ru ρ (9 + 4 * h + 0) x) (9 + 4 * h + 1) 0) (9 + 4 * h + 2) 0) (9 + 4 * h + 3) 0 := ⟨_, rfl⟩
  rw [← hM4, ← hρ4] at V1
  have c0 : ρ4 (9 + 4 * h) = x := by rw [hρ4, ru_ne _ (by omega), ru_ne _ (by omega), ru_ne _ (by omega)]; exact ru_at _ _ _
  have c3 : ρ4 (9 + 4 * h + 3) = 0 := by rw [hρ4]; exact ru_at _ _ _
  have cn : ∀ j, j < 9 + 4 * h ∨ 13 + 4 * h ≤ j → ρ4 j = ρ j := fun j hj => by rw [hρ4, ru_ne _ (by omega), ru_ne _ (by omega), ru_ne _ (by omega), ru_ne _ (by omega)]
  have V2 : Vi (mput M4 2 1 (nI (h + 1))) (ru ρ4 0 (nI (h + 1))) (h + 1) b g c := by
    refine ⟨V1.1.grow h8 (fun k hk => ?_), V1.2.1.cg (fun q y _ _ => by rw [mput_at, if_neg (by omega)]) (fun j _ _ => ru_ne _ (by omega)), V1.2.2.1.cg (fun q y _ _ => by rw [mput_at, if_neg (by omega)]) (fun j _ _ => ru_ne _ (by omega)), V1.2.2.2.1.cg (fun q y _ _ => by rw [mput_at, if_neg (by omega)]) (fun j _ _ => ru_ne _ (by omega)), V1.2.2.2.2.cg (fun y => by rw [mput_at, if_neg (by omega)]) (fun j _ => ru_ne _ (by omega))⟩
    rw [hM4, hρ4]
    rcases (show k = 0 ∨ k = 1 ∨ k = 2 ∨ k = 3 by omega) with rfl | rfl | rfl | rfl <;> simp [mput_at, ru]
  refine ⟨nI h, mput M4 2 1 (nI (h + 1)), ru ρ4 0 (nI (h + 1)), h + 1, b, g, c, by rw [hM4]; exact add_c h8 V.1.2.1 x, V2, ?_, by omega, ?_, fun N R => ?_⟩
  · obtain ⟨⟨w1, w2, w3⟩, w4, w5, w6⟩ := W
    have cz : ∀ j, 9 ≤ j → j < 9 + 4 * h ∨ 13 + 4 * h ≤ j → ru ρ4 0 (nI (h + 1)) j = ρ j := fun j h1 h2 => by rw [ru_ne _ (by omega), cn j h2]
    have cx : ru ρ4 0 (nI (h + 1)) (9 + 4 * h) = x := by rw [ru_ne _ (by omega), c0]
    refine ⟨⟨fun i hi => ?_, fun i j hi hj hij => ?_, fun i hi => ?_⟩, fun i hi => ?_, w5.cg fun k h1 h2 => cz k (by omega) (by omega), w6.cg fun k hk => by rw [ru_ne _ (by omega), cn k (by omega)]⟩
    · by_cases e : i = h
      · subst e; rw [cx]; exact hx
      · rw [cz _ (by omega) (by omega)]; exact w1 i (by omega)
    · by_cases e : i = h
      · subst e
        by_cases e2 : j = i
        · exact e2.symm
        · rw [cx, cz _ (by omega) (by omega)] at hij
          exact absurd hij.symm (hd j (by omega))
      · by_cases e2 : j = h
        · subst e2
          rw [cx, cz _ (by omega) (by omega)] at hij
          exact absurd hij (hd i (by omega))
        · rw [cz _ (by omega) (by omega), cz _ (by omega) (by omega)] at hij
          exact w2 i j (by omega) (by omega) hij
    · by_cases e : i = h
      · subst e; rw [ru_ne _ (by omega), c3]; exact ⟨0, by omega, rfl⟩
      · rw [cz _ (by omega) (by omega)]; exact w3 i (by omega)
    · have hb := V.2.1.1
      rw [cz _ (by omega) (by omega), cz _ (by omega) (by omega), cz _ (by omega) (by omega)]
      obtain ⟨⟨a, ha, ea⟩, z2⟩ := w4 i hi
      exact ⟨⟨a, by omega, ea⟩, z2⟩
  · rw [hM4]
    exact ((((Fc.pt M x (by omega)).tr (Fc.pt _ 0 (by omega))).tr (Fc.pt _ 0 (by omega))).tr (Fc.pt _ 0 (by omega))).tr (Fc.pt _ _ (by omega))
  · refine ⟨_, joins_m h8 ((R 0 (by omega)).trans V.1.2.2.1) x, ?_, ?_⟩
    · rw [hρ4]
      exact ((((R.pt _ x).pt _ 0).pt _ 0).pt _ 0).pt _ _
    · exact ((((Fr.pt N x).tr (Fr.pt _ 0)).tr (Fr.pt _ 0)).tr (Fr.pt _ 0)).tr (Fr.pt _ _)
