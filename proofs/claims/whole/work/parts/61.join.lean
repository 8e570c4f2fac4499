theorem nI_m1 {i : Nat} (hi : i < 8) : ¬ nI i = (-1 : Int32) := by
  intro q
  have := congrArg Int32.toInt q
  rw [nI_int (by omega)] at this
  have h1 : (-1 : Int32).toInt = -1 := by decide
  omega
/-- may one join with this mark: both sides -/
theorem join_ok {M : Mem} {h b g c : Nat} (H : RVn M 1 (M.1 179) h b g c) (x : Int32) : (fX9_whyNoJoining 1 x M = some 2 ∧ fX12_badJoin x M = some 1) ∨ (fX9_whyNoJoining 1 x M = some 3 ∧ fX12_badJoin x M = some 2) ∨ (fX9_whyNoJoining 1 x M = some 0 ∧ fX12_badJoin x M = some 0 ∧ h < 8) := by
  obtain ⟨⟨hh, -⟩, ⟨c1, -⟩, ⟨r1, -⟩, -, a5, -⟩ := id H
  have bad : (x < 1 ∨ ¬ x ≤ 65535) → fX9_whyNoJoining 1 x M = some 2 ∧ fX12_badJoin x M = some 1 := by
    intro hx
    constructor
    · unfold fX9_whyNoJoining
      rw [show fX11_whyNotWithin x 1 65535 = some 2 from by
        unfold fX11_whyNotWithin
        by_cases h0 : x < 1
        · rw [if_pos h0]
        · rw [if_neg h0, if_neg (hx.resolve_left h0)], Option.bind_some, if_neg (by decide)]
    · unfold fX12_badJoin fX12_isMark
      rw [show fX12_in x 1 65535 = some false from by
        unfold fX12_in
        by_cases h0 : x < 1
        · rw [if_pos h0]
        · rw [if_neg h0, if_pos (Int32.not_le.mp (hx.resolve_left h0))], Option.bind_some, Option.bind_some, if_neg (by decide)]
  by_cases h0 : x < 1
  · exact Or.inl (bad (Or.inl h0))
  by_cases h1 : x ≤ 65535
  · right
    have w1 : fX11_whyNotWithin x 1 65535 = some 0 := by unfold fX11_whyNotWithin; rw [if_neg h0, if_pos h1]
    have w2 : fX12_isMark x = some true := by
      unfold fX12_isMark fX12_in
      rw [if_neg h0, if_neg (Int32.not_lt.mpr h1)]; rfl
    have w3 : ald (M.1 179) 1601 0 = some (nI h) := by rw [show ald (M.1 179) 1601 0 = some (M.1 179 0) from ald_n (j := 0) (by omega) (by omega), r1]
    by_cases h8 : h = 8
    · left
      subst h8
      constructor
      · unfold fX9_whyNoJoining fX4_isFull
        rw [w1, Option.bind_some, if_pos rfl, c1, if_pos (show nI 8 = (8 : Int32) from rfl), Option.bind_some, if_pos rfl]
      · unfold fX12_badJoin
        rw [w2, Option.bind_some, if_pos rfl, w3, Option.bind_some, if_pos (show nI 8 = (8 : Int32) from rfl)]
    · have n8 : ¬ nI h = (8 : Int32) := fun q => h8 ((mI_eq (by omega) (by omega)).mp (q.trans (show (8 : Int32) = nI 8 from rfl)))
      have e1 : fX9_whyNoJoining 1 x M = (fX4_withMark 2 x M).bind fun v8 => if v8 = (-1 : Int32) then some (0 : Int32) else some (3 : Int32) := by
        unfold fX9_whyNoJoining fX4_isFull
        rw [w1, Option.bind_some, if_pos rfl, c1, if_neg n8, Option.bind_some, if_neg (by decide)]
      have e2 : fX12_badJoin x M = (fX12_isTaken x (-1 : Int32) M).bind fun b9 => if b9 = true then some (2 : Int32) else some (0 : Int32) := by
        unfold fX12_badJoin
        rw [w2, Option.bind_some, if_pos rfl, w3, Option.bind_some, if_neg n8]
      obtain ⟨r, q1, q2⟩ := mark_m hh r1 x (-1 : Int32) h 0 FUEL false (by omega) (by unfold FUEL; omega)
      have e3 : fX12_isTaken x (-1 : Int32) M = some r := by
        unfold fX12_isTaken
        rw [show (0 : Int32) = nI 0 from rfl, q1]; rfl
      rcases mark_c (v := 1) hh c1 x h 0 FUEL (by omega) (by unfold FUEL; omega) with ⟨p1, p2⟩ | ⟨i, p1, p2, p3, p4, p5⟩
      · right
        have e4 : fX4_withMark 2 x M = some (-1) := by
          unfold fX4_withMark
          rw [show (0 : Int32) = nI 0 from rfl, show (2 : Nat) = 1 + 1 from rfl, p1]; rfl
        have hr : ¬ r = true := fun q => by
          rcases q2.mp q with q3 | ⟨i, i1, i2, i3, i4⟩
          · cases q3
          · exact p2 i i1 i2 ((a5 i 0 i2 (by omega)).trans i4)
        rw [e1, e2, e3, e4, Option.bind_some, if_pos rfl, Option.bind_some, if_neg hr]
        exact ⟨rfl, rfl, by omega⟩
      · left
        have e4 : fX4_withMark 2 x M = some (nI i) := by
          unfold fX4_withMark
          rw [show (0 : Int32) = nI 0 from rfl, show (2 : Nat) = 1 + 1 from rfl, p4]; rfl
        have hr : r = true := q2.mpr (Or.inr ⟨i, p1, p2, nI_m1 (by omega), (a5 i 0 p2 (by omega)).symm.trans p3⟩)
        rw [e1, e2, e3, e4, Option.bind_some, if_neg (nI_m1 (by omega)), Option.bind_some, if_pos hr]
        exact ⟨rfl, rfl⟩
  · exact Or.inl (bad (Or.inr h1))
