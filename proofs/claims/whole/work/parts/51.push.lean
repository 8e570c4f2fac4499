theorem push_unf {M : Mem} {l : Nat} (hl : l < 4) (h : M.1 45 1 = nI l) : fX8_push 1 M = (fX9_copyFrom (47 + 32 * ((l + 1) % 4)) 1 (mput M 45 1 (nI ((l + 1) % 4)))).bind fun M11 => some (mput M11 45 2 (if M11.1 45 2 + 1 < 4 then M11.1 45 2 + 1 else 4)) := by
  rcases (show l = 0 ∨ l = 1 ∨ l = 2 ∨ l = 3 by omega) with rfl | rfl | rfl | rfl
  · unfold fX8_push
    rw [h, show nI 0 + (1 : Int32) = nI 1 from by decide, if_neg (by decide), Option.bind_some]
    unfold pf
    rw [Option.bind_some, mput_at, if_pos ⟨rfl, rfl⟩, show fX8_stateAt (nI 1) (mput M 45 1 (nI 1)) = some (some 79) from by unfold fX8_stateAt; rw [if_neg (by decide), if_neg (by decide), if_neg (by decide)]; rfl, Option.bind_some]
    show (if ¬ lay[79]? = some (tK 9) then none else _) = _
    rw [if_neg (by decide)]
    rfl
  · unfold fX8_push
    rw [h, show nI 1 + (1 : Int32) = nI 2 from by decide, if_neg (by decide), Option.bind_some]
    unfold pf
    rw [Option.bind_some, mput_at, if_pos ⟨rfl, rfl⟩, show fX8_stateAt (nI 2) (mput M 45 1 (nI 2)) = some (some 111) from by unfold fX8_stateAt; rw [if_neg (by decide), if_neg (by decide), if_neg (by decide)]; rfl, Option.bind_some]
    show (if ¬ lay[111]? = some (tK 9) then none else _) = _
    rw [if_neg (by decide)]
    rfl
  · unfold fX8_push
    rw [h, show nI 2 + (1 : Int32) = nI 3 from by decide, if_neg (by decide), Option.bind_some]
    unfold pf
    rw [Option.bind_some, mput_at, if_pos ⟨rfl, rfl⟩, show fX8_stateAt (nI 3) (mput M 45 1 (nI 3)) = some (some 143) from by unfold fX8_stateAt; rw [if_neg (by decide), if_neg (by decide), if_neg (by decide)]; rfl, Option.bind_some]
    show (if ¬ lay[143]? = some (tK 9) then none else _) = _
    rw [if_neg (by decide)]
    rfl
  · unfold fX8_push
    rw [h, show nI 3 + (1 : Int32) = nI 4 from by decide, if_pos (by decide), Option.bind_some]
    unfold pf
    rw [Option.bind_some, mput_at, if_pos ⟨rfl, rfl⟩, show fX8_stateAt (0 : Int32) (mput M 45 1 (0 : Int32)) = some (some 47) from by unfold fX8_stateAt; rw [if_neg (by decide), if_neg (by decide), if_neg (by decide)]; rfl, Option.bind_some]
    show (if ¬ lay[47]? = some (tK 9) then none else _) = _
    rw [if_neg (by decide)]
    rfl
/-- a state pushed -/
theorem push_eq {M : Mem} {past : Nat → Nat → Int32} {row : Nat → Int32} {s l h b g c : Nat} (U : URn M past s l) (H : RVn M 1 row h b g c) : ∃ M1, fX8_push 1 M = some M1 ∧ RVn M1 1 row h b g c ∧ URn M1 (fun i => if s = 4 then (if i = 3 then row else past (i + 1)) else (if i = s then row else past i)) (min 4 (s + 1)) ((l + 1) % 4) ∧ (∀ q x, q < 45 ∨ 175 ≤ q → M1.1 q x = M.1 q x) ∧ M1.2 = M.2 := by
  obtain ⟨hs, hl, hc, hl1, hU⟩ := U
  have hl2 : (l + 1) % 4 < 4 := Nat.mod_lt _ (by omega)
  have H' : RVn (mput M 45 1 (nI ((l + 1) % 4))) 1 row h b g c := H.mem fun a x ha => by rw [mput_at, if_neg (by omega)]
  obtain ⟨M', e, H1, hF, h2⟩ := rv_copy (v := 47 + 32 * ((l + 1) % 4)) (show Apart _ 1 by unfold Apart; omega) H'
  have hc' : M'.1 45 2 = nI s := by rw [hF 45 2 (by omega), mput_at, if_neg (by omega)]; exact hc
  have hcc : (if M'.1 45 2 + 1 < 4 then M'.1 45 2 + 1 else (4 : Int32)) = nI (min 4 (s + 1)) := by
    rw [hc', show nI s + (1 : Int32) = nI (s + 1) from nI_ad s 1, show (4 : Int32) = nI 4 from rfl]
    by_cases h3 : s + 1 < 4
    · rw [if_pos ((mI_lt (by omega) (by omega)).mpr h3), Nat.min_eq_right (by omega)]
    · rw [if_neg (fun q => h3 ((mI_lt (by omega) (by omega)).mp q)), Nat.min_eq_left (by omega)]
  refine ⟨mput M' 45 2 (nI (min 4 (s + 1))), by rw [push_unf hl hl1, e, Option.bind_some, hcc], ?_, ⟨Nat.min_le_left _ _, hl2, ?_, ?_, fun i hi => ?_⟩, fun q x hq => ?_, h2⟩
  · exact H'.mem fun a x ha => by rw [mput_at, if_neg (by omega), hF _ _ (by omega)]
  · rw [mput_at, if_pos ⟨rfl, rfl⟩]
  · rw [mput_at, if_neg (by omega), hF 45 1 (by omega), mput_at, if_pos ⟨rfl, rfl⟩]
  · have hi2 : i < 4 := Nat.lt_of_lt_of_le hi (Nat.min_le_left _ _)
    have hi3 : i < s + 1 := Nat.lt_of_lt_of_le hi (Nat.min_le_right _ _)
    by_cases h0 : i = 0
    · subst h0
      have ep : (fun i => if s = 4 then (if i = 3 then row else past (i + 1)) else (if i = s then row else past i)) (min 4 (s + 1) - 1 - 0) = row := by
        by_cases h4 : s = 4
        · subst h4; rfl
        · show (if s = 4 then _ else _) = _
          rw [if_neg h4, Nat.min_eq_right (by omega), if_pos (by omega)]
      rw [ep, show ((l + 1) % 4 + 4 - 0) % 4 = (l + 1) % 4 by omega]
      exact ⟨h, b, g, c, H1.mem fun a x ha => by rw [mput_at, if_neg (by omega)]⟩
    · have hlt : i - 1 < s := by omega
      obtain ⟨h', b', g', c', HU⟩ := hU (i - 1) hlt
      have ep : (fun i => if s = 4 then (if i = 3 then row else past (i + 1)) else (if i = s then row else past i)) (min 4 (s + 1) - 1 - i) = past (s - 1 - (i - 1)) := by
        by_cases h4 : s = 4
        · subst h4
          show (if (4 : Nat) = 4 then (if min 4 5 - 1 - i = 3 then row else past (min 4 5 - 1 - i + 1)) else _) = _
          rw [if_pos rfl, if_neg (by omega), show min 4 5 - 1 - i + 1 = 4 - 1 - (i - 1) by omega]
        · show (if s = 4 then _ else _) = _
          rw [if_neg h4, Nat.min_eq_right (by omega), if_neg (by omega), show s + 1 - 1 - i = s - 1 - (i - 1) by omega]
      rw [ep, show ((l + 1) % 4 + 4 - i) % 4 = (l + 4 - (i - 1)) % 4 by omega]
      refine ⟨h', b', g', c', HU.mem fun a x ha => ?_⟩
      rw [mput_at, if_neg (by omega), hF _ _ (by omega), mput_at, if_neg (by omega)]
  · rw [mput_at, if_neg (by omega), hF _ _ (by omega), mput_at, if_neg (by omega)]
