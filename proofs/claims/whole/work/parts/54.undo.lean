theorem pop_unf {M : Mem} {l s : Nat} (hl : l < 4) (h : M.1 45 1 = nI l) (h2 : M.1 45 2 = nI s) (hs : 0 < s) (hs4 : s ≤ 4) : fX8_popInto 1 M = (fX9_copyFrom 1 (47 + 32 * l) M).bind fun M8 => (if M8.1 45 1 ≤ 0 then some (3 : Int32) else some (M8.1 45 1 - 1)).bind fun z10 => (pf M8 45 1 z10).bind fun M11 => (pf M11 45 2 (M11.1 45 2 - 1)).bind fun M13 => some (M13.1 45 2, M13) := by
  have hp : ¬ M.1 45 2 ≤ 0 := by rw [h2, show (0 : Int32) = nI 0 from rfl, mI_le (by omega) (by omega)]; omega
  rcases (show l = 0 ∨ l = 1 ∨ l = 2 ∨ l = 3 by omega) with rfl | rfl | rfl | rfl
  · unfold fX8_popInto
    rw [h, show fX8_stateAt (nI 0) M = some (some 47) from by unfold fX8_stateAt; rw [if_neg (by decide), if_neg (by decide), if_neg (by decide)]; rfl, Option.bind_some]
    show (if ¬ lay[47]? = some (tK 9) then none else (if M.1 45 2 ≤ 0 then _ else _)) = _
    rw [if_neg (by decide), if_neg hp]
  · unfold fX8_popInto
    rw [h, show fX8_stateAt (nI 1) M = some (some 79) from by unfold fX8_stateAt; rw [if_neg (by decide), if_neg (by decide), if_neg (by decide)]; rfl, Option.bind_some]
    show (if ¬ lay[79]? = some (tK 9) then none else (if M.1 45 2 ≤ 0 then _ else _)) = _
    rw [if_neg (by decide), if_neg hp]
  · unfold fX8_popInto
    rw [h, show fX8_stateAt (nI 2) M = some (some 111) from by unfold fX8_stateAt; rw [if_neg (by decide), if_neg (by decide), if_neg (by decide)]; rfl, Option.bind_some]
    show (if ¬ lay[111]? = some (tK 9) then none else (if M.1 45 2 ≤ 0 then _ else _)) = _
    rw [if_neg (by decide), if_neg hp]
  · unfold fX8_popInto
    rw [h, show fX8_stateAt (nI 3) M = some (some 143) from by unfold fX8_stateAt; rw [if_neg (by decide), if_neg (by decide), if_neg (by decide)]; rfl, Option.bind_some]
    show (if ¬ lay[143]? = some (tK 9) then none else (if M.1 45 2 ≤ 0 then _ else _)) = _
    rw [if_neg (by decide), if_neg hp]
theorem step26 {M : Mem} {h b g c s l : Nat} (H : Rel M h b g c s l) : ∃ M3 h' b' g' c' s' l', LS26 M M3 ∧ Rel M3 h' b' g' c' s' l' ∧ (∀ q x, q = 0 ∨ (175 ≤ q ∧ q < 178) ∨ (181 ≤ q ∧ q < 185) → M3.1 q x = M.1 q x) ∧ (∀ x, x ≠ 3 → x ≠ 4 → M3.1 178 x = M.1 178 x) := by
  obtain ⟨H1, H2, H3⟩ := id H
  obtain ⟨hs, hl, hc, hl1, hU⟩ := id H2
  by_cases h0 : s = 0
  · subst h0
    have c1 : fX11_undo M = some (Sum.inl 3) := by
      unfold fX11_undo fX8_size
      rw [hc, Option.bind_some, if_pos (show nI 0 = (0 : Int32) from rfl), Option.bind_some, refuse_k.2.2, Option.bind_some]
      rfl
    have c2 : fX12_undo M = some (0, mput M 178 4 (nI 1)) := by
      unfold fX12_undo
      rw [H3, if_pos (show nI 0 = (0 : Int32) from rfl), Option.bind_some, show (1 : Int32) = nI 1 from rfl, refused_k (by omega) (by omega), Option.bind_some]
      rfl
    obtain ⟨g1, g2, g3⟩ := rel_refused H (nI 1)
    exact ⟨_, h, b, g, c, 0, l, Or.inr ⟨_, c1, c2, by show some ((mput M 178 4 (nI 1)).1 178 4) = _; rw [mput_at, if_pos ⟨rfl, rfl⟩]; rfl⟩, g1, fun q x hq => g2 q x (by omega), g3⟩
  · obtain ⟨h', b', g', c', HU⟩ := hU 0 (by omega)
    rw [show (l + 4 - 0) % 4 = l by omega] at HU
    obtain ⟨M8, e, HR, hF, h2⟩ := rv_copy (v := 1) (show Apart 1 (47 + 32 * l) by unfold Apart; omega) HU
    have hn0 : ¬ nI s = (0 : Int32) := fun q => h0 ((mI_eq (by omega) (by omega)).mp (q.trans (show (0 : Int32) = nI 0 from rfl)))
    have el : M8.1 45 1 = nI l := by rw [hF 45 1 (by omega)]; exact hl1
    have ec : M8.1 45 2 = nI s := by rw [hF 45 2 (by omega)]; exact hc
    have ez : (if M8.1 45 1 ≤ 0 then some (3 : Int32) else some (M8.1 45 1 - 1)) = some (nI ((l + 3) % 4)) := by
      rw [el, show (0 : Int32) = nI 0 from rfl]
      by_cases hl0 : l = 0
      · subst hl0; rw [if_pos (by decide)]; rfl
      · rw [if_neg (fun q => by rw [mI_le (by omega) (by omega)] at q; omega), show nI l - (1 : Int32) = nI (l - 1) from mI_sb (a := l) (b := 1) (by omega) (by omega), show (l + 3) % 4 = l - 1 by omega]
    have c1 : fX11_undo M = some (Sum.inr (nI (s - 1), mput (mput M8 45 1 (nI ((l + 3) % 4))) 45 2 (nI (s - 1)))) := by
      unfold fX11_undo fX8_size
      rw [hc, Option.bind_some, if_neg hn0, Option.bind_some, refuse_0, Option.bind_some]
      show (fX8_popInto 1 M).bind _ = _
      rw [pop_unf hl hl1 hc (by omega) hs, e, Option.bind_some, ez, Option.bind_some]
      unfold pf
      rw [Option.bind_some, Option.bind_some, mput_at, if_pos ⟨rfl, rfl⟩, mput_at, if_neg (by omega), ec, show nI s - (1 : Int32) = nI (s - 1) from mI_sb (a := s) (b := 1) (by omega) (by omega)]
      rfl
    obtain ⟨M1, hM1⟩ : ∃ M1, M1 = mput (mput M8 45 1 (nI ((l + 3) % 4))) 45 2 (nI (s - 1)) := ⟨_, rfl⟩
    rw [← hM1] at c1
    have hM1c : ∀ q x, q ≠ 45 → (q < 1 ∨ 33 ≤ q) → M1.1 q x = M.1 q x := fun q x hq hq2 => by rw [hM1, mput_at, if_neg (by omega), mput_at, if_neg (by omega), hF _ _ (by omega)]
    have hM1v : ∀ a x, a < 32 → M1.1 (1 + a) x = M8.1 (1 + a) x := fun a x ha => by rw [hM1, mput_at, if_neg (by omega), mput_at, if_neg (by omega)]
    have hs1 : (mput (mputL M1 185 0 (nI (s - 1)).toInt64) 178 4 0).1 178 3 = nI s := by
      rw [mput_at, if_neg (by omega)]
      show M1.1 178 3 = _
      rw [hM1c _ _ (by omega) (by omega)]; exact H3
    obtain ⟨Mz, hMz⟩ : ∃ Mz, Mz = mput (mput (mputL M1 185 0 (nI (s - 1)).toInt64) 178 4 0) 178 3 (nI (s - 1)) := ⟨_, rfl⟩
    have hz3 : Mz.1 178 3 = nI (s - 1) := by rw [hMz, mput_at, if_pos ⟨rfl, rfl⟩]
    have hzc : ∀ q x, ¬ (q = 178 ∧ (x = 3 ∨ x = 4)) → Mz.1 q x = M1.1 q x := fun q x hq => by
      rw [hMz, mput_at, if_neg (by omega), mput_at, if_neg (by omega)]; rfl
    obtain ⟨M3, hM3⟩ : ∃ M3 : Mem, M3 = (fun q x => if q = 179 ∧ 0 ≤ x ∧ x < 1601 then Mz.1 180 (1601 * (s - 1) + x) else Mz.1 q x, Mz.2) := ⟨_, rfl⟩
    have hback := sv_back (s := s - 1) (by omega) 1601 0 FUEL Mz hz3 (by omega) (by unfold FUEL; omega)
    rw [← hM3] at hback
    have h3n : ∀ k, k < 1601 → M3.1 179 k = pastOf M (s - 1) k := fun k hk => by
      rw [hM3]
      show (if (179 : Nat) = 179 ∧ 0 ≤ k ∧ k < 1601 then _ else _) = _
      rw [if_pos ⟨rfl, by omega, hk⟩, hzc _ _ (by omega), hM1c _ _ (by omega) (by omega)]
      rfl
    have h3c : ∀ q x, q ≠ 179 → M3.1 q x = Mz.1 q x := fun q x hq => by
      rw [hM3]
      show (if q = 179 ∧ 0 ≤ x ∧ x < 1601 then _ else _) = _
      rw [if_neg (by omega)]
    have c2 : fX12_undo (mputL M1 185 0 (nI (s - 1)).toInt64) = some (nI (s - 1), M3) := by
      unfold fX12_undo
      rw [show (mputL M1 185 0 (nI (s - 1)).toInt64).1 178 3 = nI s from by show M1.1 178 3 = _; rw [hM1c _ _ (by omega) (by omega)]; exact H3, if_neg hn0, Option.bind_some, show fX12_refused 0 (mputL M1 185 0 (nI (s - 1)).toInt64) = some (false, mput (mputL M1 185 0 (nI (s - 1)).toInt64) 178 4 0) from rfl, Option.bind_some]
      simp only [un2, Bool.false_eq_true, if_false]
      rw [hs1]
      unfold pf
      rw [show nI s - (1 : Int32) = nI (s - 1) from mI_sb (a := s) (b := 1) (by omega) (by omega), Option.bind_some, ← hMz, show (0 : Int32) = nI 0 from rfl, hback, Option.bind_some, h3c _ _ (by omega), hz3]
    refine ⟨M3, h', b', g', c', s - 1, (l + 3) % 4, Or.inl ⟨_, _, _, c1, c2, ?_, rfl, ?_⟩, ⟨?_, ⟨by omega, Nat.mod_lt _ (by omega), ?_, ?_, fun i hi => ?_⟩, ?_⟩, fun q x hq => ?_, fun x h3 h4 => ?_⟩
    · show some (M3.1 178 4) = _
      rw [h3c _ _ (by omega), hMz, mput_at, if_neg (by omega), mput_at, if_pos ⟨rfl, rfl⟩]
    · rw [hM3, hMz]
      simp [mput, mputL]
    · refine (HR.mem (M' := M3) fun a x ha => ?_).row h3n
      rw [h3c _ _ (by omega), hzc _ _ (by omega), hM1v _ _ ha]
    · rw [h3c _ _ (by omega), hzc _ _ (by omega), hM1, mput_at, if_pos ⟨rfl, rfl⟩]
    · rw [h3c _ _ (by omega), hzc _ _ (by omega), hM1, mput_at, if_neg (by omega), mput_at, if_pos ⟨rfl, rfl⟩]
    · obtain ⟨h2', b2', g2', c2', HV⟩ := hU (i + 1) (by omega)
      rw [show ((l + 3) % 4 + 4 - i) % 4 = (l + 4 - (i + 1)) % 4 by omega, show s - 1 - 1 - i = s - 1 - (i + 1) by omega]
      have hm : (l + 4 - (i + 1)) % 4 < 4 := Nat.mod_lt _ (by omega)
      refine ⟨h2', b2', g2', c2', (HV.mem (M' := M3) fun a x ha => ?_).row fun k hk => ?_⟩
      · rw [h3c _ _ (by omega), hzc _ _ (by omega), hM1c _ _ (by omega) (by omega)]
      · simp only [pastOf]
        rw [h3c _ _ (by omega), hzc _ _ (by omega), hM1c _ _ (by omega) (by omega)]
    · rw [h3c _ _ (by omega), hz3]
    · rw [h3c _ _ (by omega), hzc _ _ (by omega), hM1c _ _ (by omega) (by omega)]
    · rw [h3c _ _ (by omega), hzc _ _ (by omega), hM1c _ _ (by omega) (by omega)]
