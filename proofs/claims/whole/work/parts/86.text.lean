/-! text, undo: over the frame -/
theorem stp22 {n0 : Nat} {M : Mem} {h b g c s l n : Nat} (F : Fu n0 M h b g c s l n) (p : Int32) : ∃ M3, LS22 p M M3 ∧ Iv (n0 + 1) M3 := by
  have H := F.1
  obtain ⟨x1, x2, x3, x4, x5⟩ := F.2.2.2.2
  have outp : (p < 0 ∨ ¬ p ≤ 127) → ∃ M3, LS22 p M M3 ∧ Iv (n0 + 1) M3 := by
    intro hp
    have w : fX11_whyNotWithin p 0 127 = some 2 := by
      unfold fX11_whyNotWithin
      by_cases h0 : p < 0
      · rw [if_pos h0]
      · rw [if_neg h0, if_neg (hp.resolve_left h0)]
    have w2 : fX12_in p 0 127 = some false := by
      unfold fX12_in
      by_cases h0 : p < 0
      · rw [if_pos h0]
      · rw [if_neg h0, if_pos (Int32.not_le.mp (hp.resolve_left h0))]
    have c1 : fX11_type p M = some (Sum.inl 2) := by
      unfold fX11_type
      rw [w, Option.bind_some, refuse_k.2.1, Option.bind_some]
      rfl
    have c2 : fX12_type p M = some (0, mput M 178 4 (nI 1)) := by
      unfold fX12_type
      rw [w2, Option.bind_some, if_neg (by decide), Option.bind_some, show (1 : Int32) = nI 1 from rfl, refused_k (by omega) (by omega), Option.bind_some]
      rfl
    exact ⟨_, Or.inr (Or.inl ⟨_, c1, c2, by show some ((mput M 178 4 (nI 1)).1 178 4) = _; rw [mput_at, if_pos ⟨rfl, rfl⟩]; rfl⟩), F.rf _⟩
  by_cases h0 : p < 0
  · exact outp (Or.inl h0)
  by_cases h1 : p ≤ 127
  · have w : fX11_whyNotWithin p 0 127 = some 0 := by
      unfold fX11_whyNotWithin
      rw [if_neg h0, if_pos h1]
    have w2 : fX12_in p 0 127 = some true := by
      unfold fX12_in
      rw [if_neg h0, if_neg (Int32.not_lt.mpr h1)]
    by_cases hn : n = 150
    · subst hn
      have f : fX2_isFull M = some true := by
        unfold fX2_isFull
        rw [x3, if_neg (by decide)]
      have c1 : fX11_type p M = some (Sum.inl 3) := by
        unfold fX11_type
        rw [w, Option.bind_some, refuse_0, Option.bind_some]
        show (fX2_isFull M).bind _ = _
        rw [f, Option.bind_some, if_pos rfl, refuse_k.2.2, Option.bind_some]
        rfl
      have c2 : fX12_type p M = some (0, mput M 178 4 (nI 2)) := by
        unfold fX12_type
        rw [w2, Option.bind_some, if_pos rfl, x4, if_pos (show nI 150 = (150 : Int32) from rfl), Option.bind_some, show (2 : Int32) = nI 2 from rfl, refused_k (by omega) (by omega), Option.bind_some]
        rfl
      exact ⟨_, Or.inr (Or.inr ⟨_, c1, c2, by show some ((mput M 178 4 (nI 2)).1 178 4) = _; rw [mput_at, if_pos ⟨rfl, rfl⟩]; rfl⟩), F.rf _⟩
    · have hn2 : n < 150 := by omega
      have f : fX2_isFull M = some false := by
        unfold fX2_isFull
        rw [x3, show (150 : Int32) = nI 150 from rfl, if_pos ((mI_lt (by omega) (by omega)).mpr hn2)]
      obtain ⟨hp1, hp2⟩ := mI_of h0
      have hp3 : p.toNatClampNeg < 128 := by
        rw [hp1, show (127 : Int32) = nI 127 from rfl, mI_le (by omega) (by omega)] at h1; omega
      have hb : p.toInt8.toInt32.toInt8.toInt32 = p := by
        have := byte_ok _ hp3
        rw [← hp1] at this; exact this
      have ap : fX2_append p M = some (nI (n + 1), mput (mput M 176 n p) 175 3 (nI (n + 1))) := by
        unfold fX2_append
        rw [f, Option.bind_some, if_neg (by decide), x3, show astB M 176 150 (nI n) p.toInt8.toInt32 = some (mput M 176 n p) from by
          unfold astB
          rw [if_neg (by rw [nI_nat (by omega)]; rintro (q | q); exact mI_nn (by omega) q; omega), nI_nat (by omega), hb], Option.bind_some]
        unfold pf
        rw [Option.bind_some, mput_at, if_pos ⟨rfl, rfl⟩, mput_at, if_neg (by omega), x3, show nI n + (1 : Int32) = nI (n + 1) from nI_ad n 1]
      have c1 : fX11_type p M = some (Sum.inr (nI (n + 1), mput (mput M 176 n p) 175 3 (nI (n + 1)))) := by
        unfold fX11_type
        rw [w, Option.bind_some, refuse_0, Option.bind_some]
        show (fX2_isFull M).bind _ = _
        rw [f, Option.bind_some, if_neg (by decide), Option.bind_some]
        show (fX2_append p M).bind _ = _
        rw [ap]
        rfl
      obtain ⟨Mx, hMx⟩ : ∃ Mx, Mx = mputL (mput (mput M 176 n p) 175 3 (nI (n + 1))) 185 0 (nI (n + 1)).toInt64 := ⟨_, rfl⟩
      have hx : ∀ q x, ¬ (q = 176 ∧ x = n) → ¬ (q = 175 ∧ x = 3) → Mx.1 q x = M.1 q x := fun q x h1 h2 => by
        rw [hMx]
        show (mput (mput M 176 n p) 175 3 (nI (n + 1))).1 q x = _
        rw [mput_at, if_neg h2, mput_at, if_neg h1]
      have hx1 : Mx.1 176 n = p := by
        rw [hMx]
        show (mput (mput M 176 n p) 175 3 (nI (n + 1))).1 176 n = _
        rw [mput_at, if_neg (by omega), mput_at, if_pos ⟨rfl, rfl⟩]
      have hx2 : Mx.1 175 3 = nI (n + 1) := by
        rw [hMx]
        show (mput (mput M 176 n p) 175 3 (nI (n + 1))).1 175 3 = _
        rw [mput_at, if_pos ⟨rfl, rfl⟩]
      obtain ⟨M3, hM3⟩ : ∃ M3, M3 = mput (mput (mput Mx 178 4 0) 182 n p) 178 6 (nI (n + 1)) := ⟨_, rfl⟩
      have c2 : fX12_type p Mx = some (nI (n + 1), M3) := by
        unfold fX12_type
        rw [w2, Option.bind_some, if_pos rfl, hx 178 6 (by omega) (by omega), x4, if_neg (fun q => hn ((mI_eq (by omega) (by omega)).mp (q.trans (show (150 : Int32) = nI 150 from rfl)))), Option.bind_some, show fX12_refused 0 Mx = some (false, mput Mx 178 4 0) from rfl, Option.bind_some]
        simp only [un2, Bool.false_eq_true, if_false]
        rw [show (mput Mx 178 4 0).1 178 6 = nI n from by rw [mput_at, if_neg (by omega), hx 178 6 (by omega) (by omega)]; exact x4, ast_n hn2 (by omega), Option.bind_some]
        unfold pf
        rw [Option.bind_some, show (mput (mput Mx 178 4 0) 182 n p).1 178 6 = nI n from by rw [mput_at, if_neg (by omega), mput_at, if_neg (by omega), hx 178 6 (by omega) (by omega)]; exact x4, show nI n + (1 : Int32) = nI (n + 1) from nI_ad n 1, mput_at, if_pos ⟨rfl, rfl⟩, hM3]
      have h3 : ∀ q x, ¬ (q = 178 ∧ (x = 4 ∨ x = 6)) → ¬ (q = 182 ∧ x = n) → M3.1 q x = Mx.1 q x := fun q x h1 h2 => by
        rw [hM3, mput_at, if_neg (by omega), mput_at, if_neg h2, mput_at, if_neg (by omega)]
      rw [hMx] at c2
      have e9 : ∀ q, q = 179 ∨ q = 180 → ∀ x, M3.1 q x = M.1 q x := fun q hq x => by rw [h3 _ _ (by omega) (by omega), hx _ _ (by omega) (by omega)]
      refine ⟨M3, Or.inl ⟨_, _, _, c1, c2, ?_, rfl, ?_⟩, h, b, g, c, s, l, n + 1, H.keep (fun q x hq => by rw [h3 _ _ (by omega) (by omega), hx _ _ (by omega) (by omega)]) (by rw [h3 _ _ (by omega) (by omega), hx _ _ (by omega) (by omega)]), by rw [show M3.1 179 = M.1 179 from funext (e9 179 (by omega))]; exact F.2.1, by have := F.2.2.1; omega, F.2.2.2.1.cg (by omega) (e9 180 (by omega)), ?_, by omega, ?_, ?_, fun i hi => ?_⟩
      · show some (M3.1 178 4) = _
        rw [hM3, mput_at, if_neg (by omega), mput_at, if_neg (by omega), mput_at, if_pos ⟨rfl, rfl⟩]
      · rw [hM3, hMx]
        simp [mput, mputL]
      · rw [h3 _ _ (by omega) (by omega), hx _ _ (by omega) (by omega), h3 _ _ (by omega) (by omega), hx _ _ (by omega) (by omega)]; exact x1
      · rw [h3 _ _ (by omega) (by omega), hx2]
      · rw [hM3, mput_at, if_pos ⟨rfl, rfl⟩]
      · by_cases hin : i = n
        · subst hin
          rw [h3 _ _ (by omega) (by omega), hx1, show M3.1 182 i = p from by rw [hM3, mput_at, if_neg (by omega), mput_at, if_pos ⟨rfl, rfl⟩]]
          exact ⟨rfl, Int32.not_lt.mp h0, h1⟩
        · rw [h3 _ _ (by omega) (by omega), hx _ _ (by omega) (by omega), h3 _ _ (by omega) (by omega), hx _ _ (by omega) (by omega)]
          exact x5 i (by omega)
  · exact outp (Or.inr h1)
theorem und26 {M : Mem} {h b g c s l : Nat} (H : Rel M h b g c s l) (hs0 : s ≠ 0) : ∃ M3 h' b' g' c' l', LS26 M M3 ∧ Rel M3 h' b' g' c' (s - 1) l' ∧ (∀ q x, q = 0 ∨ (175 ≤ q ∧ q < 178) ∨ (181 ≤ q ∧ q < 185) → M3.1 q x = M.1 q x) ∧ (∀ x, x ≠ 3 → x ≠ 4 → M3.1 178 x = M.1 178 x) ∧ (∀ k, k < 1601 → M3.1 179 k = pastOf M (s - 1) k) ∧ ∀ x, M3.1 180 x = M.1 180 x := by
  obtain ⟨H1, H2, H3⟩ := id H
  obtain ⟨hs, hl, hc, hl1, hU⟩ := id H2
  by_cases h0 : s = 0
  · exact absurd h0 hs0
  · obtain ⟨h', b', g', c', HU⟩ := hU 0 (by omega)
    rw [show (l + 4 - 0) % 4 = l by omega] at HU
    obtain ⟨M8, e, HR, hF, h2⟩ := rv_copy (v := 1) (show Apart 1 (47 + 32 * l) by unfold Apart; omega) HU
    have hn0 : ¬ nI s = (0 : Int32) := fun q => h0 ((mI_eq (by omega) (by omega)).mp (q.trans (show (0 : Int32) = nI 0 from rfl)))
    have el : M8.1 45 1 = nI l := by rw [hF 45 1 (by omega)]; exact hl1
    have ec : M8.1 45 2 = nI s := by rw [hF 45 2 (by omega)]; exact hc
    have ez : (if M8.1 45 1 ≤ 0 then some (3 : Int32) else some (M8.1 45 1 - 1)) = some (nI ((l + 3) % 4)) := by
      rw [el, show (0 : Int32) = nI 0 from rfl]
      by_cases hl0 : l = 0
      · subst hl0; rw [if_pos (by decide)]; rfl
      · rw [if_neg (fun q => by rw [mI_le (by omega) (by omega)] at q; omega), show nI l - (1 : Int32) = nI (l - 1) from mI_sb (a := l) (b := 1) (by omega) (by omega), show (l + 3) % 4 = l - 1 by omega]
    have c1 : fX11_undo M = some (Sum.inr (nI (s - 1), mput (mput M8 45 1 (nI ((l + 3) % 4))) 45 2 (nI (s - 1)))) := by
      unfold fX11_undo fX8_size
      rw [hc, Option.bind_some, if_neg hn0, Option.bind_some, refuse_0, Option.bind_some]
      show (fX8_popInto 1 M).bind _ = _
      rw [pop_unf hl hl1 hc (by omega) hs, e, Option.bind_some, ez, Option.bind_some]
      unfold pf
      rw [Option.bind_some, Option.bind_some, mput_at, if_pos ⟨rfl, rfl⟩, mput_at, if_neg (by omega), ec, show nI s - (1 : Int32) = nI (s - 1) from mI_sb (a := s) (b := 1) (by omega) (by omega)]
      rfl
    obtain ⟨M1, hM1⟩ : ∃ M1, M1 = mput (mput M8 45 1 (nI ((l + 3) % 4))) 45 2 (nI (s - 1)) := ⟨_, rfl⟩
    rw [← hM1] at c1
    have hM1c : ∀ q x, q ≠ 45 → (q < 1 ∨ 33 ≤ q) → M1.1 q x = M.1 q x := fun q x hq hq2 => by rw [hM1, mput_at, if_neg (by omega), mput_at, if_neg (by omega), hF _ _ (by omega)]
    have hM1v : ∀ a x, a < 32 → M1.1 (1 + a) x = M8.1 (1 + a) x := fun a x ha => by rw [hM1, mput_at, if_neg (by omega), mput_at, if_neg (by omega)]
    have hs1 : (mput (mputL M1 185 0 (nI (s - 1)).toInt64) 178 4 0).1 178 3 = nI s := by
      rw [mput_at, if_neg (by omega)]
      show M1.1 178 3 = _
      rw [hM1c _ _ (by omega) (by omega)]; exact H3
    obtain ⟨Mz, hMz⟩ : ∃ Mz, Mz = mput (mput (mputL M1 185 0 (nI (s - 1)).toInt64) 178 4 0) 178 3 (nI (s - 1)) := ⟨_, rfl⟩
    have hz3 : Mz.1 178 3 = nI (s - 1) := by rw [hMz, mput_at, if_pos ⟨rfl, rfl⟩]
    have hzc : ∀ q x, ¬ (q = 178 ∧ (x = 3 ∨ x = 4)) → Mz.1 q x = M1.1 q x := fun q x hq => by
      rw [hMz, mput_at, if_neg (by omega), mput_at, if_neg (by omega)]; rfl
    obtain ⟨M3, hM3⟩ : ∃ M3 : Mem, M3 = (fun q x => if q = 179 ∧ 0 ≤ x ∧ x < 1601 then Mz.1 180 (1601 * (s - 1) + x) else Mz.1 q x, Mz.2) := ⟨_, rfl⟩
    have hback := sv_back (s := s - 1) (by omega) 1601 0 FUEL Mz hz3 (by omega) (by unfold FUEL; omega)
    rw [← hM3] at hback
    have h3n : ∀ k, k < 1601 → M3.1 179 k = pastOf M (s - 1) k := fun k hk => by
      rw [hM3]
      show (if (179 : Nat) = 179 ∧ 0 ≤ k ∧ k < 1601 then _ else _) = _
      rw [if_pos ⟨rfl, by omega, hk⟩, hzc _ _ (by omega), hM1c _ _ (by omega) (by omega)]
      rfl
    have h3c : ∀ q x, q ≠ 179 → M3.1 q x = Mz.1 q x := fun q x hq => by
      rw [hM3]
      show (if q = 179 ∧ 0 ≤ x ∧ x < 1601 then _ else _) = _
      rw [if_neg (by omega)]
    have c2 : fX12_undo (mputL M1 185 0 (nI (s - 1)).toInt64) = some (nI (s - 1), M3) := by
      unfold fX12_undo
      rw [show (mputL M1 185 0 (nI (s - 1)).toInt64).1 178 3 = nI s from by show M1.1 178 3 = _; rw [hM1c _ _ (by omega) (by omega)]; exact H3, if_neg hn0, Option.bind_some, show fX12_refused 0 (mputL M1 185 0 (nI (s - 1)).toInt64) = some (false, mput (mputL M1 185 0 (nI (s - 1)).toInt64) 178 4 0) from rfl, Option.bind_some]
      simp only [un2, Bool.false_eq_true, if_false]
      rw [hs1]
      unfold pf
      rw [show nI s - (1 : Int32) = nI (s - 1) from mI_sb (a := s) (b := 1) (by omega) (by omega), Option.bind_some, ← hMz, show (0 : Int32) = nI 0 from rfl, hback, Option.bind_some, h3c _ _ (by omega), hz3]
    refine ⟨M3, h', b', g', c', (l + 3) % 4, Or.inl ⟨_, _, _, c1, c2, ?_, rfl, ?_⟩, ⟨?_, ⟨by omega, Nat.mod_lt _ (by omega), ?_, ?_, fun i hi => ?_⟩, ?_⟩, fun q x hq => ?_, fun x h3 h4 => ?_, h3n, fun x => ?_⟩
    · show some (M3.1 178 4) = _
      rw [h3c _ _ (by omega), hMz, mput_at, if_neg (by omega), mput_at, if_pos ⟨rfl, rfl⟩]
    · rw [hM3, hMz]
      simp [mput, mputL]
    · refine (HR.mem (M' := M3) fun a x ha => ?_).row h3n
      rw [h3c _ _ (by omega), hzc _ _ (by omega), hM1v _ _ ha]
    · rw [h3c _ _ (by omega), hzc _ _ (by omega), hM1, mput_at, if_pos ⟨rfl, rfl⟩]
    · rw [h3c _ _ (by omega), hzc _ _ (by omega), hM1, mput_at, if_neg (by omega), mput_at, if_pos ⟨rfl, rfl⟩]
    · obtain ⟨h2', b2', g2', c2', HV⟩ := hU (i + 1) (by omega)
      rw [show ((l + 3) % 4 + 4 - i) % 4 = (l + 4 - (i + 1)) % 4 by omega, show s - 1 - 1 - i = s - 1 - (i + 1) by omega]
      have hm : (l + 4 - (i + 1)) % 4 < 4 := Nat.mod_lt _ (by omega)
      refine ⟨h2', b2', g2', c2', (HV.mem (M' := M3) fun a x ha => ?_).row fun k hk => ?_⟩
      · rw [h3c _ _ (by omega), hzc _ _ (by omega), hM1c _ _ (by omega) (by omega)]
      · simp only [pastOf]
        rw [h3c _ _ (by omega), hzc _ _ (by omega), hM1c _ _ (by omega) (by omega)]
    · rw [h3c _ _ (by omega), hz3]
    · rw [h3c _ _ (by omega), hzc _ _ (by omega), hM1c _ _ (by omega) (by omega)]
    · rw [h3c _ _ (by omega), hzc _ _ (by omega), hM1c _ _ (by omega) (by omega)]
    · rw [h3c _ _ (by omega), hzc _ _ (by omega), hM1c _ _ (by omega) (by omega)]
theorem stp26 {n : Nat} {M : Mem} {h b g c s l t : Nat} (F : Fu n M h b g c s l t) (hn : n < 512) : ∃ M3, LS26 M M3 ∧ Iv (n + 1) M3 := by
  obtain ⟨H, W, hc, Pp, X⟩ := id F
  by_cases h0 : s = 0
  · subst h0
    obtain ⟨H1, H2, H3⟩ := id H
    refine ⟨_, Or.inr ⟨0, ?_, ?_, thr_n _ 1⟩, F.rf _⟩
    · unfold fX11_undo fX8_size
      rw [H2.2.2.1, Option.bind_some, if_pos (show nI 0 = (0 : Int32) from rfl), Option.bind_some, refuse_k.2.2]
      rfl
    · unfold fX12_undo
      rw [H3, if_pos (show nI 0 = (0 : Int32) from rfl), Option.bind_some, ref1]
      rfl
  · obtain ⟨M3, h', b', g', c', l', k1, k2, k3, k4, k5, k6⟩ := und26 H h0
    obtain ⟨h2, b2, g2, c2, ⟨z1, z2, z3, z4⟩, ⟨y1, y2, y3, y4⟩, W2⟩ := Pp (s - 1) (by omega)
    have V3 := Vi_of k2.1
    have hc3 := V3.2.2.2.1.1
    have eh : h' = h2 := (mI_eq (by have := V3.1.1; omega) (by omega)).mp (by rw [← V3.1.2.2.1, ← y1]; exact k5 0 (by omega))
    have eb : b' = b2 := (mI_eq (by have := V3.2.1.1; omega) (by omega)).mp (by rw [← V3.2.1.2.2.1, ← y2]; exact k5 7 (by omega))
    have ecc : c' = c2 := (mI_eq (by omega) (by omega)).mp (by rw [← V3.2.2.2.1.2.2.1, ← y4]; exact k5 5 (by omega))
    refine ⟨M3, k1, h', b', g', c', s - 1, l', t, k2, ?_, by omega, fun i hi => ?_, X.keep (fun q x hq => k3 q x (by omega)) k4⟩
    · subst eh eb
      have w := W2.cg (ρ' := M3.1 179) z1 z2 k5
      obtain ⟨w1, w2, w3, w4⟩ := w
      exact ⟨w1, w2, fun r hr1 hr2 => w3 r (by omega) hr2, w4⟩
    · obtain ⟨h4, b4, g4, c4, q1, q2, q3⟩ := Pp i (by omega)
      have e : pastOf M3 i = pastOf M i := funext fun k => k6 _
      rw [e]
      exact ⟨h4, b4, g4, c4, ⟨q1.1, q1.2.1, q1.2.2.1, by omega⟩, q2, q3⟩
theorem stp25 {n : Nat} {M : Mem} {h b g c s l t : Nat} (F : Fu n M h b g c s l t) : ∃ M3, LS25 M M3 ∧ Iv (n + 1) M3 := by
  refine ⟨mput M 178 4 0, ⟨M.1 0 4, rfl, ?_⟩, F.rf 0⟩
  unfold fX12_stop pf
  rw [Option.bind_some, mput_at, if_neg (by omega), F.2.2.2.2.1]
theorem stp23 {n : Nat} {M : Mem} {h b g c s l t : Nat} (F : Fu n M h b g c s l t) : ∃ M3, LS23 M M3 ∧ Iv (n + 1) M3 := by
  obtain ⟨H, W, hc, Pp, X⟩ := id F
  have e1 : fX11_clearCommands M = some (nI t, mput M 175 3 0) := by
    unfold fX11_clearCommands fX2_empty pf
    simp only [Option.bind_some, un2]
    rw [X.2.2.1]
  obtain ⟨M3, hM3⟩ : ∃ M3, M3 = mput (mput (mput M 175 3 0) 178 4 0) 178 6 0 := ⟨_, rfl⟩
  have hx : ∀ q x, ¬ (q = 175 ∧ x = 3) → ¬ (q = 178 ∧ (x = 4 ∨ x = 6)) → M3.1 q x = M.1 q x := fun q x h1 h2 => by
    rw [hM3, mput_at, if_neg (by omega), mput_at, if_neg (by omega), mput_at, if_neg (by omega)]
  refine ⟨M3, ⟨nI t, mput M 175 3 0, e1, ?_⟩, h, b, g, c, s, l, 0, H.keep (fun q x hq => hx _ _ (by omega) (by omega)) (hx _ _ (by omega) (by omega)), ?_, by omega, Pp.cg (by omega) (fun x => hx _ _ (by omega) (by omega)), ?_⟩
  · unfold fX12_clearCommands pf
    rw [Option.bind_some, Option.bind_some, mput_at, if_neg (by omega), mput_at, if_neg (by omega), X.2.2.2.1, hM3]
  · rw [show M3.1 179 = M.1 179 from funext fun x => hx _ _ (by omega) (by omega)]; exact W
  · refine ⟨?_, by omega, ?_, ?_, fun i hi => absurd hi (by omega)⟩
    · rw [hx 0 4 (by omega) (by omega), hx 178 7 (by omega) (by omega)]; exact X.1
    · rw [hM3, mput_at, if_neg (by omega), mput_at, if_neg (by omega), mput_at, if_pos ⟨rfl, rfl⟩]; rfl
    · rw [hM3, mput_at, if_pos ⟨rfl, rfl⟩]; rfl
