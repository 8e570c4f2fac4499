theorem byte_ok : ∀ k, k < 128 → (nI k).toInt8.toInt32.toInt8.toInt32 = nI k := by decide +kernel
theorem step22 {M : Mem} {h b g c s l n : Nat} (H : Rel M h b g c s l) (X : Txt M n) (p : Int32) : ∃ M3 n', LS22 p M M3 ∧ Rel M3 h b g c s l ∧ Txt M3 n' := by
  obtain ⟨x1, x2, x3, x4, x5⟩ := id X
  have bad : ∀ k, Rel (mput M 178 4 k) h b g c s l ∧ Txt (mput M 178 4 k) n := fun k => ⟨(rel_refused H k).1, X.keep (fun q x hq => by rw [mput_at, if_neg (by omega)]) (fun x h3 h4 => by rw [mput_at, if_neg (by omega)])⟩
  have outp : (p < 0 ∨ ¬ p ≤ 127) → ∃ M3 n', LS22 p M M3 ∧ Rel M3 h b g c s l ∧ Txt M3 n' := by
    intro hp
    have w : fX11_whyNotWithin p 0 127 = some 2 := by
      unfold fX11_whyNotWithin
      by_cases h0 : p < 0
      · rw [if_pos h0]
      · rw [if_neg h0, if_neg (hp.resolve_left h0)]
    have w2 : fX12_in p 0 127 = some false := by
      unfold fX12_in
      by_cases h0 : p < 0
      · rw [if_pos h0]
      · rw [if_neg h0, if_pos (Int32.not_le.mp (hp.resolve_left h0))]
    have c1 : fX11_type p M = some (Sum.inl 2) := by
      unfold fX11_type
      rw [w, Option.bind_some, refuse_k.2.1, Option.bind_some]
      rfl
    have c2 : fX12_type p M = some (0, mput M 178 4 (nI 1)) := by
      unfold fX12_type
      rw [w2, Option.bind_some, if_neg (by decide), Option.bind_some, show (1 : Int32) = nI 1 from rfl, refused_k (by omega) (by omega), Option.bind_some]
      rfl
    exact ⟨_, n, Or.inr (Or.inl ⟨_, c1, c2, by show some ((mput M 178 4 (nI 1)).1 178 4) = _; rw [mput_at, if_pos ⟨rfl, rfl⟩]; rfl⟩), (bad _).1, (bad _).2⟩
  by_cases h0 : p < 0
  · exact outp (Or.inl h0)
  by_cases h1 : p ≤ 127
  · have w : fX11_whyNotWithin p 0 127 = some 0 := by
      unfold fX11_whyNotWithin
      rw [if_neg h0, if_pos h1]
    have w2 : fX12_in p 0 127 = some true := by
      unfold fX12_in
      rw [if_neg h0, if_neg (Int32.not_lt.mpr h1)]
    by_cases hn : n = 150
    · subst hn
      have f : fX2_isFull M = some true := by
        unfold fX2_isFull
        rw [x3, if_neg (by decide)]
      have c1 : fX11_type p M = some (Sum.inl 3) := by
        unfold fX11_type
        rw [w, Option.bind_some, refuse_0, Option.bind_some]
        show (fX2_isFull M).bind _ = _
        rw [f, Option.bind_some, if_pos rfl, refuse_k.2.2, Option.bind_some]
        rfl
      have c2 : fX12_type p M = some (0, mput M 178 4 (nI 2)) := by
        unfold fX12_type
        rw [w2, Option.bind_some, if_pos rfl, x4, if_pos (show nI 150 = (150 : Int32) from rfl), Option.bind_some, show (2 : Int32) = nI 2 from rfl, refused_k (by omega) (by omega), Option.bind_some]
        rfl
      exact ⟨_, 150, Or.inr (Or.inr ⟨_, c1, c2, by show some ((mput M 178 4 (nI 2)).1 178 4) = _; rw [mput_at, if_pos ⟨rfl, rfl⟩]; rfl⟩), (bad _).1, (bad _).2⟩
    · have hn2 : n < 150 := by omega
      have f : fX2_isFull M = some false := by
        unfold fX2_isFull
        rw [x3, show (150 : Int32) = nI 150 from rfl, if_pos ((mI_lt (by omega) (by omega)).mpr hn2)]
      obtain ⟨hp1, hp2⟩ := mI_of h0
      have hp3 : p.toNatClampNeg < 128 := by
        rw [hp1, show (127 : Int32) = nI 127 from rfl, mI_le (by omega) (by omega)] at h1; omega
      have hb : p.toInt8.toInt32.toInt8.toInt32 = p := by
        have := byte_ok _ hp3
        rw [← hp1] at this; exact this
      have ap : fX2_append p M = some (nI (n + 1), mput (mput M 176 n p) 175 3 (nI (n + 1))) := by
        unfold fX2_append
        rw [f, Option.bind_some, if_neg (by decide), x3, show astB M 176 150 (nI n) p.toInt8.toInt32 = some (mput M 176 n p) from by
          unfold astB
          rw [if_neg (by rw [nI_nat (by omega)]; rintro (q | q); exact mI_nn (by omega) q; omega), nI_nat (by omega), hb], Option.bind_some]
        unfold pf
        rw [Option.bind_some, mput_at, if_pos ⟨rfl, rfl⟩, mput_at, if_neg (by omega), x3, show nI n + (1 : Int32) = nI (n + 1) from nI_ad n 1]
      have c1 : fX11_type p M = some (Sum.inr (nI (n + 1), mput (mput M 176 n p) 175 3 (nI (n + 1)))) := by
        unfold fX11_type
        rw [w, Option.bind_some, refuse_0, Option.bind_some]
        show (fX2_isFull M).bind _ = _
        rw [f, Option.bind_some, if_neg (by decide), Option.bind_some]
        show (fX2_append p M).bind _ = _
        rw [ap]
        rfl
      obtain ⟨Mx, hMx⟩ : ∃ Mx, Mx = mputL (mput (mput M 176 n p) 175 3 (nI (n + 1))) 185 0 (nI (n + 1)).toInt64 := ⟨_, rfl⟩
      have hx : ∀ q x, ¬ (q = 176 ∧ x = n) → ¬ (q = 175 ∧ x = 3) → Mx.1 q x = M.1 q x := fun q x h1 h2 => by
        rw [hMx]
        show (mput (mput M 176 n p) 175 3 (nI (n + 1))).1 q x = _
        rw [mput_at, if_neg h2, mput_at, if_neg h1]
      have hx1 : Mx.1 176 n = p := by
        rw [hMx]
        show (mput (mput M 176 n p) 175 3 (nI (n + 1))).1 176 n = _
        rw [mput_at, if_neg (by omega), mput_at, if_pos ⟨rfl, rfl⟩]
      have hx2 : Mx.1 175 3 = nI (n + 1) := by
        rw [hMx]
        show (mput (mput M 176 n p) 175 3 (nI (n + 1))).1 175 3 = _
        rw [mput_at, if_pos ⟨rfl, rfl⟩]
      obtain ⟨M3, hM3⟩ : ∃ M3, M3 = mput (mput (mput Mx 178 4 0) 182 n p) 178 6 (nI (n + 1)) := ⟨_, rfl⟩
      have c2 : fX12_type p Mx = some (nI (n + 1), M3) := by
        unfold fX12_type
        rw [w2, Option.bind_some, if_pos rfl, hx 178 6 (by omega) (by omega), x4, if_neg (fun q => hn ((mI_eq (by omega) (by omega)).mp (q.trans (show (150 : Int32) = nI 150 from rfl)))), Option.bind_some, show fX12_refused 0 Mx = some (false, mput Mx 178 4 0) from rfl, Option.bind_some]
        simp only [un2, Bool.false_eq_true, if_false]
        rw [show (mput Mx 178 4 0).1 178 6 = nI n from by rw [mput_at, if_neg (by omega), hx 178 6 (by omega) (by omega)]; exact x4, ast_n hn2 (by omega), Option.bind_some]
        unfold pf
        rw [Option.bind_some, show (mput (mput Mx 178 4 0) 182 n p).1 178 6 = nI n from by rw [mput_at, if_neg (by omega), mput_at, if_neg (by omega), hx 178 6 (by omega) (by omega)]; exact x4, show nI n + (1 : Int32) = nI (n + 1) from nI_ad n 1, mput_at, if_pos ⟨rfl, rfl⟩, hM3]
      have h3 : ∀ q x, ¬ (q = 178 ∧ (x = 4 ∨ x = 6)) → ¬ (q = 182 ∧ x = n) → M3.1 q x = Mx.1 q x := fun q x h1 h2 => by
        rw [hM3, mput_at, if_neg (by omega), mput_at, if_neg h2, mput_at, if_neg (by omega)]
      rw [hMx] at c2
      refine ⟨M3, n + 1, Or.inl ⟨_, _, _, c1, c2, ?_, rfl, ?_⟩, H.keep (fun q x hq => by rw [h3 _ _ (by omega) (by omega), hx _ _ (by omega) (by omega)]) (by rw [h3 _ _ (by omega) (by omega), hx _ _ (by omega) (by omega)]), ?_, by omega, ?_, ?_, fun i hi => ?_⟩
      · show some (M3.1 178 4) = _
        rw [hM3, mput_at, if_neg (by omega), mput_at, if_neg (by omega), mput_at, if_pos ⟨rfl, rfl⟩]
      · rw [hM3, hMx]
        simp [mput, mputL]
      · rw [h3 _ _ (by omega) (by omega), hx _ _ (by omega) (by omega), h3 _ _ (by omega) (by omega), hx _ _ (by omega) (by omega)]; exact x1
      · rw [h3 _ _ (by omega) (by omega), hx2]
      · rw [hM3, mput_at, if_pos ⟨rfl, rfl⟩]
      · by_cases hin : i = n
        · subst hin
          rw [h3 _ _ (by omega) (by omega), hx1, show M3.1 182 i = p from by rw [hM3, mput_at, if_neg (by omega), mput_at, if_pos ⟨rfl, rfl⟩]]
          exact ⟨rfl, Int32.not_lt.mp h0, h1⟩
        · rw [h3 _ _ (by omega) (by omega), hx _ _ (by omega) (by omega), h3 _ _ (by omega) (by omega), hx _ _ (by omega) (by omega)]
          exact x5 i (by omega)
  · exact outp (Or.inr h1)
