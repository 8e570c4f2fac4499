/-- what was pushed and what was saved: the class has pushed, and changed its village; the reference saves, and changes its row -/
theorem undw {n : Nat} {M : Mem} {h b g c s l t : Nat} (F : Fu n M h b g c s l t) {fc fr : Mem → Option (Int32 × Mem)} (hop : ∀ M1, Vi M1 (M.1 179) h b g c → Wr (M.1 179) h b c → Opw fc fr M1 (M.1 179) c) :
    ∃ Mp r M1, fX8_push 1 M = some Mp ∧ fc Mp = some (r, M1) ∧ (∀ q x, 175 ≤ q → M1.1 q x = M.1 q x) ∧ ∀ Mx, Mx.1 = M1.1 → ∃ M2 M3, fX12_saves (mput Mx 178 4 0) = some M2 ∧ fr M2 = some (r, M3) ∧ M3.1 178 4 = 0 ∧ M3.2 = Mx.2 ∧ Iv (n + 1) M3 := by
  obtain ⟨⟨H1, H2, H3⟩, W, hc, P, X⟩ := F
  obtain ⟨Mp, e, Hp, Hu, hF, h2⟩ := push_eq H2 H1
  obtain ⟨r, M1, h', b', g', c', o1, o4, o5, o6⟩ := hop Mp (Vi_of Hp) W
  refine ⟨Mp, r, M1, e, o1, fun q x hq => by rw [o5.1 _ _ (by omega), hF _ _ (by omega)], fun Mx hMx => ?_⟩
  have hx : ∀ q x, 175 ≤ q → Mx.1 q x = M.1 q x := fun q x hq => by rw [hMx, o5.1 _ _ (by omega), hF _ _ (by omega)]
  have hs : s ≤ 4 := H2.1
  have e3 : (mput Mx 178 4 0).1 178 3 = nI s := by rw [mput_at, if_neg (by omega), hx 178 3 (by omega)]; exact H3
  obtain ⟨M2, hM2⟩ : ∃ M2, M2 = svM (mput Mx 178 4 0) s := ⟨_, rfl⟩
  have r2 : fX12_saves (mput Mx 178 4 0) = some M2 := by rw [hM2]; exact saves_eq e3 hs
  have g0 : ∀ q x, q ≠ 178 → q ≠ 180 → M2.1 q x = Mx.1 q x := fun q x h1 h2 => by
    rw [hM2]; simp only [svM]; rw [if_neg (by omega), if_neg (by omega), mput_at, if_neg (by omega)]
  have g1 : ∀ x, x ≠ 3 → x ≠ 4 → M2.1 178 x = M.1 178 x := fun x h1 h2 => by
    rw [hM2]; simp only [svM]; rw [if_neg (by omega), if_neg (by omega), mput_at, if_neg (by omega), hx _ _ (by omega)]
  have g4 : M2.1 178 4 = 0 := by
    rw [hM2]; simp only [svM]; rw [if_neg (by omega), if_neg (by omega), mput_at, if_pos ⟨rfl, rfl⟩]
  have g3 : M2.1 178 3 = nI (min 4 (s + 1)) := by
    rw [hM2]; simp only [svM]; rw [if_pos ⟨trivial, trivial⟩]
    by_cases h4 : s = 4
    · subst h4; rfl
    · rw [if_neg h4, Nat.min_eq_right (by omega)]
  have g9 : ∀ k, M2.1 179 k = M.1 179 k := fun k => by rw [g0 _ _ (by omega) (by omega), hx _ _ (by omega)]
  have gp : ∀ i k, i < min 4 (s + 1) → k < 1601 → pastOf M2 i k = if s = 4 then (if i = 3 then M.1 179 k else pastOf M (i + 1) k) else (if i = s then M.1 179 k else pastOf M i k) := fun i k hi hk => by
    rw [hM2, sv_past hs i k hi hk]
    have e1 : ∀ j, (mput Mx 178 4 0).1 179 j = M.1 179 j := fun j => by rw [mput_at, if_neg (by omega), hx _ _ (by omega)]
    have e2 : ∀ j y, pastOf (mput Mx 178 4 0) j y = pastOf M j y := fun j y => by simp only [pastOf]; rw [mput_at, if_neg (by omega), hx _ _ (by omega)]
    simp only [e1, e2]
  obtain ⟨M3, ρ', p1, p2, o2, o3, p3, p4, p5⟩ := o6 M2 (fun k _ => g9 k)
  have q0 : ∀ q x, q < 178 ∨ q = 180 ∨ q = 182 ∨ 184 ≤ q → M3.1 q x = M2.1 q x := p3
  refine ⟨M2, M3, r2, p1, by rw [p4 4 (by omega) (by omega)]; exact g4, by rw [p5, hM2]; rfl, h', b', g', c', min 4 (s + 1), (l + 1) % 4, t, ⟨?_, ?_, ?_⟩, ?_, by omega, ?_, ?_⟩
  · exact (o2.cg (M' := M3) (fun q x h1 h2 => by rw [q0 _ _ (by omega), g0 _ _ (by omega) (by omega), hMx]) p2).to
  · refine (Hu.mem (M' := M3) fun q x h1 h2 => by rw [q0 _ _ (by omega), g0 _ _ (by omega) (by omega), hMx, o5.1 _ _ (by omega)]).row fun i k hi hk => ?_
    have : pastOf M3 i k = pastOf M2 i k := q0 _ _ (by omega)
    rw [this, gp i k hi hk]
    by_cases h4 : s = 4
    · simp only [if_pos h4]; split <;> rfl
    · simp only [if_neg h4]; split <;> rfl
  · rw [p4 3 (by omega) (by omega)]; exact g3
  · exact o3.cg o2.1.1 o2.2.1.1 p2
  · intro i hi
    have hi4 : i < 4 := Nat.lt_of_lt_of_le hi (Nat.min_le_left _ _)
    have his : i < s + 1 := Nat.lt_of_lt_of_le hi (Nat.min_le_right _ _)
    have hp3 : ∀ k, k < 1601 → pastOf M3 i k = if s = 4 then (if i = 3 then M.1 179 k else pastOf M (i + 1) k) else (if i = s then M.1 179 k else pastOf M i k) := fun k hk => by
      rw [← gp i k hi hk]; exact q0 _ _ (by omega)
    by_cases hcur : (s = 4 ∧ i = 3) ∨ (s ≠ 4 ∧ i = s)
    · have hq : ∀ k, k < 1601 → pastOf M3 i k = M.1 179 k := fun k hk => by
        rw [hp3 k hk]
        rcases hcur with ⟨u1, u2⟩ | ⟨u1, u2⟩
        · rw [if_pos u1, if_pos u2]
        · rw [if_neg u1, if_pos u2]
      obtain ⟨⟨z1, z2, z3, z4⟩, -, ⟨z5, z6, z7, z8⟩, -⟩ := H1
      exact ⟨h, b, g, c, ⟨z1, z2, z3, by omega⟩, ⟨by rw [hq 0 (by omega)]; exact z5, by rw [hq 7 (by omega)]; exact z6, by rw [hq 8 (by omega)]; exact z7, by rw [hq 5 (by omega)]; exact z8⟩, W.cg z1 z2 hq⟩
    · obtain ⟨i', hi', hq⟩ : ∃ i', i' < s ∧ ∀ k, k < 1601 → pastOf M3 i k = pastOf M i' k := by
        by_cases h4 : s = 4
        · exact ⟨i + 1, by omega, fun k hk => by rw [hp3 k hk, if_pos h4, if_neg (by omega)]⟩
        · exact ⟨i, by omega, fun k hk => by rw [hp3 k hk, if_neg h4, if_neg (by omega)]⟩
      obtain ⟨h'', b'', g'', c'', ⟨z1, z2, z3, z4⟩, ⟨z5, z6, z7, z8⟩, W2⟩ := P i' hi'
      exact ⟨h'', b'', g'', c'', ⟨z1, z2, z3, by omega⟩, ⟨by rw [hq 0 (by omega)]; exact z5, by rw [hq 7 (by omega)]; exact z6, by rw [hq 8 (by omega)]; exact z7, by rw [hq 5 (by omega)]; exact z8⟩, W2.cg z1 z2 hq⟩
  · obtain ⟨x1, x2, x3, x4, x5⟩ := X
    have k0 : ∀ q x, q = 0 ∨ (175 ≤ q ∧ q < 178) ∨ q = 182 → M3.1 q x = M.1 q x := fun q x hq => by
      rw [q0 _ _ (by omega), g0 _ _ (by omega) (by omega), hMx, o5.1 _ _ (by omega), hF _ _ (by omega)]
    refine ⟨by rw [k0 0 4 (by omega), p4 7 (by omega) (by omega), g1 7 (by omega) (by omega)]; exact x1, x2, by rw [k0 175 3 (by omega)]; exact x3, by rw [p4 6 (by omega) (by omega), g1 6 (by omega) (by omega)]; exact x4, fun i hi => ?_⟩
    rw [k0 176 i (by omega), k0 182 i (by omega)]
    exact x5 i hi
theorem undw' {n : Nat} {M : Mem} {h b g c s l t : Nat} (F : Fu n M h b g c s l t) {fc fr : Mem → Option (Int32 × Mem)} (hop : ∀ M1, Vi M1 (M.1 179) h b g c → Wr (M.1 179) h b c → Opw fc fr M1 (M.1 179) c) :
    ∃ Mp r M1 M2 M3, fX8_push 1 M = some Mp ∧ fc Mp = some (r, M1) ∧ Ro (mputL M1 185 0 r.toInt64) (M.1 179) ∧ fX12_saves (mput (mputL M1 185 0 r.toInt64) 178 4 0) = some M2 ∧ fr M2 = some (r, M3) ∧ fX12_thrown M3 = some 0 ∧ M3.2 185 0 = r.toInt64 ∧ Iv (n + 1) M3 := by
  obtain ⟨Mp, r, M1, e1, e2, e3, e4⟩ := undw F hop
  obtain ⟨M2, M3, q1, q2, q3, q4, q5⟩ := e4 (mputL M1 185 0 r.toInt64) rfl
  exact ⟨Mp, r, M1, M2, M3, e1, e2, fun k _ => e3 179 k (by omega), q1, q2, by unfold fX12_thrown; rw [q3], by rw [q4]; simp [mputL], q5⟩
theorem day_tri {M : Mem} {ρ : Nat → Int32} {h b g c : Nat} (V : Vi M ρ h b g c) (x : Int32) : (fX9_whyNoDay 1 x M = some 2 ∧ ∀ N, Ro N ρ → fX12_badDay x N = some 1) ∨ (fX9_whyNoDay 1 x M = some 3 ∧ ∀ N, Ro N ρ → fX12_badDay x N = some 2) ∨ (fX9_whyNoDay 1 x M = some 0 ∧ (∀ N, Ro N ρ → fX12_badDay x N = some 0) ∧ 0 < b ∧ ∃ w, 1 ≤ w ∧ w ≤ 40 ∧ x = nI w) := by
  have B := V.2.1
  have hb := B.1
  by_cases h1 : 1 ≤ x ∧ x ≤ 40
  · have e1 : fX9_whyNoDay 1 x M = if nI b = 0 then some 3 else some 0 := by
      unfold fX9_whyNoDay fX1_size
      rw [wn, if_pos h1, Option.bind_some, if_pos rfl]
      show ((some (M.1 9 1)).bind _) = _
      rw [Option.bind_some, B.2.1]
    have e2 : ∀ N, Ro N ρ → fX12_badDay x N = if nI b = 0 then some 2 else some 0 := fun N R => by
      unfold fX12_badDay fX12_isWood
      rw [inn, Option.bind_some, Option.bind_some, if_pos (decide_eq_true h1), l_7, R.at (by omega), Option.bind_some, B.2.2.1]
    right
    by_cases h0 : b = 0
    · left
      subst h0
      exact ⟨by rw [e1, if_pos (show nI 0 = 0 from rfl)], fun N R => by rw [e2 N R, if_pos (show nI 0 = 0 from rfl)]⟩
    · right
      refine ⟨by rw [e1, l_0, if_neg (pI_ne h0 (by omega) (by omega))], fun N R => by rw [e2 N R, l_0, if_neg (pI_ne h0 (by omega) (by omega))], by omega, ?_⟩
      have h00 : (0 : Int32) ≤ x := Int32.le_trans (show (0 : Int32) ≤ 1 by decide) h1.1
      obtain ⟨w, hw, rfl⟩ := rng (B := 40) (by omega) ⟨h00, h1.2⟩
      refine ⟨w, ?_, hw, rfl⟩
      have := h1.1
      rw [l_1, mI_le (by omega) (by omega)] at this
      exact this
  · left
    refine ⟨?_, fun N R => ?_⟩
    · unfold fX9_whyNoDay
      rw [wn, if_neg h1, Option.bind_some, if_neg (by decide)]
    · unfold fX12_badDay fX12_isWood
      rw [inn, Option.bind_some, Option.bind_some, if_neg (by rw [decide_eq_true_eq]; exact h1)]
theorem stp6 {n : Nat} {M : Mem} {h b g c s l t : Nat} (F : Fu n M h b g c s l t) (hn : n < 512) (p : Int32) : ∃ M3, LS6 p M M3 ∧ Iv (n + 1) M3 := by
  have hc := F.2.2.1
  rcases day_tri F.vi p with ⟨w1, w2⟩ | ⟨w1, w2⟩ | ⟨w1, w2, hb, w, hw1, hw2, rfl⟩
  · refine ⟨_, Or.inr (Or.inl ⟨0, ?_, ?_, thr_n _ 1⟩), F.rf _⟩
    · unfold fX11_bake; rw [w1, Option.bind_some, refuse_k.2.1]; rfl
    · unfold fX12_bake; rw [w2 _ (Ro.id M), Option.bind_some, ref1]; rfl
  · refine ⟨_, Or.inr (Or.inr ⟨0, ?_, ?_, thr_n _ 2⟩), F.rf _⟩
    · unfold fX11_bake; rw [w1, Option.bind_some, refuse_k.2.2]; rfl
    · unfold fX12_bake; rw [w2 _ (Ro.id M), Option.bind_some, ref2]; rfl
  · obtain ⟨Mp, r, M1, M2, M3, e1, e2, R, e3, e4, e5, e6, e7⟩ := undw' F (fun M1 V W => op_day V W hb hw2 (by omega))
    refine ⟨M3, Or.inl ⟨r, M1, r, ?_, ?_, e5, rfl, e6⟩, e7⟩
    · unfold fX11_bake
      rw [w1, Option.bind_some, refuse_0, Option.bind_some]
      show (fX8_push 1 M).bind _ = _
      rw [e1, Option.bind_some, e2]; rfl
    · unfold fX12_bake
      rw [w2 _ R, Option.bind_some, ref0, Option.bind_some]
      show (fX12_saves _).bind _ = _
      rw [e3, Option.bind_some, e4]; rfl
/-! what-if questions -/
theorem Fu.kp {n : Nat} {M M3 : Mem} {h b g c s l t : Nat} (H : Fu n M h b g c s l t) (hk : ∀ q x, ¬ (33 ≤ q ∧ q < 45) → q ≠ 178 → q ≠ 179 → q ≠ 181 → q ≠ 183 → q ≠ 185 → M3.1 q x = M.1 q x) (h9 : ∀ k, k < 1601 → M3.1 179 k = M.1 179 k) (h8 : ∀ x, x = 3 ∨ x = 6 ∨ x = 7 → M3.1 178 x = M.1 178 x) : Fu (n + 1) M3 h b g c s l t := by
  obtain ⟨⟨H1, H2, H3⟩, W, hc, P, X⟩ := H
  obtain ⟨z1, z2, z3, z4⟩ := H1.1
  refine ⟨⟨(H1.mem (M' := M3) fun a x ha => hk _ _ (by omega) (by omega) (by omega) (by omega) (by omega) (by omega)).row h9, (H2.mem (M' := M3) fun q x h1 h2 => hk _ _ (by omega) (by omega) (by omega) (by omega) (by omega) (by omega)).row fun i j hi hj => hk _ _ (by omega) (by omega) (by omega) (by omega) (by omega) (by omega), (h8 3 (by omega)).trans H3⟩, W.cg z1 z2 h9, by omega, P.cg (by omega) (fun x => hk _ _ (by omega) (by omega) (by omega) (by omega) (by omega) (by omega)), ?_⟩
  obtain ⟨x1, x2, x3, x4, x5⟩ := X
  refine ⟨by rw [hk 0 4 (by omega) (by omega) (by omega) (by omega) (by omega) (by omega), h8 7 (by omega)]; exact x1, x2, by rw [hk 175 3 (by omega) (by omega) (by omega) (by omega) (by omega) (by omega)]; exact x3, by rw [h8 6 (by omega)]; exact x4, fun i hi => ?_⟩
  rw [hk 176 i (by omega) (by omega) (by omega) (by omega) (by omega) (by omega), hk 182 i (by omega) (by omega) (by omega) (by omega) (by omega) (by omega)]
  exact x5 i hi
/-- a memory of the class that holds what a row holds -/
def fake (γ : Nat → Int32) : Mem := (fun q x => if q = 2 then γ 0 else if q = 23 then (if x = 1 then γ 5 else γ 6) else if 5 ≤ q ∧ q < 9 then γ (9 + 4 * x + (q - 5)) else if 26 ≤ q ∧ q < 33 then γ (201 + 7 * x + (q - 26)) else 0, fun _ _ => 0)
theorem fake_H {γ : Nat → Int32} {h : Nat} (hh : h ≤ 8) (h0 : γ 0 = nI h) : HH (fake γ) γ h := by
  refine ⟨hh, h0, h0, fun i k hi hk => ?_⟩
  show (if 5 + k = 2 then _ else if 5 + k = 23 then _ else if 5 ≤ 5 + k ∧ 5 + k < 9 then γ (9 + 4 * i + (5 + k - 5)) else _) = _
  rw [if_neg (by omega), if_neg (by omega), if_pos (by omega), show 5 + k - 5 = k by omega]
theorem fake_L {γ : Nat → Int32} {c : Nat} (hc : c < 2 ^ 30) (h5 : γ 5 = nI c) : LL (fake γ) γ c := by
  refine ⟨hc, h5, h5, rfl, fun i k hi hj hk => ?_⟩
  show (if 26 + k = 2 then _ else if 26 + k = 23 then _ else if 5 ≤ 26 + k ∧ 26 + k < 9 then _ else if 26 ≤ 26 + k ∧ 26 + k < 33 then γ (201 + 7 * i + (26 + k - 26)) else _) = _
  rw [if_neg (by omega), if_neg (by omega), if_neg (by omega), if_pos (by omega), show 26 + k - 26 = k by omega]
