/-- a batch less, on the reference's side -/
def dr (ρ : Nat → Int32) (i b : Nat) : Nat → Int32 := fun k => if k = 7 then nI (b - 1) else if 41 + 3 * i ≤ k ∧ k < 41 + 3 * (b - 1) then ρ (k + 3) else ρ k
theorem drop_loop {e : Nat} (he : e ≤ 98) : ∀ (m a n : Nat) (N : Mem), N.1 179 7 = nI ((e - 41) / 3) → (e - 41) % 3 = 0 → 41 ≤ a → a + m = e → m < n → lX12_dropsBatch_18 n (nI a) N = some (fun q k => if q = 179 ∧ a ≤ k ∧ k < e then N.1 179 (k + 3) else N.1 q k, N.2) := by
  intro m
  induction m with
  | zero =>
    intro a n N h0 h1 h2 h3 h4
    obtain ⟨n, rfl⟩ : ∃ n', n = n' + 1 := ⟨n - 1, by omega⟩
    rw [lX12_dropsBatch_18, l_7, ald_n (by omega) (by omega), Option.bind_some, h0, l_41, l_3, nI_ml', nI_ad, if_pos (pI_le (by omega) (by omega))]
    congr 1
    refine mem_ext (fun q k => ?_) rfl
    show N.1 q k = if _ then _ else _
    rw [if_neg (by omega)]
  | succ m ih =>
    intro a n N h0 h1 h2 h3 h4
    obtain ⟨n, rfl⟩ : ∃ n', n = n' + 1 := ⟨n - 1, by omega⟩
    rw [lX12_dropsBatch_18, l_7, ald_n (by omega) (by omega), Option.bind_some, h0, l_41, l_3, nI_ml', nI_ad, if_neg (pI_nle (by omega) (by omega)), nI_ad, ald_n (by omega) (by omega), Option.bind_some, ast_n (by omega) (by omega), Option.bind_some, l_1, nI_ad, ih (a + 1) n _ (by rw [mput_at, if_neg (by omega)]; exact h0) h1 (by omega) (by omega) (by omega)]
    congr 1
    refine mem_ext (fun q k => ?_) rfl
    show (if q = 179 ∧ a + 1 ≤ k ∧ k < e then (mput N 179 a _).1 179 (k + 3) else (mput N 179 a _).1 q k) = _
    simp only [mput_at]
    by_cases h5 : q = 179 ∧ k = a
    · rw [if_neg (by omega), if_pos h5, if_pos (by omega), h5.2]
    · by_cases h6 : q = 179 ∧ a + 1 ≤ k ∧ k < e
      · rw [if_pos h6, if_neg (by omega), if_pos (by omega)]
      · rw [if_neg h6, if_neg h5, if_neg (by omega)]
theorem drops_r {N : Mem} {ρ : Nat → Int32} {b i : Nat} (R : Ro N ρ) (hb : b ≤ 20) (hi : i < b) (h7 : ρ 7 = nI b) : ∃ N', fX12_dropsBatch (nI i) N = some N' ∧ Ro N' (dr ρ i b) ∧ (∀ q x, q ≠ 179 → N'.1 q x = N.1 q x) ∧ N'.2 = N.2 := by
  have e : lX12_dropsBatch_18 FUEL (nI (41 + 3 * i)) (mput N 179 7 (nI (b - 1))) = some _ := drop_loop (e := 41 + 3 * (b - 1)) (by omega) (3 * (b - 1 - i)) (41 + 3 * i) FUEL _ (by rw [mput_at, if_pos ⟨rfl, rfl⟩, show (41 + 3 * (b - 1) - 41) / 3 = b - 1 by omega]) (by omega) (by omega) (by omega) (fuel8 (by omega))
  refine ⟨(fun q k => if q = 179 ∧ 41 + 3 * i ≤ k ∧ k < 41 + 3 * (b - 1) then (mput N 179 7 (nI (b - 1))).1 179 (k + 3) else (mput N 179 7 (nI (b - 1))).1 q k, N.2), ?_, fun k hk => ?_, fun q x hq => ?_, rfl⟩
  · unfold fX12_dropsBatch
    rw [l_7, R.at (by omega), Option.bind_some, h7, l_1, mI_sb (by omega) (by omega), ast_n (by omega) (by omega), Option.bind_some, l_41, l_3, nI_ml', nI_ad, e]
    rfl
  · show (if 179 = 179 ∧ _ ∧ _ then (mput N 179 7 _).1 179 (k + 3) else (mput N 179 7 _).1 179 k) = _
    simp only [mput_at, dr]
    by_cases h5 : 41 + 3 * i ≤ k ∧ k < 41 + 3 * (b - 1)
    · rw [if_pos ⟨trivial, h5⟩, if_neg (by omega), if_neg (by omega), if_pos h5]; exact R _ (by omega)
    · rw [if_neg (fun q => h5 q.2)]
      by_cases h6 : k = 7
      · rw [if_pos ⟨trivial, h6⟩, if_pos h6]
      · rw [if_neg (fun q => h6 q.2), if_neg h6, if_neg h5]; exact R _ hk
  · show (if q = 179 ∧ _ then _ else (mput N 179 7 _).1 q x) = _
    rw [if_neg (fun w => hq w.1), mput_at, if_neg (fun w => hq w.1)]
/-- a batch less, on the class's side -/
theorem rem_loop {i b : Nat} (hb : b ≤ 20) (hi : i < b) : ∀ (m j n : Nat) (M : Mem), j + m = 3 → m < n → lX7_remove_20 10 3 20 (nI i) (nI b) n (nI j) M = some (fun q x => if 12 + j ≤ q ∧ q < 15 ∧ i ≤ x ∧ x < b - 1 then M.1 q (x + 1) else M.1 q x, M.2) := by
  intro m
  induction m with
  | zero =>
    intro j n M h1 h2
    obtain ⟨n, rfl⟩ : ∃ n', n = n' + 1 := ⟨n - 1, by omega⟩
    rw [lX7_remove_20, if_pos (pI_le (by omega) (by omega))]
    congr 1
    refine mem_ext (fun q k => ?_) rfl
    show M.1 q k = if _ then _ else _
    rw [if_neg (by omega)]
  | succ m ih =>
    intro j n M h1 h2
    obtain ⟨n, rfl⟩ : ∃ n', n = n' + 1 := ⟨n - 1, by omega⟩
    have hj := nI_nat (n := j) (by omega)
    have hv : ¬ (nI j < 0 ∨ 3 ≤ (nI j).toNatClampNeg) := by
      rw [hj]; rintro (q | q)
      · exact mI_nn (by omega) q
      · omega
    have ea : acp M (10 + (2 + j)) 20 (10 + (2 + j)) 20 (nI (i + 1)) (nI i) (nI (b - i - 1)) = some (mcpy M (10 + (2 + j)) (10 + (2 + j)) (i + 1) i (b - i - 1)) := by
      unfold acp
      rw [if_neg (by
        rw [nI_nat (by omega), nI_nat (by omega), nI_nat (by omega)]
        rintro (q | q | q | q | q)
        · exact mI_nn (by omega) q
        · exact mI_nn (by omega) q
        · exact mI_nn (by omega) q
        · omega
        · omega), nI_nat (by omega), nI_nat (by omega), nI_nat (by omega)]
    rw [lX7_remove_20, if_neg (pI_nle (by omega) (by omega)), if_neg hv, if_neg hv, hj, l_1, nI_ad, mI_sb (by omega) (by omega), mI_sb (by omega) (by omega), ea, Option.bind_some, nI_ad, ih (j + 1) n _ (by omega) (by omega)]
    congr 1
    refine mem_ext (fun q x => ?_) rfl
    simp only [mcpy]
    by_cases h3 : q = 10 + (2 + j)
    · subst h3
      rw [if_neg (by omega), if_pos rfl]
      by_cases h4 : i ≤ x ∧ x < b - 1
      · rw [if_pos ⟨by omega, by omega, h4⟩]
        simp only [va_cpy]
        rw [if_pos (by omega), show i + 1 + (x - i) = x + 1 by omega]
      · rw [if_neg (fun w => h4 w.2.2)]
        simp only [va_cpy]
        rw [if_neg (by omega)]
    · by_cases h4 : 12 + (j + 1) ≤ q ∧ q < 15 ∧ i ≤ x ∧ x < b - 1
      · rw [if_pos h4, if_neg (by omega), if_pos ⟨by omega, h4.2⟩]
      · rw [if_neg h4, if_neg (by omega), if_neg (by omega)]
theorem op_take {M : Mem} {ρ : Nat → Int32} {h b g c i : Nat} (V : Vi M ρ h b g c) (W : Wr ρ h b c) (hi : i < b) : Opp (fX1_remove 9 (nI i)) (fun N => (ald (N.1 179) 1601 (((41 : Int32) + ((3 : Int32) * nI i)) + (2 : Int32))).bind fun v14 => (fX12_dropsBatch (nI i) N).bind fun M18 => some (v14, M18)) M ρ c := by
  have hb := V.2.1.1
  have hh := V.1.1
  obtain ⟨M1, hM1⟩ : ∃ M1 : Mem, M1 = (fun q x => if 12 ≤ q ∧ q < 15 ∧ i ≤ x ∧ x < b - 1 then M.1 q (x + 1) else M.1 q x, M.2) := ⟨_, rfl⟩
  have e1 : fX7_remove (9 + 1) 3 20 (nI i) (nI b) M = some M1 := by
    unfold fX7_remove
    rw [if_neg (show ¬ nI i < 0 from mI_nn (by omega)), if_neg (pI_nle hi (by omega)), if_pos (pI_le hb (by omega)), l_0]
    have := rem_loop hb hi 3 0 FUEL M (by omega) (fuel8 (by omega))
    show (lX7_remove_20 10 3 20 (nI i) (nI b) FUEL (nI 0) M).bind _ = _
    rw [this, hM1]; rfl
  have cM : ∀ q x, q < 12 ∨ 15 ≤ q → M1.1 q x = M.1 q x := fun q x hq => by
    rw [hM1]; show (if _ then _ else _) = _; rw [if_neg (by omega)]
  refine ⟨ρ (41 + 3 * i + 2), mput M1 9 1 (nI (b - 1)), dr ρ i b, h, b - 1, g, c, ?_, ?_, ?_, by omega, ?_, fun N R => ?_⟩
  · unfold fX1_remove
    show (fX7_get 10 3 20 _ _ M).bind _ = _
    rw [l_2, V.2.1.gt hi (by omega), Option.bind_some, V.2.1.2.1, e1, Option.bind_some, cM 9 1 (by omega), V.2.1.2.1, l_1, mI_sb (by omega) (by omega)]
    rfl
  · have cz : ∀ q x, q ≠ 9 → q < 12 ∨ 15 ≤ q → (mput M1 9 1 (nI (b - 1))).1 q x = M.1 q x := fun q x h1 h2 => by rw [mput_at, if_neg (by omega), cM q x h2]
    have dz : ∀ j, j ≠ 7 → j < 41 ∨ 101 ≤ j → dr ρ i b j = ρ j := fun j h1 h2 => by simp only [dr]; rw [if_neg h1, if_neg (by omega)]
    refine ⟨V.1.cg (fun q y _ _ => cz _ _ (by omega) (by omega)) (fun j _ _ => dz _ (by omega) (by omega)), ⟨by omega, by rw [mput_at, if_pos ⟨rfl, rfl⟩], by simp [dr], fun j k hj hk => ?_⟩, V.2.2.1.cg (fun q y _ _ => cz _ _ (by omega) (by omega)) (fun j _ _ => dz _ (by omega) (by omega)), V.2.2.2.1.cg (fun q y _ _ => cz _ _ (by omega) (by omega)) (fun j _ _ => dz _ (by omega) (by omega)), V.2.2.2.2.cg (fun y => cz _ _ (by omega) (by omega)) (fun j _ => dz _ (by omega) (by omega))⟩
    rw [mput_at, if_neg (by omega), hM1]
    show (if _ then _ else _) = _
    simp only [dr]
    rw [if_neg (show ¬ 41 + 3 * j + k = 7 by omega)]
    by_cases h3 : i ≤ j
    · rw [if_pos (by omega), if_pos (by omega), V.2.1.2.2.2 (j + 1) k (by omega) hk, show 41 + 3 * (j + 1) + k = 41 + 3 * j + k + 3 by omega]
    · rw [if_neg (by omega), if_neg (by omega), V.2.1.2.2.2 j k (by omega) hk]
  · obtain ⟨w3, w4, w5, w6⟩ := W
    have dz : ∀ j, j ≠ 7 → j < 41 ∨ 101 ≤ j → dr ρ i b j = ρ j := fun j h1 h2 => by simp only [dr]; rw [if_neg h1, if_neg (by omega)]
    refine ⟨w3.cg hh fun k _ _ => dz k (by omega) (by omega), fun j hj => ?_, w5.cg fun k _ _ => dz k (by omega) (by omega), w6.cg fun k _ => dz k (by omega) (by omega)⟩
    have : ∀ k, k < 3 → dr ρ i b (41 + 3 * j + k) = ρ (41 + 3 * (if i ≤ j then j + 1 else j) + k) := fun k hk => by
      simp only [dr]
      rw [if_neg (by omega)]
      by_cases h3 : i ≤ j
      · rw [if_pos (by omega), if_pos h3, show 41 + 3 * (j + 1) + k = 41 + 3 * j + k + 3 by omega]
      · rw [if_neg (by omega), if_neg h3]
    have t0 := this 0 (by omega)
    rw [Nat.add_zero, Nat.add_zero] at t0
    rw [t0, this 1 (by omega), this 2 (by omega)]
    exact w4 _ (by split <;> omega)
  · exact ⟨fun q x hq => by rw [mput_at, if_neg (by omega), cM q x (by omega)], by rw [hM1]; rfl⟩
  · obtain ⟨N', n1, n2, n3, n4⟩ := drops_r R hb hi V.2.1.2.2.1
    refine ⟨N', ?_, n2, fun q x hq => n3 q x (by omega), fun x _ _ => n3 178 x (by omega), n4⟩
    show Option.bind _ _ = _
    rw [l_41, l_3, l_2, nI_ml', nI_ad, nI_ad, R.at (by omega), Option.bind_some, n1]
    rfl
