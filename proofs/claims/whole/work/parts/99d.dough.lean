/-! dough, what if: both sides -/
theorem keeps_l : ∀ (k j n : Nat) (M : Mem), j + k = 1601 → k < n → lX12_keeps_2 n (nI j) M = some (fun q b => if q = 181 ∧ j ≤ b ∧ b < 1601 then M.1 179 b else M.1 q b, M.2) := by
  intro k
  induction k with
  | zero =>
    intro j n M h1 h2
    obtain ⟨n, rfl⟩ : ∃ n', n = n' + 1 := ⟨n - 1, by omega⟩
    rw [lX12_keeps_2, l_1601, if_pos (pI_le (by omega) (by omega))]
    congr 1
    refine mem_ext (fun a b => ?_) rfl
    show M.1 a b = if _ then _ else _
    rw [if_neg (by omega)]
  | succ k ih =>
    intro j n M h1 h2
    obtain ⟨n, rfl⟩ : ∃ n', n = n' + 1 := ⟨n - 1, by omega⟩
    rw [lX12_keeps_2, l_1601, if_neg (pI_nle (by omega) (by omega)), ald_n (by omega) (by omega), Option.bind_some, ast_n (by omega) (by omega), Option.bind_some, l_1, nI_ad, ih (j + 1) n _ (by omega) (by omega)]
    congr 1
    refine mem_ext (fun a b => ?_) rfl
    show (if a = 181 ∧ j + 1 ≤ b ∧ b < 1601 then (mput M 181 j _).1 179 b else (mput M 181 j _).1 a b) = if a = 181 ∧ j ≤ b ∧ b < 1601 then M.1 179 b else M.1 a b
    simp only [mput_at]
    by_cases h3 : a = 181 ∧ b = j
    · rw [if_neg (by omega), if_pos h3, if_pos (by omega), h3.2]
    · by_cases h4 : a = 181 ∧ j + 1 ≤ b ∧ b < 1601
      · rw [if_pos h4, if_neg (by omega), if_pos (by omega)]
      · rw [if_neg h4, if_neg h3, if_neg (by omega)]
theorem back_l : ∀ (k j n : Nat) (M : Mem), j + k = 1601 → k < n → lX12_takesBack_2 n (nI j) M = some (fun q b => if q = 179 ∧ j ≤ b ∧ b < 1601 then M.1 181 b else M.1 q b, M.2) := by
  intro k
  induction k with
  | zero =>
    intro j n M h1 h2
    obtain ⟨n, rfl⟩ : ∃ n', n = n' + 1 := ⟨n - 1, by omega⟩
    rw [lX12_takesBack_2, l_1601, if_pos (pI_le (by omega) (by omega))]
    congr 1
    refine mem_ext (fun a b => ?_) rfl
    show M.1 a b = if _ then _ else _
    rw [if_neg (by omega)]
  | succ k ih =>
    intro j n M h1 h2
    obtain ⟨n, rfl⟩ : ∃ n', n = n' + 1 := ⟨n - 1, by omega⟩
    rw [lX12_takesBack_2, l_1601, if_neg (pI_nle (by omega) (by omega)), ald_n (by omega) (by omega), Option.bind_some, ast_n (by omega) (by omega), Option.bind_some, l_1, nI_ad, ih (j + 1) n _ (by omega) (by omega)]
    congr 1
    refine mem_ext (fun a b => ?_) rfl
    show (if a = 179 ∧ j + 1 ≤ b ∧ b < 1601 then (mput M 179 j _).1 181 b else (mput M 179 j _).1 a b) = if a = 179 ∧ j ≤ b ∧ b < 1601 then M.1 181 b else M.1 a b
    simp only [mput_at]
    by_cases h3 : a = 179 ∧ b = j
    · rw [if_neg (by omega), if_pos h3, if_pos (by omega), h3.2]
    · by_cases h4 : a = 179 ∧ j + 1 ≤ b ∧ b < 1601
      · rw [if_pos h4, if_neg (by omega), if_pos (by omega)]
      · rw [if_neg h4, if_neg h3, if_neg (by omega)]
theorem day_r {N : Mem} {ρ : Nat → Int32} {h b c s t f w : Nat} (R : Ro N ρ) (hh : h ≤ 8) (hb : b ≤ 20) (h0 : ρ 0 = nI h) (h7 : ρ 7 = nI b) (h5 : ρ 5 = nI c) (hc : c + 7000 < 2 ^ 29) (h2 : ρ 2 = nI t) (ht : 20 ≤ t) (ht4 : t ≤ 400) (h1 : ρ 1 = nI s) (hs : s < 2 ^ 31) (W : Wr ρ h b c) (hn : nxt ρ h = some f) (hf : f < h) (hw : w ≤ 40) : ∃ r N', fX12_dayWith (nI w) N = some (r, N') ∧ N'.1 179 4 = ρ 4 + nI (sz (PL ρ h f b t w).2.1) ∧ Fdy N N' := by
  obtain ⟨N5, n1, ⟨n20, n22, n27, n28, n24⟩, n3, n4, n5, n6, n7, n8⟩ := day_pre R hh hb h0 h7 h5 (by omega) h2 ht ht4 h1 hs W hn hf hw
  obtain ⟨G, hG⟩ : ∃ G, G = GF ρ h f b c s t w := ⟨_, rfl⟩
  rw [← hG] at n4 n5 n6
  have hsz : sz ((Od ρ h f b).map (bqt ρ)) ≤ 240 := by
    have e1 := tb_map (bqt ρ) (Od ρ h f b)
    have e2 := sl_all (q := fun _ => true) (fun p => bqt ρ ((Od ρ h f b).getD p 0)) (Od ρ h f b).length 0 (fun _ _ _ => rfl)
    rw [← e1, ← e2]
    have := sl_sz (q := fun _ => true) (tr := fun p => bqt ρ ((Od ρ h f b).getD p 0)) (Od ρ h f b).length 0 (fun i _ hi => (bqt_ok hh W.2.1 (Od_lt (show i < (Od ρ h f b).length by omega))).2.2.2.2.2.2)
    have hl' := Od_len (f := f) hh hf W.2.1
    omega
  obtain ⟨c', hc'⟩ : ∃ c', c' = G.2.1 := ⟨_, rfl⟩
  have h0' : G.1 0 = nI h := by
    have := n4 0 (by omega) (by omega) (by omega) (by omega) (by omega) (by omega)
    rw [n20] at this; exact this.symm
  have h5' : G.1 5 = nI c' := by rw [hc']; exact n5.2.2.1
  obtain ⟨st, hst⟩ : ∃ st, st = if c < c' - 200 then c' - 200 else c := ⟨_, rfl⟩
  have f5' : ald (N5.1 179) 1601 5 = some (nI c') := by
    have := n4.at (k := 5) (by omega) (by omega) (by omega) (by omega) (by omega) (by omega)
    rw [h5'] at this
    exact this
  have ef : fX12_firstKept N5 = some (nI (c' - 200)) := by
    unfold fX12_firstKept
    rw [f5', Option.bind_some, l_200]
    by_cases q : c' ≤ 200
    · rw [if_pos (pI_le q (by omega)), show c' - 200 = 0 by omega]; rfl
    · rw [if_neg (pI_nle (by omega) (by omega)), Option.bind_some, mI_sb (by omega) (by omega)]
  have ez : (if nI c ≤ nI (c' - 200) then (some (nI (c' - 200)) : Option Int32) else some (nI c)) = some (nI st) := by
    rw [hst]
    by_cases q : c < c' - 200
    · rw [if_pos (pI_le (by omega) (by omega)), if_pos q]
    · rw [if_neg q]
      by_cases q2 : c ≤ c' - 200
      · rw [if_pos (pI_le q2 (by omega)), show c' - 200 = c by omega]
      · rw [if_neg (pI_nle (by omega) (by omega))]
  obtain ⟨y, hy⟩ : ∃ y, y = bml (PL ρ h f b t w).1 0 := ⟨_, rfl⟩
  rw [← hy] at n1
  obtain ⟨N6, m1, m3, m4⟩ : ∃ N6, fX12_sorts (nI c) y N5 = some N6 ∧ (∀ q x, ¬ (q = 179 ∧ 201 ≤ x) → N6.1 q x = N5.1 q x) ∧ N6.2 = N5.2 := by
    unfold fX12_sorts
    rw [ef, Option.bind_some, Option.bind_some, ez, Option.bind_some]
    by_cases hq : st ≤ c'
    · obtain ⟨Mz, γz, _, _, _, _, _, _, s7⟩ := sort_l (mkf := mkq ρ) y (c' - st) st FUEL (fake G.1) G.1 (fake_H hh h0') (fake_L (by omega) h5') n5.2.2.2 (by omega) (fuel8 (by rw [hst]; split <;> omega))
      obtain ⟨N6, m1, m2, m3, m4⟩ := s7 N5 n4
      exact ⟨N6, by rw [m1]; rfl, m3, m4⟩
    · refine ⟨N5, ?_, fun _ _ _ => rfl, rfl⟩
      rw [show FUEL = 99999 + 1 from rfl, lX12_sorts_17, f5', Option.bind_some, if_pos (pI_le (by omega) (by rw [hst]; split <;> omega))]
      rfl
  obtain ⟨N7, hN7⟩ : ∃ N7, N7 = mput N6 179 3 (N6.1 179 3 + 1) := ⟨_, rfl⟩
  refine ⟨N7.1 179 5 - nI c, N7, ?_, ?_, fun q x q1 q2 q3 => ?_, fun x q1 q2 => ?_, ?_⟩
  · rw [n1, m1, Option.bind_some, l_3, ald_n (by omega) (by omega), Option.bind_some, ast_n (by omega) (by omega), Option.bind_some, ← hN7, l_5, ald_n (by omega) (by omega), Option.bind_some]
  · rw [hN7, mput_at, if_neg (by omega), m3 _ _ (by omega)]; exact n24
  · rw [hN7, mput_at, if_neg (by omega), m3 _ _ (by omega), n8.1 q x q1 q2 q3]
  · rw [hN7, mput_at, if_neg (by omega), m3 _ _ (by omega), n8.2.1 x q1 q2]
  · rw [hN7, mput_2, m4]; exact n8.2.2
/-- what a question may change: the plan, the reference's own rows aside -/
def Fq (N N' : Mem) : Prop := (∀ q x, q ≠ 178 → q ≠ 179 → q ≠ 181 → q ≠ 183 → N'.1 q x = N.1 q x) ∧ (∀ x, x ≠ 9 → x ≠ 10 → N'.1 178 x = N.1 178 x) ∧ N'.2 = N.2
theorem Fq.tr {a b c : Mem} (h : Fq a b) (g : Fq b c) : Fq a c := ⟨fun q x h1 h2 h3 h4 => (g.1 q x h1 h2 h3 h4).trans (h.1 q x h1 h2 h3 h4), fun x h1 h2 => (g.2.1 x h1 h2).trans (h.2.1 x h1 h2), g.2.2.trans h.2.2⟩
theorem dough_r {N : Mem} {ρ : Nat → Int32} {h b c s t f w : Nat} (R : Ro N ρ) (hh : h ≤ 8) (hb : b ≤ 20) (hb0 : 0 < b) (h0 : ρ 0 = nI h) (h7 : ρ 7 = nI b) (h5 : ρ 5 = nI c) (hc : c + 7000 < 2 ^ 29) (h2 : ρ 2 = nI t) (ht : 20 ≤ t) (ht4 : t ≤ 400) (h1 : ρ 1 = nI s) (hs : s < 2 ^ 31) (W : Wr ρ h b c) (hn : nxt ρ h = some f) (hf : f < h) (hw : w ≤ 40) : ∃ N', fX12_doughOf (nI w) N = some (nI (sz (PL ρ h f b t w).2.1), N') ∧ Ro N' ρ ∧ Fq N N' := by
  obtain ⟨N1, hN1⟩ : ∃ N1 : Mem, N1 = (fun q x => if q = 181 ∧ 0 ≤ x ∧ x < 1601 then N.1 179 x else N.1 q x, N.2) := ⟨_, rfl⟩
  have c1 : ∀ q x, q ≠ 181 → N1.1 q x = N.1 q x := fun q x hq => by
    rw [hN1]; show (if q = 181 ∧ 0 ≤ x ∧ x < 1601 then _ else _) = _; rw [if_neg (fun w => hq w.1)]
  have R1 : Ro N1 ρ := R.cg fun k _ => c1 179 k (by omega)
  obtain ⟨r, N2, d1, d2, d3⟩ := day_r R1 hh hb h0 h7 h5 hc h2 ht ht4 h1 hs W hn hf hw
  obtain ⟨N3, hN3⟩ : ∃ N3 : Mem, N3 = (fun q x => if q = 179 ∧ 0 ≤ x ∧ x < 1601 then N2.1 181 x else N2.1 q x, N2.2) := ⟨_, rfl⟩
  have c3 : ∀ q x, q ≠ 179 → N3.1 q x = N2.1 q x := fun q x hq => by
    rw [hN3]; show (if q = 179 ∧ 0 ≤ x ∧ x < 1601 then _ else _) = _; rw [if_neg (fun w => hq w.1)]
  have R3 : Ro N3 ρ := fun k hk => by
    rw [hN3]; show (if 179 = 179 ∧ 0 ≤ k ∧ k < 1601 then N2.1 181 k else _) = _
    rw [if_pos ⟨rfl, by omega, hk⟩, d3.1 181 k (by omega) (by omega) (by omega), hN1]
    show (if 181 = 181 ∧ 0 ≤ k ∧ k < 1601 then N.1 179 k else _) = _
    rw [if_pos ⟨rfl, by omega, hk⟩]
    exact R k hk
  refine ⟨N3, ?_, R3, fun q x q1 q2 q3 q4 => by rw [c3 q x q2, d3.1 q x q1 q2 q4, c1 q x q3], fun x q1 q2 => by rw [c3 _ _ (by omega), d3.2.1 x q1 q2, c1 _ _ (by omega)], by rw [hN3]; show N2.2 = _; rw [d3.2.2, hN1]⟩
  unfold fX12_doughOf
  rw [l_7, R.at (by omega), Option.bind_some, h7, l_0, if_neg (pI_ne (by omega) (by omega) (by omega))]
  unfold fX12_keeps fX12_takesBack
  rw [l_0, keeps_l 1601 0 FUEL N (by omega) (by unfold FUEL; omega), Option.bind_some, Option.bind_some, ← hN1, d1, Option.bind_some]
  simp only [un2]
  rw [l_4, ald_n (by omega) (by omega), Option.bind_some, d2, back_l 1601 0 FUEL N2 (by omega) (by unfold FUEL; omega), Option.bind_some, Option.bind_some, ← hN3, R3.at (by omega), Option.bind_some, Int32.add_comm, Int32.add_sub_cancel]
/-- the class answers with the plan alone -/
theorem dough_q {M : Mem} {O : List Nat} {tr : Nat → T3} {t w : Nat} (P : PB M O tr) (h4 : M.1 1 4 = nI t) (ht : 20 ≤ t) (ht4 : t ≤ 400) (hw : w ≤ 40) : ∃ M', fX11_doughOfArrangedDay (nI w) M = some (nI (sz (dP 1000 (min 400 (t + 10 * w)) (tb tr 0 O.length)).2.1), M') ∧ PB M' O tr ∧ (∀ q x, ¬ (33 ≤ q ∧ q < 45) → M'.1 q x = M.1 q x) ∧ M'.2 = M.2 := by
  obtain ⟨M1, a1, a2, a3, a4, a5⟩ := fire_c (t := min 400 (t + 10 * w)) P (by omega) (by omega)
  refine ⟨M1, ?_, a2.1, a4, a5⟩
  unfold fX11_doughOfArrangedDay fX9_heatWith
  have e : (if M.1 1 4 + 10 * nI w < 400 then M.1 1 4 + 10 * nI w else 400) = nI (min 400 (t + 10 * w)) := by
    rw [h4, l_10, nI_ml', nI_ad, l_400]
    by_cases q : t + 10 * w < 400
    · rw [if_pos (pI_lt q (by omega)), show min 400 (t + 10 * w) = t + 10 * w by omega]
    · rw [if_neg (pI_nlt (by omega) (by omega)), show min 400 (t + 10 * w) = 400 by omega]
  rw [e, Option.bind_some, a1, Option.bind_some, dough_c a2]
  rfl
theorem arrange_q {M : Mem} {ρ : Nat → Int32} {h b g c : Nat} (V : Vi M ρ h b g c) (W : Wr ρ h b c) : ∃ M4 O tr, fX9_arrangeNextDay 1 M = some M4 ∧ PB M4 O tr ∧ (b = 0 → O = []) ∧ (0 < b → ∃ f, f < h ∧ nxt ρ h = some f ∧ tb tr 0 O.length = (Od ρ h f b).map (bqt ρ)) ∧ (∀ q x, ¬ (33 ≤ q ∧ q < 45) → M4.1 q x = M.1 q x) ∧ M4.2 = M.2 := by
  have hh := V.1.1
  by_cases hh0 : 0 < h
  · obtain ⟨f, hf, hn⟩ := nxt_some W.1 hh0
    obtain ⟨M4, a1, a2, a3, a4⟩ := arrange_ok V W hh0 hn hf
    have B4 : BB M4 ρ b := V.2.1.cg (fun q x _ _ => a3 q x (by omega) (by omega)) (fun _ _ _ => rfl)
    have hl := Od_len (f := f) hh hf W.2.1
    exact ⟨M4, Od ρ h f b, _, a1, PB_of hh hf B4 W.2.1 a2, fun q => List.length_eq_zero_iff.mp (by omega), fun _ => ⟨f, hf, hn, tb_map (bqt ρ) _⟩, fun q x hq => a3 q x (by omega) (by omega), a4⟩
  · have hb0 : b = 0 := by
      rcases Nat.eq_zero_or_pos b with q | q
      · exact q
      · obtain ⟨⟨a, ha, -⟩, -⟩ := W.2.1 0 q; omega
    have h00 : h = 0 := by omega
    refine ⟨mput M 33 4 0, [], fun _ => t0, ?_, ⟨⟨by rw [mput_at, if_pos ⟨rfl, rfl⟩]; rfl, fun p hp => absurd hp (Nat.not_lt_zero _)⟩, by simp, fun p hp => absurd hp (Nat.not_lt_zero _)⟩, fun _ => rfl, fun q => by omega, fun q x hq => by rw [mput_at, if_neg (by omega)], rfl⟩
    unfold fX9_arrangeNextDay fX4_size
    show (some (M.1 2 1)).bind _ = _
    rw [Option.bind_some, show fX4_nextOne (1 + 1) M = some (enc (nxt ρ h)) from V.1.next W.1, Option.bind_some, V.1.2.1, h00]
    unfold fX3_arrange pf
    rw [Option.bind_some, show FUEL = 99999 + 1 from rfl, lX3_arrange_8, if_pos (show nI 0 ≤ 0 by decide)]
    rfl
theorem stp18 {n : Nat} {M : Mem} {h b g c s l t : Nat} (F : Fu n M h b g c s l t) (hn : n < 512) (p : Int32) : ∃ M3, LS18 p M M3 ∧ Iv (n + 1) M3 := by
  have V := F.vi
  have W := F.2.1
  have hc := F.2.2.1
  have hb := V.2.1.1
  by_cases h1 : 1 ≤ p ∧ p ≤ 40
  · obtain ⟨w, hw, rfl⟩ : ∃ w, w ≤ 40 ∧ p = nI w := by
      have h00 : (0 : Int32) ≤ p := Int32.le_trans (show (0 : Int32) ≤ 1 by decide) h1.1
      exact rng (B := 40) (by omega) ⟨h00, h1.2⟩
    obtain ⟨M4, O, tr, a1, a2, a3, a4, a5, a6⟩ := arrange_q V W
    obtain ⟨th, ht, ht4, h2⟩ := W.2.2.2.1
    obtain ⟨sd, hs, hsd⟩ := W.2.2.2.2
    obtain ⟨M5, b1, b2, b3, b4⟩ := dough_q a2 (t := th) (w := w) (by rw [a5 1 4 (by omega)]; exact V.2.2.2.2.1.trans h2) ht ht4 hw
    obtain ⟨d, hd⟩ : ∃ d, d = sz (dP 1000 (min 400 (th + 10 * w)) (tb tr 0 O.length)).2.1 := ⟨_, rfl⟩
    rw [← hd] at b1
    have ec : fX11_doughWith (nI w) M = some (Sum.inr (nI d, M5)) := by
      unfold fX11_doughWith
      rw [wn, if_pos h1, Option.bind_some, refuse_0, Option.bind_some]
      simp only [xc]
      rw [a1, Option.bind_some, b1]; rfl
    have c5 : ∀ q x, ¬ (33 ≤ q ∧ q < 45) → M5.1 q x = M.1 q x := fun q x hq => (b3 q x hq).trans (a5 q x hq)
    obtain ⟨N0, hN0⟩ : ∃ N0, N0 = mput (mputL M5 185 0 (nI d).toInt64) 178 4 0 := ⟨_, rfl⟩
    have n0 : ∀ q x, ¬ (33 ≤ q ∧ q < 45) → ¬ (q = 178 ∧ x = 4) → N0.1 q x = M.1 q x := fun q x q1 q2 => by rw [hN0, mput_at, if_neg q2]; exact c5 q x q1
    have R0 : Ro N0 (M.1 179) := fun k _ => n0 179 k (by omega) (by omega)
    obtain ⟨N1, e1, e2, e3⟩ : ∃ N1, fX12_doughOf (nI w) N0 = some (nI d, N1) ∧ Ro N1 (M.1 179) ∧ Fq N0 N1 := by
      by_cases hb0 : b = 0
      · refine ⟨N0, ?_, R0, fun _ _ _ _ _ _ => rfl, fun _ _ _ => rfl, rfl⟩
        have hO := a3 hb0
        have hd0 : d = 0 := by rw [hd, hO, show (1000 : Nat) = 999 + 1 from rfl, dP, if_pos (show (tb tr 0 ([] : List Nat).length).length = 0 from rfl)]; rfl
        unfold fX12_doughOf
        rw [l_7, R0.at (by omega), Option.bind_some, V.2.1.2.2.1, hb0, if_pos (show nI 0 = 0 from rfl), hd0]; rfl
      · obtain ⟨f, hf, hnx, hW⟩ := a4 (by omega)
        obtain ⟨N1, q1, q2, q3⟩ := dough_r R0 V.1.1 hb (by omega) V.1.2.2.1 V.2.1.2.2.1 V.2.2.2.1.2.2.1 (by omega) h2 ht ht4 hsd hs W hnx hf hw
        refine ⟨N1, ?_, q2, q3⟩
        rw [q1, hd, hW]
        unfold PL
        rfl
    refine ⟨N1, Or.inl ⟨nI d, M5, nI d, ec, ?_, ?_, rfl, ?_⟩, h, b, g, c, s, l, t, F.kp (fun q x q1 q2 q3 q4 q5 q6 => by rw [e3.1 q x q2 q3 q4 q5, n0 q x q1 (by omega)]) e2 (fun x hx => by rw [e3.2.1 x (by omega) (by omega), n0 178 x (by omega) (by omega)])⟩
    · unfold fX12_doughWith fX12_isWood
      rw [inn, Option.bind_some, Option.bind_some, if_pos (decide_eq_true h1), Option.bind_some, ref0, Option.bind_some]
      simp only [un2, Bool.false_eq_true, if_false]
      rw [← hN0, e1]; rfl
    · show some (N1.1 178 4) = _
      rw [e3.2.1 4 (by omega) (by omega), hN0, mput_at, if_pos ⟨rfl, rfl⟩]
    · rw [e3.2.2, hN0]; exact rd_L _ _ _
  · refine ⟨_, Or.inr ⟨0, ?_, ?_, thr_n _ 1⟩, F.rf _⟩
    · unfold fX11_doughWith
      rw [wn, if_neg h1, Option.bind_some, refuse_k.2.1]; rfl
    · unfold fX12_doughWith fX12_isWood
      rw [inn, Option.bind_some, Option.bind_some, if_neg (by rw [decide_eq_true_eq]; exact h1), Option.bind_some, ref1]; rfl
/-! the best wood -/
def bw (d : Nat → Nat) : Nat → Nat → Nat → Nat
  | 0, _, best => best
  | m + 1, w, best => bw d m (w + 1) (if d w < d best then w else best)
theorem bw_c {O : List Nat} {tr : Nat → T3} {t : Nat} {d : Nat → Nat} (ht : 20 ≤ t) (ht4 : t ≤ 400) (hd : ∀ w, w ≤ 40 → d w = sz (dP 1000 (min 400 (t + 10 * w)) (tb tr 0 O.length)).2.1) (hd2 : ∀ w, w ≤ 40 → d w < 1000) : ∀ (m w n best : Nat) (M : Mem), PB M O tr → M.1 1 4 = nI t → w + m = 41 → best ≤ 40 → m < n → ∃ M', lX11_bestWood_36 n (nI best) (nI (d best)) (nI w) M = some (nI (bw d m w best), M') ∧ (∀ q x, ¬ (33 ≤ q ∧ q < 45) → M'.1 q x = M.1 q x) ∧ M'.2 = M.2 := by
  intro m
  induction m with
  | zero =>
    intro w n best M P h4 h1 hb hn
    obtain ⟨n, rfl⟩ : ∃ n', n = n' + 1 := ⟨n - 1, by omega⟩
    refine ⟨M, ?_, fun _ _ _ => rfl, rfl⟩
    rw [lX11_bestWood_36, l_40, if_pos (pI_lt (by omega) (by omega))]; rfl
  | succ m ih =>
    intro w n best M P h4 h1 hb hn
    obtain ⟨n, rfl⟩ : ∃ n', n = n' + 1 := ⟨n - 1, by omega⟩
    obtain ⟨M1, a1, a2, a3, a4⟩ := dough_q P h4 ht ht4 (show w ≤ 40 by omega)
    rw [← hd w (by omega)] at a1
    have q1 := hd2 w (by omega)
    have q2 := hd2 best hb
    obtain ⟨M2, b1, b2, b3⟩ := ih (w + 1) n (if d w < d best then w else best) M1 a2 ((a3 1 4 (by omega)).trans h4) (by omega) (by split <;> omega) (by omega)
    refine ⟨M2, ?_, fun q x hq => (b2 q x hq).trans (a3 q x hq), b3.trans a4⟩
    rw [lX11_bestWood_36, l_40, if_neg (pI_nlt (by omega) (by omega)), a1, Option.bind_some]
    simp only [un2]
    rw [l_1, nI_ad, bw]
    by_cases q : d w < d best
    · rw [if_pos q] at b1 ⊢
      rw [if_neg (pI_nle q (by omega))]; exact b1
    · rw [if_neg q] at b1 ⊢
      rw [if_pos (pI_le (by omega) (by omega))]; exact b1
theorem bw_0 {d : Nat → Nat} : ∀ (m w best : Nat), d best = 0 → bw d m w best = best := by
  intro m
  induction m with
  | zero => intro w best _; rfl
  | succ m ih => intro w best h; rw [bw, if_neg (by omega), ih _ _ h]
theorem bw_r {ρ : Nat → Int32} {h b c sd t f : Nat} {d : Nat → Nat} (hh : h ≤ 8) (hb : b ≤ 20) (hb0 : 0 < b) (h0 : ρ 0 = nI h) (h7 : ρ 7 = nI b) (h5 : ρ 5 = nI c) (hc : c + 7000 < 2 ^ 29) (h2 : ρ 2 = nI t) (ht : 20 ≤ t) (ht4 : t ≤ 400) (h1 : ρ 1 = nI sd) (hs : sd < 2 ^ 31) (W : Wr ρ h b c) (hn : nxt ρ h = some f) (hf : f < h) (hd : ∀ w, w ≤ 40 → d w = sz (PL ρ h f b t w).2.1) (hd2 : ∀ w, w ≤ 40 → d w < 1000) : ∀ (m w n best : Nat) (N : Mem), Ro N ρ → w + m = 41 → best ≤ 40 → m < n → ∃ N', lX12_bestWood_27 n (nI best) (nI (d best)) (nI w) N = some (nI (bw d m w best), N') ∧ Ro N' ρ ∧ Fq N N' := by
  intro m
  induction m with
  | zero =>
    intro w n best N R h6 hbe hn'
    obtain ⟨n, rfl⟩ : ∃ n', n = n' + 1 := ⟨n - 1, by omega⟩
    refine ⟨N, ?_, R, fun _ _ _ _ _ _ => rfl, fun _ _ _ => rfl, rfl⟩
    rw [lX12_bestWood_27, l_40, if_pos (pI_lt (by omega) (by omega))]; rfl
  | succ m ih =>
    intro w n best N R h6 hbe hn'
    obtain ⟨n, rfl⟩ : ∃ n', n = n' + 1 := ⟨n - 1, by omega⟩
    have q1 := hd2 w (by omega)
    have q2 := hd2 best hbe
    by_cases hz : d best = 0
    · refine ⟨N, ?_, R, fun _ _ _ _ _ _ => rfl, fun _ _ _ => rfl, rfl⟩
      rw [lX12_bestWood_27, l_40, if_neg (pI_nlt (by omega) (by omega)), hz, if_pos (show nI 0 ≤ 0 by decide), bw_0 _ _ _ hz]
    · obtain ⟨N1, a1, a2, a3⟩ := dough_r R hh hb hb0 h0 h7 h5 hc h2 ht ht4 h1 hs W hn hf (show w ≤ 40 by omega)
      rw [← hd w (by omega)] at a1
      obtain ⟨N2, b1, b2, b3⟩ := ih (w + 1) n (if d w < d best then w else best) N1 a2 (by omega) (by split <;> omega) (by omega)
      refine ⟨N2, ?_, b2, a3.tr b3⟩
      rw [lX12_bestWood_27, l_40, if_neg (pI_nlt (by omega) (by omega)), l_0, if_neg (pI_nle (by omega) (by omega)), a1, Option.bind_some]
      simp only [un2]
      rw [l_1, nI_ad, bw]
      by_cases q : d w < d best
      · rw [if_pos q] at b1 ⊢
        rw [if_neg (pI_nle q (by omega)), Option.bind_some, if_neg (pI_nle q (by omega))]; exact b1
      · rw [if_neg q] at b1 ⊢
        rw [if_pos (pI_le (by omega) (by omega)), Option.bind_some, if_pos (pI_le (by omega) (by omega))]; exact b1
theorem stp19 {n : Nat} {M : Mem} {h b g c s l t : Nat} (F : Fu n M h b g c s l t) (hn : n < 512) : ∃ M3, LS19 M M3 ∧ Iv (n + 1) M3 := by
  have V := F.vi
  have W := F.2.1
  have hc := F.2.2.1
  have hb := V.2.1.1
  have hh := V.1.1
  by_cases hb0 : b = 0
  · refine ⟨_, ⟨-1, M, ?_, ?_⟩, F.rf 0⟩
    · unfold fX11_bestWood fX1_size
      rw [Option.bind_some, V.2.1.2.1, hb0, if_pos (show nI 0 = 0 from rfl)]
    · unfold fX12_bestWood pf
      rw [Option.bind_some, l_7, (Ro.rf' M 0).at (by omega), Option.bind_some, V.2.1.2.2.1, hb0, if_pos (show nI 0 = 0 from rfl)]
  · obtain ⟨M4, O, tr, a1, a2, a3, a4, a5, a6⟩ := arrange_q V W
    obtain ⟨f, hf, hnx, hW⟩ := a4 (by omega)
    obtain ⟨th, ht, ht4, h2⟩ := W.2.2.2.1
    obtain ⟨sd, hs, hsd⟩ := W.2.2.2.2
    have h4 : M4.1 1 4 = nI th := by rw [a5 1 4 (by omega)]; exact V.2.2.2.2.1.trans h2
    obtain ⟨d, hd⟩ : ∃ d : Nat → Nat, d = fun w => sz (dP 1000 (min 400 (th + 10 * w)) (tb tr 0 O.length)).2.1 := ⟨_, rfl⟩
    have hd1 : ∀ w, w ≤ 40 → d w = sz (dP 1000 (min 400 (th + 10 * w)) (tb tr 0 O.length)).2.1 := fun w _ => by rw [hd]
    have hdr : ∀ w, w ≤ 40 → d w = sz (PL (M.1 179) h f b th w).2.1 := fun w _ => by rw [hd]; dsimp only; rw [hW]; unfold PL; rfl
    have hd2 : ∀ w, w ≤ 40 → d w < 1000 := fun w hw => by
      obtain ⟨N5, -, -, -, -, -, n6, -⟩ := day_pre (w := w) (Ro.id M) hh hb V.1.2.2.1 V.2.1.2.2.1 V.2.2.2.1.2.2.1 (by omega) h2 ht ht4 hsd hs W hnx hf hw
      have hcc : c ≤ (GF (M.1 179) h f b c sd th w).2.1 ∨ (GF (M.1 179) h f b c sd th w).2.1 < c := by omega
      have hsz : sz ((Od (M.1 179) h f b).map (bqt (M.1 179))) ≤ 240 := by
        have e1 := tb_map (bqt (M.1 179)) (Od (M.1 179) h f b)
        have e2 := sl_all (q := fun _ => true) (fun p => bqt (M.1 179) ((Od (M.1 179) h f b).getD p 0)) (Od (M.1 179) h f b).length 0 (fun _ _ _ => rfl)
        rw [← e1, ← e2]
        have := sl_sz (q := fun _ => true) (tr := fun p => bqt (M.1 179) ((Od (M.1 179) h f b).getD p 0)) (Od (M.1 179) h f b).length 0 (fun i _ hi => (bqt_ok hh W.2.1 (Od_lt (show i < (Od (M.1 179) h f b).length by omega))).2.2.2.2.2.2)
        have hl' := Od_len (f := f) hh hf W.2.1
        omega
      have key : ∀ (n t' : Nat) (W' : List T3), sz (dP n t' W').2.1 ≤ sz W' := by
        intro n
        induction n with
        | zero => intro t' W'; exact Nat.le_refl _
        | succ n ih =>
          intro t' W'
          by_cases hW' : W'.length = 0
          · rw [dP, if_pos hW']; exact Nat.le_refl _
          · cases hk : kP t' W' with
            | some k =>
              rw [dP_load hW' hk]
              have := ih (fallP t' k (sz (gT (pK k) 24 W'))) (gR (pK k) 24 W')
              obtain ⟨-, s2, -⟩ := g_sum (pK k) W' 24
              dsimp only
              omega
            | none =>
              by_cases hh' : hotP t' W'
              · rw [dP_tick hW' hk hh']; exact ih _ _
              · rw [dP_end hW' hk hh']; exact Nat.le_refl _
      rw [hd1 w hw, hW]
      have := key 1000 (min 400 (th + 10 * w)) ((Od (M.1 179) h f b).map (bqt (M.1 179)))
      omega
    obtain ⟨M5, b1, b2, b3, b4⟩ := dough_q a2 h4 ht ht4 (show 1 ≤ 40 by omega)
    rw [← hd1 1 (by omega)] at b1
    obtain ⟨M6, c1, c2, c3⟩ := bw_c ht ht4 hd1 hd2 39 2 FUEL 1 M5 b2 ((b3 1 4 (by omega)).trans h4) (by omega) (by omega) (fuel8 (by omega))
    have c6 : ∀ q x, ¬ (33 ≤ q ∧ q < 45) → M6.1 q x = M.1 q x := fun q x hq => by rw [c2 q x hq, b3 q x hq, a5 q x hq]
    obtain ⟨N0, hN0⟩ : ∃ N0, N0 = mput M6 178 4 0 := ⟨_, rfl⟩
    have n0 : ∀ q x, ¬ (33 ≤ q ∧ q < 45) → ¬ (q = 178 ∧ x = 4) → N0.1 q x = M.1 q x := fun q x q1 q2 => by rw [hN0, mput_at, if_neg q2]; exact c6 q x q1
    have R0 : Ro N0 (M.1 179) := fun k _ => n0 179 k (by omega) (by omega)
    obtain ⟨N1, e1, e2, e3⟩ := dough_r R0 hh hb (by omega) V.1.2.2.1 V.2.1.2.2.1 V.2.2.2.1.2.2.1 (by omega) h2 ht ht4 hsd hs W hnx hf (show 1 ≤ 40 by omega)
    rw [← hdr 1 (by omega)] at e1
    obtain ⟨N2, f1, f2, f3⟩ := bw_r hh hb (by omega) V.1.2.2.1 V.2.1.2.2.1 V.2.2.2.1.2.2.1 (by omega) h2 ht ht4 hsd hs W hnx hf hdr hd2 39 2 FUEL 1 N1 e2 (by omega) (by omega) (fuel8 (by omega))
    have ee := e3.tr f3
    refine ⟨N2, ⟨nI (bw d 39 2 1), M6, ?_, ?_⟩, h, b, g, c, s, l, t, F.kp (fun q x q1 q2 q3 q4 q5 q6 => by rw [ee.1 q x q2 q3 q4 q5, n0 q x q1 (by omega)]) f2 (fun x hx => by rw [ee.2.1 x (by omega) (by omega), n0 178 x (by omega) (by omega)])⟩
    · unfold fX11_bestWood fX1_size
      rw [Option.bind_some, V.2.1.2.1, l_0, if_neg (pI_ne hb0 (by omega) (by omega)), a1, Option.bind_some, l_1, b1, Option.bind_some]
      simp only [un2]
      rw [l_2, c1]; rfl
    · unfold fX12_bestWood pf
      rw [Option.bind_some, ← hN0, l_7, R0.at (by omega), Option.bind_some, V.2.1.2.2.1, l_0, if_neg (pI_ne hb0 (by omega) (by omega)), l_1, e1, Option.bind_some]
      simp only [un2]
      rw [l_2, f1]; rfl
