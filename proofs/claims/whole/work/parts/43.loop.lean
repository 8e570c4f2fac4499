/-- one call of the script: the class and the reference give the same answer -/
def LStep (op p0 p1 p2 : Int32) (M M3 : Mem) : Prop := (op = 0 → LS0 p0 M M3) ∧ (op = 1 → LS1 p0 p1 M M3) ∧ (op = 2 → LS2 p0 M M3) ∧ (op = 3 → LS3 p0 p1 p2 M M3) ∧ (op = 4 → LS4 p0 M M3) ∧ (op = 5 → LS5 p0 M M3) ∧ (op = 6 → LS6 p0 M M3) ∧ (op = 7 → LS7 p0 M M3) ∧ (op = 8 → LS8 p0 M M3) ∧ (op = 9 → LS9 M M3) ∧ (op = 10 → LS10 p0 p1 M M3) ∧ (op = 11 → LS11 p0 M M3) ∧ (op = 12 → LS12 M M3) ∧ (op = 13 → LS13 p0 p1 M M3) ∧ (op = 14 → LS14 p0 p1 M M3) ∧ (op = 15 → LS15 p0 p1 M M3) ∧ (op = 16 → LS16 p0 p1 M M3) ∧ (op = 17 → LS17 p0 M M3) ∧ (op = 18 → LS18 p0 M M3) ∧ (op = 19 → LS19 M M3) ∧ (op = 20 → LS20 M M3) ∧ (op = 21 → LS21 p0 M M3) ∧ (op = 22 → LS22 p0 M M3) ∧ (op = 23 → LS23 M M3) ∧ (op = 24 → LS24 M M3) ∧ (op = 25 → LS25 M M3) ∧ (op = 26 → LS26 M M3) ∧ (op = 27 → LS27 M M3) ∧ (op.toInt < 0 ∨ 27 < op.toInt → M3 = M)
theorem kup_kup (K : Kx) (a b c d : Nat) : kup (kup K a b) c d = kup K (a + c) (b + d) := by
  obtain ⟨p, l', e, R', s, m, args, below, meth, c, Q, G', n0', nL', cells, slots⟩ := K
  simp only [kup, Nat.add_assoc]
  rfl
theorem kup_z (K : Kx) : kup K 0 0 = K := by
  obtain ⟨p, l', e, R', s, m, args, below, meth, c, Q, G', n0', nL', cells, slots⟩ := K
  rfl
theorem nI_int {n : Nat} (h : n < 2 ^ 31) : (nI n).toInt = n := Int32.toInt_ofNat_of_lt h
theorem nI_nat {n : Nat} (h : n < 2 ^ 31) : (nI n).toNatClampNeg = n := by
  show (nI n).toInt.toNat = n
  rw [nI_int h]; rfl
theorem nI_ad (a c : Nat) : nI a + nI c = nI (a + c) := (Int32.ofNat_add a c).symm
theorem vp_at {n N : Nat} (h : n < N) (hN : N < 2 ^ 31) : vp_in (nI n) N := by
  show ¬ (_ ∨ _)
  have h1 : n < 2 ^ 31 := by omega
  rw [nI_nat h1, Int32.lt_iff_toInt_lt, nI_int h1]
  have : (0 : Int32).toInt = 0 := by decide
  omega
set_option maxRecDepth 100000 in
set_option maxHeartbeats 4000000 in
theorem law_disp {K : Kx} {l : Launch} (hfl : l.stackTraces = false) {G : Gx} {n0 b N j : Nat} {xs : Nat → Int32} {M M3 : Mem} (C : Ok K l room_1 cL_law RL G n0 8) (C2 : Ok (kup K 1 6) l room_1 cL_law RL G n0 8) (X : SX K b N xs) (hj : 4 * j + 3 < N) (hN : N ≤ 2048)
    (h : LStep (xs (nI (4 * j)).toNatClampNeg &&& 31) (xs (nI (4 * j) + 1).toNatClampNeg) (xs (nI (4 * j) + 2).toNatClampNeg) (xs (nI (4 * j) + 3).toNatClampNeg) M M3) (k1 : J K M3 1472 [(4, .int (nI (4 * j))), (3, .ref (n0 + 185)), (2, .ref (n0 + 178)), (1, .ref (n0 + 0)), (0, .ref b)] []) (k2 : J (kup K 1 6) M3 1472 [(4, .int (nI (4 * j))), (3, .ref (n0 + 185)), (2, .ref (n0 + 178)), (1, .ref (n0 + 0)), (0, .ref b)] []) : J K M 32 [(4, .int (nI (4 * j))), (3, .ref (n0 + 185)), (2, .ref (n0 + 178)), (1, .ref (n0 + 0)), (0, .ref b)] [] := by
  have h0 : vp_in (nI (4 * j)) N := vp_at (by omega) (by omega)
  have h1 : vp_in (nI (4 * j) + 1) N := by rw [show (1 : Int32) = nI 1 from rfl, nI_ad]; exact vp_at (by omega) (by omega)
  have h2 : vp_in (nI (4 * j) + 2) N := by rw [show (2 : Int32) = nI 2 from rfl, nI_ad]; exact vp_at (by omega) (by omega)
  have h3 : vp_in (nI (4 * j) + 3) N := by rw [show (3 : Int32) = nI 3 from rfl, nI_ad]; exact vp_at (by omega) (by omega)
  refine j_aload_n C 4 dL_law_32 rfl rfl ?_
  refine j_iload C 0 dL_law_33 rfl ?_
  refine j_scr C X h0 dL_law_35 ?_
  refine j_bipush C (31 : Int32) rfl dL_law_36 ?_
  refine j_iand C dL_law_38 ?_
  obtain ⟨s0, s1, s2, s3, s4, s5, s6, s7, s8, s9, s10, s11, s12, s13, s14, s15, s16, s17, s18, s19, s20, s21, s22, s23, s24, s25, s26, s27, sd⟩ := h
  by_cases q0 : (xs (nI (4 * j)).toNatClampNeg &&& 31) = 0
  · exact j_tsw C 164 q0 dL_law_39 (by decide) rfl (by decide) (lc_0 hfl C C2 X h1 (s0 q0) k1 k2)
  by_cases q1 : (xs (nI (4 * j)).toNatClampNeg &&& 31) = 1
  · exact j_tsw C 220 q1 dL_law_39 (by decide) rfl (by decide) (lc_1 hfl C C2 X h1 h2 (s1 q1) k1 k2)
  by_cases q2 : (xs (nI (4 * j)).toNatClampNeg &&& 31) = 2
  · exact j_tsw C 288 q2 dL_law_39 (by decide) rfl (by decide) (lc_2 hfl C C2 X h1 (s2 q2) k1 k2)
  by_cases q3 : (xs (nI (4 * j)).toNatClampNeg &&& 31) = 3
  · exact j_tsw C 344 q3 dL_law_39 (by decide) rfl (by decide) (lc_3 hfl C C2 X h1 h2 h3 (s3 q3) k1 k2)
  by_cases q4 : (xs (nI (4 * j)).toNatClampNeg &&& 31) = 4
  · exact j_tsw C 424 q4 dL_law_39 (by decide) rfl (by decide) (lc_4 hfl C C2 X h1 (s4 q4) k1 k2)
  by_cases q5 : (xs (nI (4 * j)).toNatClampNeg &&& 31) = 5
  · exact j_tsw C 480 q5 dL_law_39 (by decide) rfl (by decide) (lc_5 hfl C C2 X h1 (s5 q5) k1 k2)
  by_cases q6 : (xs (nI (4 * j)).toNatClampNeg &&& 31) = 6
  · exact j_tsw C 536 q6 dL_law_39 (by decide) rfl (by decide) (lc_6 hfl C C2 X h1 (s6 q6) k1 k2)
  by_cases q7 : (xs (nI (4 * j)).toNatClampNeg &&& 31) = 7
  · exact j_tsw C 592 q7 dL_law_39 (by decide) rfl (by decide) (lc_7 hfl C C2 X h1 (s7 q7) k1 k2)
  by_cases q8 : (xs (nI (4 * j)).toNatClampNeg &&& 31) = 8
  · exact j_tsw C 648 q8 dL_law_39 (by decide) rfl (by decide) (lc_8 hfl C C2 X h1 (s8 q8) k1 k2)
  by_cases q9 : (xs (nI (4 * j)).toNatClampNeg &&& 31) = 9
  · exact j_tsw C 704 q9 dL_law_39 (by decide) rfl (by decide) (lc_9 hfl C C2 X (s9 q9) k1 k2)
  by_cases q10 : (xs (nI (4 * j)).toNatClampNeg &&& 31) = 10
  · exact j_tsw C 717 q10 dL_law_39 (by decide) rfl (by decide) (lc_10 hfl C C2 X h1 h2 (s10 q10) k1 k2)
  by_cases q11 : (xs (nI (4 * j)).toNatClampNeg &&& 31) = 11
  · exact j_tsw C 785 q11 dL_law_39 (by decide) rfl (by decide) (lc_11 hfl C C2 X h1 (s11 q11) k1 k2)
  by_cases q12 : (xs (nI (4 * j)).toNatClampNeg &&& 31) = 12
  · exact j_tsw C 840 q12 dL_law_39 (by decide) rfl (by decide) (lc_12 hfl C C2 X (s12 q12) k1 k2)
  by_cases q13 : (xs (nI (4 * j)).toNatClampNeg &&& 31) = 13
  · exact j_tsw C 853 q13 dL_law_39 (by decide) rfl (by decide) (lc_13 hfl C C2 X h1 h2 (s13 q13) k1 k2)
  by_cases q14 : (xs (nI (4 * j)).toNatClampNeg &&& 31) = 14
  · exact j_tsw C 921 q14 dL_law_39 (by decide) rfl (by decide) (lc_14 hfl C C2 X h1 h2 (s14 q14) k1 k2)
  by_cases q15 : (xs (nI (4 * j)).toNatClampNeg &&& 31) = 15
  · exact j_tsw C 989 q15 dL_law_39 (by decide) rfl (by decide) (lc_15 hfl C C2 X h1 h2 (s15 q15) k1 k2)
  by_cases q16 : (xs (nI (4 * j)).toNatClampNeg &&& 31) = 16
  · exact j_tsw C 1057 q16 dL_law_39 (by decide) rfl (by decide) (lc_16 hfl C C2 X h1 h2 (s16 q16) k1 k2)
  by_cases q17 : (xs (nI (4 * j)).toNatClampNeg &&& 31) = 17
  · exact j_tsw C 1125 q17 dL_law_39 (by decide) rfl (by decide) (lc_17 hfl C C2 X h1 (s17 q17) k1 k2)
  by_cases q18 : (xs (nI (4 * j)).toNatClampNeg &&& 31) = 18
  · exact j_tsw C 1181 q18 dL_law_39 (by decide) rfl (by decide) (lc_18 hfl C C2 X h1 (s18 q18) k1 k2)
  by_cases q19 : (xs (nI (4 * j)).toNatClampNeg &&& 31) = 19
  · exact j_tsw C 1237 q19 dL_law_39 (by decide) rfl (by decide) (lc_19 hfl C C2 X (s19 q19) k1 k2)
  by_cases q20 : (xs (nI (4 * j)).toNatClampNeg &&& 31) = 20
  · exact j_tsw C 1250 q20 dL_law_39 (by decide) rfl (by decide) (lc_20 hfl C C2 X (s20 q20) k1 k2)
  by_cases q21 : (xs (nI (4 * j)).toNatClampNeg &&& 31) = 21
  · exact j_tsw C 1263 q21 dL_law_39 (by decide) rfl (by decide) (lc_21 hfl C C2 X h1 (s21 q21) k1 k2)
  by_cases q22 : (xs (nI (4 * j)).toNatClampNeg &&& 31) = 22
  · exact j_tsw C 1319 q22 dL_law_39 (by decide) rfl (by decide) (lc_22 hfl C C2 X h1 (s22 q22) k1 k2)
  by_cases q23 : (xs (nI (4 * j)).toNatClampNeg &&& 31) = 23
  · exact j_tsw C 1375 q23 dL_law_39 (by decide) rfl (by decide) (lc_23 hfl C C2 X (s23 q23) k1 k2)
  by_cases q24 : (xs (nI (4 * j)).toNatClampNeg &&& 31) = 24
  · exact j_tsw C 1388 q24 dL_law_39 (by decide) rfl (by decide) (lc_24 hfl C C2 X (s24 q24) k1 k2)
  by_cases q25 : (xs (nI (4 * j)).toNatClampNeg &&& 31) = 25
  · exact j_tsw C 1401 q25 dL_law_39 (by decide) rfl (by decide) (lc_25 hfl C C2 X (s25 q25) k1 k2)
  by_cases q26 : (xs (nI (4 * j)).toNatClampNeg &&& 31) = 26
  · exact j_tsw C 1414 q26 dL_law_39 (by decide) rfl (by decide) (lc_26 hfl C C2 X (s26 q26) k1 k2)
  by_cases q27 : (xs (nI (4 * j)).toNatClampNeg &&& 31) = 27
  · exact j_tsw C 1458 q27 dL_law_39 (by decide) rfl (by decide) (lc_27 hfl C C2 X (s27 q27) k1 k2)
  have hd : (xs (nI (4 * j)).toNatClampNeg &&& 31).toInt < 0 ∨ 27 < (xs (nI (4 * j)).toNatClampNeg &&& 31).toInt := by have g0 := lv_neT q0 (show (0 : Int32).toInt = 0 by decide); have g1 := lv_neT q1 (show (1 : Int32).toInt = 1 by decide); have g2 := lv_neT q2 (show (2 : Int32).toInt = 2 by decide); have g3 := lv_neT q3 (show (3 : Int32).toInt = 3 by decide); have g4 := lv_neT q4 (show (4 : Int32).toInt = 4 by decide); have g5 := lv_neT q5 (show (5 : Int32).toInt = 5 by decide); have g6 := lv_neT q6 (show (6 : Int32).toInt = 6 by decide); have g7 := lv_neT q7 (show (7 : Int32).toInt = 7 by decide); have g8 := lv_neT q8 (show (8 : Int32).toInt = 8 by decide); have g9 := lv_neT q9 (show (9 : Int32).toInt = 9 by decide); have g10 := lv_neT q10 (show (10 : Int32).toInt = 10 by decide); have g11 := lv_neT q11 (show (11 : Int32).toInt = 11 by decide); have g12 := lv_neT q12 (show (12 : Int32).toInt = 12 by decide); have g13 := lv_neT q13 (show (13 : Int32).toInt = 13 by decide); have g14 := lv_neT q14 (show (14 : Int32).toInt = 14 by decide); have g15 := lv_neT q15 (show (15 : Int32).toInt = 15 by decide); have g16 := lv_neT q16 (show (16 : Int32).toInt = 16 by decide); have g17 := lv_neT q17 (show (17 : Int32).toInt = 17 by decide); have g18 := lv_neT q18 (show (18 : Int32).toInt = 18 by decide); have g19 := lv_neT q19 (show (19 : Int32).toInt = 19 by decide); have g20 := lv_neT q20 (show (20 : Int32).toInt = 20 by decide); have g21 := lv_neT q21 (show (21 : Int32).toInt = 21 by decide); have g22 := lv_neT q22 (show (22 : Int32).toInt = 22 by decide); have g23 := lv_neT q23 (show (23 : Int32).toInt = 23 by decide); have g24 := lv_neT q24 (show (24 : Int32).toInt = 24 by decide); have g25 := lv_neT q25 (show (25 : Int32).toInt = 25 by decide); have g26 := lv_neT q26 (show (26 : Int32).toInt = 26 by decide); have g27 := lv_neT q27 (show (27 : Int32).toInt = 27 by decide); omega
  have := sd hd
  subst this
  exact j_tswD C 1472 hd dL_law_39 (by decide) k1
theorem law_gt {j N : Nat} (h : N < 4 * j + 4) (h2 : 4 * j ≤ N + 4) (hN : N ≤ 2048) : Int32.ofNat N - 4 < nI (4 * j) := by
  rw [Int32.lt_iff_toInt_lt, nI_int (by omega)]
  have h3 : (Int32.ofNat N - 4).toInt = (N : Int) - 4 := by
    rw [Int32.toInt_sub, Int32.toInt_ofNat_of_lt (by omega)]
    have : (4 : Int32).toInt = 4 := by decide
    rw [this]
    simp only [Int.bmod_def]
    omega
  rw [h3]; omega
theorem law_loop {K : Kx} {l : Launch} (hfl : l.stackTraces = false) {G : Gx} {n0 b N : Nat} {xs : Nat → Int32} {inv : Nat → Mem → Prop} (hstep : ∀ n M op p0 p1 p2, n < 512 → inv n M → ∃ M3, LStep op p0 p1 p2 M M3 ∧ inv (n + 1) M3) (hC : ∀ x y, x ≤ 600 → y ≤ 3600 → Ok (kup K x y) l room_1 cL_law RL G n0 8) (X : SX K b N xs) (hN : N ≤ 2048)
    (hend : ∀ x y M L, x ≤ 600 → y ≤ 3600 → J (kup K x y) M 1478 L []) : ∀ (n j x y : Nat) (M : Mem), N < 4 * j + 4 * n + 4 → 4 * j ≤ N + 4 → x + n ≤ 600 → y + 6 * n ≤ 3600 → inv j M → J (kup K x y) M 23 [(4, .int (nI (4 * j))), (3, .ref (n0 + 185)), (2, .ref (n0 + 178)), (1, .ref (n0 + 0)), (0, .ref b)] [] := by
  intro n
  induction n with
  | zero =>
    intro j x y M h1 h2 h3 h4 h5
    have C := hC x y (by omega) (by omega)
    refine j_iload C 0 dL_law_23 rfl ?_
    refine j_aload_n C 4 dL_law_25 rfl rfl ?_
    refine j_slen C (X.up x y) dL_law_26 ?_
    refine j_iconst C (4 : Int32) rfl dL_law_27 ?_
    refine j_isub C dL_law_28 ?_
    refine j_icmp_gt C 1478 dL_law_29 (by decide) (fun _ => hend x y M _ (by omega) (by omega)) (fun c => ?_)
    exact absurd (law_gt (by omega) (by omega) hN) c
  | succ n ih =>
    intro j x y M h1 h2 h3 h4 h5
    have C := hC x y (by omega) (by omega)
    have C2 : Ok (kup (kup K x y) 1 6) l room_1 cL_law RL G n0 8 := by rw [kup_kup]; exact hC _ _ (by omega) (by omega)
    refine j_iload C 0 dL_law_23 rfl ?_
    refine j_aload_n C 4 dL_law_25 rfl rfl ?_
    refine j_slen C (X.up x y) dL_law_26 ?_
    refine j_iconst C (4 : Int32) rfl dL_law_27 ?_
    refine j_isub C dL_law_28 ?_
    refine j_icmp_gt C 1478 dL_law_29 (by decide) (fun _ => hend x y M _ (by omega) (by omega)) (fun c => ?_)
    have hj : 4 * j + 3 < N := by
      refine Nat.not_le.mp fun q => c (law_gt (by omega) (by omega) hN)
    obtain ⟨M3, hl, hi⟩ := hstep j M (xs (nI (4 * j)).toNatClampNeg &&& 31) (xs (nI (4 * j) + 1).toNatClampNeg) (xs (nI (4 * j) + 2).toNatClampNeg) (xs (nI (4 * j) + 3).toNatClampNeg) (by omega) h5
    have e4 : nI (4 * j) + Int32.ofInt 4 = nI (4 * (j + 1)) := by
      show nI (4 * j) + nI 4 = _
      rw [nI_ad]; rfl
    refine law_disp hfl C C2 (X.up x y) hj hN hl ?_ ?_
    · refine j_iinc C 0 (nI (4 * (j + 1))) [(4, .int (nI (4 * (j + 1)))), (3, .ref (n0 + 185)), (2, .ref (n0 + 178)), (1, .ref (n0 + 0)), (0, .ref b)] dL_law_1472 rfl e4 (Nat.le_of_ble_eq_true rfl) rfl ?_
      refine j_goto C 23 dL_law_1475 (by decide) ?_
      exact ih (j + 1) x y M3 (by omega) (by omega) (by omega) (by omega) hi
    · refine j_iinc C2 0 (nI (4 * (j + 1))) [(4, .int (nI (4 * (j + 1)))), (3, .ref (n0 + 185)), (2, .ref (n0 + 178)), (1, .ref (n0 + 0)), (0, .ref b)] dL_law_1472 rfl e4 (Nat.le_of_ble_eq_true rfl) rfl ?_
      refine j_goto C2 23 dL_law_1475 (by decide) ?_
      rw [kup_kup]
      exact ih (j + 1) (x + 1) (y + 6) M3 (by omega) (by omega) (by omega) (by omega) hi
