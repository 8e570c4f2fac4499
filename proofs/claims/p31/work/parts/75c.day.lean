/-! a day: the class alone -/
theorem Gk.up {ρ : Nat → Int32} {h c d d' : Nat} (G : Gk ρ h c d) (hd : d ≤ d') : Gk ρ h c d' := ⟨fun r hr => (G.1 r hr).up (Nat.le_refl _) hd, G.2⟩
set_option maxHeartbeats 4000000 in
theorem ov_day {M : Mem} {ρ : Nat → Int32} {h b g c n w : Nat} (V : Vi M ρ h b g c) (D : Gd ρ h b g c n) (hb0 : 0 < b) (hw : w ≤ 40) (hn1 : n ≤ 1000) : ∃ M' ρ' g' c' f, fX9_haveDay 1 (nI w) M = some (nI c' - nI c, M') ∧ Vi M' ρ' h 0 g' c' ∧ Gd ρ' h 0 g' c' (n + 1) ∧ Fc M M' ∧ c ≤ c' ∧ c' + dgh ρ h b w = c + sN (fun i => nn (ρ (41 + 3 * i + 2))) 0 b ∧ ρ' 4 = ρ 4 + nI (dgh ρ h b w) ∧ nxt ρ h = some f ∧ f < h ∧ ρ' (9 + 4 * f + 1) = ρ (9 + 4 * f + 1) + nI w ∧ ρ' (9 + 4 * f + 3) = nI 0 := by
  obtain ⟨W, ⟨wd, pd, hwp, hwd, hpd⟩, hc240, ⟨d, hd3, hdn, hGk⟩, -⟩ := id D
  have hh := V.1.1
  have hb := V.2.1.1
  have hh0 : 0 < h := by obtain ⟨⟨a, ha, -⟩, -⟩ := W.2.1 0 hb0; omega
  obtain ⟨f, hf, hn⟩ := nxt_some W.1 hh0
  obtain ⟨t, ht, ht4, h2⟩ := W.2.2.2.1
  obtain ⟨s, hs, h1⟩ := W.2.2.2.2
  obtain ⟨M4, M6, M10, a1, a2, a3, a4, H10, F10, c10, z10⟩ := plan_c V W hn hf h2 ht ht4 hw
  obtain ⟨P, hP⟩ : ∃ P, P = PL ρ h f b t w := ⟨_, rfl⟩
  have hdg : dgh ρ h b w = sz P.2.1 := by
    unfold dgh
    rw [if_neg (by omega), hn, h2, nn_n (by omega), hP]; rfl
  rw [← hP] at F10
  obtain ⟨p1, p2⟩ := PL_heat (ρ := ρ) (h := h) (f := f) (b := b) (w := w) ht ht4
  rw [← hP] at p1 p2
  have hl := Od_len (f := f) hh hf W.2.1
  obtain ⟨pk1, pk2, pk3, pk4⟩ := dP_ok 1000 (min 400 (t + 10 * w)) ((Od ρ h f b).map (bqt ρ)) (by omega) (by omega) fun x hx => (Od_mem hh W.2.1 hx).2.2
  rw [show dP 1000 (min 400 (t + 10 * w)) ((Od ρ h f b).map (bqt ρ)) = P from hP.symm] at pk1 pk2 pk4
  have hSz := Od_sz (f := f) hh hf W.2.1
  rw [hSz] at pk4
  obtain ⟨O, hO⟩ : ∃ O, O = Od ρ h f b := ⟨_, rfl⟩
  obtain ⟨tr, htr⟩ : ∃ tr : Nat → T3, tr = fun p => bqt ρ ((Od ρ h f b).getD p 0) := ⟨_, rfl⟩
  rw [← hO] at hl
  rw [← htr, ← hO] at F10
  obtain ⟨PB10, ⟨f5, f6, f36, f37⟩, fl5, fLC, fW, fL, fP, -⟩ := id F10
  have hPl : P.1.length ≤ 20 := by omega
  obtain ⟨M13, hM13⟩ : ∃ M13, M13 = mput (cpT 16 38 5 P.1.length M10) 15 1 (nI P.1.length) := ⟨_, rfl⟩
  have c13 : ∀ q x, ¬ (q = 15 ∧ x = 1) → (q < 18 ∨ 23 ≤ q) → M13.1 q x = M10.1 q x := fun q x q1 q2 => by
    rw [hM13, mput_at, if_neg q1]
    show (if 16 + 2 ≤ q ∧ q < 16 + 2 + 5 ∧ x < P.1.length then _ else M10.1 q x) = _
    rw [if_neg (by omega)]
  have d13 : ∀ k i, k < 5 → i < P.1.length → M13.1 (18 + k) i = M10.1 (40 + k) i := fun k i hk hi => by
    rw [hM13, mput_at, if_neg (by omega)]
    show (if 16 + 2 ≤ 18 + k ∧ 18 + k < 16 + 2 + 5 ∧ i < P.1.length then M10.1 (38 + (18 + k - 16)) i else _) = _
    rw [if_pos (by omega), show 38 + (18 + k - 16) = 40 + k by omega]
  have htr8 : ∀ p, p < O.length → (tr p).1 < h := fun p hp => by
    rw [htr]
    rw [hO] at hp
    exact (bqt_ok hh W.2.1 (Od_lt hp)).2.2.2.1
  have PB13 : PB M13 O tr := PB10.cg (c13 33 4 (by omega) (by omega)) (fun q x hq => c13 q x (by omega) (by omega))
  have zn : ∀ k, (∀ i, i < h → k ≠ 9 + 4 * i + 3) → k ≠ 9 + 4 * f + 1 → wdz ρ h f w k = ρ k := fun k q1 q2 => wdz_ne q1 q2
  have L13 : LL M13 (wdz ρ h f w) c := V.2.2.2.1.cg (fun q x _ _ => by rw [c13 q x (by omega) (by omega), c10 q x (by omega) (by omega) (by omega)]) (fun k _ hk => zn k (fun i hi => by omega) (by omega))
  have D13 : DV M13 (wdz ρ h f w) h c := by
    refine ⟨H10.cg (fun q x _ _ => c13 q x (by omega) (by omega)) (fun _ _ _ => rfl), L13, ?_, ?_⟩
    · rw [c13 1 5 (by omega) (by omega), c10 1 5 (by omega) (by omega) (by omega), zn 1 (fun i _ => by omega) (by omega)]; exact V.2.2.2.2.2.1
    · rw [c13 1 6 (by omega) (by omega), c10 1 6 (by omega) (by omega) (by omega), zn 3 (fun i _ => by omega) (by omega)]; exact V.2.2.2.2.2.2.1
  have I13 : GI (mkq ρ) h (wdz ρ h f w, c, s) := by
    refine ⟨?_, hs, ?_, fun i hi => ?_⟩
    · dsimp only; rw [zn 1 (fun i _ => by omega) (by omega)]; exact h1
    · dsimp only; rw [zn 5 (fun i _ => by omega) (by omega)]; exact V.2.2.2.1.2.2.1
    · dsimp only; rw [zn _ (fun i' _ => by omega) (by omega)]; exact mkq_ok W.1 hi
  have B13 : Bk (mkq ρ) h d (wdz ρ h f w, c, s) := by
    refine ⟨I13, ?_, ?_, pd, fun i hi => ?_, hpd⟩
    · dsimp only; rw [zn 3 (fun i _ => by omega) (by omega)]; exact hd3
    · exact (hGk.cg (zn 6 (fun i _ => by omega) (by omega)) fun k k1 k2 => zn k (fun i hi => by omega) (by omega)).up (Nat.le_succ _)
    · dsimp only; rw [zn _ (fun i' _ => by omega) (by omega)]; exact (hwp i hi).2
  have hht : ∀ L, L < P.1.length → (P.1.getD L L0).2.2.2 ≤ 400 := fun L hL => by
    obtain ⟨q1, -, -, -, -, q6, q7⟩ := (pk1 _ (getD_mem hL)).1
    have := lo_le (P.1.getD L L0).1
    rw [q7]; unfold fallP; omega
  obtain ⟨M16, b1, b2, b3, b4, b5, b6, b7, b8⟩ := loads_c (mkf := mkq ρ) (Ls := P.1) hPl htr8 hht P.1.length 0 FUEL 0 M13 (wdz ρ h f w, c, s) PB13 D13 I13 (by rw [hM13, mput_at, if_pos ⟨rfl, rfl⟩]) (fun i hi => by rw [show (22 : Nat) = 18 + 4 from rfl, d13 4 i (by omega) hi]; exact (fLC i hi).2.2.2.2) (fun i hi => by
    rw [← fL i hi]
    exact sl_cg tr O.length 0 fun p _ _ => by rw [c13 35 p (by omega) (by omega)]) (by omega) (fuel8 (by omega)) (by dsimp only; omega)
  have hGF : ldi (mkq ρ) P.1 0 P.1.length (wdz ρ h f w, c, s) = GF ρ h f b c s t w := by rw [ldi_ldl, hP]; rfl
  rw [hGF] at b3 b4 b5 b6
  rw [bmi_bml] at b1
  obtain ⟨G, hG⟩ : ∃ G, G = GF ρ h f b c s t w := ⟨_, rfl⟩
  have hSz2 : szs P.1 ≤ 240 := by
    have e1 := sN_le (f := fun i => nn (ρ (41 + 3 * i + 2))) (g := fun _ => 12) b 0 fun i _ hi => by
      obtain ⟨-, -, z, z1, z2, z3⟩ := W.2.1 i (by omega)
      rw [z3, nn_n (by omega)]; exact z2
    rw [sN_c] at e1
    omega
  obtain ⟨BG, hcG⟩ := Bk.loads hh (show d + 1 < 2 ^ 31 by omega) P.1 _ B13 (fun l hl x hx => by
    have := Od_mem hh W.2.1 ((pk1 l hl).2 x hx)
    exact ⟨this.1, this.2.1⟩) (show c + szs P.1 < 2 ^ 31 by omega)
  rw [show ldl (mkq ρ) P.1 (wdz ρ h f w, c, s) = G from by rw [hG, hP]; rfl] at BG hcG
  have RG : RLv G.1 G.2.1 := by
    have hmem : ∀ L, L < P.1.length → ∀ x, x ∈ (P.1.getD L L0).2.1 → x.1 < h := fun L hL x hx => (Od_mem hh W.2.1 ((pk1 _ (getD_mem hL)).2 x hx)).1
    have := RLv_ldi (mkf := mkq ρ) hh hmem P.1.length 0 (wdz ρ h f w, c, s) (by omega) (W.2.2.1.cg fun k q1 q2 => zn k (fun i hi => by omega) (by omega))
    rw [hGF, ← hG] at this
    exact this
  rw [← hG] at b3 b4 b5 b6
  dsimp only at hcG b5
  obtain ⟨c', hc'⟩ : ∃ c', c' = G.2.1 := ⟨_, rfl⟩
  rw [← hc'] at b3 b5 RG hcG
  have hcs : c' + sz P.2.1 = c + sN (fun i => nn (ρ (41 + 3 * i + 2))) 0 b := by omega
  have hsz : sN (fun i => nn (ρ (41 + 3 * i + 2))) 0 b ≤ 240 := by
    have e1 := sN_le (f := fun i => nn (ρ (41 + 3 * i + 2))) (g := fun _ => 12) b 0 fun i _ hi => by
      obtain ⟨-, -, z, z1, z2, z3⟩ := W.2.1 i (by omega)
      rw [z3, nn_n (by omega)]; exact z2
    rw [sN_c] at e1
    omega
  obtain ⟨st, hst⟩ : ∃ st, st = if c < c' - 200 then c' - 200 else c := ⟨_, rfl⟩
  have hst2 : st ≤ c' := by rw [hst]; split <;> omega
  have hst3 : c' - st ≤ 200 := by
    rw [hst]
    by_cases q : c < c' - 200
    · rw [if_pos q]; omega
    · rw [if_neg q]; omega
  obtain ⟨M18, γ', s1, s2, s3, s4, s5, s6⟩ := sort_c (mkf := mkq ρ) (bml P.1 0) (c' - st) st FUEL M16 G.1 b3.1 b3.2.1 b4.2.2.2 (by omega) (fuel8 (by omega))
  have eS : fX6_sortFrom (1 + 22) (nI c) (1 + 1) (bml P.1 0) M16 = some M18 := by
    unfold fX6_sortFrom
    rw [show fX6_firstKept (1 + 22) M16 = some (nI (c' - 200)) from b3.2.1.first, Option.bind_some]
    have : (if nI c < nI (c' - 200) then nI (c' - 200) else nI c) = nI st := by
      rw [hst]
      by_cases q : c < c' - 200
      · rw [if_pos (pI_lt q (by omega)), if_pos q]
      · rw [if_neg (pI_nlt (by omega) (by omega)), if_neg q]
    rw [this]
    show ((lX6_sortFrom_10 23 2 (bml P.1 0) FUEL (nI st) M16).bind _) = _
    rw [s1]; rfl
  have c18 : ∀ q x, ¬ (q = 1 ∧ x = 5) → q ≠ 7 → (q < 23 ∨ 33 ≤ q) → M18.1 q x = M13.1 q x := fun q x q1 q2 q3 => by rw [s5 q x (by omega), b7 q x q1 q2 q3]
  have PB18 : PB M18 O tr := PB13.cg (c18 33 4 (by omega) (by omega) (by omega)) (fun q x hq => c18 q x (by omega) (by omega) (by omega))
  have eD : fX3_dough (1 + 8) M18 = some (nI (sz P.2.1)) := by
    have := dough_l PB18 O.length 0 FUEL 0 (by omega) (fuel8 (by omega))
    have e35 : sl (fun p => decide (M18.1 35 p = NG)) tr 0 O.length = P.2.1 := by
      rw [← fW]
      exact sl_cg tr O.length 0 fun p _ _ => by rw [c18 35 p (by omega) (by omega) (by omega), c13 35 p (by omega) (by omega)]
    rw [e35, Nat.zero_add] at this
    unfold fX3_dough
    show ((lX3_dough_4 9 M18 FUEL (nI 0) (nI 0)).bind _) = _
    rw [this]; rfl
  obtain ⟨te, hte⟩ : ∃ te, te = P.2.2 := ⟨_, rfl⟩
  rw [← hte] at p1 p2 f6
  obtain ⟨M29, hM29⟩ : ∃ M29, M29 = mput (mput (mput (mput M18 1 7 (ρ 4 + nI (sz P.2.1))) 1 4 (nI (max 20 (te / 2)))) 9 1 0) 1 6 (γ' 3 + 1) := ⟨_, rfl⟩
  have c29 : ∀ q x, q ≠ 1 → ¬ (q = 9 ∧ x = 1) → M29.1 q x = M18.1 q x := fun q x q1 q2 => by rw [hM29, mput_at, if_neg (by omega), mput_at, if_neg q2, mput_at, if_neg (by omega), mput_at, if_neg (by omega)]
  have g'3 : ∀ k, k < 201 → γ' k = G.1 k := fun k hk => s4.ne (Or.inl hk)
  have e16 : M16.1 1 6 = γ' 3 := by rw [g'3 3 (by omega)]; exact b3.2.2.2
  have e15 : M16.1 1 5 = γ' 1 := by rw [g'3 1 (by omega)]; exact b3.2.2.1
  have eH : fX9_haveDay 1 (nI w) M = some (nI c' - nI c, M29) := by
    unfold fX9_haveDay fX6_cameOut fX3_heat fX1_clear
    rw [Option.bind_some, show M.1 (1 + 22) 1 = nI c from V.2.2.2.1.2.1, a1, Option.bind_some, a2, Option.bind_some, a3, Option.bind_some, a4, Option.bind_some]
    unfold fX3_loads
    rw [Option.bind_some, copy_l hPl f37, Option.bind_some, ← hM13]
    unfold fX9_bakeLoads
    rw [show (0 : Int32) = nI 0 from rfl, show lX9_bakeLoads_4 1 FUEL (nI 0) (nI 0) M13 = some (bml P.1 0, M16) from b1, Option.bind_some]
    simp only [un2]
    rw [Option.bind_some]
    simp only [un2]
    rw [eS, Option.bind_some, eD, Option.bind_some]
    unfold pf
    rw [Option.bind_some, Option.bind_some, Option.bind_some, show (mput M18 1 7 (M18.1 1 7 + nI (sz P.2.1))).1 33 6 = nI te from by rw [mput_at, if_neg (by omega), c18 33 6 (by omega) (by omega) (by omega), c13 33 6 (by omega) (by omega)]; exact f6, show M18.1 1 7 = ρ 4 from by rw [c18 1 7 (by omega) (by omega) (by omega), c13 1 7 (by omega) (by omega), c10 1 7 (by omega) (by omega) (by omega)]; exact V.2.2.2.2.2.2.2]
    have eh : (if (20 : Int32) < nI te / 2 then nI te / 2 else 20) = nI (max 20 (te / 2)) := by
      rw [l_2, mI_dv (by omega) (by omega), l_20]
      by_cases q : 20 < te / 2
      · rw [if_pos (pI_lt q (by omega)), show max 20 (te / 2) = te / 2 by omega]
      · rw [if_neg (pI_nlt (by omega) (by omega)), show max 20 (te / 2) = 20 by omega]
    rw [eh, Option.bind_some, Option.bind_some, Option.bind_some, show (mput (mput (mput M18 1 7 (ρ 4 + nI (sz P.2.1))) 1 4 (nI (max 20 (te / 2)))) (1 + 8) 1 (nI 0)).1 1 6 = γ' 3 from by rw [mput_at, if_neg (by omega), mput_at, if_neg (by omega), mput_at, if_neg (by omega), s5 1 6 (by omega)]; exact e16]
    rw [show mput (mput (mput (mput M18 1 7 (ρ 4 + nI (sz P.2.1))) 1 4 (nI (max 20 (te / 2)))) (1 + 8) 1 (nI 0)) 1 6 (γ' 3 + 1) = M29 from hM29.symm, show M29.1 (1 + 22) 1 = nI c' from by rw [c29 _ _ (by omega) (by omega)]; exact s3.2.1]
    rfl
  obtain ⟨BI, B3, BG2, pp, hpp, hps⟩ := BG
  rw [← hc'] at BG2 hps
  obtain ⟨ρ', hρ'⟩ : ∃ ρ' : Nat → Int32, ρ' = fun k => if k = 2 then nI (max 20 (te / 2)) else if k = 3 then γ' 3 + 1 else if k = 4 then ρ 4 + nI (sz P.2.1) else if k = 7 then nI 0 else if k = 8 then nI P.1.length else if 101 ≤ k ∧ k < 201 then M29.1 (18 + (k - 101) % 5) ((k - 101) / 5) else γ' k := ⟨_, rfl⟩
  have r2 : ρ' 2 = nI (max 20 (te / 2)) := by rw [hρ']; rfl
  have r3 : ρ' 3 = γ' 3 + 1 := by rw [hρ']; rfl
  have r4 : ρ' 4 = ρ 4 + nI (sz P.2.1) := by rw [hρ']; rfl
  have r7 : ρ' 7 = nI 0 := by rw [hρ']; rfl
  have r8 : ρ' 8 = nI P.1.length := by rw [hρ']; rfl
  have rl : ∀ i k, i < 20 → k < 5 → ρ' (101 + 5 * i + k) = M29.1 (18 + k) i := fun i k hi hk => by
    rw [hρ']
    dsimp only
    rw [if_neg (by omega), if_neg (by omega), if_neg (by omega), if_neg (by omega), if_neg (by omega), if_pos (by omega), show (101 + 5 * i + k - 101) % 5 = k by omega, show (101 + 5 * i + k - 101) / 5 = i by omega]
  have rg : ∀ k, k ≠ 2 → k ≠ 3 → k ≠ 4 → k ≠ 7 → k ≠ 8 → (k < 101 ∨ 201 ≤ k) → ρ' k = γ' k := fun k q2 q3 q4 q7 q8 q => by
    rw [hρ']
    dsimp only
    rw [if_neg q2, if_neg q3, if_neg q4, if_neg q7, if_neg q8, if_neg (by omega)]
  have rlow : ∀ k, 9 ≤ k → k < 41 → (∀ i, i < h → k ≠ 9 + 4 * i + 2) → ρ' k = wdz ρ h f w k := fun k k1 k2 k3 => by
    rw [rg k (by omega) (by omega) (by omega) (by omega) (by omega) (by omega), g'3 k (by omega)]
    exact b6 k (by omega) (by omega) (by omega) (by omega) k3
  have lc : ∀ i k, i < P.1.length → k < 5 → ρ' (101 + 5 * i + k) = M10.1 (40 + k) i := fun i k hi hk => by
    rw [rl i k (by omega) hk, c29 _ _ (by omega) (by omega), c18 (18 + k) i (by omega) (by omega) (by omega), d13 k i hk hi]
  have w1 : ρ' (9 + 4 * f + 1) = ρ (9 + 4 * f + 1) + nI w := by
    rw [rlow _ (by omega) (by omega) (fun i _ => by omega)]
    unfold wdz xz
    rw [if_neg (by omega), ru_at]
  have w3 : ∀ i, i < h → ρ' (9 + 4 * i + 3) = nI 0 := fun i hi => by
    rw [rlow _ (by omega) (by omega) (fun i _ => by omega)]
    unfold wdz xz
    rw [if_pos (by omega)]
  have w0 : ∀ i, i < h → ρ' (9 + 4 * i) = ρ (9 + 4 * i) := fun i hi => by
    rw [rlow _ (by omega) (by omega) (fun i' _ => by omega), zn _ (fun i' _ => by omega) (by omega)]
  have hcc : c ≤ c' := by omega
  refine ⟨M29, ρ', P.1.length, c', f, eH, ⟨?_, ⟨by omega, ?_, r7, fun i k hi => absurd hi (Nat.not_lt_zero _)⟩, ⟨hPl, ?_, r8, fun i k hi hk => (rl i k (by omega) hk).symm⟩, ?_, ⟨?_, ?_, ?_, ?_⟩⟩, ⟨⟨⟨fun i hi => ?_, fun i j hi hj hij => ?_, fun i hi => ⟨0, by omega, w3 i hi⟩⟩, fun i hi => absurd hi (Nat.not_lt_zero _), ?_, ⟨max 20 (te / 2), by omega, by omega, r2⟩, ⟨G.2.2, b4.2.1, ?_⟩⟩, ⟨fun i => wd i + w * iN (f = i), pp, fun i hi => ⟨?_, ?_⟩, ?_, hps⟩, by omega, ⟨d + 1, ?_, by omega, ?_⟩, ⟨fun i => (P.1.getD i L0).1, fun i => (P.1.getD i L0).2.1.length, fun i => sz (P.1.getD i L0).2.1, fun i => (P.1.getD i L0).2.2.1, fun i => (P.1.getD i L0).2.2.2, fun i hi => ⟨⟨?_, ?_, ?_, ?_, ?_⟩, (pk1 _ (getD_mem hi)).1⟩, pk2, ?_⟩⟩, ⟨fun q x hq => ?_, ?_⟩, hcc, by rw [hdg]; exact hcs, by rw [hdg]; exact r4, hn, hf, w1, w3 f hf⟩
  · exact s2.cg (fun q x _ _ => c29 q x (by omega) (by omega)) (fun k q1 q2 => rg k (by omega) (by omega) (by omega) (by omega) (by omega) (by omega))
  · rw [hM29, mput_at, if_neg (by omega), mput_at, if_pos ⟨rfl, rfl⟩]; rfl
  · rw [c29 _ _ (by omega) (by omega), c18 15 1 (by omega) (by omega) (by omega), hM13, mput_at, if_pos ⟨rfl, rfl⟩]
  · exact s3.cg (fun q x _ _ => c29 q x (by omega) (by omega)) (fun k q1 q2 => rg k (by omega) (by omega) (by omega) (by omega) (by omega) (by omega))
  · rw [r2, hM29, mput_at, if_neg (by omega), mput_at, if_neg (by omega), mput_at, if_pos ⟨rfl, rfl⟩]
  · rw [rg 1 (by omega) (by omega) (by omega) (by omega) (by omega) (by omega), hM29, mput_at, if_neg (by omega), mput_at, if_neg (by omega), mput_at, if_neg (by omega), mput_at, if_neg (by omega), s5 1 5 (by omega)]; exact e15
  · rw [r3, hM29, mput_at, if_pos ⟨rfl, rfl⟩]
  · rw [r4, hM29, mput_at, if_neg (by omega), mput_at, if_neg (by omega), mput_at, if_neg (by omega), mput_at, if_pos ⟨rfl, rfl⟩]
  · rw [w0 i hi]; exact W.1.1 i hi
  · rw [w0 i hi, w0 j hj] at hij; exact W.1.2.1 i j hi hj hij
  · exact (s4.rl hh RG).cg fun k q1 q2 => rg k (by omega) (by omega) (by omega) (by omega) (by omega) (by omega)
  · rw [rg 1 (by omega) (by omega) (by omega) (by omega) (by omega) (by omega), g'3 1 (by omega)]; exact b4.1
  · by_cases q : f = i
    · subst q
      dsimp only
      rw [w1, (hwp _ hf).1, nI_ad, iN_p rfl, Nat.mul_one]
    · dsimp only
      rw [rlow _ (by omega) (by omega) (fun i' _ => by omega), zn _ (fun i' _ => by omega) (by omega), (hwp i hi).1, iN_n q, Nat.mul_zero, Nat.add_zero]
  · rw [rg _ (by omega) (by omega) (by omega) (by omega) (by omega) (by omega), g'3 _ (by omega)]; exact hpp i hi
  · rw [sN_add, sN_mul, sN_one, iN_p (by omega)]; omega
  · rw [r3, g'3 3 (by omega), B3]; exact nI_ad d 1
  · exact (s4.gk BG2).cg (rg 6 (by omega) (by omega) (by omega) (by omega) (by omega) (by omega)) fun k q1 q2 => rg k (by omega) (by omega) (by omega) (by omega) (by omega) (by omega)
  · rw [lc i 0 hi (by omega)]; exact (fLC i hi).1
  · rw [lc i 1 hi (by omega)]; exact (fLC i hi).2.1
  · rw [lc i 2 hi (by omega)]; exact (fLC i hi).2.2.1
  · rw [lc i 3 hi (by omega)]; exact (fLC i hi).2.2.2.1
  · rw [lc i 4 hi (by omega)]; exact (fLC i hi).2.2.2.2
  · rw [szs_sN]; omega
  · rw [c29 q x (by omega) (by omega), c18 q x (by omega) (by omega) (by omega), c13 q x (by omega) (by omega), c10 q x (by omega) (by omega) (by omega)]
  · rw [hM29]
    show M18.2 = _
    rw [s6, b8, hM13]
    exact z10
