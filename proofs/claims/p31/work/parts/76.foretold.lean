/-! what is foretold comes true -/
theorem bake_x {M : Mem} {ρ : Nat → Int32} {h b g c n w : Nat} {past : Nat → Nat → Int32} {s l : Nat} (H : S31 M ρ h b g c n past s l) (hb0 : 0 < b) (hw : 1 ≤ w) (hw2 : w ≤ 40) (hn : n ≤ 1000) : ∃ M' ρ' g' c' f past', fX11_bake (nI w) M = some (Sum.inr (nI c' - nI c, M')) ∧ S31 M' ρ' h 0 g' c' (n + 1) past' (min 4 (s + 1)) ((l + 1) % 4) ∧ past' (min 4 (s + 1) - 1) = ρ ∧ (1 ≤ s → past' (min 4 (s + 1) - 2) = past (s - 1)) ∧ c ≤ c' ∧ c' + dgh ρ h b w = c + sN (fun i => nn (ρ (41 + 3 * i + 2))) 0 b ∧ ρ' 4 = ρ 4 + nI (dgh ρ h b w) ∧ nxt ρ h = some f ∧ f < h ∧ ρ' (9 + 4 * f + 1) = ρ (9 + 4 * f + 1) + nI w ∧ ρ' (9 + 4 * f + 3) = nI 0 := by
  obtain ⟨Mp, past', e1, H1, e2, e3⟩ := push_s H
  obtain ⟨M', ρ', g', c', f, a1, a2, a3, a4, a5, a6, a7, a8, a9, a10, a11⟩ := ov_day H1.1 H1.2.1 hb0 hw2 hn
  refine ⟨M', ρ', g', c', f, past', ?_, H1.op a2 a3 (Nat.le_succ _) a4, e2, e3, a5, a6, a7, a8, a9, a10, a11⟩
  have hb := H.1.2.1.1
  have ew : fX9_whyNoDay 1 (nI w) M = some 0 := by
    unfold fX9_whyNoDay fX1_size
    rw [wn, if_pos ⟨pI_le (a := 1) hw (by omega), pI_le (b := 40) hw2 (by omega)⟩, Option.bind_some, if_pos rfl]
    show ((some (M.1 9 1)).bind _) = _
    rw [Option.bind_some, H.1.2.1.2.1, if_neg (show ¬ nI b = 0 from pI_ne (b := 0) (by omega) (by omega) (by omega))]
  unfold fX11_bake
  rw [ew, Option.bind_some, refuse_0, Option.bind_some]
  show (fX8_push 1 M).bind _ = _
  rw [e1, Option.bind_some, a1, Option.bind_some]
  exact un2i rfl
theorem fore_73 {ρ : Nat → Int32} {h b g c : Nat} (W : Wr ρ h b c) : ∀ (m j n : Nat) (a : Int32) (M : Mem), Vi M ρ h b g c → j + m = b → m < n → ∃ M', lL_isForetold_73 n a (nI j) M = some (a + nI (sN (fun i => nn (ρ (41 + 3 * i + 2))) j m), M') ∧ Pq M M' := by
  intro m
  induction m with
  | zero =>
    intro j n a M V h1 h2
    obtain ⟨n, rfl⟩ : ∃ n', n = n' + 1 := ⟨n - 1, by omega⟩
    have hb := V.2.1.1
    refine ⟨M, ?_, Pq.rf M⟩
    rw [lL_isForetold_73, show gL_whole (3 : Int32) M = some (nI b) from gw V W.2.2.1 (k := 3) (by omega), Option.bind_some, if_pos (pI_le (by omega) (by omega)), sN, sm_z]
  | succ m ih =>
    intro j n a M V h1 h2
    obtain ⟨n, rfl⟩ : ∃ n', n = n' + 1 := ⟨n - 1, by omega⟩
    have hb := V.2.1.1
    obtain ⟨-, -, z, z1, z2, z3⟩ := W.2.1 j (by omega)
    obtain ⟨M1, a1, a2⟩ := gq V W (i := j) (k := 2) (by omega) (by omega)
    obtain ⟨M2, b1, b2⟩ := ih (j + 1) n (a + nI z) M1 (a2.vi V) (by omega) (by omega)
    refine ⟨M2, ?_, a2.tr b2⟩
    rw [lL_isForetold_73, show gL_whole (3 : Int32) M = some (nI b) from gw V W.2.2.1 (k := 3) (by omega), Option.bind_some, if_neg (pI_nle (by omega) (by omega))]
    have e1 : bv ρ h b j 2 = nI z := by unfold bv; rw [if_pos (by omega), if_pos (by omega), z3]
    rw [e1] at a1
    refine bo a1 (un2i ?_)
    rw [show nI j + (1 : Int32) = nI (j + 1) from nI_ad j 1, b1, sN]
    rw [z3, nn_n (by omega), Int32.add_assoc, nI_ad]
theorem lab2 {β : Type} {k : Unit → Option β} {A B : Prop} [Decidable A] [Decidable B] {X v : Option β} (hk : k () = v) (h : A ∨ ¬ B) : lab k (fun kl => if A then kl () else if B then X else kl ()) = v := by
  unfold lab
  dsimp only
  rcases h with h | h
  · rw [if_pos h]; exact hk
  · by_cases q : A
    · rw [if_pos q]; exact hk
    · rw [if_neg q, if_neg h]; exact hk
set_option maxHeartbeats 4000000 in
theorem foretold_v {M : Mem} {ρ : Nat → Int32} {h b g c n w : Nat} {past : Nat → Nat → Int32} {s l : Nat} (H : S31 M ρ h b g c n past s l) (hw : 1 ≤ w) (hw2 : w ≤ 40) (hn : n < 1000) : ∃ M' past' s' l', fL_isForetold (nI w) M = some (true, M') ∧ S31 M' ρ h b g c (n + 1) past' s' l' := by
  have W := H.2.1.1
  have hb := H.1.2.1.1
  have hc := H.1.2.2.2.1.1
  have e3 : gL_whole (3 : Int32) M = some (nI b) := gw H.1 W.2.2.1 (k := 3) (by omega)
  by_cases hb0 : b = 0
  · refine ⟨M, past, s, l, ?_, H.up (Nat.le_succ _)⟩
    unfold fL_isForetold
    refine bo e3 ?_
    rw [if_pos (by rw [hb0]; rfl)]
  · obtain ⟨M6, p1, q1⟩ := print_v H.1 W
    have V6 := q1.vi H.1
    obtain ⟨M9, d1, q2⟩ := dough_v V6 W hw hw2
    have V9 := q2.vi V6
    obtain ⟨M12, bw', b1, q3, bw1, bw2, bw3⟩ := best_v V9 W (by omega)
    have V12 := q3.vi V9
    obtain ⟨M15, d2, q4⟩ := dough_v V12 W bw1 bw2
    have V15 := q4.vi V12
    obtain ⟨M34, l1, q5⟩ := fore_73 W b 0 FUEL 0 M15 V15 (by omega) (fuel8 (by omega))
    have V34 := q5.vi V15
    obtain ⟨M37, p2, q6⟩ := print_v V34 W
    have H37 := ((((((H.pq q1).pq q2).pq q3).pq q4).pq q5).pq q6)
    obtain ⟨M45, ρ', g', c', f, past', k1, H45, k3, k4, k5, k6, k7, k8, k9, k10, k11⟩ := bake_x H37 (by omega) hw hw2 (by omega)
    have W45 := H45.2.1.1
    obtain ⟨M64, al, q7⟩ := areLoads_v H45.1 H45.2.1 (by omega)
    have H64 := H45.pq q7
    have av := areLoaves_v H64.1 H64.2.1 (by omega)
    have ah := areHouses_v H64.1 H64.2.1 (by omega)
    obtain ⟨M77, u1, H77⟩ := undo_s H64 (by omega) k3 H.1
    obtain ⟨M81, p3, q8⟩ := print_v H77.1 H77.2.1.1
    refine ⟨M81, _, _, _, ?_, H77.pq q8⟩
    have hdl := dgh_lt (w := w) H.1.1.1 hb W
    have hdl2 := dgh_lt (w := bw') H.1.1.1 hb W
    have gd1 : gL_doughWith (nI w) M6 = _ := rT_r d1
    have gd2 : gL_doughWith (nI bw') M12 = _ := rT_r d2
    have gk : gL_bake (nI w) M37 = _ := rT_r k1
    have hc' := H45.1.2.2.2.1.1
    have hS : sN (fun i => nn (ρ (41 + 3 * i + 2))) 0 b < 2 ^ 30 + 241 := by omega
    have l1' : lL_isForetold_73 FUEL 0 0 M15 = some (nI (sN (fun i => nn (ρ (41 + 3 * i + 2))) 0 b), M34) := by
      rw [show (0 : Int32) + nI (sN (fun i => nn (ρ (41 + 3 * i + 2))) 0 b) = nI (sN (fun i => nn (ρ (41 + 3 * i + 2))) 0 b) from Int32.zero_add _] at l1
      exact l1
    obtain ⟨S, hSe⟩ : ∃ S, S = sN (fun i => nn (ρ (41 + 3 * i + 2))) 0 b := ⟨_, rfl⟩
    rw [← hSe] at l1' hS k6
    obtain ⟨d, hd⟩ : ∃ d, d = dgh ρ h b w := ⟨_, rfl⟩
    rw [← hd] at gd1 k6 k7 hdl
    have bb := bw3 w hw hw2
    rw [← hd] at bb
    obtain ⟨d', hd'⟩ : ∃ d', d' = dgh ρ h b bw' := ⟨_, rfl⟩
    rw [← hd'] at gd2 bb hdl2
    unfold fL_isForetold
    refine bo e3 ?_
    rw [if_neg (show ¬ nI b = 0 from pI_ne (b := 0) hb0 (by omega) (by omega))]
    refine bo p1 (un2i ?_)
    refine bo gd1 (un2i ?_)
    refine bo b1 (un2i ?_)
    refine bo gd2 (un2i ?_)
    refine bo (next_v V15 W.1) ?_
    rw [k8]
    refine bo (show gL_whole (6 : Int32) M15 = some (ρ 4) from gw V15 W.2.2.1 (k := 6) (by omega)) ?_
    refine bo (g7 V15 W.2.2.1) ?_
    refine bo (show gL_household (enc (some f)) (1 : Int32) M15 = some (ρ (9 + 4 * f + 1)) from gh V15 (k := 1) k9 (by omega)) ?_
    refine bo l1' (un2i ?_)
    refine bo p2 (un2i ?_)
    refine bo (v := (true, M64)) ?_ (un2i ?_)
    · rw [if_pos rfl, if_neg (pI_nlt (by omega) (by omega))]
      refine lab2 ?_ ?_
      · refine bo gk (un2i ?_)
        rw [if_pos (show nI c' - nI c = nI S - nI d by rw [mI_sb k5 (by omega), mI_sb (by omega) (by omega), show c' - c = S - d by omega])]
        refine bo (show gL_whole (6 : Int32) M45 = some (ρ' 4) from gw H45.1 W45.2.2.1 (k := 6) (by omega)) ?_
        rw [if_pos k7]
        refine bo (g7 H45.1 W45.2.2.1) ?_
        rw [if_pos (show nI c' = nI c + nI S - nI d by rw [nI_ad, mI_sb (by omega) (by omega), show c + S - d = c' by omega])]
        refine bo (show gL_whole (3 : Int32) M45 = some (nI 0) from gw H45.1 W45.2.2.1 (k := 3) (by omega)) ?_
        rw [if_pos (show nI 0 = (0 : Int32) from rfl)]
        refine bo (show gL_household (enc (some f)) (1 : Int32) M45 = some (ρ' (9 + 4 * f + 1)) from gh H45.1 (k := 1) k9 (by omega)) ?_
        rw [if_pos k10]
        refine bo (show gL_household (enc (some f)) (3 : Int32) M45 = some (ρ' (9 + 4 * f + 3)) from gh H45.1 (k := 3) k9 (by omega)) ?_
        rw [if_pos (k11.trans (show nI 0 = (0 : Int32) from rfl))]
        refine bo al (un2i ?_)
        rw [if_pos rfl]
        refine bo av ?_
        rw [if_pos rfl]
        refine bo ah ?_
        rw [if_pos rfl]
      · rcases bb with q | ⟨q, q'⟩
        · exact Or.inl (pI_lt q (by omega))
        · exact Or.inr (pI_nlt q' (by omega))
    · rw [if_pos rfl]
      refine bo u1 (un2i ?_)
      rw [if_neg (show ¬ nI _ < 0 from mI_nn (by omega))]
      refine bo p3 (un2i ?_)
      rw [if_pos rfl]
