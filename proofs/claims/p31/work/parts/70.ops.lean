/-! what the calls do to the row: the class alone, and the invariant kept -/
def Od1 (fc : Mem → Option (Int32 × Mem)) (M : Mem) (ρ : Nat → Int32) (h b g c n : Nat) : Prop := ∃ r M' ρ' h' b' g' c', fc M = some (nI r, M') ∧ r < 2 ^ 31 ∧ Vi M' ρ' h' b' g' c' ∧ Gd ρ' h' b' g' c' n ∧ Fc M M'
theorem ov_join {M : Mem} {ρ : Nat → Int32} {h b g c n : Nat} (V : Vi M ρ h b g c) (D : Gd ρ h b g c n) {x : Int32} (h8 : h < 8) (hx : ∃ m, 1 ≤ m ∧ m < 65536 ∧ x = nI m) (hd : ∀ i, i < h → ρ (9 + 4 * i) ≠ x) : Od1 (fX4_add 2 x) M ρ h b g c n := by
  have V1 := (((V.ptH h8 (k := 0) (by omega) x).ptH h8 (k := 1) (by omega) 0).ptH h8 (k := 2) (by omega) 0).ptH h8 (k := 3) (by omega) 0
  obtain ⟨M4, hM4⟩ : ∃ M4, M4 = mput (mput (mput (mput M (5 + 0) h x) (5 + 1) h 0) (5 + 2) h 0) (5 + 3) h 0 := ⟨_, rfl⟩
  obtain ⟨ρ4, hρ4⟩ : ∃ ρ4, ρ4 = ru (ru (ru (ru ρ (9 + 4 * h + 0) x) (9 + 4 * h + 1) 0) (9 + 4 * h + 2) 0) (9 + 4 * h + 3) 0 := ⟨_, rfl⟩
  rw [← hM4, ← hρ4] at V1
  have c0 : ρ4 (9 + 4 * h) = x := by rw [hρ4, ru_ne _ (by omega), ru_ne _ (by omega), ru_ne _ (by omega)]; exact ru_at _ _ _
  have c3 : ρ4 (9 + 4 * h + 3) = 0 := by rw [hρ4]; exact ru_at _ _ _
  have cn : ∀ j, j < 9 + 4 * h ∨ 13 + 4 * h ≤ j → ρ4 j = ρ j := fun j hj => by rw [hρ4, ru_ne _ (by omega), ru_ne _ (by omega), ru_ne _ (by omega), ru_ne _ (by omega)]
  have V2 : Vi (mput M4 2 1 (nI (h + 1))) (ru ρ4 0 (nI (h + 1))) (h + 1) b g c := by
    refine ⟨V1.1.grow h8 (fun k hk => ?_), V1.2.1.cg (fun q y _ _ => by rw [mput_at, if_neg (by omega)]) (fun j _ _ => ru_ne _ (by omega)), V1.2.2.1.cg (fun q y _ _ => by rw [mput_at, if_neg (by omega)]) (fun j _ _ => ru_ne _ (by omega)), V1.2.2.2.1.cg (fun q y _ _ => by rw [mput_at, if_neg (by omega)]) (fun j _ _ => ru_ne _ (by omega)), V1.2.2.2.2.cg (fun y => by rw [mput_at, if_neg (by omega)]) (fun j _ => ru_ne _ (by omega))⟩
    rw [hM4, hρ4]
    rcases (show k = 0 ∨ k = 1 ∨ k = 2 ∨ k = 3 by omega) with rfl | rfl | rfl | rfl <;> simp [mput_at, ru]
  obtain ⟨W, ⟨w, p, g1, g2, g3⟩, hcn, ⟨d, d1, d2, GK⟩, GO⟩ := D
  have hg' := V.2.2.1.1
  have cz : ∀ j, 9 ≤ j → j < 9 + 4 * h ∨ 13 + 4 * h ≤ j → ru ρ4 0 (nI (h + 1)) j = ρ j := fun j h1 h2 => by rw [ru_ne _ (by omega), cn j h2]
  have cx : ru ρ4 0 (nI (h + 1)) (9 + 4 * h) = x := by rw [ru_ne _ (by omega), c0]
  refine ⟨h, mput M4 2 1 (nI (h + 1)), ru ρ4 0 (nI (h + 1)), h + 1, b, g, c, by rw [hM4]; exact add_c h8 V.1.2.1 x, by omega, V2, ⟨?_, ?_, hcn, ⟨d, by rw [ru_ne _ (by omega), cn 3 (by omega)]; exact d1, d2, ?_⟩, GO.cg hg' (Nat.le_refl _) fun k _ _ => cz k (by omega) (by omega)⟩, ?_⟩
  · obtain ⟨⟨w1, w2, w3⟩, w4, w5, w6⟩ := W
    refine ⟨⟨fun i hi => ?_, fun i j hi hj hij => ?_, fun i hi => ?_⟩, fun i hi => ?_, w5.cg fun k h1 h2 => cz k (by omega) (by omega), w6.cg fun k hk => by rw [ru_ne _ (by omega), cn k (by omega)]⟩
    · by_cases e : i = h
      · subst e; rw [cx]; exact hx
      · rw [cz _ (by omega) (by omega)]; exact w1 i (by omega)
    · by_cases e : i = h
      · subst e
        by_cases e2 : j = i
        · exact e2.symm
        · rw [cx, cz _ (by omega) (by omega)] at hij
          exact absurd hij.symm (hd j (by omega))
      · by_cases e2 : j = h
        · subst e2
          rw [cx, cz _ (by omega) (by omega)] at hij
          exact absurd hij (hd i (by omega))
        · rw [cz _ (by omega) (by omega), cz _ (by omega) (by omega)] at hij
          exact w2 i j (by omega) (by omega) hij
    · by_cases e : i = h
      · subst e; rw [ru_ne _ (by omega), c3]; exact ⟨0, by omega, rfl⟩
      · rw [cz _ (by omega) (by omega)]; exact w3 i (by omega)
    · have hb := V.2.1.1
      rw [cz _ (by omega) (by omega), cz _ (by omega) (by omega), cz _ (by omega) (by omega)]
      obtain ⟨⟨a, ha, ea⟩, z2⟩ := w4 i hi
      exact ⟨⟨a, by omega, ea⟩, z2⟩
  · refine ⟨fun i => if i = h then 0 else w i, fun i => if i = h then 0 else p i, fun i hi => ?_, ?_, ?_⟩
    · dsimp only
      by_cases e : i = h
      · subst e
        rw [if_pos rfl, if_pos rfl, ru_ne _ (by omega), ru_ne _ (by omega), hρ4]
        refine ⟨?_, ?_⟩
        · rw [ru_ne _ (by omega), ru_ne _ (by omega), ru_at]; rfl
        · rw [ru_ne _ (by omega), ru_at]; rfl
      · rw [if_neg e, if_neg e, cz _ (by omega) (by omega), cz _ (by omega) (by omega)]; exact g1 i (by omega)
    · rw [sN_end, Nat.zero_add, if_pos rfl, sN_cg (g := w) h 0 fun i _ hi => if_neg (by omega)]; exact g2
    · rw [sN_end, Nat.zero_add, if_pos rfl, sN_cg (g := p) h 0 fun i _ hi => if_neg (by omega)]; exact g3
  · obtain ⟨k1, k2, k3⟩ := GK.cg (ρ' := ru ρ4 0 (nI (h + 1))) (by rw [ru_ne _ (by omega), cn 6 (by omega)]) fun k h1 h2 => cz k (by omega) (by omega)
    exact ⟨fun r hr => (k1 r hr).up (by omega) (Nat.le_refl _), k2, k3⟩
  · rw [hM4]
    exact ((((Fc.pt M x (by omega)).tr (Fc.pt _ 0 (by omega))).tr (Fc.pt _ 0 (by omega))).tr (Fc.pt _ 0 (by omega))).tr (Fc.pt _ _ (by omega))
theorem Gd.keep {ρ ρ' : Nat → Int32} {h b b' g c n : Nat} (hg : g ≤ 20) (D : Gd ρ h b g c n) (W' : Wr ρ' h b' c) (h1 : ∀ i, i < h → ρ' (9 + 4 * i + 1) = ρ (9 + 4 * i + 1) ∧ ρ' (9 + 4 * i + 2) = ρ (9 + 4 * i + 2)) (h3 : ρ' 3 = ρ 3) (h6 : ρ' 6 = ρ 6) (hk : ∀ k, 101 ≤ k → k < 1601 → ρ' k = ρ k) : Gd ρ' h b' g c n := by
  obtain ⟨W, GW, hcn, ⟨d, d1, d2, GK⟩, GO⟩ := D
  exact ⟨W', GW.cg h1, hcn, ⟨d, by rw [h3]; exact d1, d2, GK.cg h6 fun k a1 a2 => hk k (by omega) a2⟩, GO.cg hg (Nat.le_refl _) fun k a1 a2 => hk k a1 (by omega)⟩
theorem ov_remark {M : Mem} {ρ : Nat → Int32} {h b g c n i : Nat} (V : Vi M ρ h b g c) (D : Gd ρ h b g c n) {x : Int32} (hi : i < h) (hx : ∃ m, 1 ≤ m ∧ m < 65536 ∧ x = nI m) (hd : ∀ j, j < h → j ≠ i → ρ (9 + 4 * j) ≠ x) : Od1 (fX4_changeMark 2 (nI i) x) M ρ h b g c n := by
  have hh := V.1.1
  have cz : ∀ j, j ≠ 9 + 4 * i → ru ρ (9 + 4 * i + 0) x j = ρ j := fun j hj => ru_ne _ (by omega)
  obtain ⟨m, m1, m2, m3⟩ := D.1.1.1 i hi
  refine ⟨m, mput M (5 + 0) i x, ru ρ (9 + 4 * i + 0) x, h, b, g, c, ?_, by omega, V.ptH (by omega) (by omega) x, D.keep V.2.2.1.1 ?_ (fun j hj => ⟨cz _ (by omega), cz _ (by omega)⟩) (cz _ (by omega)) (cz _ (by omega)) (fun k _ _ => cz _ (by omega)), Fc.pt M x (by omega)⟩
  · unfold fX4_changeMark
    show (fX7_get 3 4 8 _ _ M).bind _ = _
    rw [l_0, V.1.gt hi (by omega), Option.bind_some]
    show (fX7_put 3 4 8 _ _ _ M).bind _ = _
    rw [X7_put (by omega) (by omega) (by omega) (by omega), show ρ (9 + 4 * i + 0) = nI m from m3]; rfl
  · obtain ⟨⟨w1, w2, w3⟩, w4, w5, w6⟩ := D.1
    have hb := V.2.1.1
    have cx : ru ρ (9 + 4 * i + 0) x (9 + 4 * i) = x := ru_at _ _ _
    refine ⟨⟨fun j hj => ?_, fun j k hj hk hjk => ?_, fun j hj => by rw [cz _ (by omega)]; exact w3 j hj⟩, w4.cg hb fun k _ _ => cz k (by omega), w5.cg fun k _ _ => cz k (by omega), w6.cg fun k _ => cz k (by omega)⟩
    · by_cases e : j = i
      · subst e; rw [cx]; exact hx
      · rw [cz _ (by omega)]; exact w1 j hj
    · by_cases e : j = i
      · subst e
        by_cases e2 : k = j
        · exact e2.symm
        · rw [cx, cz _ (by omega)] at hjk
          exact absurd hjk.symm (hd k hk e2)
      · by_cases e2 : k = i
        · subst e2
          rw [cx, cz _ (by omega)] at hjk
          exact absurd hjk (hd j hj e)
        · rw [cz _ (by omega), cz _ (by omega)] at hjk
          exact w2 j k hj hk hjk
theorem ov_excuse {M : Mem} {ρ : Nat → Int32} {h b g c n i : Nat} (V : Vi M ρ h b g c) (D : Gd ρ h b g c n) (hi : i < h) : Od1 (fX4_excuseOne 2 (nI i)) M ρ h b g c n := by
  have hh := V.1.1
  have hb := V.2.1.1
  have V1 := V.ptH (show i < 8 by omega) (show 3 < 4 by omega) 1
  have W1 : Wr (ru ρ (9 + 4 * i + 3) 1) h b c := by
    obtain ⟨⟨w1, w2, w3⟩, w4, w5, w6⟩ := D.1
    have cz : ∀ j, j ≠ 9 + 4 * i + 3 → ru ρ (9 + 4 * i + 3) 1 j = ρ j := fun j hj => ru_ne _ hj
    refine ⟨⟨fun j hj => by rw [cz _ (by omega)]; exact w1 j hj, fun j k hj hk hjk => by rw [cz _ (by omega), cz _ (by omega)] at hjk; exact w2 j k hj hk hjk, fun j hj => ?_⟩, w4.cg hb fun k _ _ => cz k (by omega), w5.cg fun k _ _ => cz k (by omega), w6.cg fun k _ => cz k (by omega)⟩
    by_cases e : j = i
    · subst e; rw [ru_at]; exact ⟨1, by omega, rfl⟩
    · rw [cz _ (by omega)]; exact w3 j hj
  have es : ∃ k, k ≤ 8 ∧ sH (ru ρ (9 + 4 * i + 3) 1) h 3 = nI k := by
    refine ⟨sN (fun j => nn (ru ρ (9 + 4 * i + 3) 1 (9 + 4 * j + 3))) 0 h, ?_, sm_n h 0 fun j _ hj => ?_⟩
    · refine Nat.le_trans (sN_ln h 0 fun j _ hj => ?_) hh
      obtain ⟨e, e1, e2⟩ := W1.1.2.2 j (by omega)
      rw [e2, nn_n (by omega)]; omega
    · obtain ⟨e, e1, e2⟩ := W1.1.2.2 j (by omega)
      rw [e2, nn_n (by omega)]
  obtain ⟨k, k1, k2⟩ := es
  have cz : ∀ j, j ≠ 9 + 4 * i + 3 → ru ρ (9 + 4 * i + 3) 1 j = ρ j := fun j hj => ru_ne _ hj
  refine ⟨k, mput M (5 + 3) i 1, ru ρ (9 + 4 * i + 3) 1, h, b, g, c, ?_, by omega, V1, D.keep V.2.2.1.1 W1 (fun j hj => ⟨cz _ (by omega), cz _ (by omega)⟩) (cz _ (by omega)) (cz _ (by omega)) (fun k _ _ => cz _ (by omega)), Fc.pt M _ (by omega)⟩
  rw [← k2]
  unfold fX4_excuseOne
  show (fX7_put 3 4 8 _ _ _ M).bind _ = _
  rw [l_3, X7_put (by omega) (by omega) (by omega) (by omega), Option.bind_some]
  show (fX7_count 3 4 8 ((mput M (5 + 3) i 1).1 2 1) (nI 3) 1 (mput M (5 + 3) i 1)).bind _ = _
  rw [V1.1.2.1, l_1]
  have := V1.1.exc W1.1
  rw [l_1] at this
  rw [this]; rfl
theorem ov_bring {M : Mem} {ρ : Nat → Int32} {h b g c n : Nat} (V : Vi M ρ h b g c) (D : Gd ρ h b g c n) {x y z : Int32} (hb : b < 20) (hx : ∃ a, a < h ∧ x = nI a) (hy : ∃ k, k < 3 ∧ y = nI k) (hz : ∃ w, 1 ≤ w ∧ w ≤ 12 ∧ z = nI w) : Od1 (fX1_add 9 x y z) M ρ h b g c n := by
  have V1 := ((V.ptB hb (k := 0) (by omega) x).ptB hb (k := 1) (by omega) y).ptB hb (k := 2) (by omega) z
  obtain ⟨M4, hM4⟩ : ∃ M4, M4 = mput (mput (mput M (12 + 0) b x) (12 + 1) b y) (12 + 2) b z := ⟨_, rfl⟩
  obtain ⟨ρ4, hρ4⟩ : ∃ ρ4, ρ4 = ru (ru (ru ρ (41 + 3 * b + 0) x) (41 + 3 * b + 1) y) (41 + 3 * b + 2) z := ⟨_, rfl⟩
  rw [← hM4, ← hρ4] at V1
  have cn : ∀ j, j < 41 + 3 * b ∨ 44 + 3 * b ≤ j → ρ4 j = ρ j := fun j hj => by rw [hρ4, ru_ne _ (by omega), ru_ne _ (by omega), ru_ne _ (by omega)]
  have c0 : ρ4 (41 + 3 * b) = x := by rw [hρ4, ru_ne _ (by omega), ru_ne _ (by omega)]; exact ru_at _ _ _
  have c1 : ρ4 (41 + 3 * b + 1) = y := by rw [hρ4, ru_ne _ (by omega)]; exact ru_at _ _ _
  have c2 : ρ4 (41 + 3 * b + 2) = z := by rw [hρ4]; exact ru_at _ _ _
  have V2 : Vi (mput M4 9 1 (nI (b + 1))) (ru ρ4 7 (nI (b + 1))) h (b + 1) g c := by
    refine ⟨V1.1.cg (fun q y _ _ => by rw [mput_at, if_neg (by omega)]) (fun j _ _ => ru_ne _ (by omega)), V1.2.1.grow hb (fun k hk => ?_), V1.2.2.1.cg (fun q y _ _ => by rw [mput_at, if_neg (by omega)]) (fun j _ _ => ru_ne _ (by omega)), V1.2.2.2.1.cg (fun q y _ _ => by rw [mput_at, if_neg (by omega)]) (fun j _ _ => ru_ne _ (by omega)), V1.2.2.2.2.cg (fun y => by rw [mput_at, if_neg (by omega)]) (fun j _ => ru_ne _ (by omega))⟩
    rw [hM4, hρ4]
    rcases (show k = 0 ∨ k = 1 ∨ k = 2 by omega) with rfl | rfl | rfl <;> simp [mput_at, ru]
  have hh' := V.1.1
  have cz : ∀ j, j ≠ 7 → j < 41 + 3 * b ∨ 44 + 3 * b ≤ j → ru ρ4 7 (nI (b + 1)) j = ρ j := fun j h1 h2 => by rw [ru_ne _ h1, cn j h2]
  refine ⟨b, mput M4 9 1 (nI (b + 1)), ru ρ4 7 (nI (b + 1)), h, b + 1, g, c, by rw [hM4]; exact add_b hb V.2.1.2.1 x y z, by omega, V2, D.keep V.2.2.1.1 ?_ (fun j hj => ⟨cz _ (by omega) (by omega), cz _ (by omega) (by omega)⟩) (cz _ (by omega) (by omega)) (cz _ (by omega) (by omega)) (fun k _ _ => cz _ (by omega) (by omega)), ?_⟩
  · obtain ⟨w3, w4, w5, w6⟩ := D.1
    have hh := V.1.1
    refine ⟨w3.cg hh fun k h1 h2 => by rw [ru_ne _ (by omega), cn k (by omega)], fun i hi => ?_, w5.cg fun k h1 h2 => by rw [ru_ne _ (by omega), cn k (by omega)], w6.cg fun k hk => by rw [ru_ne _ (by omega), cn k (by omega)]⟩
    rw [ru_ne _ (by omega), ru_ne _ (by omega), ru_ne _ (by omega)]
    by_cases e : i = b
    · subst e; rw [c0, c1, c2]; exact ⟨hx, hy, hz⟩
    · rw [cn _ (by omega), cn _ (by omega), cn _ (by omega)]; exact w4 i (by omega)
  · rw [hM4]
    exact (((Fc.pt M x (by omega)).tr (Fc.pt _ y (by omega))).tr (Fc.pt _ z (by omega))).tr (Fc.pt _ _ (by omega))
theorem ov_take {M : Mem} {ρ : Nat → Int32} {h b g c n i : Nat} (V : Vi M ρ h b g c) (D : Gd ρ h b g c n) (hi : i < b) : Od1 (fX1_remove 9 (nI i)) M ρ h b g c n := by
  have hb := V.2.1.1
  have hh := V.1.1
  obtain ⟨M1, hM1⟩ : ∃ M1 : Mem, M1 = (fun q x => if 12 ≤ q ∧ q < 15 ∧ i ≤ x ∧ x < b - 1 then M.1 q (x + 1) else M.1 q x, M.2) := ⟨_, rfl⟩
  have e1 : fX7_remove (9 + 1) 3 20 (nI i) (nI b) M = some M1 := by
    unfold fX7_remove
    rw [if_neg (show ¬ nI i < 0 from mI_nn (by omega)), if_neg (pI_nle hi (by omega)), if_pos (pI_le hb (by omega)), l_0]
    have := rem_loop hb hi 3 0 FUEL M (by omega) (fuel8 (by omega))
    show (lX7_remove_20 10 3 20 (nI i) (nI b) FUEL (nI 0) M).bind _ = _
    rw [this, hM1]; rfl
  have cM : ∀ q x, q < 12 ∨ 15 ≤ q → M1.1 q x = M.1 q x := fun q x hq => by
    rw [hM1]; show (if _ then _ else _) = _; rw [if_neg (by omega)]
  have dz' : ∀ j, j ≠ 7 → j < 41 ∨ 101 ≤ j → dr ρ i b j = ρ j := fun j h1 h2 => by simp only [dr]; rw [if_neg h1, if_neg (by omega)]
  obtain ⟨-, -, ⟨z, z1, z2, z3⟩⟩ := D.1.2.1 i hi
  refine ⟨z, mput M1 9 1 (nI (b - 1)), dr ρ i b, h, b - 1, g, c, ?_, by omega, ?_, D.keep V.2.2.1.1 ?_ (fun j hj => ⟨dz' _ (by omega) (by omega), dz' _ (by omega) (by omega)⟩) (dz' _ (by omega) (by omega)) (dz' _ (by omega) (by omega)) (fun k _ _ => dz' _ (by omega) (by omega)), ?_⟩
  · unfold fX1_remove
    show (fX7_get 10 3 20 _ _ M).bind _ = _
    rw [l_2, V.2.1.gt hi (by omega), z3, Option.bind_some, V.2.1.2.1, e1, Option.bind_some, cM 9 1 (by omega), V.2.1.2.1, l_1, mI_sb (by omega) (by omega)]
    rfl
  · have cz : ∀ q x, q ≠ 9 → q < 12 ∨ 15 ≤ q → (mput M1 9 1 (nI (b - 1))).1 q x = M.1 q x := fun q x h1 h2 => by rw [mput_at, if_neg (by omega), cM q x h2]
    have dz : ∀ j, j ≠ 7 → j < 41 ∨ 101 ≤ j → dr ρ i b j = ρ j := fun j h1 h2 => by simp only [dr]; rw [if_neg h1, if_neg (by omega)]
    refine ⟨V.1.cg (fun q y _ _ => cz _ _ (by omega) (by omega)) (fun j _ _ => dz _ (by omega) (by omega)), ⟨by omega, by rw [mput_at, if_pos ⟨rfl, rfl⟩], by simp [dr], fun j k hj hk => ?_⟩, V.2.2.1.cg (fun q y _ _ => cz _ _ (by omega) (by omega)) (fun j _ _ => dz _ (by omega) (by omega)), V.2.2.2.1.cg (fun q y _ _ => cz _ _ (by omega) (by omega)) (fun j _ _ => dz _ (by omega) (by omega)), V.2.2.2.2.cg (fun y => cz _ _ (by omega) (by omega)) (fun j _ => dz _ (by omega) (by omega))⟩
    rw [mput_at, if_neg (by omega), hM1]
    show (if _ then _ else _) = _
    simp only [dr]
    rw [if_neg (show ¬ 41 + 3 * j + k = 7 by omega)]
    by_cases h3 : i ≤ j
    · rw [if_pos (by omega), if_pos (by omega), V.2.1.2.2.2 (j + 1) k (by omega) hk, show 41 + 3 * (j + 1) + k = 41 + 3 * j + k + 3 by omega]
    · rw [if_neg (by omega), if_neg (by omega), V.2.1.2.2.2 j k (by omega) hk]
  · obtain ⟨w3, w4, w5, w6⟩ := D.1
    have dz : ∀ j, j ≠ 7 → j < 41 ∨ 101 ≤ j → dr ρ i b j = ρ j := fun j h1 h2 => by simp only [dr]; rw [if_neg h1, if_neg (by omega)]
    refine ⟨w3.cg hh fun k _ _ => dz k (by omega) (by omega), fun j hj => ?_, w5.cg fun k _ _ => dz k (by omega) (by omega), w6.cg fun k _ => dz k (by omega) (by omega)⟩
    have : ∀ k, k < 3 → dr ρ i b (41 + 3 * j + k) = ρ (41 + 3 * (if i ≤ j then j + 1 else j) + k) := fun k hk => by
      simp only [dr]
      rw [if_neg (by omega)]
      by_cases h3 : i ≤ j
      · rw [if_pos (by omega), if_pos h3, show 41 + 3 * (j + 1) + k = 41 + 3 * j + k + 3 by omega]
      · rw [if_neg (by omega), if_neg h3]
    have t0 := this 0 (by omega)
    rw [Nat.add_zero, Nat.add_zero] at t0
    rw [t0, this 1 (by omega), this 2 (by omega)]
    exact w4 _ (by split <;> omega)
  · exact ⟨fun q x hq => by rw [mput_at, if_neg (by omega), cM q x (by omega)], by rw [hM1]; rfl⟩
theorem ov_setS {M : Mem} {ρ : Nat → Int32} {h b g c n : Nat} (V : Vi M ρ h b g c) (D : Gd ρ h b g c n) {x : Int32} (hx : 0 ≤ x) : Od1 (fX9_changeS 1 x) M ρ h b g c n := by
  obtain ⟨s, hs, e1⟩ := D.1.2.2.2.2
  refine ⟨s, mput M 1 5 x, ru ρ 1 x, h, b, g, c, ?_, hs, ?_, D.keep V.2.2.1.1 ?_ (fun j hj => ⟨ru_ne _ (by omega), ru_ne _ (by omega)⟩) (ru_ne _ (by omega)) (ru_ne _ (by omega)) (fun k _ _ => ru_ne _ (by omega)), Fc.pt M x (by omega)⟩
  · unfold fX9_changeS pf
    rw [Option.bind_some, V.2.2.2.2.2.1, e1]
  · refine ⟨V.1.cg (fun q y _ _ => by rw [mput_at, if_neg (by omega)]) (fun j _ _ => ru_ne _ (by omega)), V.2.1.cg (fun q y _ _ => by rw [mput_at, if_neg (by omega)]) (fun j _ _ => ru_ne _ (by omega)), V.2.2.1.cg (fun q y _ _ => by rw [mput_at, if_neg (by omega)]) (fun j _ _ => ru_ne _ (by omega)), V.2.2.2.1.cg (fun q y _ _ => by rw [mput_at, if_neg (by omega)]) (fun j _ _ => ru_ne _ (by omega)), ?_⟩
    obtain ⟨s1, s2, s3, s4⟩ := V.2.2.2.2
    refine ⟨?_, ?_, ?_, ?_⟩
    · rw [mput_at, if_neg (by omega), ru_ne _ (by omega)]; exact s1
    · rw [mput_at, if_pos ⟨rfl, rfl⟩, ru_at]
    · rw [mput_at, if_neg (by omega), ru_ne _ (by omega)]; exact s3
    · rw [mput_at, if_neg (by omega), ru_ne _ (by omega)]; exact s4
  · obtain ⟨e, hl⟩ := mI_of (Int32.not_lt.mpr hx)
    exact ⟨D.1.1.cg V.1.1 (fun k _ _ => ru_ne _ (by omega)), D.1.2.1.cg V.2.1.1 (fun k _ _ => ru_ne _ (by omega)), D.1.2.2.1.cg (fun k _ _ => ru_ne _ (by omega)), by rw [ru_ne _ (by omega)]; exact D.1.2.2.2.1, ⟨_, hl, by rw [ru_at]; exact e⟩⟩
