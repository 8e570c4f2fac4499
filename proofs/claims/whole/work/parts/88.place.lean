/-! a batch's place in the baking order -/
theorem app_at (A Q : List Nat) (x : Nat) : (A ++ x :: Q).getD A.length 0 = x := by
  rw [List.getD_eq_getElem?_getD, List.getElem?_append_right (by omega), Nat.sub_self]; rfl
theorem app_ne {A B : List Nat} {x p : Nat} (hx : x ∉ A) (hp : p < A.length) : (A ++ B).getD p 0 ≠ x := by
  rw [List.getD_eq_getElem?_getD, List.getElem?_append_left hp, List.getElem?_eq_getElem hp]
  intro q
  exact hx (q ▸ List.getElem_mem hp)
theorem batchAt_n {M : Mem} {O : List Nat} {j : Nat} (H : OR M O) (hO : O.length ≤ 20) (hj : j < O.length) : fX3_batchAt (nI j) M = some (nI (O.getD j 0)) := by
  unfold fX3_batchAt
  rw [H.1, l_0, if_neg (pI_nlt (by omega) (by omega)), if_neg (pI_nle hj (by omega)), l_20, if_neg (pI_nle (by omega) (by omega)), ald_n (by omega) (by omega), Option.bind_some, H.2 j hj]
theorem place_l {M : Mem} {O : List Nat} {x K : Nat} (H : OR M O) (hO : O.length ≤ 20) (hK : K < O.length) (hx : x < 100) (hb : ∀ p, p < O.length → O.getD p 0 < 100) (e1 : O.getD K 0 = x) (e2 : ∀ p, p < K → O.getD p 0 ≠ x) : ∀ (m j n : Nat), j + m = K → m < n → lX3_placeOf_2 (nI x) M n (nI j) = some (Sum.inl (nI K)) := by
  intro m
  induction m with
  | zero =>
    intro j n h1 h2
    obtain ⟨n, rfl⟩ : ∃ n', n = n' + 1 := ⟨n - 1, by omega⟩
    obtain rfl : j = K := by omega
    rw [lX3_placeOf_2, H.1, if_neg (pI_nle hK (by omega)), batchAt_n H hO hK, Option.bind_some, e1, if_pos rfl]
  | succ m ih =>
    intro j n h1 h2
    obtain ⟨n, rfl⟩ : ∃ n', n = n' + 1 := ⟨n - 1, by omega⟩
    have := hb j (by omega)
    rw [lX3_placeOf_2, H.1, if_neg (pI_nle (by omega) (by omega)), batchAt_n H hO (by omega), Option.bind_some, if_neg (pI_ne (e2 j (by omega)) (by omega) (by omega)), l_1, nI_ad, ih (j + 1) n (by omega) (by omega)]
/-- where batch x stands in the baking order -/
def pos (hb : Nat → Nat) (h f b x : Nat) : Nat := (al hb h f b 0 (ky h f (hb x))).length + (fls (fun i => decide (hb i = hb x)) 0 x).length
theorem Od_at (hb : Nat → Nat) {h f b x : Nat} (hf : f < h) (hh : ∀ i, i < b → hb i < h) (hx : x < b) : pos hb h f b x < b ∧ (al hb h f b 0 h).getD (pos hb h f b x) 0 = x ∧ ∀ p, p < pos hb h f b x → (al hb h f b 0 h).getD p 0 ≠ x := by
  have hk := ky_lt hf (hh x hx)
  obtain ⟨k, ek⟩ : ∃ k, k = ky h f (hb x) := ⟨_, rfl⟩
  have er : rot h f k = hb x := by rw [ek]; exact (rot_ky hf hk (hh x hx)).mpr rfl
  have e1 : al hb h f b 0 h = (al hb h f b 0 k ++ fls (fun i => decide (hb i = hb x)) 0 x) ++ x :: (fls (fun i => decide (hb i = hb x)) (x + 1) (b - x - 1) ++ al hb h f b (k + 1) (h - k - 1)) := by
    have h1 := al_split hb h f b k 0 (1 + (h - k - 1))
    rw [show k + (1 + (h - k - 1)) = h by omega, Nat.zero_add, Nat.add_comm 1, al, er] at h1
    have h2 := fl_split (fun i => decide (hb i = hb x)) x 0 ((b - x - 1) + 1)
    rw [show x + (b - x - 1 + 1) = b by omega, Nat.zero_add, fls, if_pos (decide_eq_true rfl)] at h2
    rw [h1, h2]
    simp only [List.append_assoc, List.cons_append]
  have hx2 : x ∉ al hb h f b 0 k ++ fls (fun i => decide (hb i = hb x)) 0 x := by
    intro q
    rcases List.mem_append.mp q with q | q
    · obtain ⟨-, u, u1, u2, u3⟩ := al_mem _ _ _ _ _ _ _ q
      have := (rot_ky hf (show u < h by omega) (hh x hx)).mp u3.symm
      omega
    · have := fl_mem _ _ _ q
      omega
  have el : pos hb h f b x = (al hb h f b 0 k ++ fls (fun i => decide (hb i = hb x)) 0 x).length := by
    rw [List.length_append, ek]; rfl
  have hl := al_len hb hf hh
  refine ⟨?_, ?_, fun p hp => ?_⟩
  · have hl2 := congrArg List.length e1
    rw [hl, List.length_append, ← el, List.length_cons] at hl2
    omega
  · rw [el, e1]; exact app_at _ _ _
  · rw [e1]; exact app_ne hx2 (by rw [← el]; exact hp)
theorem Od_lt {ρ : Nat → Int32} {h f b p : Nat} (hp : p < (Od ρ h f b).length) : (Od ρ h f b).getD p 0 < b := by
  rw [List.getD_eq_getElem?_getD, List.getElem?_eq_getElem hp]
  exact (al_mem _ _ _ _ _ _ _ (List.getElem_mem hp)).1
/-- what the reference counts -/
theorem pos_cnt (hb : Nat → Nat) {h f b x : Nat} (hf : f < h) (hh : ∀ i, i < b → hb i < h) (hx : x < b) : pos hb h f b x = (fls (fun i => decide (ky h f (hb i) < ky h f (hb x)) || (decide (ky h f (hb i) = ky h f (hb x)) && decide (i < x))) 0 b).length := by
  have h1 := fl_or (p := fun i => decide (ky h f (hb i) < ky h f (hb x))) (q := fun i => decide (ky h f (hb i) = ky h f (hb x)) && decide (i < x)) (r := fun i => decide (ky h f (hb i) < ky h f (hb x)) || (decide (ky h f (hb i) = ky h f (hb x)) && decide (i < x))) (fun i => rfl) b 0 (fun i _ _ q => by
    have q1 := of_decide_eq_true q.1
    have q2 := q.2
    rw [Bool.and_eq_true] at q2
    have := of_decide_eq_true q2.1
    omega)
  rw [h1]
  unfold pos
  rw [al_cnt hb hf (Nat.le_of_lt (ky_lt hf (hh x hx))) b hh]
  congr 1
  have h2 := fl_split (fun i => decide (ky h f (hb i) = ky h f (hb x)) && decide (i < x)) x 0 (b - x)
  rw [show x + (b - x) = b by omega, Nat.zero_add] at h2
  rw [h2, fl_none (b - x) x (fun i h3 h4 => by rw [decide_eq_false (show ¬ i < x by omega), Bool.and_false]), List.append_nil]
  congr 1
  refine fl_cg x 0 fun i _ hi => ?_
  rw [decide_eq_true (show i < x by omega), Bool.and_true]
  have hi2 := hh i (by omega)
  have hx2 := hh x hx
  by_cases e : hb i = hb x
  · rw [decide_eq_true e, decide_eq_true (by rw [e])]
  · rw [decide_eq_false e, decide_eq_false]
    intro q
    unfold ky at q
    split at q <;> split at q <;> omega
theorem behind_r {N : Mem} {ρ : Nat → Int32} {h f a : Nat} (R : Ro N ρ) (h0 : ρ 0 = nI h) (hh : h ≤ 8) (hn : nxt ρ h = some f) (hf : f < h) (ha : a < h) : fX12_behind (nI a) N = some (nI (ky h f a)) := by
  unfold fX12_behind
  rw [R.next h0 hh, Option.bind_some, hn, l_0, R.at (by omega), Option.bind_some, Option.bind_some, h0, if_neg (pI_ne (by omega) (by omega) (by omega))]
  have e : nI a - enc (some f) + nI h = nI (a + h - f) := by
    show nI a - nI f + nI h = _
    rw [← mI_sb (show f ≤ a + h by omega) (by omega), ← nI_ad, Int32.sub_eq_add_neg, Int32.sub_eq_add_neg]
    ac_rfl
  rw [e, mI_md (by omega) (by omega)]
  congr 2
  unfold ky
  by_cases h1 : f ≤ a
  · rw [if_pos h1, show a + h - f = (a - f) + h by omega, Nat.add_mod_right, Nat.mod_eq_of_lt (by omega)]
  · rw [if_neg h1, Nat.mod_eq_of_lt (by omega)]
theorem place_r {N : Mem} {ρ : Nat → Int32} {h f b x : Nat} (R : Ro N ρ) (h0 : ρ 0 = nI h) (hh : h ≤ 8) (hb : b ≤ 20) (h7 : ρ 7 = nI b) (W : RB ρ h b) (hn : nxt ρ h = some f) (hf : f < h) (hx : x < b) : ∀ (m j n : Nat) (acc : Int32), j + m = b → m < n → lX12_placeOf_21 (nI x) N (nI (ky h f (hbq ρ x))) n acc (nI j) = some (acc + nI (fls (fun i => decide (ky h f (hbq ρ i) < ky h f (hbq ρ x)) || (decide (ky h f (hbq ρ i) = ky h f (hbq ρ x)) && decide (i < x))) j m).length) := by
  intro m
  have hkx := ky_lt hf (bq_h hh W hx).2
  induction m with
  | zero =>
    intro j n acc h1 h2
    obtain ⟨n, rfl⟩ : ∃ n', n = n' + 1 := ⟨n - 1, by omega⟩
    rw [lX12_placeOf_21, l_7, R.at (by omega), Option.bind_some, h7, if_pos (pI_le (by omega) (by omega)), fls, List.length_nil, sm_z]
  | succ m ih =>
    intro j n acc h1 h2
    obtain ⟨n, rfl⟩ : ∃ n', n = n' + 1 := ⟨n - 1, by omega⟩
    obtain ⟨ej, hj⟩ := bq_h hh W (show j < b by omega)
    have hkj := ky_lt hf hj
    rw [lX12_placeOf_21, l_7, R.at (by omega), Option.bind_some, h7, if_neg (pI_nle (by omega) (by omega)), l_41, l_3, nI_ml', nI_ad, R.at (by omega), Option.bind_some, ej, behind_r R h0 hh hn hf hj, Option.bind_some, l_1, l_0, nI_ad, ih (j + 1) n _ (by omega) (by omega), ih (j + 1) n _ (by omega) (by omega), fls]
    by_cases c1 : ky h f (hbq ρ j) < ky h f (hbq ρ x)
    · rw [if_pos (pI_lt c1 (by omega)), if_pos (by rw [decide_eq_true c1]; rfl), List.length_cons, Int32.add_assoc, nI_ad, Nat.add_comm 1]
    · rw [if_neg (pI_nlt (by omega) (by omega))]
      by_cases c2 : ky h f (hbq ρ j) = ky h f (hbq ρ x)
      · rw [c2, if_pos rfl]
        by_cases c3 : j < x
        · rw [if_neg (pI_nle c3 (by omega)), if_pos (by rw [decide_eq_true c3, decide_eq_true (show ky h f (hbq ρ x) = ky h f (hbq ρ x) from rfl), Bool.true_and, Bool.or_true]), List.length_cons, Int32.add_assoc, nI_ad, Nat.add_comm 1]
        · rw [if_pos (pI_le (by omega) (by omega)), if_neg (by rw [decide_eq_false c3, decide_eq_false (show ¬ ky h f (hbq ρ x) < ky h f (hbq ρ x) by omega), Bool.and_false]; decide), sm_z]
      · rw [if_neg (pI_ne c2 (by omega) (by omega)), if_neg (by rw [decide_eq_false c1, decide_eq_false c2]; simp), sm_z]
theorem batch_ok {M : Mem} {ρ : Nat → Int32} {h b g c i k : Nat} (V : Vi M ρ h b g c) (W : Wr ρ h b c) (hi : i < b) (hk : k < 4) : ∃ r M1, fX11_batch (nI i) (nI k) M = some (Sum.inr (r, M1)) ∧ (∀ q x, ¬ (33 ≤ q ∧ q < 45) → M1.1 q x = M.1 q x) ∧ M1.2 = M.2 ∧ (k < 3 → r = ρ (41 + 3 * i + k)) ∧ (k = 3 → ∀ N, Ro N ρ → fX12_placeOf (nI i) N = some r) := by
  have hh := V.1.1
  have hb := V.2.1.1
  have hh0 : 0 < h := by obtain ⟨⟨a, ha, -⟩, -⟩ := W.2.1 i hi; omega
  obtain ⟨f, hf, hn⟩ := nxt_some W.1 hh0
  have e0 : fX11_batch (nI i) (nI k) M = if (3 : Int32) ≤ nI k then ((fX9_arrangeNextDay 1 M).bind fun M12 => (fX3_placeOf (nI i) M12).bind fun v14 => some (Sum.inr (v14, M12))) else ((fX1_value 9 (nI i) (nI k) M).bind fun v16 => some (Sum.inr (v16, M))) := by
    unfold fX11_batch
    rw [if_pos (show (0 : Int32) ≤ nI i from pI_le (a := 0) (by omega) (by omega)), wb (nI k) 4 3 rfl, if_pos ⟨pI_le (a := 0) (by omega) (by omega), pI_le (b := 3) (by omega) (by omega)⟩, Option.bind_some, Option.bind_some, refuse_0, Option.bind_some]
    simp only [xc]
    unfold fX1_has
    rw [V.2.1.2.1, if_neg (show ¬ nI i < 0 from mI_nn (by omega)), if_neg (pI_nle hi (by omega)), Option.bind_some, if_pos rfl]
  by_cases hk3 : k = 3
  · subst hk3
    obtain ⟨M1, a1, a2, a3, a4⟩ := arrange_ok V W hh0 hn hf
    have hl := Od_len (f := f) hh hf W.2.1
    have hq := fun i hi => (bq_h hh W.2.1 (i := i) hi).2
    obtain ⟨p1, p2, p3⟩ := Od_at (hbq ρ) hf hq hi
    refine ⟨nI (pos (hbq ρ) h f b i), M1, ?_, fun q x hq => a3 q x (by omega) (by omega), a4, fun q => by omega, fun _ N R => ?_⟩
    · rw [e0, if_pos (show (3 : Int32) ≤ nI 3 from pI_le (a := 3) (by omega) (by omega)), a1, Option.bind_some]
      unfold fX3_placeOf
      rw [l_0, place_l a2 (by omega) (show pos (hbq ρ) h f b i < (Od ρ h f b).length by omega) (show i < 100 by omega) (fun p hp => by have := Od_lt hp; omega) p2 p3 _ 0 FUEL (Nat.zero_add _) (fuel8 (by omega))]
      rfl
    · unfold fX12_placeOf
      have ei := (bq_h hh W.2.1 hi).1
      rw [l_41, l_3, nI_ml', nI_ad, R.at (by omega), Option.bind_some, ei, behind_r R V.1.2.2.1 hh hn hf (hq i hi), Option.bind_some, l_0, place_r R V.1.2.2.1 hh hb V.2.1.2.2.1 W.2.1 hn hf hi b 0 FUEL _ (by omega) (fuel8 (by omega)), Option.bind_some, ← pos_cnt (hbq ρ) hf hq hi, show nI 0 = (0 : Int32) from rfl, Int32.zero_add]
  · refine ⟨ρ (41 + 3 * i + k), M, ?_, fun _ _ _ => rfl, rfl, fun _ => rfl, fun q => absurd q hk3⟩
    rw [e0, l_3, if_neg (pI_nle (by omega) (by omega))]
    unfold fX1_value
    show ((fX7_get 10 3 20 _ _ M).bind _).bind _ = _
    rw [V.2.1.gt hi (by omega)]; rfl
theorem stp14 {n : Nat} {M : Mem} {h b g c s l t : Nat} (F : Fu n M h b g c s l t) (p q : Int32) : ∃ M3, LS14 p q M M3 ∧ Iv (n + 1) M3 := by
  have V := F.vi
  have B := V.2.1
  have hb := B.1
  by_cases h1 : p < 0
  · refine ⟨_, Or.inr ⟨0, ?_, ?_, thr_n _ 1⟩, F.rf _⟩
    · unfold fX11_batch
      rw [if_neg (Int32.not_le.mpr h1), Option.bind_some, refuse_k.2.1]; rfl
    · unfold fX12_batch
      rw [if_pos h1, Option.bind_some, ref1]; rfl
  by_cases h2 : 0 ≤ q ∧ q ≤ 3
  · obtain ⟨e, hl⟩ := mI_of h1
    obtain ⟨k, hk, rfl⟩ := rng (B := 3) (by omega) h2
    generalize p.toNatClampNeg = i at e hl
    subst e
    by_cases h3 : i < b
    · obtain ⟨r, M1, e1, e2, e3, e4, e5⟩ := batch_ok V F.2.1 h3 (show k < 4 by omega)
      have R : Ro (mput (mputL M1 185 0 r.toInt64) 178 4 0) (M.1 179) := fun j _ => by
        rw [mput_at, if_neg (by omega)]; exact e2 179 j (by omega)
      refine ⟨mput (mputL M1 185 0 r.toInt64) 178 4 0, Or.inl ⟨r, M1, r, e1, ?_, thr_n _ 0, rfl, rd_L _ _ _⟩, h, b, g, c, s, l, t, F.keep (fun q x g1 g2 g3 g4 g5 => ?_) (fun x hx => ?_)⟩
      · unfold fX12_batch
        rw [if_neg h1, inn, Option.bind_some, if_pos (decide_eq_true h2), Option.bind_some, ref0, Option.bind_some]
        simp only [un2, Bool.false_eq_true, if_false]
        rw [l_7, R.at (by omega), Option.bind_some, B.2.2.1, if_pos (pI_lt h3 (by omega))]
        by_cases hk3 : k = 3
        · subst hk3
          rw [if_pos (show nI 3 = 3 from rfl), e5 rfl _ R]; rfl
        · rw [l_3, if_neg (pI_ne hk3 (by omega) (by omega)), l_41, nI_ml', nI_ad, nI_ad, R.at (by omega), e4 (by omega)]; rfl
      · rw [mput_at, if_neg (by omega)]; exact e2 q x g1
      · rw [mput_at, if_neg (by omega)]; exact e2 178 x (by omega)
    · refine ⟨_, Or.inl ⟨-1, M, -1, ?_, ?_, thr_n _ 0, rfl, rd_L _ _ _⟩, F.rd _ _⟩
      · unfold fX11_batch
        rw [if_pos (Int32.not_lt.mp h1), wb (nI k) 4 3 rfl, if_pos h2, Option.bind_some, Option.bind_some, refuse_0, Option.bind_some]
        simp only [xc]
        unfold fX1_has
        rw [B.2.1, if_neg h1, if_pos (pI_le (by omega) hl), Option.bind_some, if_neg (by decide)]
      · unfold fX12_batch
        rw [if_neg h1, inn, Option.bind_some, if_pos (decide_eq_true h2), Option.bind_some, ref0, Option.bind_some]
        simp only [un2, Bool.false_eq_true, if_false]
        rw [l_7, (Ro.rd _ _).at (by omega), Option.bind_some, B.2.2.1, if_neg (pI_nlt (by omega) hl)]
  · refine ⟨_, Or.inr ⟨0, ?_, ?_, thr_n _ 1⟩, F.rf _⟩
    · unfold fX11_batch
      rw [if_pos (Int32.not_lt.mp h1), wb q 4 3 rfl, if_neg h2, Option.bind_some, Option.bind_some, refuse_k.2.1]; rfl
    · unfold fX12_batch
      rw [if_neg h1, inn, Option.bind_some, if_neg (by rw [decide_eq_true_eq]; exact h2), Option.bind_some, ref1]; rfl
