/-! the law's fourth check: claims and returns -/
theorem claim_x {M : Mem} {ρ : Nat → Int32} {h b g c n i : Nat} {past : Nat → Nat → Int32} {s l : Nat} (H : S31 M ρ h b g c n past s l) (hi : i < h) : ∃ T S M' ρ' past', fX11_claim (nI i) M = some (Sum.inr (nI S, M')) ∧ S31 M' ρ' h b g c n past' (min 4 (s + 1)) ((l + 1) % 4) ∧ past' (min 4 (s + 1) - 1) = ρ ∧ (1 ≤ s → past' (min 4 (s + 1) - 2) = past (s - 1)) ∧ Mw 8 i ρ ρ' c T S ∧ ∀ q, q < 3 → (bA ρ c i q 0 ≤ bA ρ' c i q 5 ∨ ∀ x, c - 200 ≤ x → x < c → ¬ El ρ' i q (x % 200)) ∧ (T q = 0 ∨ bA ρ' c i q 5 ≤ bA ρ c i q 0) := by
  obtain ⟨Mp, past', e1, H1, e2, e3⟩ := push_s H
  obtain ⟨T, S, M', ρ', a1, a2, a3, a4, a5, a6⟩ := ov_claim H1.1 H1.2.1 hi
  refine ⟨T, S, M', ρ', past', ?_, H1.op a2 a3 (Nat.le_refl _) a4, e2, e3, a5, a6⟩
  unfold fX11_claim
  rw [who1 H.1.1, if_pos (who_i hi H.1.1.1), Option.bind_some, refuse_0, Option.bind_some]
  show (fX8_push 1 M).bind _ = _
  rw [e1, Option.bind_some, a1, Option.bind_some]
  exact un2i rfl
theorem return_x {M : Mem} {ρ : Nat → Int32} {h b g c n i : Nat} {past : Nat → Nat → Int32} {s l : Nat} (H : S31 M ρ h b g c n past s l) (hi : i < h) : ∃ T S M' ρ' past', fX11_returnLoaves (nI i) M = some (Sum.inr (nI S, M')) ∧ S31 M' ρ' h b g c n past' (min 4 (s + 1)) ((l + 1) % 4) ∧ past' (min 4 (s + 1) - 1) = ρ ∧ (1 ≤ s → past' (min 4 (s + 1) - 2) = past (s - 1)) ∧ Mw i 8 ρ ρ' c T S ∧ ∀ q, q < 3 → bA ρ' c i q 5 ≤ bA ρ c i q 0 ∧ (T q = 0 ∨ bA ρ c i q 0 ≤ bA ρ' c i q 5) := by
  obtain ⟨Mp, past', e1, H1, e2, e3⟩ := push_s H
  obtain ⟨T, S, M', ρ', a1, a2, a3, a4, a5, a6⟩ := ov_return H1.1 H1.2.1 hi
  refine ⟨T, S, M', ρ', past', ?_, H1.op a2 a3 (Nat.le_refl _) a4, e2, e3, a5, a6⟩
  unfold fX11_returnLoaves
  rw [who1 H.1.1, if_pos (who_i hi H.1.1.1), Option.bind_some, refuse_0, Option.bind_some]
  show (fX8_push 1 M).bind _ = _
  rw [e1, Option.bind_some, a1, Option.bind_some]
  exact un2i rfl
/-- what a household lacks, and what it has too much -/
def sub3 (ρ : Nat → Int32) (c i j j' k : Nat) : Nat := bA ρ c i k j - bA ρ c i k j'
theorem bal_14 {M : Mem} {ρ : Nat → Int32} {h b g c i : Nat} (V : Vi M ρ h b g c) (hi : i < h) : ∀ (m k n : Nat) (x y : Int32), k + m = 3 → m < n → lL_areClaims_14 (nI i) M n x y (nI k) = some (x + nI (sN (sub3 ρ c i 0 5) k m), y + nI (sN (sub3 ρ c i 5 0) k m)) := by
  intro m
  induction m with
  | zero =>
    intro k n x y h1 h2
    obtain ⟨n, rfl⟩ : ∃ n', n = n' + 1 := ⟨n - 1, by omega⟩
    rw [lL_areClaims_14, l_3, if_pos (pI_le (by omega) (by omega)), sN, sN, sm_z, sm_z]
  | succ m ih =>
    intro k n x y h1 h2
    obtain ⟨n, rfl⟩ : ∃ n', n = n' + 1 := ⟨n - 1, by omega⟩
    have a0 := bA_le ρ c i k 0
    have a5 := bA_le ρ c i k 5
    rw [lL_areClaims_14, l_3, if_neg (pI_nle (by omega) (by omega)), gb V hi (by omega), Option.bind_some, Ba_n, show nI k + (1 : Int32) = nI (k + 1) from nI_ad k 1]
    by_cases q : nI (bA ρ c i k 0) - nI (bA ρ c i k 5) ≤ 0
    · have le := (y_le a0 a5).mp q
      have z1 : sub3 ρ c i 0 5 k = 0 := by unfold sub3; omega
      have z2 : sub3 ρ c i 5 0 k = bA ρ c i k 5 - bA ρ c i k 0 := rfl
      rw [if_pos q, Option.bind_some]
      by_cases q2 : 0 ≤ nI (bA ρ c i k 0) - nI (bA ρ c i k 5)
      · have ge := (y_ge a0 a5).mp q2
        rw [if_pos q2, ih (k + 1) n _ _ (by omega) (by omega), sN, sN, z1, z2, show bA ρ c i k 5 - bA ρ c i k 0 = 0 by omega, Nat.zero_add, Nat.zero_add, show x + (0 : Int32) = x from Int32.add_zero x, show y + (0 : Int32) = y from Int32.add_zero y]
      · have en : -(nI (bA ρ c i k 0) - nI (bA ρ c i k 5)) = nI (bA ρ c i k 5 - bA ρ c i k 0) := by
          rw [← mI_sb le (by omega), Int32.neg_sub]
        rw [if_neg q2, en, ih (k + 1) n _ _ (by omega) (by omega), sN, sN, z1, z2, Nat.zero_add, show x + (0 : Int32) = x from Int32.add_zero x, Int32.add_assoc, nI_ad]
    · have gt : bA ρ c i k 5 < bA ρ c i k 0 := Nat.not_le.mp fun w => q ((y_le a0 a5).mpr w)
      have z1 : sub3 ρ c i 0 5 k = bA ρ c i k 0 - bA ρ c i k 5 := rfl
      have z2 : sub3 ρ c i 5 0 k = 0 := by unfold sub3; omega
      rw [if_neg q, Option.bind_some, if_pos ((y_ge a0 a5).mpr (by omega)), mI_sb (by omega) (by omega), ih (k + 1) n _ _ (by omega) (by omega), sN, sN, z1, z2, Nat.zero_add, show y + (0 : Int32) = y from Int32.add_zero y, Int32.add_assoc, nI_ad]
theorem could_n {p m : Nat} (hp : p < 65536) (hm : m < 65536) (e : (nI p ||| nI m) = nI m) : nI p &&& (nI m ^^^ (-1 : Int32)) = 0 := by
  have hpm : p ||| m < 65536 := Nat.or_lt_two_pow (n := 16) hp hm
  rw [nO, mI_eq (by omega) (by omega), Nat.or_comm] at e
  rw [and_not, nA, Nat.and_comm]
  rw [or_l.mp e]
theorem claims_131 {M : Mem} {ρ : Nat → Int32} {h b g c n i : Nat} (V : Vi M ρ h b g c) (D : Gd ρ h b g c n) (hi : i < h) (sp : ∀ q, q < 3 → bA ρ c i q 0 ≤ bA ρ c i q 5 ∨ ∀ x, c - 200 ≤ x → x < c → ¬ El ρ i q (x % 200)) : ∀ (m j n : Nat), j + m = c → c - 200 ≤ j → m < n → lL_areClaims_131 (nI i) M n true (nI j) = some true := by
  have hc := V.2.2.2.1.1
  have W := D.1
  obtain ⟨d, d1, d2, GK⟩ := D.2.2.2.1
  obtain ⟨mk, mk1, mk2, mk3⟩ := mark_v W.1 hi
  have e0 : gL_household (nI i) 0 M = some (nI mk) := by rw [← mk3]; exact gh V (k := 0) hi (by omega)
  intro m
  induction m with
  | zero =>
    intro j n h1 h0 h2
    obtain ⟨n, rfl⟩ : ∃ n', n = n' + 1 := ⟨n - 1, by omega⟩
    rw [lL_areClaims_131, g7 V W.2.2.1, Option.bind_some, if_pos (pI_le (by omega) (by omega))]
  | succ m ih =>
    intro j n h1 h0 h2
    obtain ⟨n, rfl⟩ : ∃ n', n = n' + 1 := ⟨n - 1, by omega⟩
    have hjr : j % 200 < min c 200 := by have := Nat.mod_lt j (show 0 < 200 by omega); have := Nat.mod_le j 200; omega
    obtain ⟨-, ⟨k, k1, k2⟩, -, -, ⟨p, z, p1, -, -, p2, -⟩, -⟩ := GK.1 _ hjr
    have f5 : gL_loaf (nI j) 5 M = some (ρ (201 + 7 * (j % 200) + 5)) := gf V (k := 5) (by omega) h0 (by omega)
    have f4 : gL_loaf (nI j) 4 M = some (nI p) := by rw [← p2]; exact gf V (k := 4) (by omega) h0 (by omega)
    have f1 : gL_loaf (nI j) 1 M = some (nI k) := by rw [← k2]; exact gf V (k := 1) (by omega) h0 (by omega)
    have nx1 : lL_areClaims_131 (nI i) M n true (nI j + 1) = some true := by
      rw [show nI j + (1 : Int32) = nI (j + 1) from nI_ad j 1]; exact ih (j + 1) n (by omega) (by omega) (by omega)
    rw [lL_areClaims_131, g7 V W.2.2.1, Option.bind_some, if_neg (pI_nle (by omega) (by omega)), if_pos rfl, f5, Option.bind_some, e0, f4, Option.bind_some, Option.bind_some, Option.bind_some, l_8]
    by_cases q : ρ (201 + 7 * (j % 200) + 5) = nI 8
    · rw [if_pos q]
      by_cases q2 : (nI p ||| nI mk) = nI mk
      · rw [if_pos q2, Option.bind_some, if_pos rfl, f1, Option.bind_some, gb V hi k1, Option.bind_some, Ba_n]
        have le : bA ρ c i k 0 ≤ bA ρ c i k 5 := by
          rcases sp k k1 with w | w
          · exact w
          · exact absurd ⟨k2, q, by rw [p2, mk3]; exact could_n p1 mk2 q2⟩ (w j h0 (by omega))
        rw [if_neg (Int32.not_lt.mpr ((y_le (bA_le _ _ _ _ _) (bA_le _ _ _ _ _)).mpr le))]
        exact nx1
      · rw [if_neg q2, Option.bind_some, if_neg (by decide)]
        exact nx1
    · rw [if_neg q, Option.bind_some, if_neg (by decide)]
      exact nx1
theorem claims_264 {M : Mem} {ρ : Nat → Int32} {h b g c i : Nat} (V : Vi M ρ h b g c) (hi : i < h) (sp : ∀ q, q < 3 → bA ρ c i q 5 ≤ bA ρ c i q 0) : ∀ (m k n : Nat), k + m = 3 → m < n → lL_areClaims_264 (nI i) M n true (nI k) = some true := by
  intro m
  induction m with
  | zero =>
    intro k n h1 h2
    obtain ⟨n, rfl⟩ : ∃ n', n = n' + 1 := ⟨n - 1, by omega⟩
    rw [lL_areClaims_264, l_3, if_pos (pI_le (by omega) (by omega))]
  | succ m ih =>
    intro k n h1 h2
    obtain ⟨n, rfl⟩ : ∃ n', n = n' + 1 := ⟨n - 1, by omega⟩
    rw [lL_areClaims_264, l_3, if_neg (pI_nle (by omega) (by omega)), if_pos rfl, gb V hi (by omega), Option.bind_some, Ba_n, if_neg (Int32.not_lt.mpr ((y_ge (bA_le _ _ _ _ _) (bA_le _ _ _ _ _)).mpr (sp k (by omega)))), show nI k + (1 : Int32) = nI (k + 1) from nI_ad k 1]
    exact ih (k + 1) n (by omega) (by omega)
theorem sN_3 (f : Nat → Nat) : sN f 0 3 = f 0 + f 1 + f 2 := by
  show f 0 + (f 1 + (f 2 + 0)) = _
  omega
theorem areClaims_v {M : Mem} {ρ : Nat → Int32} {h b g c n i : Nat} {past : Nat → Nat → Int32} {s l : Nat} (H : S31 M ρ h b g c n past s l) (hi : i < h) : ∃ M' past' s' l', fL_areClaims (nI i) M = some (true, M') ∧ S31 M' ρ h b g c n past' s' l' := by
  obtain ⟨M1, p1, q1⟩ := print_v H.1 H.2.1.1
  have H1 := H.pq q1
  have hs4 : s ≤ 4 := H.2.2.1.1
  have e14 := bal_14 H1.1 hi 3 0 FUEL 0 0 (by omega) (fuel8 (by omega))
  rw [Int32.zero_add, Int32.zero_add] at e14
  have w10 : ∀ {M' : Mem} {ρ' : Nat → Int32}, Vi M' ρ' h b g c → Wr ρ' h b c → gL_whole 10 M' = some (nI (cH ρ' c 8)) := fun V' W' => by rw [← wv10 _ h b g c]; exact gw V' W'.2.2.1 (k := 10) (by omega)
  obtain ⟨T, S, M2, ρ2, past2, a1, H2, a3, -, a5, a6⟩ := claim_x H1 hi
  have k8 := cH_k ρ c 8
  have hm : min c 200 ≤ 200 := Nat.min_le_right _ _
  have hS := a5.2.2.1.1
  have hT : ∀ q, q < 3 → T q ≤ sub3 ρ c i 0 5 q := fun q hq => by
    have o := (a5.2.2.2.1 q hq).2
    have := (a6 q hq).2
    unfold sub3
    omega
  have hS3 := a5.2.2.2.2
  have hsum : S ≤ sN (sub3 ρ c i 0 5) 0 3 := by
    have := hT 0 (by omega); have := hT 1 (by omega); have := hT 2 (by omega)
    rw [sN_3]; omega
  have hb3 : sN (sub3 ρ c i 0 5) 0 3 ≤ 600 := by
    have h1 : ∀ k, sub3 ρ c i 0 5 k ≤ 200 := fun k => by unfold sub3; have := bA_le ρ c i k 0; omega
    have := h1 0; have := h1 1; have := h1 2
    rw [sN_3]; omega
  have hW2 := H2.2.1.1
  obtain ⟨T', S', M3, ρ3, past3, b1, H3, b3, b4, b5, b6⟩ := return_x H2 hi
  have hW3 := H3.2.1.1
  have own2 := a5.own i
  have own3 := b5.own i
  -- what is too much goes back
  have hT' : ∀ q, q < 3 → T' q = sub3 ρ c i 5 0 q := fun q hq => by
    have o := (a5.2.2.2.1 q hq).2
    have o' := (b5.2.2.2.1 q hq).1
    have x1 := (a6 q hq).2
    have x2 := b6 q hq
    rw [own2 q] at x2
    unfold sub3
    omega
  have hS' : S' = sN (sub3 ρ c i 5 0) 0 3 := by
    have := hT' 0 (by omega); have := hT' 1 (by omega); have := hT' 2 (by omega)
    have := b5.2.2.2.2
    rw [sN_3]; omega
  have hsh := b5.2.2.1.2
  have k8' := cH_k ρ3 c 8
  have e131 := claims_131 H2.1 H2.2.1 hi (fun q hq => by rw [own2 q]; exact (a6 q hq).1) (min c 200) (c - 200) FUEL (by omega) (Nat.le_refl _) (fuel8 (by omega))
  have e264 := claims_264 H3.1 hi (fun q hq => by rw [own3 q]; exact (b6 q hq).1) 3 0 FUEL (by omega) (fuel8 (by omega))
  -- back twice
  have s2 : 1 ≤ min 4 (s + 1) := by omega
  have s3 : 2 ≤ min 4 (min 4 (s + 1) + 1) := by omega
  obtain ⟨M4, c1, H4⟩ := undo_s H3 (by omega) b3 H2.1
  have e5 : past3 (min 4 (min 4 (s + 1) + 1) - 1 - 1) = ρ := by
    rw [show min 4 (min 4 (s + 1) + 1) - 1 - 1 = min 4 (min 4 (s + 1) + 1) - 2 by omega, b4 s2]; exact a3
  obtain ⟨M5, d1, H5⟩ := undo_s H4 (by omega) e5 H1.1
  obtain ⟨M6, p6, q6⟩ := print_v H5.1 H5.2.1.1
  refine ⟨M6, _, _, _, ?_, H5.pq q6⟩
  have gc1 : gL_claim (nI i) M1 = some (nI S, M2) := rT_r a1
  have gr1 : gL_returnLoaves (nI i) M2 = some (nI S', M3) := rT_r b1
  have hc := H.1.2.2.2.1.1
  unfold fL_areClaims
  refine bo p1 (un2i ?_)
  refine bo e14 (un2i ?_)
  refine bo (w10 H1.1 H1.2.1.1) ?_
  refine bo gc1 (un2i ?_)
  refine bo (v := true) ?_ ?_
  · rw [if_neg (show ¬ nI S < 0 from mI_nn (by omega)), if_neg (pI_nlt hsum (by omega)), w10 H2.1 hW2, Option.bind_some, mI_sb (by omega) (by omega), if_pos (by rw [show cH ρ c 8 - S = cH ρ2 c 8 by omega])]
  refine bo (g7 H2.1 hW2.2.2.1) ?_
  refine bo (g9 H2.1 hW2.2.2.1) ?_
  rw [first_n hc]
  refine bo e131 ?_
  refine bo (v := (true, M3)) ?_ (un2i ?_)
  · rw [if_pos rfl]
    refine bo gr1 (un2i ?_)
    rw [if_pos (by rw [hS'])]
    refine bo (w10 H3.1 hW3) ?_
    rw [mI_sb (by omega) (by omega), nI_ad, if_pos (by rw [← hS', hsh, show cH ρ c 8 - S = cH ρ2 c 8 by omega])]
  refine bo e264 ?_
  rw [if_pos rfl]
  refine bo c1 (un2i ?_)
  rw [if_neg (show ¬ nI _ < 0 from mI_nn (by omega))]
  refine bo d1 (un2i ?_)
  rw [if_neg (show ¬ nI _ < 0 from mI_nn (by omega))]
  refine bo p6 (un2i ?_)
  rw [if_pos rfl]
