/-! claims and returns: both sides, loaf by loaf -/
def Hc (ρ ρ' : Nat → Int32) (c : Nat) : Prop := (∀ k, k < 201 → ρ' k = ρ k) ∧ (RLv ρ c → RLv ρ' c)
theorem Hc.rf (ρ : Nat → Int32) (c : Nat) : Hc ρ ρ c := ⟨fun _ _ => rfl, fun h => h⟩
theorem Hc.tr {ρ σ τ : Nat → Int32} {c : Nat} (h : Hc ρ σ c) (g : Hc σ τ c) : Hc ρ τ c := ⟨fun k hk => (g.1 k hk).trans (h.1 k hk), fun w => g.2 (h.2 w)⟩
theorem Hc.pt (ρ : Nat → Int32) {c r : Nat} {x : Int32} (hx : x = NG ∨ ∃ y, y ≤ 8 ∧ x = nI y) : Hc ρ (ru ρ (201 + 7 * r + 5) x) c := ⟨fun k hk => ru_ne _ (by omega), fun w r' h1 h2 => by
  by_cases e : r' = r
  · subst e; rw [ru_at]; exact hx
  · rw [ru_ne _ (by omega)]; exact w r' h1 h2⟩
theorem Hc.wr {ρ ρ' : Nat → Int32} {h b c : Nat} (hh : h ≤ 8) (hb : b ≤ 20) (H : Hc ρ ρ' c) (W : Wr ρ h b c) : Wr ρ' h b c :=
  ⟨W.1.cg hh fun k _ _ => H.1 k (by omega), W.2.1.cg hb fun k _ _ => H.1 k (by omega), H.2 W.2.2.1, W.2.2.2.cg fun k _ => H.1 k (by omega)⟩
theorem give_c {M : Mem} {j : Nat} (hj : j < 2 ^ 31) (x : Int32) : fX6_give 23 (nI j) x M = some (mput M (26 + 5) (j % 200) x) := by
  have h1 : j % 200 < 200 := Nat.mod_lt _ (by omega)
  unfold fX6_give
  rw [l_200, mI_md (by omega) (by omega), l_5]
  show (fX7_put 24 7 200 _ _ _ M).bind _ = _
  rw [X7_put (by omega) (by omega) h1 (by omega)]; rfl
theorem cl_in {h b g c i : Nat} (hi : i < h) (kd : Int32) : ∀ (m j n : Nat) (a y : Int32) (M : Mem) (ρ : Nat → Int32), Vi M ρ h b g c → j + m = c → m < n → ∃ r M' ρ', lX6_moveFromShelf_26 23 (nI i) (ρ (9 + 4 * i + 0)) kd n a y (nI j) M = some (r, M') ∧ Vi M' ρ' h b g c ∧ Hc ρ ρ' c ∧ Fc M M' ∧ ∀ N, Ro N ρ → ∃ N', lX12_claims_23 (nI i) kd n a y (nI j) N = some (r, N') ∧ Ro N' ρ' ∧ Fr N N' := by
  intro m
  induction m with
  | zero =>
    intro j n a y M ρ V h1 h2
    obtain ⟨n, rfl⟩ : ∃ n', n = n' + 1 := ⟨n - 1, by omega⟩
    have L := V.2.2.2.1
    have hc := L.1
    refine ⟨a, M, ρ, ?_, V, Hc.rf ρ c, Fc.rf M, fun N R => ⟨N, ?_, R, Fr.rf N⟩⟩
    · rw [lX6_moveFromShelf_26, L.2.1, if_pos (pI_le (by omega) (by omega))]
    · rw [lX12_claims_23, l_5, R.at (by omega), Option.bind_some, L.2.2.1, if_pos (pI_le (by omega) (by omega))]
  | succ m ih =>
    intro j n a y M ρ V h1 h2
    obtain ⟨n, rfl⟩ : ∃ n', n = n' + 1 := ⟨n - 1, by omega⟩
    have L := V.2.2.2.1
    have hc := L.1
    have hh := V.1.1
    have hj : j % 200 < 200 := Nat.mod_lt _ (by omega)
    have ec : lX6_moveFromShelf_26 23 (nI i) (ρ (9 + 4 * i + 0)) kd (n + 1) a y (nI j) M = if y ≤ 0 then some (a, M) else if ρ (201 + 7 * (j % 200) + 1) = kd then (if ρ (201 + 7 * (j % 200) + 5) = nI 8 then (if ρ (201 + 7 * (j % 200) + 4) &&& (ρ (9 + 4 * i + 0) ^^^ (-1 : Int32)) = 0 then lX6_moveFromShelf_26 23 (nI i) (ρ (9 + 4 * i + 0)) kd n (a + 1) (y + (-1)) (nI (j + 1)) (mput M (26 + 5) (j % 200) (nI i)) else lX6_moveFromShelf_26 23 (nI i) (ρ (9 + 4 * i + 0)) kd n a y (nI (j + 1)) M) else lX6_moveFromShelf_26 23 (nI i) (ρ (9 + 4 * i + 0)) kd n a y (nI (j + 1)) M) else lX6_moveFromShelf_26 23 (nI i) (ρ (9 + 4 * i + 0)) kd n a y (nI (j + 1)) M := by
      rw [lX6_moveFromShelf_26, L.2.1, if_neg (pI_nle (by omega) (by omega))]
      rw [show fX6_value 23 (nI j) 1 M = some _ from L.val (k := 1) (by omega) (by omega), Option.bind_some, show fX6_value 23 (nI j) 5 M = some _ from L.val (k := 5) (by omega) (by omega), Option.bind_some, show fX6_value 23 (nI j) 4 M = some _ from L.val (k := 4) (by omega) (by omega), Option.bind_some, give_c (by omega), Option.bind_some, show nI j + (1 : Int32) = nI (j + 1) from nI_ad j 1, l_8]
      unfold fX11_contains
      by_cases e : ρ (201 + 7 * (j % 200) + 4) &&& (ρ (9 + 4 * i + 0) ^^^ (-1 : Int32)) = 0
      · rw [if_pos e, if_pos e, Option.bind_some, if_pos rfl]
      · rw [if_neg e, if_neg e, Option.bind_some, if_neg (show ¬ false = true by decide)]
    have er : ∀ N, Ro N ρ → lX12_claims_23 (nI i) kd (n + 1) a y (nI j) N = if y ≤ 0 then some (a, N) else if ρ (201 + 7 * (j % 200) + 1) = kd then (if ρ (201 + 7 * (j % 200) + 5) = nI 8 then (if ρ (201 + 7 * (j % 200) + 4) &&& (ρ (9 + 4 * i + 0) ^^^ (-1 : Int32)) = 0 then lX12_claims_23 (nI i) kd n (a + 1) (y + (-1)) (nI (j + 1)) (mput N 179 (201 + 7 * (j % 200) + 5) (nI i)) else lX12_claims_23 (nI i) kd n a y (nI (j + 1)) N) else lX12_claims_23 (nI i) kd n a y (nI (j + 1)) N) else lX12_claims_23 (nI i) kd n a y (nI (j + 1)) N := fun N R => by
      rw [lX12_claims_23, show ald (N.1 179) 1601 5 = some (ρ 5) from R.at (k := 5) (by omega), Option.bind_some, L.2.2.1, if_neg (pI_nle (by omega) (by omega))]
      rw [show fX12_loafOf (nI j) 1 N = some _ from R.loaf (k := 1) (by omega) (by omega), Option.bind_some, show fX12_loafOf (nI j) 5 N = some _ from R.loaf (k := 5) (by omega) (by omega), Option.bind_some, show fX12_loafOf (nI j) 4 N = some _ from R.loaf (k := 4) (by omega) (by omega), Option.bind_some, show fX12_of (nI i) 0 N = some _ from R.of (k := 0) (by omega) (by omega), Option.bind_some, loafAt_n (by omega), Option.bind_some, show nI (201 + 7 * (j % 200)) + (5 : Int32) = nI (201 + 7 * (j % 200) + 5) from nI_ad _ 5, ast_n (by omega) (by omega), Option.bind_some, show nI j + (1 : Int32) = nI (j + 1) from nI_ad j 1, l_8]
    have same : ∃ r M' ρ', lX6_moveFromShelf_26 23 (nI i) (ρ (9 + 4 * i + 0)) kd n a y (nI (j + 1)) M = some (r, M') ∧ Vi M' ρ' h b g c ∧ Hc ρ ρ' c ∧ Fc M M' ∧ ∀ N, Ro N ρ → ∃ N', lX12_claims_23 (nI i) kd n a y (nI (j + 1)) N = some (r, N') ∧ Ro N' ρ' ∧ Fr N N' := ih (j + 1) n a y M ρ V (by omega) (by omega)
    by_cases c0 : y ≤ 0
    · refine ⟨a, M, ρ, by rw [ec, if_pos c0], V, Hc.rf ρ c, Fc.rf M, fun N R => ⟨N, by rw [er N R, if_pos c0], R, Fr.rf N⟩⟩
    by_cases c1 : ρ (201 + 7 * (j % 200) + 1) = kd
    · by_cases c2 : ρ (201 + 7 * (j % 200) + 5) = nI 8
      · by_cases c3 : ρ (201 + 7 * (j % 200) + 4) &&& (ρ (9 + 4 * i + 0) ^^^ (-1 : Int32)) = 0
        · have V1 := V.ptL hj (show 5 < 7 by omega) (nI i)
          obtain ⟨r, M', ρ', a1, a2, a3, a4, a5⟩ := ih (j + 1) n (a + 1) (y + (-1)) _ _ V1 (by omega) (by omega)
          rw [ru_ne _ (by omega)] at a1
          refine ⟨r, M', ρ', by rw [ec, if_neg c0, if_pos c1, if_pos c2, if_pos c3]; exact a1, a2, (Hc.pt ρ (Or.inr ⟨i, by omega, rfl⟩)).tr a3, (Fc.pt M _ (by omega)).tr a4, fun N R => ?_⟩
          obtain ⟨N', b1, b2, b3⟩ := a5 _ (R.pt _ (nI i))
          exact ⟨N', by rw [er N R, if_neg c0, if_pos c1, if_pos c2, if_pos c3]; exact b1, b2, (Fr.pt N _).tr b3⟩
        · obtain ⟨r, M', ρ', a1, a2, a3, a4, a5⟩ := same
          refine ⟨r, M', ρ', by rw [ec, if_neg c0, if_pos c1, if_pos c2, if_neg c3]; exact a1, a2, a3, a4, fun N R => ?_⟩
          obtain ⟨N', b1, b2⟩ := a5 N R
          exact ⟨N', by rw [er N R, if_neg c0, if_pos c1, if_pos c2, if_neg c3]; exact b1, b2⟩
      · obtain ⟨r, M', ρ', a1, a2, a3, a4, a5⟩ := same
        refine ⟨r, M', ρ', by rw [ec, if_neg c0, if_pos c1, if_neg c2]; exact a1, a2, a3, a4, fun N R => ?_⟩
        obtain ⟨N', b1, b2⟩ := a5 N R
        exact ⟨N', by rw [er N R, if_neg c0, if_pos c1, if_neg c2]; exact b1, b2⟩
    · obtain ⟨r, M', ρ', a1, a2, a3, a4, a5⟩ := same
      refine ⟨r, M', ρ', by rw [ec, if_neg c0, if_neg c1]; exact a1, a2, a3, a4, fun N R => ?_⟩
      obtain ⟨N', b1, b2⟩ := a5 N R
      exact ⟨N', by rw [er N R, if_neg c0, if_neg c1]; exact b1, b2⟩
theorem cl_out {h b g c i : Nat} (hi : i < h) : ∀ (m k n : Nat) (a : Int32) (M : Mem) (ρ : Nat → Int32), Vi M ρ h b g c → k + m = 3 → m < n → ∃ r M' ρ', lX6_moveFromShelf_5 23 (nI i) (ρ (9 + 4 * i + 0)) n a (nI k) M = some (r, M') ∧ Vi M' ρ' h b g c ∧ Hc ρ ρ' c ∧ Fc M M' ∧ ∀ N, Ro N ρ → ∃ N', lX12_claims_4 (nI i) n a (nI k) N = some (r, N') ∧ Ro N' ρ' ∧ Fr N N' := by
  intro m
  induction m with
  | zero =>
    intro k n a M ρ V h1 h2
    obtain ⟨n, rfl⟩ : ∃ n', n = n' + 1 := ⟨n - 1, by omega⟩
    refine ⟨a, M, ρ, ?_, V, Hc.rf ρ c, Fc.rf M, fun N R => ⟨N, ?_, R, Fr.rf N⟩⟩
    · rw [lX6_moveFromShelf_5, l_3, if_pos (pI_le (by omega) (by omega))]
    · rw [lX12_claims_4, l_3, if_pos (pI_le (by omega) (by omega))]
  | succ m ih =>
    intro k n a M ρ V h1 h2
    obtain ⟨n, rfl⟩ : ∃ n', n = n' + 1 := ⟨n - 1, by omega⟩
    have L := V.2.2.2.1
    have hc := L.1
    have hm : min c 200 ≤ 200 := Nat.min_le_right _ _
    obtain ⟨r, M', ρ', a1, a2, a3, a4, a5⟩ := cl_in hi (nI k) (min c 200) (c - 200) FUEL a (Ba ρ c (nI i) (nI k)) M ρ V (by omega) (fuel8 (by omega))
    obtain ⟨r2, M2, ρ2, d1, d2, d3, d4, d5⟩ := ih (k + 1) n r M' ρ' a2 (by omega) (by omega)
    rw [a3.1 _ (by have := V.1.1; omega)] at d1
    refine ⟨r2, M2, ρ2, ?_, d2, a3.tr d3, a4.tr d4, fun N R => ?_⟩
    · rw [lX6_moveFromShelf_5, l_3, if_neg (pI_nle (by omega) (by omega)), L.bal, Option.bind_some, L.first, Option.bind_some, a1, Option.bind_some]
      show lX6_moveFromShelf_5 23 (nI i) (ρ (9 + 4 * i + 0)) n r (nI k + 1) M' = _
      rw [show nI k + (1 : Int32) = nI (k + 1) from nI_ad k 1]
      exact d1
    · obtain ⟨N', b1, b2, b3⟩ := a5 N R
      obtain ⟨N2, f1, f2, f3⟩ := d5 N' b2
      refine ⟨N2, ?_, f2, b3.tr f3⟩
      rw [lX12_claims_4, l_3, if_neg (pI_nle (by omega) (by omega)), R.bal hc L.2.2.1, Option.bind_some, first_r R hc L.2.2.1, Option.bind_some, b1, Option.bind_some]
      show lX12_claims_4 (nI i) n r (nI k + 1) N' = _
      rw [show nI k + (1 : Int32) = nI (k + 1) from nI_ad k 1]
      exact f1
theorem op_claim {M : Mem} {ρ : Nat → Int32} {h b g c i : Nat} (V : Vi M ρ h b g c) (W : Wr ρ h b c) (hi : i < h) : Opp (fX9_letClaim 1 (nI i)) (fX12_claims (nI i)) M ρ c := by
  obtain ⟨r, M', ρ', a1, a2, a3, a4, a5⟩ := cl_out hi 3 0 FUEL 0 M ρ V (by omega) (fuel8 (by omega))
  refine ⟨r, M', ρ', h, b, g, c, ?_, a2, a3.wr V.1.1 V.2.1.1 W, by omega, a4, fun N R => ?_⟩
  · unfold fX9_letClaim fX4_value fX6_moveFromShelf
    show ((fX7_get 3 4 8 _ _ M).bind _).bind _ = _
    rw [l_0, V.1.gt hi (by omega), Option.bind_some, Option.bind_some]
    show ((lX6_moveFromShelf_5 23 (nI i) (ρ (9 + 4 * i + 0)) FUEL 0 (nI 0) M).bind _).bind _ = _
    rw [a1]; rfl
  · obtain ⟨N', b1, b2, b3⟩ := a5 N R
    refine ⟨N', ?_, b2, b3⟩
    unfold fX12_claims
    show (lX12_claims_4 (nI i) FUEL 0 (nI 0) N).bind _ = _
    rw [b1]; rfl
/-! returns: from the latest loaf down -/
theorem dn_lt {f : Nat} (hf : f < 2 ^ 31) : nI f - 1 < nI f := by
  by_cases h : f = 0
  · subst h; decide
  · rw [l_1, mI_sb (by omega) hf]; exact pI_lt (by omega) hf
theorem dn_s (f m : Nat) : nI (f + (m + 1)) - 1 = nI (f + m) := by
  rw [show f + (m + 1) = f + m + 1 by omega, ← nI_ad (f + m) 1, l_1, Int32.add_sub_cancel]
theorem rt_in {h b g c i : Nat} (hi : i < h) (kd : Int32) : ∀ (m n : Nat) (a y : Int32) (M : Mem) (ρ : Nat → Int32), Vi M ρ h b g c → c - 200 + m ≤ c → m < n → ∃ r M' ρ', lX6_moveToShelf_25 23 (nI i) kd n a y (nI (c - 200 + m) - 1) M = some (r, M') ∧ Vi M' ρ' h b g c ∧ Hc ρ ρ' c ∧ Fc M M' ∧ ∀ N, Ro N ρ → ∃ N', lX12_returns_27 (nI i) kd n a y (nI (c - 200 + m) - 1) N = some (r, N') ∧ Ro N' ρ' ∧ Fr N N' := by
  intro m
  induction m with
  | zero =>
    intro n a y M ρ V h1 h2
    obtain ⟨n, rfl⟩ : ∃ n', n = n' + 1 := ⟨n - 1, by omega⟩
    have L := V.2.2.2.1
    have hc := L.1
    refine ⟨a, M, ρ, ?_, V, Hc.rf ρ c, Fc.rf M, fun N R => ⟨N, ?_, R, Fr.rf N⟩⟩
    · rw [lX6_moveToShelf_25, L.first, Option.bind_some, Nat.add_zero, if_pos (dn_lt (by omega))]
    · rw [lX12_returns_27, first_r R hc L.2.2.1, Option.bind_some, Nat.add_zero, if_pos (dn_lt (by omega))]
  | succ m ih =>
    intro n a y M ρ V h1 h2
    obtain ⟨n, rfl⟩ : ∃ n', n = n' + 1 := ⟨n - 1, by omega⟩
    have L := V.2.2.2.1
    have hc := L.1
    have hh := V.1.1
    rw [dn_s]
    obtain ⟨j, hj0⟩ : ∃ j, j = c - 200 + m := ⟨_, rfl⟩
    rw [← hj0]
    have hj : j % 200 < 200 := Nat.mod_lt _ (by omega)
    have en : nI j + (-1 : Int32) = nI (c - 200 + m) - 1 := by rw [Int32.sub_eq_add_neg, hj0]
    have ec : lX6_moveToShelf_25 23 (nI i) kd (n + 1) a y (nI j) M = if 0 ≤ y then some (a, M) else if ρ (201 + 7 * (j % 200) + 1) = kd then (if ρ (201 + 7 * (j % 200) + 5) = nI i then (if ρ (201 + 7 * (j % 200) + 0) = nI i then lX6_moveToShelf_25 23 (nI i) kd n a y (nI (c - 200 + m) - 1) M else lX6_moveToShelf_25 23 (nI i) kd n (a + 1) (y + 1) (nI (c - 200 + m) - 1) (mput M (26 + 5) (j % 200) (nI 8))) else lX6_moveToShelf_25 23 (nI i) kd n a y (nI (c - 200 + m) - 1) M) else lX6_moveToShelf_25 23 (nI i) kd n a y (nI (c - 200 + m) - 1) M := by
      rw [lX6_moveToShelf_25, L.first, Option.bind_some, if_neg (pI_nlt (by omega) (by omega))]
      rw [show fX6_value 23 (nI j) 1 M = some _ from L.val (k := 1) (by omega) (by omega), Option.bind_some, show fX6_value 23 (nI j) 5 M = some _ from L.val (k := 5) (by omega) (by omega), Option.bind_some, show fX6_value 23 (nI j) 0 M = some _ from L.val (k := 0) (by omega) (by omega), Option.bind_some, give_c (by omega), Option.bind_some, en]
      rfl
    have er : ∀ N, Ro N ρ → lX12_returns_27 (nI i) kd (n + 1) a y (nI j) N = if 0 ≤ y then some (a, N) else if ρ (201 + 7 * (j % 200) + 1) = kd then (if ρ (201 + 7 * (j % 200) + 5) = nI i then (if ρ (201 + 7 * (j % 200) + 0) = nI i then lX12_returns_27 (nI i) kd n a y (nI (c - 200 + m) - 1) N else lX12_returns_27 (nI i) kd n (a + 1) (y + 1) (nI (c - 200 + m) - 1) (mput N 179 (201 + 7 * (j % 200) + 5) (nI 8))) else lX12_returns_27 (nI i) kd n a y (nI (c - 200 + m) - 1) N) else lX12_returns_27 (nI i) kd n a y (nI (c - 200 + m) - 1) N := fun N R => by
      rw [lX12_returns_27, first_r R hc L.2.2.1, Option.bind_some, if_neg (pI_nlt (by omega) (by omega))]
      rw [show fX12_loafOf (nI j) 1 N = some _ from R.loaf (k := 1) (by omega) (by omega), Option.bind_some, show fX12_loafOf (nI j) 5 N = some _ from R.loaf (k := 5) (by omega) (by omega), Option.bind_some, show fX12_loafOf (nI j) 0 N = some _ from R.loaf (k := 0) (by omega) (by omega), Option.bind_some, loafAt_n (by omega), Option.bind_some, show nI (201 + 7 * (j % 200)) + (5 : Int32) = nI (201 + 7 * (j % 200) + 5) from nI_ad _ 5, ast_n (by omega) (by omega), Option.bind_some, en]
      rfl
    have same := ih n a y M ρ V (by omega) (by omega)
    by_cases c0 : 0 ≤ y
    · refine ⟨a, M, ρ, by rw [ec, if_pos c0], V, Hc.rf ρ c, Fc.rf M, fun N R => ⟨N, by rw [er N R, if_pos c0], R, Fr.rf N⟩⟩
    by_cases c1 : ρ (201 + 7 * (j % 200) + 1) = kd
    · by_cases c2 : ρ (201 + 7 * (j % 200) + 5) = nI i
      · by_cases c3 : ρ (201 + 7 * (j % 200) + 0) = nI i
        · obtain ⟨r, M', ρ', a1, a2, a3, a4, a5⟩ := same
          refine ⟨r, M', ρ', by rw [ec, if_neg c0, if_pos c1, if_pos c2, if_pos c3]; exact a1, a2, a3, a4, fun N R => ?_⟩
          obtain ⟨N', b1, b2⟩ := a5 N R
          exact ⟨N', by rw [er N R, if_neg c0, if_pos c1, if_pos c2, if_pos c3]; exact b1, b2⟩
        · have V1 := V.ptL hj (show 5 < 7 by omega) (nI 8)
          obtain ⟨r, M', ρ', a1, a2, a3, a4, a5⟩ := ih n (a + 1) (y + 1) _ _ V1 (by omega) (by omega)
          refine ⟨r, M', ρ', by rw [ec, if_neg c0, if_pos c1, if_pos c2, if_neg c3]; exact a1, a2, (Hc.pt ρ (Or.inr ⟨8, by omega, rfl⟩)).tr a3, (Fc.pt M _ (by omega)).tr a4, fun N R => ?_⟩
          obtain ⟨N', b1, b2, b3⟩ := a5 _ (R.pt _ (nI 8))
          exact ⟨N', by rw [er N R, if_neg c0, if_pos c1, if_pos c2, if_neg c3]; exact b1, b2, (Fr.pt N _).tr b3⟩
      · obtain ⟨r, M', ρ', a1, a2, a3, a4, a5⟩ := same
        refine ⟨r, M', ρ', by rw [ec, if_neg c0, if_pos c1, if_neg c2]; exact a1, a2, a3, a4, fun N R => ?_⟩
        obtain ⟨N', b1, b2⟩ := a5 N R
        exact ⟨N', by rw [er N R, if_neg c0, if_pos c1, if_neg c2]; exact b1, b2⟩
    · obtain ⟨r, M', ρ', a1, a2, a3, a4, a5⟩ := same
      refine ⟨r, M', ρ', by rw [ec, if_neg c0, if_neg c1]; exact a1, a2, a3, a4, fun N R => ?_⟩
      obtain ⟨N', b1, b2⟩ := a5 N R
      exact ⟨N', by rw [er N R, if_neg c0, if_neg c1]; exact b1, b2⟩
theorem rt_out {h b g c i : Nat} (hi : i < h) : ∀ (m k n : Nat) (a : Int32) (M : Mem) (ρ : Nat → Int32), Vi M ρ h b g c → k + m = 3 → m < n → ∃ r M' ρ', lX6_moveToShelf_4 23 (nI i) n a (nI k) M = some (r, M') ∧ Vi M' ρ' h b g c ∧ Hc ρ ρ' c ∧ Fc M M' ∧ ∀ N, Ro N ρ → ∃ N', lX12_returns_4 (nI i) n a (nI k) N = some (r, N') ∧ Ro N' ρ' ∧ Fr N N' := by
  intro m
  induction m with
  | zero =>
    intro k n a M ρ V h1 h2
    obtain ⟨n, rfl⟩ : ∃ n', n = n' + 1 := ⟨n - 1, by omega⟩
    refine ⟨a, M, ρ, ?_, V, Hc.rf ρ c, Fc.rf M, fun N R => ⟨N, ?_, R, Fr.rf N⟩⟩
    · rw [lX6_moveToShelf_4, l_3, if_pos (pI_le (by omega) (by omega))]
    · rw [lX12_returns_4, l_3, if_pos (pI_le (by omega) (by omega))]
  | succ m ih =>
    intro k n a M ρ V h1 h2
    obtain ⟨n, rfl⟩ : ∃ n', n = n' + 1 := ⟨n - 1, by omega⟩
    have L := V.2.2.2.1
    have hc := L.1
    have hm : min c 200 ≤ 200 := Nat.min_le_right _ _
    have ce : c - 200 + min c 200 = c := by omega
    obtain ⟨r, M', ρ', a1, a2, a3, a4, a5⟩ := rt_in hi (nI k) (min c 200) FUEL a (Ba ρ c (nI i) (nI k)) M ρ V (by omega) (fuel8 (by omega))
    rw [ce] at a1
    obtain ⟨r2, M2, ρ2, d1, d2, d3, d4, d5⟩ := ih (k + 1) n r M' ρ' a2 (by omega) (by omega)
    refine ⟨r2, M2, ρ2, ?_, d2, a3.tr d3, a4.tr d4, fun N R => ?_⟩
    · rw [lX6_moveToShelf_4, l_3, if_neg (pI_nle (by omega) (by omega)), L.bal, Option.bind_some, L.2.1, a1, Option.bind_some]
      show lX6_moveToShelf_4 23 (nI i) n r (nI k + 1) M' = _
      rw [show nI k + (1 : Int32) = nI (k + 1) from nI_ad k 1]
      exact d1
    · obtain ⟨N', b1, b2, b3⟩ := a5 N R
      rw [ce] at b1
      obtain ⟨N2, f1, f2, f3⟩ := d5 N' b2
      refine ⟨N2, ?_, f2, b3.tr f3⟩
      rw [lX12_returns_4, l_3, if_neg (pI_nle (by omega) (by omega)), R.bal hc L.2.2.1, Option.bind_some, show ald (N.1 179) 1601 5 = some (ρ 5) from R.at (k := 5) (by omega), Option.bind_some, L.2.2.1, b1, Option.bind_some]
      show lX12_returns_4 (nI i) n r (nI k + 1) N' = _
      rw [show nI k + (1 : Int32) = nI (k + 1) from nI_ad k 1]
      exact f1
theorem op_return {M : Mem} {ρ : Nat → Int32} {h b g c i : Nat} (V : Vi M ρ h b g c) (W : Wr ρ h b c) (hi : i < h) : Opp (fX6_moveToShelf 23 (nI i)) (fX12_returns (nI i)) M ρ c := by
  obtain ⟨r, M', ρ', a1, a2, a3, a4, a5⟩ := rt_out hi 3 0 FUEL 0 M ρ V (by omega) (fuel8 (by omega))
  refine ⟨r, M', ρ', h, b, g, c, ?_, a2, a3.wr V.1.1 V.2.1.1 W, by omega, a4, fun N R => ?_⟩
  · unfold fX6_moveToShelf
    show (lX6_moveToShelf_4 23 (nI i) FUEL 0 (nI 0) M).bind _ = _
    rw [a1]; rfl
  · obtain ⟨N', b1, b2, b3⟩ := a5 N R
    refine ⟨N', ?_, b2, b3⟩
    unfold fX12_returns
    show (lX12_returns_4 (nI i) FUEL 0 (nI 0) N).bind _ = _
    rw [b1]; rfl
