/-! the hash: both sides -/
def Nh (N : Mem) (x : Int64) : Mem := mputL N 178 14 x
theorem Nh_1 (N : Mem) (x : Int64) : (Nh N x).1 = N.1 := rfl
theorem mix_r (N : Mem) (x y : Int64) : fX12_mix y (Nh N x) = some (Nh N (31 * x + y)) := by
  unfold fX12_mix pfL
  rw [Option.bind_some]
  congr 1
  unfold Nh mputL
  refine Prod.ext rfl ?_
  funext a b
  by_cases h : a = 178 ∧ b = 14
  · simp [h]
  · simp [h]
theorem Ro.nh {N : Mem} {ρ : Nat → Int32} (R : Ro N ρ) (x : Int64) : Ro (Nh N x) ρ := R
theorem mix_c (x y : Int64) : fX11_mix x y = some (31 * x + y) := rfl
theorem dg_whole {M : Mem} {ρ : Nat → Int32} {h b g c : Nat} (V : Vi M ρ h b g c) (W : RLv ρ c) : ∀ (m k n n2 : Nat) (a : Int64), k + m = 14 → m < n → m < n2 → ∃ r, lX11_digest_42 M n a (nI k) = some (Sum.inr r) ∧ ∀ N, Ro N ρ → lX12_digest_41 n2 (nI k) (Nh N a) = some (Nh N r) := by
  intro m
  induction m with
  | zero =>
    intro k n n2 a h1 h2 h3
    obtain ⟨n, rfl⟩ : ∃ n', n = n' + 1 := ⟨n - 1, by omega⟩
    obtain ⟨n2, rfl⟩ : ∃ n', n2 = n' + 1 := ⟨n2 - 1, by omega⟩
    exact ⟨a, by rw [lX11_digest_42, l_14, if_pos (pI_le (by omega) (by omega))], fun N R => by rw [lX12_digest_41, l_14, if_pos (pI_le (by omega) (by omega))]⟩
  | succ m ih =>
    intro k n n2 a h1 h2 h3
    obtain ⟨n, rfl⟩ : ∃ n', n = n' + 1 := ⟨n - 1, by omega⟩
    obtain ⟨n2, rfl⟩ : ∃ n', n2 = n' + 1 := ⟨n2 - 1, by omega⟩
    obtain ⟨v, e1, e2⟩ := whole_ok V W (show k < 14 by omega)
    obtain ⟨r, q1, q2⟩ := ih (k + 1) n n2 (31 * a + v.toInt64) (by omega) (by omega) (by omega)
    refine ⟨r, ?_, fun N R => ?_⟩
    · rw [lX11_digest_42, l_14, if_neg (pI_nle (by omega) (by omega)), e1, Option.bind_some]
      simp only [xc]
      rw [mix_c, Option.bind_some, l_1, nI_ad]
      exact q1
    · rw [lX12_digest_41, l_14, if_neg (pI_nle (by omega) (by omega)), e2 _ (R.nh a), Option.bind_some, mix_r, Option.bind_some, l_1, nI_ad]
      exact q2 N R
theorem dg_h1 {M : Mem} {ρ : Nat → Int32} {h b g c i : Nat} (V : Vi M ρ h b g c) (hi : i < h) : ∀ (m k n n2 : Nat) (a : Int64), k + m = 8 → m < n → m < n2 → ∃ r, lX11_mixHouseholds_23 M (nI i) n a (nI k) = some (Sum.inr r) ∧ ∀ N, Ro N ρ → lX12_digest_77 (nI i) n2 (nI k) (Nh N a) = some (Nh N r) := by
  intro m
  induction m with
  | zero =>
    intro k n n2 a h1 h2 h3
    obtain ⟨n, rfl⟩ : ∃ n', n = n' + 1 := ⟨n - 1, by omega⟩
    obtain ⟨n2, rfl⟩ : ∃ n', n2 = n' + 1 := ⟨n2 - 1, by omega⟩
    exact ⟨a, by rw [lX11_mixHouseholds_23, l_8, if_pos (pI_le (by omega) (by omega))], fun N R => by rw [lX12_digest_77, l_8, if_pos (pI_le (by omega) (by omega))]⟩
  | succ m ih =>
    intro k n n2 a h1 h2 h3
    obtain ⟨n, rfl⟩ : ∃ n', n = n' + 1 := ⟨n - 1, by omega⟩
    obtain ⟨n2, rfl⟩ : ∃ n', n2 = n' + 1 := ⟨n2 - 1, by omega⟩
    obtain ⟨v, e1, e2⟩ := house_ok V hi (show k < 8 by omega)
    obtain ⟨r, q1, q2⟩ := ih (k + 1) n n2 (31 * a + v.toInt64) (by omega) (by omega) (by omega)
    refine ⟨r, ?_, fun N R => ?_⟩
    · rw [lX11_mixHouseholds_23, l_8, if_neg (pI_nle (by omega) (by omega)), e1, Option.bind_some]
      simp only [xc]
      rw [mix_c, Option.bind_some, l_1, nI_ad]
      exact q1
    · rw [lX12_digest_77, l_8, if_neg (pI_nle (by omega) (by omega)), e2 _ (R.nh a), Option.bind_some, mix_r, Option.bind_some, l_1, nI_ad]
      exact q2 N R
theorem dg_h2 {M : Mem} {ρ : Nat → Int32} {h b g c i : Nat} (V : Vi M ρ h b g c) (hi : i < h) : ∀ (m k n n2 : Nat) (a : Int64), k + m = 3 → m < n → m < n2 → ∃ r, lX11_mixHouseholds_64 M (nI i) n a (nI k) = some (Sum.inr r) ∧ ∀ N, Ro N ρ → lX12_digest_111 (nI i) n2 (nI k) (Nh N a) = some (Nh N r) := by
  intro m
  induction m with
  | zero =>
    intro k n n2 a h1 h2 h3
    obtain ⟨n, rfl⟩ : ∃ n', n = n' + 1 := ⟨n - 1, by omega⟩
    obtain ⟨n2, rfl⟩ : ∃ n', n2 = n' + 1 := ⟨n2 - 1, by omega⟩
    exact ⟨a, by rw [lX11_mixHouseholds_64, l_3, if_pos (pI_le (by omega) (by omega))], fun N R => by rw [lX12_digest_111, l_3, if_pos (pI_le (by omega) (by omega))]⟩
  | succ m ih =>
    intro k n n2 a h1 h2 h3
    obtain ⟨n, rfl⟩ : ∃ n', n = n' + 1 := ⟨n - 1, by omega⟩
    obtain ⟨n2, rfl⟩ : ∃ n', n2 = n' + 1 := ⟨n2 - 1, by omega⟩
    have L := V.2.2.2.1
    obtain ⟨r, q1, q2⟩ := ih (k + 1) n n2 (31 * a + (Ba ρ c (nI i) (nI k)).toInt64) (by omega) (by omega) (by omega)
    refine ⟨r, ?_, fun N R => ?_⟩
    · rw [lX11_mixHouseholds_64, l_3, if_neg (pI_nle (by omega) (by omega)), bal_ok V hi (show k < 3 by omega), Option.bind_some]
      simp only [xc]
      rw [mix_c, Option.bind_some, l_1, nI_ad]
      exact q1
    · rw [lX12_digest_111, l_3, if_neg (pI_nle (by omega) (by omega)), (R.nh a).bal L.1 L.2.2.1, Option.bind_some, mix_r, Option.bind_some, l_1, nI_ad]
      exact q2 N R
theorem dg_h {M : Mem} {ρ : Nat → Int32} {h b g c : Nat} (V : Vi M ρ h b g c) : ∀ (m i n n2 : Nat) (a : Int64), i + m = h → m < n → m < n2 → ∃ r, lX11_mixHouseholds_5 M n a (nI i) = some (Sum.inr r) ∧ ∀ N, Ro N ρ → lX12_digest_65 n2 (nI i) (Nh N a) = some (Nh N r) := by
  intro m
  have H := V.1
  have hh := H.1
  induction m with
  | zero =>
    intro k n n2 a h1 h2 h3
    obtain ⟨n, rfl⟩ : ∃ n', n = n' + 1 := ⟨n - 1, by omega⟩
    obtain ⟨n2, rfl⟩ : ∃ n', n2 = n' + 1 := ⟨n2 - 1, by omega⟩
    refine ⟨a, ?_, fun N R => ?_⟩
    · rw [lX11_mixHouseholds_5]
      unfold fX4_size
      rw [Option.bind_some, H.2.1, if_pos (pI_le (by omega) (by omega))]
    · rw [lX12_digest_65, l_0, (R.nh a).at (by omega), Option.bind_some, H.2.2.1, if_pos (pI_le (by omega) (by omega))]
  | succ m ih =>
    intro i n n2 a h1 h2 h3
    obtain ⟨n, rfl⟩ : ∃ n', n = n' + 1 := ⟨n - 1, by omega⟩
    obtain ⟨n2, rfl⟩ : ∃ n', n2 = n' + 1 := ⟨n2 - 1, by omega⟩
    have hi : i < h := by omega
    obtain ⟨r1, e1, e2⟩ := dg_h1 V hi 8 0 FUEL FUEL a (by omega) (fuel8 (by omega)) (fuel8 (by omega))
    obtain ⟨r2, f1, f2⟩ := dg_h2 V hi 3 0 FUEL FUEL (31 * r1 + Du ρ h i) (by omega) (fuel8 (by omega)) (fuel8 (by omega))
    obtain ⟨r, q1, q2⟩ := ih (i + 1) n n2 r2 (by omega) (by omega) (by omega)
    have ed : fX11_due (nI i) M = some (Sum.inr (Du ρ h i)) := by
      unfold fX11_due
      rw [who1 H, if_pos (who_i hi hh), Option.bind_some, refuse_0, Option.bind_some]
      simp only [xc]
      rw [H.due hi]; rfl
    refine ⟨r, ?_, fun N R => ?_⟩
    · rw [lX11_mixHouseholds_5]
      unfold fX4_size
      rw [Option.bind_some, H.2.1, if_neg (pI_nle (by omega) (by omega)), l_0, e1, Option.bind_some]
      simp only [sB]
      rw [ed, Option.bind_some]
      simp only [xc]
      rw [mix_c, Option.bind_some, f1, Option.bind_some]
      simp only [sB]
      rw [l_1, nI_ad]
      exact q1
    · rw [lX12_digest_65, l_0, (R.nh a).at (by omega), Option.bind_some, H.2.2.1, if_neg (pI_nle (by omega) (by omega)), e2 N R, Option.bind_some, (R.nh r1).due H.2.2.1 hh hi, Option.bind_some, mix_r, Option.bind_some, f2 N R, Option.bind_some, l_1, nI_ad]
      exact q2 N R
/-! batches: the class's plan changes -/
def Pq (M M' : Mem) : Prop := (∀ q x, ¬ (33 ≤ q ∧ q < 45) → M'.1 q x = M.1 q x) ∧ M'.2 = M.2
theorem Pq.tr {a b c : Mem} (h : Pq a b) (g : Pq b c) : Pq a c := ⟨fun q x hq => (g.1 q x hq).trans (h.1 q x hq), g.2.trans h.2⟩
theorem Pq.vi {M M' : Mem} {ρ : Nat → Int32} {h b g c : Nat} (P : Pq M M') (V : Vi M ρ h b g c) : Vi M' ρ h b g c := V.cg (fun q x _ _ => P.1 q x (by omega)) (fun _ _ => rfl)
theorem dg_b1 {ρ : Nat → Int32} {h b g c i : Nat} (W : Wr ρ h b c) (hi : i < b) (hb : b ≤ 20) : ∀ (m k n n2 : Nat) (a : Int64) (M : Mem), Vi M ρ h b g c → k + m = 3 → m + 2 < n → m < n2 → ∃ r M', (∃ n', 1 < n' ∧ lX11_mixBatches_23 (nI i) n a (nI k) M = lX11_mixBatches_23 (nI i) n' r (nI 3) M') ∧ Pq M M' ∧ ∀ N, Ro N ρ → lX12_digest_163 (nI i) n2 (nI k) (Nh N a) = some (Nh N r) := by
  intro m
  induction m with
  | zero =>
    intro k n n2 a M V h1 h2 h3
    obtain ⟨n2, rfl⟩ : ∃ n', n2 = n' + 1 := ⟨n2 - 1, by omega⟩
    obtain rfl : k = 3 := by omega
    exact ⟨a, M, ⟨n, by omega, rfl⟩, ⟨fun _ _ _ => rfl, rfl⟩, fun N R => by rw [lX12_digest_163, l_3, if_pos (pI_le (by omega) (by omega))]⟩
  | succ m ih =>
    intro k n n2 a M V h1 h2 h3
    obtain ⟨n, rfl⟩ : ∃ n', n = n' + 1 := ⟨n - 1, by omega⟩
    obtain ⟨n2, rfl⟩ : ∃ n', n2 = n' + 1 := ⟨n2 - 1, by omega⟩
    obtain ⟨v, M1, e1, e2, e3, e4, -⟩ := batch_ok V W hi (show k < 4 by omega)
    have P1 : Pq M M1 := ⟨e2, e3⟩
    have ev := e4 (by omega)
    obtain ⟨r, M', ⟨n', hn', q1⟩, q2, q3⟩ := ih (k + 1) n n2 (31 * a + v.toInt64) M1 (P1.vi V) (by omega) (by omega) (by omega)
    refine ⟨r, M', ⟨n', hn', ?_⟩, P1.tr q2, fun N R => ?_⟩
    · rw [lX11_mixBatches_23, l_4, if_neg (pI_nle (by omega) (by omega)), e1, Option.bind_some]
      simp only [xc, un2]
      rw [mix_c, Option.bind_some, l_1, nI_ad]
      exact q1
    · rw [lX12_digest_163, l_3, if_neg (pI_nle (by omega) (by omega)), l_41, nI_ml', nI_ad, nI_ad, (R.nh a).at (by omega), Option.bind_some, mix_r, Option.bind_some, l_1, nI_ad, ← ev]
      exact q3 N R
theorem dg_b {ρ : Nat → Int32} {h b g c : Nat} (W : Wr ρ h b c) (hb : b ≤ 20) : ∀ (m i n n2 : Nat) (a : Int64) (M : Mem), Vi M ρ h b g c → i + m = b → m < n → m < n2 → ∃ r M', lX11_mixBatches_5 n a (nI i) M = some (Sum.inr (r, M')) ∧ Pq M M' ∧ ∀ N, Ro N ρ → lX12_digest_150 n2 (nI i) (Nh N a) = some (Nh N r) := by
  intro m
  induction m with
  | zero =>
    intro i n n2 a M V h1 h2 h3
    obtain ⟨n, rfl⟩ : ∃ n', n = n' + 1 := ⟨n - 1, by omega⟩
    obtain ⟨n2, rfl⟩ : ∃ n', n2 = n' + 1 := ⟨n2 - 1, by omega⟩
    refine ⟨a, M, ?_, ⟨fun _ _ _ => rfl, rfl⟩, fun N R => ?_⟩
    · rw [lX11_mixBatches_5]
      unfold fX1_size
      rw [Option.bind_some, V.2.1.2.1, if_pos (pI_le (by omega) (by omega))]
    · rw [lX12_digest_150, l_7, (R.nh a).at (by omega), Option.bind_some, V.2.1.2.2.1, if_pos (pI_le (by omega) (by omega))]
  | succ m ih =>
    intro i n n2 a M V h1 h2 h3
    obtain ⟨n, rfl⟩ : ∃ n', n = n' + 1 := ⟨n - 1, by omega⟩
    obtain ⟨n2, rfl⟩ : ∃ n', n2 = n' + 1 := ⟨n2 - 1, by omega⟩
    have hi : i < b := by omega
    obtain ⟨r1, M1, ⟨n', hn', e1⟩, e2, e3⟩ := dg_b1 W hi hb 3 0 FUEL FUEL a M V (by omega) (fuel8 (by omega)) (fuel8 (by omega))
    have V1 := e2.vi V
    obtain ⟨v, M2, f1, f2, f3, -, f5⟩ := batch_ok V1 W hi (show 3 < 4 by omega)
    have P2 : Pq M1 M2 := ⟨f2, f3⟩
    obtain ⟨r, M', q1, q2, q3⟩ := ih (i + 1) n n2 (31 * r1 + v.toInt64) M2 (P2.vi V1) (by omega) (by omega) (by omega)
    obtain ⟨n', rfl⟩ : ∃ n'', n' = n'' + 2 := ⟨n' - 2, by omega⟩
    refine ⟨r, M', ?_, (e2.tr P2).tr q2, fun N R => ?_⟩
    · have e4 : lX11_mixBatches_23 (nI i) FUEL a (nI 0) M = some (Sum.inr (31 * r1 + v.toInt64, M2)) := by
        have key : ∀ k, lX11_mixBatches_23 (nI i) (k + 2) r1 (nI 3) M1 = some (Sum.inr (31 * r1 + v.toInt64, M2)) := fun k => by
          rw [lX11_mixBatches_23, l_4, if_neg (pI_nle (by omega) (by omega)), f1, Option.bind_some]
          simp only [xc, un2]
          rw [mix_c, Option.bind_some, l_1, nI_ad, lX11_mixBatches_23, l_4, if_pos (pI_le (by omega) (by omega))]
        rw [e1]
        exact key n'
      rw [lX11_mixBatches_5]
      unfold fX1_size
      rw [Option.bind_some, V.2.1.2.1, if_neg (pI_nle (by omega) (by omega)), l_0, e4, Option.bind_some]
      simp only [sB, un2]
      rw [l_1, nI_ad]
      exact q1
    · rw [lX12_digest_150, l_7, (R.nh a).at (by omega), Option.bind_some, V.2.1.2.2.1, if_neg (pI_nle (by omega) (by omega)), l_0, e3 N R, Option.bind_some, f5 rfl _ (R.nh r1), Option.bind_some, mix_r, Option.bind_some, l_1, nI_ad]
      exact q3 N R
theorem dg_l1 {M : Mem} {ρ : Nat → Int32} {h b g c i : Nat} (V : Vi M ρ h b g c) (hi : i < c) (hi2 : c - 200 ≤ i) : ∀ (m k n n2 : Nat) (a : Int64), k + m = 7 → m < n → m < n2 → ∃ r, lX11_mixLoaves_40 M (nI i) n a (nI k) = some (Sum.inr r) ∧ ∀ N, Ro N ρ → lX12_digest_231 (nI i) n2 (nI k) (Nh N a) = some (Nh N r) := by
  intro m
  have hc := V.2.2.2.1.1
  induction m with
  | zero =>
    intro k n n2 a h1 h2 h3
    obtain ⟨n, rfl⟩ : ∃ n', n = n' + 1 := ⟨n - 1, by omega⟩
    obtain ⟨n2, rfl⟩ : ∃ n', n2 = n' + 1 := ⟨n2 - 1, by omega⟩
    exact ⟨a, by rw [lX11_mixLoaves_40, l_7, if_pos (pI_le (by omega) (by omega))], fun N R => by rw [lX12_digest_231, l_7, if_pos (pI_le (by omega) (by omega))]⟩
  | succ m ih =>
    intro k n n2 a h1 h2 h3
    obtain ⟨n, rfl⟩ : ∃ n', n = n' + 1 := ⟨n - 1, by omega⟩
    obtain ⟨n2, rfl⟩ : ∃ n', n2 = n' + 1 := ⟨n2 - 1, by omega⟩
    obtain ⟨r, q1, q2⟩ := ih (k + 1) n n2 (31 * a + (ρ (201 + 7 * (i % 200) + k)).toInt64) (by omega) (by omega) (by omega)
    refine ⟨r, ?_, fun N R => ?_⟩
    · rw [lX11_mixLoaves_40, l_7, if_neg (pI_nle (by omega) (by omega)), loaf_ok V hi hi2 (show k < 7 by omega), Option.bind_some]
      simp only [xc]
      rw [mix_c, Option.bind_some, l_1, nI_ad]
      exact q1
    · rw [lX12_digest_231, l_7, if_neg (pI_nle (by omega) (by omega)), (R.nh a).loaf (by omega) (by omega), Option.bind_some, mix_r, Option.bind_some, l_1, nI_ad]
      exact q2 N R
theorem dg_l {M : Mem} {ρ : Nat → Int32} {h b g c : Nat} (V : Vi M ρ h b g c) : ∀ (m i n n2 : Nat) (a : Int64), i + m = c → c - 200 ≤ i → m < n → m < n2 → ∃ r, lX11_mixLoaves_14 M n a (nI i) = some (Sum.inr r) ∧ ∀ N, Ro N ρ → lX12_digest_213 n2 (nI i) (Nh N a) = some (Nh N r) := by
  intro m
  have L := V.2.2.2.1
  have hc := L.1
  induction m with
  | zero =>
    intro i n n2 a h1 h4 h2 h3
    obtain ⟨n, rfl⟩ : ∃ n', n = n' + 1 := ⟨n - 1, by omega⟩
    obtain ⟨n2, rfl⟩ : ∃ n', n2 = n' + 1 := ⟨n2 - 1, by omega⟩
    refine ⟨a, ?_, fun N R => ?_⟩
    · rw [lX11_mixLoaves_14]
      unfold fX6_cameOut
      rw [Option.bind_some, L.2.1, if_pos (pI_le (by omega) (by omega))]
    · rw [lX12_digest_213, l_5, (R.nh a).at (by omega), Option.bind_some, L.2.2.1, if_pos (pI_le (by omega) (by omega))]
  | succ m ih =>
    intro i n n2 a h1 h4 h2 h3
    obtain ⟨n, rfl⟩ : ∃ n', n = n' + 1 := ⟨n - 1, by omega⟩
    obtain ⟨n2, rfl⟩ : ∃ n', n2 = n' + 1 := ⟨n2 - 1, by omega⟩
    obtain ⟨r1, e1, e2⟩ := dg_l1 V (show i < c by omega) h4 7 0 FUEL FUEL (31 * a + (nI i).toInt64) (by omega) (fuel8 (by omega)) (fuel8 (by omega))
    obtain ⟨r, q1, q2⟩ := ih (i + 1) n n2 r1 (by omega) (by omega) (by omega) (by omega)
    refine ⟨r, ?_, fun N R => ?_⟩
    · rw [lX11_mixLoaves_14]
      unfold fX6_cameOut
      rw [Option.bind_some, L.2.1, if_neg (pI_nle (by omega) (by omega)), mix_c, Option.bind_some, l_0, e1, Option.bind_some]
      simp only [sB]
      rw [l_1, nI_ad]
      exact q1
    · rw [lX12_digest_213, l_5, (R.nh a).at (by omega), Option.bind_some, L.2.2.1, if_neg (pI_nle (by omega) (by omega)), mix_r, Option.bind_some, l_0, e2 N R, Option.bind_some, l_1, nI_ad]
      exact q2 N R
theorem dg_o1 {M : Mem} {ρ : Nat → Int32} {h b g c i : Nat} (V : Vi M ρ h b g c) (hi : i < g) : ∀ (m k n n2 : Nat) (a : Int64), k + m = 5 → m < n → ∃ r, lX11_mixLoads_23 M (nI i) n a (nI k) = some (Sum.inr r) ∧ ∀ N, Ro N ρ → lX12_digest_262 (n2 + m) (nI (5 * i + k)) (Nh N a) = lX12_digest_262 n2 (nI (5 * i + 5)) (Nh N r) := by
  intro m
  have G := V.2.2.1
  have hg := G.1
  induction m with
  | zero =>
    intro k n n2 a h1 h2
    obtain ⟨n, rfl⟩ : ∃ n', n = n' + 1 := ⟨n - 1, by omega⟩
    obtain rfl : k = 5 := by omega
    exact ⟨a, by rw [lX11_mixLoads_23, l_5, if_pos (pI_le (by omega) (by omega))], fun N R => rfl⟩
  | succ m ih =>
    intro k n n2 a h1 h2
    obtain ⟨n, rfl⟩ : ∃ n', n = n' + 1 := ⟨n - 1, by omega⟩
    obtain ⟨r, q1, q2⟩ := ih (k + 1) n n2 (31 * a + (ρ (101 + 5 * i + k)).toInt64) (by omega) (by omega)
    refine ⟨r, ?_, fun N R => ?_⟩
    · rw [lX11_mixLoads_23, l_5, if_neg (pI_nle (by omega) (by omega)), load_ok V hi (show k < 5 by omega), Option.bind_some]
      simp only [xc]
      rw [mix_c, Option.bind_some, l_1, nI_ad]
      exact q1
    · rw [show n2 + (m + 1) = (n2 + m) + 1 by omega, lX12_digest_262, l_8, (R.nh a).at (by omega), Option.bind_some, G.2.2.1, l_5, nI_ml', if_neg (pI_nle (by omega) (by omega)), l_101, nI_ad, (R.nh a).at (by omega), Option.bind_some, mix_r, Option.bind_some, l_1, nI_ad, show 101 + (5 * i + k) = 101 + 5 * i + k by omega, show 5 * i + k + 1 = 5 * i + (k + 1) by omega]
      exact q2 N R
theorem dg_o {M : Mem} {ρ : Nat → Int32} {h b g c : Nat} (V : Vi M ρ h b g c) : ∀ (m i n n2 : Nat) (a : Int64), i + m = g → m < n → 5 * m < n2 → ∃ r, lX11_mixLoads_5 M n a (nI i) = some (Sum.inr r) ∧ ∀ N, Ro N ρ → lX12_digest_262 n2 (nI (5 * i)) (Nh N a) = some (Nh N r) := by
  intro m
  have G := V.2.2.1
  have hg := G.1
  induction m with
  | zero =>
    intro i n n2 a h1 h2 h3
    obtain ⟨n, rfl⟩ : ∃ n', n = n' + 1 := ⟨n - 1, by omega⟩
    obtain ⟨n2, rfl⟩ : ∃ n', n2 = n' + 1 := ⟨n2 - 1, by omega⟩
    refine ⟨a, ?_, fun N R => ?_⟩
    · rw [lX11_mixLoads_5]
      unfold fX5_size
      rw [Option.bind_some, G.2.1, if_pos (pI_le (by omega) (by omega))]
    · rw [lX12_digest_262, l_8, (R.nh a).at (by omega), Option.bind_some, G.2.2.1, l_5, nI_ml', if_pos (pI_le (by omega) (by omega))]
  | succ m ih =>
    intro i n n2 a h1 h2 h3
    obtain ⟨n, rfl⟩ : ∃ n', n = n' + 1 := ⟨n - 1, by omega⟩
    obtain ⟨n2, rfl⟩ : ∃ n', n2 = n' + 5 := ⟨n2 - 5, by omega⟩
    obtain ⟨r1, e1, e2⟩ := dg_o1 V (show i < g by omega) 5 0 FUEL n2 a (by omega) (fuel8 (by omega))
    obtain ⟨r, q1, q2⟩ := ih (i + 1) n n2 r1 (by omega) (by omega) (by omega)
    refine ⟨r, ?_, fun N R => ?_⟩
    · rw [lX11_mixLoads_5]
      unfold fX5_size
      rw [Option.bind_some, G.2.1, if_neg (pI_nle (by omega) (by omega)), l_0, e1, Option.bind_some]
      simp only [sB]
      rw [l_1, nI_ad]
      exact q1
    · have := e2 N R
      exact Eq.trans this (q2 N R)
theorem stp27 {n : Nat} {M : Mem} {h b g c s l t : Nat} (F : Fu n M h b g c s l t) : ∃ M3, LS27 M M3 ∧ Iv (n + 1) M3 := by
  have V := F.vi
  have W := F.2.1
  have H := V.1
  have L := V.2.2.2.1
  have hb := V.2.1.1
  have hg := V.2.2.1.1
  have hh := H.1
  have hm : min c 200 ≤ 200 := Nat.min_le_right _ _
  obtain ⟨ρ, hρ⟩ : ∃ ρ, ρ = M.1 179 := ⟨_, rfl⟩
  rw [← hρ] at V W H L
  obtain ⟨h0, hh0⟩ : ∃ h0 : Int64, h0 = 31 * (31 * (31 * 43087 + (nI s).toInt64) + (nI t).toInt64) + (M.1 0 4).toInt64 := ⟨_, rfl⟩
  obtain ⟨r1, a1, a2⟩ := dg_whole V W.2.2.1 14 0 FUEL FUEL h0 (by omega) (fuel8 (by omega)) (fuel8 (by omega))
  obtain ⟨r2, b1, b2⟩ := dg_h V h 0 FUEL FUEL r1 (by omega) (fuel8 (by omega)) (fuel8 (by omega))
  obtain ⟨r3, M1, c1, c2, c3⟩ := dg_b W hb b 0 FUEL FUEL (31 * r2 + (enc (nxt ρ h)).toInt64) M V (by omega) (fuel8 (by omega)) (fuel8 (by omega))
  have V1 := c2.vi V
  obtain ⟨r4, d1, d2⟩ := dg_l V1 (min c 200) (c - 200) FUEL FUEL r3 (by omega) (by omega) (fuel8 (by omega)) (fuel8 (by omega))
  obtain ⟨r5, e1, e2⟩ := dg_o V1 g 0 FUEL FUEL r4 (by omega) (fuel8 (by omega)) (fuel8 (by omega))
  obtain ⟨N0, hN0⟩ : ∃ N0, N0 = mput M1 178 4 0 := ⟨_, rfl⟩
  have n0 : ∀ q x, ¬ (33 ≤ q ∧ q < 45) → ¬ (q = 178 ∧ x = 4) → N0.1 q x = M.1 q x := fun q x q1 q2 => by rw [hN0, mput_at, if_neg q2]; exact c2.1 q x q1
  have R0 : Ro N0 ρ := fun k _ => by rw [n0 179 k (by omega) (by omega), hρ]
  obtain ⟨⟨-, U, h3⟩, -, -, -, X⟩ := id F
  refine ⟨Nh N0 (31 * r5 + (Lk ρ h).toInt64), ⟨31 * r5 + (Lk ρ h).toInt64, M1, ?_, ?_⟩, h, b, g, c, s, l, t, F.kp (fun q x q1 q2 q3 q4 q5 q6 => by rw [Nh_1, n0 q x q1 (by omega)]) (fun k _ => by rw [Nh_1, n0 179 k (by omega) (by omega)]) (fun x hx => by rw [Nh_1, n0 178 x (by omega) (by omega)])⟩
  · unfold fX11_digest fX8_size fX2_length fX11_stop
    rw [Option.bind_some, mix_c, Option.bind_some, Option.bind_some, mix_c, Option.bind_some, Option.bind_some, mix_c, Option.bind_some, U.2.2.1, X.2.2.1, ← hh0, l_0, a1, Option.bind_some]
    simp only [s0]
    unfold fX11_mixHouseholds
    rw [l_0, b1, Option.bind_some]
    simp only [s0]
    rw [Option.bind_some]
    simp only [xc]
    unfold fX11_nextForWood
    rw [H.next W.1, Option.bind_some, Option.bind_some, mix_c, Option.bind_some]
    unfold fX11_mixBatches
    rw [l_0, c1, Option.bind_some]
    simp only [s0, un2]
    rw [Option.bind_some]
    simp only [xc, un2]
    unfold fX11_mixLoaves
    rw [V1.2.2.2.1.first, Option.bind_some, d1, Option.bind_some]
    simp only [s0]
    rw [Option.bind_some]
    simp only [xc]
    unfold fX11_mixLoads
    rw [l_0, e1, Option.bind_some]
    simp only [s0]
    rw [Option.bind_some]
    simp only [xc]
    rw [V1.1.likes, Option.bind_some, mix_c, Option.bind_some]
  · unfold fX12_digest pf pfL
    rw [Option.bind_some, ← hN0, Option.bind_some, show mputL N0 178 14 43087 = Nh N0 43087 from rfl, mix_r, Option.bind_some, mix_r, Option.bind_some, mix_r, Option.bind_some, Nh_1, Nh_1, Nh_1, n0 178 3 (by omega) (by omega), h3, n0 178 6 (by omega) (by omega), X.2.2.2.1, n0 178 7 (by omega) (by omega), ← X.1, ← hh0, l_0, a2 N0 R0, Option.bind_some, b2 N0 R0, Option.bind_some, (R0.nh r2).next H.2.2.1 hh, Option.bind_some, mix_r, Option.bind_some, c3 N0 R0, Option.bind_some, first_r (R0.nh r3) L.1 L.2.2.1, Option.bind_some, d2 N0 R0, Option.bind_some, show lX12_digest_262 FUEL (nI 0) (Nh N0 r4) = some (Nh N0 r5) from e2 N0 R0, Option.bind_some, (R0.nh r5).likes H.2.2.1 hh, Option.bind_some, mix_r, Option.bind_some]
    congr 2
