/-! the law's third check: loads, and the batches' places -/
theorem pig : ∀ (b : Nat) (f : Nat → Nat), (∀ i, i < b → f i < b) → (∀ i j, i < b → j < b → f i = f j → i = j) → ∀ t, t < b → ∃ i, i < b ∧ f i = t := by
  intro b
  induction b with
  | zero => intro f _ _ t ht; exact absurd ht (Nat.not_lt_zero _)
  | succ b ih =>
    intro f hf inj t ht
    have fb := hf b (by omega)
    by_cases e : f b = b
    · by_cases et : t = b
      · exact ⟨b, by omega, by omega⟩
      · obtain ⟨i, i1, i2⟩ := ih f (fun i hi => by
          have h1 := hf i (by omega)
          have h2 : f i ≠ b := fun q => by have := inj i b (by omega) (by omega) (q.trans e.symm); omega
          omega) (fun i j hi hj => inj i j (by omega) (by omega)) t (by omega)
        exact ⟨i, by omega, i2⟩
    · obtain ⟨g, hg⟩ : ∃ g : Nat → Nat, ∀ i, g i = if f i = b then f b else f i := ⟨_, fun _ => rfl⟩
      have g1 : ∀ i, i < b → g i < b := fun i hi => by
        rw [hg]
        have h1 := hf i (by omega)
        split <;> omega
      have g2 : ∀ i j, i < b → j < b → g i = g j → i = j := fun i j hi hj q => by
        rw [hg, hg] at q
        by_cases q1 : f i = b
        · by_cases q2 : f j = b
          · exact inj i j (by omega) (by omega) (q1.trans q2.symm)
          · rw [if_pos q1, if_neg q2] at q
            have := inj b j (by omega) (by omega) q; omega
        · by_cases q2 : f j = b
          · rw [if_neg q1, if_pos q2] at q
            have := inj i b (by omega) (by omega) q; omega
          · rw [if_neg q1, if_neg q2] at q
            exact inj i j (by omega) (by omega) q
      by_cases et : t = f b
      · exact ⟨b, by omega, et.symm⟩
      · by_cases eb : t = b
        · obtain ⟨i, i1, i2⟩ := ih g g1 g2 (f b) (by omega)
          rw [hg] at i2
          by_cases q1 : f i = b
          · exact ⟨i, by omega, q1.trans eb.symm⟩
          · rw [if_neg q1] at i2
            have := inj i b (by omega) (by omega) i2; omega
        · obtain ⟨i, i1, i2⟩ := ih g g1 g2 t (by omega)
          rw [hg] at i2
          by_cases q1 : f i = b
          · rw [if_pos q1] at i2; exact absurd i2.symm et
          · rw [if_neg q1] at i2; exact ⟨i, by omega, i2⟩
theorem sub_int {a b : Nat} (ha : a < 2 ^ 31) (hb : b < 2 ^ 31) : (nI a - nI b).toInt = (a : Int) - b := by
  rw [Int32.toInt_sub, nI_int ha, nI_int hb]
  simp only [Int.bmod_def]
  omega
/-- the heat behind a load -/
theorem fall_v {t x v : Nat} (ht : t ≤ 400) (hx : x < 1000) (hv : v = max 20 (t - x)) : (if (20 : Int32) ≤ (nI t - nI x) then (if nI v = (nI t - nI x) then (some true : Option Bool) else (some false)) else (if nI v = (20 : Int32) then (some true) else (some false))) = some true := by
  have e := sub_int (a := t) (b := x) (by omega) (by omega)
  have e20 : (20 : Int32).toInt = 20 := by decide
  by_cases q : (20 : Int32) ≤ (nI t - nI x)
  · rw [if_pos q]
    rw [Int32.le_iff_toInt_le, e, e20] at q
    rw [mI_sb (by omega) (by omega), if_pos (by rw [hv, show max 20 (t - x) = t - x by omega])]
  · rw [if_neg q]
    rw [Int32.le_iff_toInt_le, e, e20] at q
    rw [hv, show max 20 (t - x) = 20 by omega, if_pos (show nI 20 = 20 from rfl)]
theorem load_36 {M : Mem} {ρ : Nat → Int32} {h b g c : Nat} (V : Vi M ρ h b g c) (W : Wr ρ h b c) {k m z t v : Nat → Nat} (G : ∀ i, i < g → (ρ (101 + 5 * i + 0) = nI (k i) ∧ ρ (101 + 5 * i + 1) = nI (m i) ∧ ρ (101 + 5 * i + 2) = nI (z i) ∧ ρ (101 + 5 * i + 3) = nI (t i) ∧ ρ (101 + 5 * i + 4) = nI (v i)) ∧ k i < 3 ∧ 1 ≤ m i ∧ m i ≤ z i ∧ z i ≤ 24 ∧ lo (k i) ≤ t i ∧ t i ≤ hg (k i) ∧ v i = fallP (t i) (k i) (z i)) (G2 : ∀ i, i + 1 < g → t (i + 1) ≤ v i) : ∀ (q i n a : Nat) (x : Int32), i + q = g → q < n → a < 2 ^ 31 → (i < g → t i ≤ a) → lL_areLoads_36 M n (nI a) x true (nI i) = some (x + nI (sN z i q), true) := by
  have hg' := V.2.2.1.1
  have w12 : gL_whole 12 M = some (nI g) := gw V W.2.2.1 (k := 12) (by omega)
  intro q
  induction q with
  | zero =>
    intro i n a x h1 h2 h3 h4
    obtain ⟨n, rfl⟩ : ∃ n', n = n' + 1 := ⟨n - 1, by omega⟩
    rw [lL_areLoads_36, w12, Option.bind_some, if_pos (pI_le (by omega) (by omega)), sN, sm_z]
  | succ q ih =>
    intro i n a x h1 h2 h3 h4
    obtain ⟨n, rfl⟩ : ∃ n', n = n' + 1 := ⟨n - 1, by omega⟩
    have hi : i < g := by omega
    obtain ⟨⟨a0, a1, a2, a3, a4⟩, c1, c2, c3, c4, c5, c6, c7⟩ := G i hi
    have gg : ∀ k', k' < 5 → gL_load (nI i) (nI k') M = some (ρ (101 + 5 * i + k')) := fun k' hk' => by
      rw [gl V (by omega) hk']; unfold lv'; rw [if_pos hi]
    have l0 : gL_load (nI i) 0 M = some (nI (k i)) := by rw [← a0]; exact gg 0 (by omega)
    have l1 : gL_load (nI i) 1 M = some (nI (m i)) := by rw [← a1]; exact gg 1 (by omega)
    have l2 : gL_load (nI i) 2 M = some (nI (z i)) := by rw [← a2]; exact gg 2 (by omega)
    have l3 : gL_load (nI i) 3 M = some (nI (t i)) := by rw [← a3]; exact gg 3 (by omega)
    have l4 : gL_load (nI i) 4 M = some (nI (v i)) := by rw [← a4]; exact gg 4 (by omega)
    have hv : v i < 2 ^ 31 := by rw [c7]; unfold fallP; have := (lo_le (k i)).2.1; omega
    have e26 : (if nI (k i) = 0 then (some (260 : Int32)) else (if nI (k i) = (1 : Int32) then (some (180 : Int32)) else (some (90 : Int32)))) = some (nI (lo (k i))) := by
      rcases (show k i = 0 ∨ k i = 1 ∨ k i = 2 by omega) with e | e | e <;> rw [e] <;> rfl
    have e29 : (if nI (k i) = 0 then (some (400 : Int32)) else (if nI (k i) = (1 : Int32) then (some (300 : Int32)) else (some (200 : Int32)))) = some (nI (hg (k i))) := by
      rcases (show k i = 0 ∨ k i = 1 ∨ k i = 2 by omega) with e | e | e <;> rw [e] <;> rfl
    have e32 : (if nI (k i) = 0 then (some (2 : Int32)) else (if nI (k i) = (1 : Int32) then (some (5 : Int32)) else (some (8 : Int32)))) = some (nI (tks (k i))) := by
      rcases (show k i = 0 ∨ k i = 1 ∨ k i = 2 by omega) with e | e | e <;> rw [e] <;> rfl
    obtain ⟨b1, b2, b3⟩ := lo_le (k i)
    have hx : tks (k i) * (5 + z i / 8) < 1000 := Nat.lt_of_le_of_lt (Nat.mul_le_mul b3 (show 5 + z i / 8 ≤ 8 by omega)) (by omega)
    have eF := fall_v (t := t i) (x := tks (k i) * (5 + z i / 8)) (v := v i) (by omega) hx c7
    have ed : nI (tks (k i)) * ((5 : Int32) + nI (z i) / (8 : Int32)) = nI (tks (k i) * (5 + z i / 8)) := by
      rw [l_8, mI_dv (by omega) (by omega), l_5, nI_ad, nI_ml']
    rw [lL_areLoads_36, w12, Option.bind_some, if_neg (pI_nle hi (by omega)), if_pos rfl, l0, Option.bind_some, l2, Option.bind_some, l3, Option.bind_some, l4, Option.bind_some, e26, Option.bind_some, e29, Option.bind_some, e32, Option.bind_some, if_neg (pI_nlt c5 (by omega)), if_neg (pI_nlt c6 (by omega)), if_neg (pI_nlt (h4 hi) h3), if_neg (show ¬ nI (z i) ≤ 0 from pI_nle (b := 0) (by omega) (by omega)), l_24, if_neg (pI_nlt c4 (by omega)), l1, Option.bind_some, if_neg (show ¬ nI (m i) < 1 from pI_nlt (a := m i) (b := 1) c2 (by omega)), Option.bind_some, if_neg (pI_nlt c3 (by omega)), ed, eF, Option.bind_some, show nI i + (1 : Int32) = nI (i + 1) from nI_ad i 1, ih (i + 1) n (v i) _ (by omega) (by omega) hv (fun w => G2 i w), sN, Int32.add_assoc, nI_ad]
/-- the places taken so far, as bits -/
def pB (f : Nat → Nat) : Nat → Nat
  | 0 => 0
  | j + 1 => pB f j ||| 2 ^ f j
theorem pB_bit (f : Nat → Nat) (t : Nat) : ∀ j, (pB f j).testBit t = true ↔ ∃ i, i < j ∧ f i = t := by
  intro j
  induction j with
  | zero => simp [pB]
  | succ j ih =>
    rw [pB, Nat.testBit_or, Bool.or_eq_true, ih, Nat.testBit_two_pow]
    constructor
    · rintro (⟨i, h1, h2⟩ | h)
      · exact ⟨i, by omega, h2⟩
      · exact ⟨j, by omega, of_decide_eq_true h⟩
    · rintro ⟨i, h1, h2⟩
      by_cases e : i = j
      · subst e; exact Or.inr (decide_eq_true h2)
      · exact Or.inl ⟨i, by omega, h2⟩
theorem pB_full {f : Nat → Nat} {b : Nat} (h1 : ∀ i, i < b → f i < b) (h2 : ∀ i j, i < b → j < b → f i = f j → i = j) : pB f b = 2 ^ b - 1 := by
  apply Nat.eq_of_testBit_eq
  intro t
  rw [Nat.testBit_two_pow_sub_one]
  by_cases ht : t < b
  · rw [decide_eq_true ht]; exact (pB_bit f t b).mpr (pig b f h1 h2 t ht)
  · rw [decide_eq_false ht]
    cases hq : (pB f b).testBit t with
    | false => rfl
    | true =>
      obtain ⟨i, i1, i2⟩ := (pB_bit f t b).mp hq
      have := h1 i i1
      omega
theorem load_276 {ρ : Nat → Int32} {h b g c : Nat} (W : Wr ρ h b c) {f : Nat → Nat} (hf : ∀ i, i < b → bv ρ h b i 3 = nI (f i) ∧ f i < b) : ∀ (m j n : Nat) (M : Mem), Vi M ρ h b g c → j + m = b → m < n → ∃ M', lL_areLoads_276 n true (nI (pB f j)) (nI j) M = some (true, nI (pB f b), M') ∧ Pq M M' := by
  intro m
  induction m with
  | zero =>
    intro j n M V h1 h2
    obtain ⟨n, rfl⟩ : ∃ n', n = n' + 1 := ⟨n - 1, by omega⟩
    have hb := V.2.1.1
    obtain rfl : j = b := by omega
    refine ⟨M, ?_, Pq.rf M⟩
    rw [lL_areLoads_276, show gL_whole 3 M = some (nI j) from gw V W.2.2.1 (k := 3) (by omega), Option.bind_some, if_pos (pI_le (by omega) (by omega))]
  | succ m ih =>
    intro j n M V h1 h2
    obtain ⟨n, rfl⟩ : ∃ n', n = n' + 1 := ⟨n - 1, by omega⟩
    have hb := V.2.1.1
    have hh := V.1.1
    have hj : j < b := by omega
    obtain ⟨f1, f2⟩ := hf j hj
    obtain ⟨⟨a, a1, a2⟩, ⟨k, k1, k2⟩, ⟨z, z1, z2, z3⟩⟩ := W.2.1 j hj
    obtain ⟨M1, p1, q1⟩ := gq V W (i := j) (k := 3) (by omega) (by omega)
    have V1 := q1.vi V
    obtain ⟨M2, p2, q2⟩ := gq V1 W (i := j) (k := 0) (by omega) (by omega)
    have V2 := q2.vi V1
    obtain ⟨M3, p3, q3⟩ := gq V2 W (i := j) (k := 1) (by omega) (by omega)
    have V3 := q3.vi V2
    obtain ⟨M4, p4, q4⟩ := gq V3 W (i := j) (k := 2) (by omega) (by omega)
    have V4 := q4.vi V3
    obtain ⟨M5, p5, q5⟩ := gq V4 W (i := j) (k := 2) (by omega) (by omega)
    have V5 := q5.vi V4
    have b0 : bv ρ h b j 0 = nI a := by unfold bv; rw [if_pos hj, if_pos (by omega)]; exact a2
    have b1 : bv ρ h b j 1 = nI k := by unfold bv; rw [if_pos hj, if_pos (by omega)]; exact k2
    have b2 : bv ρ h b j 2 = nI z := by unfold bv; rw [if_pos hj, if_pos (by omega)]; exact z3
    rw [f1] at p1
    rw [b0] at p2
    rw [b1] at p3
    rw [b2] at p4 p5
    obtain ⟨M6, p6, q6⟩ := ih (j + 1) n M5 V5 (by omega) (by omega)
    refine ⟨M6, ?_, ((((q1.tr q2).tr q3).tr q4).tr q5).tr q6⟩
    have ep : nI (pB f j) ||| ((1 : Int32) <<< (nI (f j) &&& 31)) = nI (pB f (j + 1)) := by
      rw [shl1 (f j) (by omega), nO]; rfl
    rw [lL_areLoads_276, show gL_whole 3 M = some (nI b) from gw V W.2.2.1 (k := 3) (by omega), Option.bind_some, if_neg (pI_nle hj (by omega)), if_pos rfl, show gL_batch (nI j) 3 M = _ from p1, Option.bind_some]
    refine un2i ?_
    rw [show gL_batch (nI j) 0 M1 = _ from p2, Option.bind_some]
    refine un2i ?_
    rw [show gL_whole 0 M2 = some (nI h) from gw V2 W.2.2.1 (k := 0) (by omega), Option.bind_some, if_neg (pI_nle a1 (by omega)), show gL_batch (nI j) 1 M2 = _ from p3, Option.bind_some]
    refine un2i ?_
    rw [l_3, if_neg (pI_nle k1 (by omega)), show gL_batch (nI j) 2 M3 = _ from p4, Option.bind_some]
    refine un2i ?_
    rw [if_neg (show ¬ nI z ≤ 0 from pI_nle (b := 0) (by omega) (by omega)), show gL_batch (nI j) 2 M4 = _ from p5, Option.bind_some]
    refine un2i ?_
    rw [l_13, if_neg (pI_nle (by omega) (by omega)), ep, show nI j + (1 : Int32) = nI (j + 1) from nI_ad j 1]
    exact p6
theorem pos_f {ρ : Nat → Int32} {h b c : Nat} (hh : h ≤ 8) (W : Wr ρ h b c) : ∃ f : Nat → Nat, (∀ i, i < b → bv ρ h b i 3 = nI (f i) ∧ f i < b) ∧ ∀ i j, i < b → j < b → f i = f j → i = j := by
  refine ⟨fun i => pos (hbq ρ) h ((nxt ρ h).getD 0) b i, fun i hi => ?_, fun i j hi hj q => ?_⟩
  · have hh0 : 0 < h := by obtain ⟨⟨a, ha, -⟩, -⟩ := W.2.1 i hi; omega
    obtain ⟨f, hf, hn⟩ := nxt_some W.1 hh0
    refine ⟨by unfold bv; rw [if_pos hi, if_neg (by omega)], ?_⟩
    dsimp only
    rw [hn]
    exact (Od_at (hbq ρ) hf (fun i hi => (bq_h hh W.2.1 (i := i) hi).2) hi).1
  · have hh0 : 0 < h := by obtain ⟨⟨a, ha, -⟩, -⟩ := W.2.1 i hi; omega
    obtain ⟨f, hf, hn⟩ := nxt_some W.1 hh0
    dsimp only at q
    rw [hn] at q
    have e1 := (Od_at (hbq ρ) hf (fun i hi => (bq_h hh W.2.1 (i := i) hi).2) hi).2.1
    have e2 := (Od_at (hbq ρ) hf (fun i hi => (bq_h hh W.2.1 (i := i) hi).2) hj).2.1
    have q' : pos (hbq ρ) h f b i = pos (hbq ρ) h f b j := q
    rw [q', e2] at e1
    exact e1.symm
theorem areLoads_v {M : Mem} {ρ : Nat → Int32} {h b g c n : Nat} (V : Vi M ρ h b g c) (D : Gd ρ h b g c n) (hn : n ≤ 1000) : ∃ M', fL_areLoads M = some (true, M') ∧ Pq M M' := by
  obtain ⟨W, GW, hcn, -, ⟨k, m, z, t, v, G1, G2, G3⟩⟩ := D
  have hb := V.2.1.1
  have hg' := V.2.2.1.1
  have hc := V.2.2.2.1.1
  obtain ⟨te, t1, t2, t3⟩ := W.2.2.2.1
  have w2 : gL_whole 2 M = some (nI te) := by rw [← t3]; exact gw V W.2.2.1 (k := 2) (by omega)
  have e36 := load_36 V W G1 G2 g 0 FUEL 401 0 (by omega) (fuel8 (by omega)) (by omega) (fun q => by have := (G1 0 q).2.2.2.2.2.2.1; have := (lo_le (k 0)).2.1; omega)
  rw [Int32.zero_add] at e36
  obtain ⟨f, f1, f2⟩ := pos_f V.1.1 W
  obtain ⟨M1, a1, a2⟩ := load_276 (g := g) W f1 b 0 FUEL M V (by omega) (fuel8 (by omega))
  have V1 := a2.vi V
  rw [pB_full (fun i hi => (f1 i hi).2) f2] at a1
  have w7 := g7 V1 W.2.2.1
  have w3 : gL_whole 3 M1 = some (nI b) := gw V1 W.2.2.1 (k := 3) (by omega)
  have w12 : gL_whole 12 M1 = some (nI g) := gw V1 W.2.2.1 (k := 12) (by omega)
  have l0 : gL_load (nI g) 0 M1 = some NG := by
    have := gl V1 (i := g) (k := 0) (by omega) (by omega)
    unfold lv' at this
    rw [if_neg (by omega)] at this
    exact this
  obtain ⟨M2, b1, b2⟩ := gq V1 W (i := b) (k := 0) (by omega) (by omega)
  rw [show bv ρ h b b 0 = NG from by unfold bv; rw [if_neg (by omega)]] at b1
  refine ⟨M2, ?_, a2.tr b2⟩
  unfold fL_areLoads
  rw [w2, Option.bind_some, if_neg (show ¬ nI te < 20 from pI_nlt (b := 20) (by omega) (by omega)), Option.bind_some, if_neg (show ¬ (400 : Int32) < nI te from pI_nlt (a := 400) (by omega) (by omega)), Option.bind_some, show (0 : Int32) = nI 0 from rfl, show lL_areLoads_36 M FUEL 401 (nI 0) true (nI 0) = _ from e36, Option.bind_some]
  refine un2i ?_
  rw [show lL_areLoads_276 FUEL true (nI 0) (nI 0) M = _ from a1, Option.bind_some]
  refine un3i ?_
  rw [if_pos rfl, w7, Option.bind_some, if_neg (pI_nlt G3 (by omega)), w3, Option.bind_some, shl1 b (by omega), if_pos (by rw [l_1, mI_sb Nat.one_le_two_pow (by have := Nat.pow_le_pow_right (n := 2) (by omega) hb; omega)]), w12, Option.bind_some, show gL_load (nI g) (nI 0) M1 = _ from l0, Option.bind_some, if_pos (show NG = -1 from rfl), Option.bind_some, show gL_batch (nI b) (nI 0) M1 = _ from b1, Option.bind_some]
  refine un2i ?_
  exact if_pos rfl
