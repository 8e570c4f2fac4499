/-! the law's second check: loaves -/
theorem ones_l : ∀ (k a n : Nat) (acc : Int32), a < 2 ^ k → k ≤ 31 → k < n → lL_ones_4 n acc (nI a) = some (acc + nI (pc a)) := by
  intro k
  induction k with
  | zero =>
    intro a n acc h1 h2 h3
    obtain ⟨n, rfl⟩ : ∃ n', n = n' + 1 := ⟨n - 1, by omega⟩
    obtain rfl : a = 0 := by omega
    rw [lL_ones_4, if_pos (show nI 0 ≤ 0 by decide), show pc 0 = 0 from rfl, sm_z]
  | succ k ih =>
    intro a n acc h1 h2 h3
    obtain ⟨n, rfl⟩ : ∃ n', n = n' + 1 := ⟨n - 1, by omega⟩
    have hp : 2 ^ (k + 1) ≤ 2 ^ 31 := Nat.pow_le_pow_right (by omega) h2
    by_cases h0 : a = 0
    · subst h0
      rw [lL_ones_4, if_pos (show nI 0 ≤ 0 by decide), show pc 0 = 0 from rfl, sm_z]
    · rw [lL_ones_4, l_0, if_neg (pI_nle (by omega) (by omega)), l_2, mI_md (by omega) (by omega), mI_dv (by omega) (by omega), ih (a / 2) n _ (by rw [Nat.pow_succ] at h1; omega) (by omega) (by omega), Int32.add_assoc, nI_ad, ← pc_s (by omega)]
theorem ones_v {a : Nat} (h : a < 65536) : fL_ones (nI a) = some (nI (pc a)) := by
  unfold fL_ones
  rw [show lL_ones_4 FUEL 0 (nI a) = some _ from ones_l 16 a FUEL 0 h (by omega) (fuel8 (by omega)), Option.bind_some, Int32.zero_add]
theorem loaf_it {M : Mem} {ρ : Nat → Int32} {h b g c d i y : Nat} (V : Vi M ρ h b g c) (W : Wr ρ h b c) (hd : ρ 3 = nI d) (hd2 : d < 2 ^ 30) (G : Gl ρ h d (i % 200)) (hi : i < c) (hi2 : c - 200 ≤ i) (hy : y ≤ nn (ρ (201 + 7 * (i % 200) + 2))) (n : Nat) (x1 x3 : Int32) : lL_areLoaves_93 M (n + 1) x1 (nI y) x3 true (nI i) = lL_areLoaves_93 M n (x1 + (if ρ (201 + 7 * (i % 200) + 5) = nI 8 then nI 1 else nI 0)) (nI (nn (ρ (201 + 7 * (i % 200) + 2)))) (x3 + ρ (201 + 7 * (i % 200) + 3)) true (nI (i + 1)) := by
  have hh := V.1.1
  have hc := V.2.2.2.1.1
  obtain ⟨⟨o, o1, o2⟩, ⟨k, k1, k2⟩, ⟨yy, y1, y2⟩, ⟨pl, p1, p2⟩, ⟨pr, z, r1, r2, r3, r4, r5⟩, h6⟩ := G
  have f0 : gL_loaf (nI i) 0 M = some (nI o) := by rw [← o2]; exact gf V (k := 0) hi hi2 (by omega)
  have f1 : gL_loaf (nI i) 1 M = some (nI k) := by rw [← k2]; exact gf V (k := 1) hi hi2 (by omega)
  have f2 : gL_loaf (nI i) 2 M = some (nI yy) := by rw [← y2]; exact gf V (k := 2) hi hi2 (by omega)
  have f3 : gL_loaf (nI i) 3 M = some (ρ (201 + 7 * (i % 200) + 3)) := gf V (k := 3) hi hi2 (by omega)
  have f4 : gL_loaf (nI i) 4 M = some (nI pr) := by rw [← r4]; exact gf V (k := 4) hi hi2 (by omega)
  have f5 : gL_loaf (nI i) 5 M = some (ρ (201 + 7 * (i % 200) + 5)) := gf V (k := 5) hi hi2 (by omega)
  have f6 : gL_loaf (nI i) 6 M = some (nI z) := by rw [← r5]; exact gf V (k := 6) hi hi2 (by omega)
  have w0 : gL_whole 0 M = some (nI h) := gw V W.2.2.1 (k := 0) (by omega)
  have w1 : gL_whole 1 M = some (nI d) := by rw [← hd]; exact gw V W.2.2.1 (k := 1) (by omega)
  rw [y2, nn_n (by omega)] at hy ⊢
  have eh : (if ρ (201 + 7 * (i % 200) + 5) < (-1 : Int32) then (if ρ (201 + 7 * (i % 200) + 5) = (8 : Int32) then (some true : Option Bool) else (some false)) else ((gL_whole (0 : Int32) M).bind fun v77 => if ρ (201 + 7 * (i % 200) + 5) < v77 then (some true) else (if ρ (201 + 7 * (i % 200) + 5) = (8 : Int32) then (some true) else (some false)))) = some true := by
    rw [w0, Option.bind_some]
    rcases h6 with e | e | ⟨x, x1, e⟩
    · rw [e, if_neg (by decide), if_pos (ng_lt (by omega))]
    · rw [e, if_neg (by decide)]
      split
      · rfl
      · rfl
    · rw [e, if_neg (show ¬ nI x < -1 from nlt_ng (by omega)), if_pos (pI_lt x1 (by omega))]
  have ez : (if ρ (201 + 7 * (i % 200) + 5) = (8 : Int32) then (some (1 : Int32)) else (some (0 : Int32))) = some (if ρ (201 + 7 * (i % 200) + 5) = nI 8 then nI 1 else nI 0) := by
    rw [l_8]
    by_cases q : ρ (201 + 7 * (i % 200) + 5) = nI 8
    · rw [if_pos q, if_pos q]; rfl
    · rw [if_neg q, if_neg q]; rfl
  rw [lL_areLoaves_93, g7 V W.2.2.1, Option.bind_some, if_neg (pI_nle hi (by omega)), if_pos rfl, f4, Option.bind_some, f5, Option.bind_some, f0, Option.bind_some, ez, Option.bind_some, f3, Option.bind_some, if_neg (show ¬ nI o < 0 from mI_nn (by omega)), eh, w0, Option.bind_some, if_neg (pI_nle o1 (by omega)), f1, Option.bind_some, if_neg (show ¬ nI k < 0 from mI_nn (by omega)), Option.bind_some, l_3, if_neg (pI_nle k1 (by omega)), f2, Option.bind_some, if_neg (pI_nlt hy (by omega)), Option.bind_some, w1, Option.bind_some, if_neg (pI_nle y1 (by omega)), if_neg (show ¬ nI pr < 0 from mI_nn (by omega)), l_65536, if_neg (pI_nle r1 (by omega)), f6, Option.bind_some, if_neg (show ¬ nI z < 0 from mI_nn (by omega)), Option.bind_some, if_neg (pI_nlt r2 (by omega)), ones_v r1, Option.bind_some, Option.bind_some, nI_ad, l_16, if_neg (pI_nlt r3 (by omega)), Option.bind_some, Option.bind_some, show nI i + (1 : Int32) = nI (i + 1) from nI_ad i 1]
theorem loaf_93 {M : Mem} {ρ : Nat → Int32} {h b g c d : Nat} (V : Vi M ρ h b g c) (W : Wr ρ h b c) (hd : ρ 3 = nI d) (hd2 : d < 2 ^ 30) (G : Gk ρ h c d) : ∀ (m i n y : Nat) (x1 x3 : Int32), i + m = c → c - 200 ≤ i → m < n → (i < c → y ≤ nn (ρ (201 + 7 * (i % 200) + 2))) → ∃ z, lL_areLoaves_93 M n x1 (nI y) x3 true (nI i) = some (x1 + sm (fun j => if ρ (201 + 7 * (j % 200) + 5) = nI 8 then nI 1 else nI 0) i m, x3 + sm (fun j => ρ (201 + 7 * (j % 200) + 3)) i m, z) ∧ z = true := by
  have hc := V.2.2.2.1.1
  obtain ⟨G1, G2, -⟩ := G
  intro m
  induction m with
  | zero =>
    intro i n y x1 x3 h1 h0 h2 hy
    obtain ⟨n, rfl⟩ : ∃ n', n = n' + 1 := ⟨n - 1, by omega⟩
    refine ⟨true, ?_, rfl⟩
    rw [lL_areLoaves_93, g7 V W.2.2.1, Option.bind_some, if_pos (pI_le (by omega) (by omega)), sm, sm, sm_z, sm_z]
  | succ m ih =>
    intro i n y x1 x3 h1 h0 h2 hy
    obtain ⟨n, rfl⟩ : ∃ n', n = n' + 1 := ⟨n - 1, by omega⟩
    have hr : i % 200 < min c 200 := by have := Nat.mod_lt i (show 0 < 200 by omega); have := Nat.mod_le i 200; omega
    rw [loaf_it V W hd hd2 (G1 _ hr) (by omega) h0 (hy (by omega))]
    obtain ⟨z, e1, e2⟩ := ih (i + 1) n (nn (ρ (201 + 7 * (i % 200) + 2))) _ _ (by omega) (by omega) (by omega) (fun q => G2 i h0 q)
    refine ⟨z, ?_, e2⟩
    rw [e1, sm_s, sm_s]
theorem un3i {α1 α2 α3 β : Type} {f : α1 → α2 → α3 → β} {a : α1} {b : α2} {c : α3} {x : β} (h : f a b c = x) : un3 f (a, b, c) = x := h
theorem areLoaves_v {M : Mem} {ρ : Nat → Int32} {h b g c n : Nat} (V : Vi M ρ h b g c) (D : Gd ρ h b g c n) (hn : n ≤ 1000) : fL_areLoaves M = some true := by
  obtain ⟨W, GW, hcn, ⟨d, d1, d2, GK⟩, GO⟩ := D
  have hc := V.2.2.2.1.1
  have hm : min c 200 ≤ 200 := Nat.min_le_right _ _
  obtain ⟨q, q1, q2, q3⟩ := GK.2.2
  have w5 : gL_whole 5 M = some (nI c) := by rw [← GW.s1]; exact gw V W.2.2.1 (k := 5) (by omega)
  have w8 : gL_whole 8 M = some (nI q) := by rw [← q1]; exact gw V W.2.2.1 (k := 8) (by omega)
  have w10 : gL_whole 10 M = some (sm (fun i => if ρ (201 + 7 * i + 5) = nI 8 then nI 1 else nI 0) 0 (min c 200)) := gw V W.2.2.1 (k := 10) (by omega)
  obtain ⟨z, e1, e2⟩ := loaf_93 V W d1 (by omega) GK (min c 200) (c - 200) FUEL 0 0 0 (by omega) (by omega) (fuel8 (by omega)) (fun _ => Nat.zero_le _)
  subst e2
  rw [sm_k (fun j => if ρ (201 + 7 * j + 5) = nI 8 then nI 1 else nI 0), sm_k (fun j => ρ (201 + 7 * j + 3)), Int32.zero_add, Int32.zero_add] at e1
  have ep : sm (fun j => ρ (201 + 7 * j + 3)) 0 (min c 200) = nI (sN (fun r => nn (ρ (201 + 7 * r + 3))) 0 (min c 200)) := sm_n _ _ fun r _ hr => by
    obtain ⟨-, -, -, ⟨pl, p1, p2⟩, -⟩ := GK.1 r (by omega)
    rw [p2, nn_n (by omega)]
  rw [ep] at e1
  have ehd : (if (nI (c - 200)) = (0 : Int32) then (some true : Option Bool) else ((fL_loaf (nI (c - 200) - (1 : Int32)) (0 : Int32) M).bind fun v21 => if v21 = (-5000003 : Int32) then (some true) else (some false))) = some true := by
    by_cases e : nI (c - 200) = (0 : Int32)
    · rw [if_pos e]
    · have h0 : c - 200 ≠ 0 := fun w => e (by rw [w]; rfl)
      have hx : fL_loaf (nI (c - 200) - 1) 0 M = some (-5000003) := fT_l (loaf_x V (x := nI (c - 200) - 1) (fun w => by
        rw [l_1, mI_sb (by omega) (by omega)] at w
        have := (mI_le (by omega) (by omega)).mp w.1
        omega) _) rfl
      rw [if_neg e, hx, Option.bind_some, if_pos rfl]
  unfold fL_areLoaves
  rw [g7 V W.2.2.1, Option.bind_some, g9 V W.2.2.1, Option.bind_some, Option.bind_some, l_200, if_neg (pI_nlt hm (by omega)), first_n hc, if_neg (show ¬ nI (c - 200) < 0 from mI_nn (by omega)), w8, Option.bind_some, Option.bind_some, if_neg (pI_nlt q2 (by omega)), Option.bind_some, w5, Option.bind_some, if_pos rfl, ehd, Option.bind_some, show (0 : Int32) = nI 0 from rfl, show lL_areLoaves_93 M FUEL (nI 0) (nI 0) (nI 0) true (nI (c - 200)) = _ from e1, Option.bind_some]
  refine un3i ?_
  rw [if_pos rfl, w10, Option.bind_some, if_pos rfl, Option.bind_some, if_neg (pI_nlt q3 (by omega))]
