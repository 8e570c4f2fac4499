/-! the values that the law reads, as numbers of the row -/
def wv (ρ : Nat → Int32) (h b g c : Nat) : Nat → Int32
  | 0 => nI h
  | 1 => ρ 3
  | 2 => ρ 2
  | 3 => nI b
  | 4 => sH ρ h 1
  | 5 => sH ρ h 2
  | 6 => ρ 4
  | 7 => nI c
  | 8 => ρ 6
  | 9 => nI (min c 200)
  | 10 => sm (fun i => if ρ (201 + 7 * i + 5) = nI 8 then nI 1 else nI 0) 0 (min c 200)
  | 11 => sm (fun i => if (nI 0 ≤ ρ (201 + 7 * i + 5) ∧ ρ (201 + 7 * i + 5) ≤ nI 7) ∧ ρ (201 + 7 * i + 5) ≠ ρ (201 + 7 * i + 0) then nI 1 else nI 0) 0 (min c 200)
  | 12 => nI g
  | 13 => ρ 1
  | _ + 14 => 0
theorem whole_v {M : Mem} {ρ : Nat → Int32} {h b g c k : Nat} (V : Vi M ρ h b g c) (W : RLv ρ c) (hk : k < 14) : fX11_whole (nI k) M = some (Sum.inr (wv ρ h b g c k)) := by
  obtain ⟨H, B, G, L, S⟩ := V
  have e0 : fX11_whole (nI k) M = if nI k = 0 then ((fX4_size 2 M).bind fun v6 => some (Sum.inr v6)) else if nI k = 1 then (some (Sum.inr (M.1 1 6))) else if nI k = 2 then (some (Sum.inr (M.1 1 4))) else if nI k = 3 then ((fX1_size 9 M).bind fun v8 => some (Sum.inr v8)) else if nI k = 4 then ((fX4_sumOf 2 (1 : Int32) M).bind fun v10 => some (Sum.inr v10)) else if nI k = 5 then ((fX4_sumOf 2 (2 : Int32) M).bind fun v12 => some (Sum.inr v12)) else if nI k = 6 then (some (Sum.inr (M.1 1 7))) else if nI k = 7 then ((fX6_cameOut 23 M).bind fun v14 => some (Sum.inr v14)) else if nI k = 8 then ((fX6_pale 23 M).bind fun v16 => some (Sum.inr v16)) else if nI k = 9 then ((fX6_kept 23 M).bind fun v18 => some (Sum.inr v18)) else if nI k = 10 then ((fX6_countWith 23 (5 : Int32) (8 : Int32) M).bind fun v20 => some (Sum.inr v20)) else if nI k = 11 then ((fX6_countWithOthers 23 M).bind fun v22 => some (Sum.inr v22)) else if nI k = 12 then ((fX5_size 15 M).bind fun v24 => some (Sum.inr v24)) else some (Sum.inr (M.1 1 5)) := by
    unfold fX11_whole
    rw [wb (nI k) 14 13 rfl, if_pos ⟨pI_le (a := 0) (by omega) (by omega), pI_le (b := 13) (by omega) (by omega)⟩, Option.bind_some, refuse_0, Option.bind_some]
    rfl
  rcases (show k = 0 ∨ k = 1 ∨ k = 2 ∨ k = 3 ∨ k = 4 ∨ k = 5 ∨ k = 6 ∨ k = 7 ∨ k = 8 ∨ k = 9 ∨ k = 10 ∨ k = 11 ∨ k = 12 ∨ k = 13 by omega) with rfl | rfl | rfl | rfl | rfl | rfl | rfl | rfl | rfl | rfl | rfl | rfl | rfl | rfl
  · show _ = some (Sum.inr (nI h))
    rw [e0, if_pos (show nI 0 = 0 from rfl)]; unfold fX4_size; rw [H.2.1]; rfl
  · show _ = some (Sum.inr (ρ 3))
    rw [e0, if_neg (by decide), if_pos (show nI 1 = 1 from rfl)]; rw [S.2.2.1]
  · show _ = some (Sum.inr (ρ 2))
    rw [e0, if_neg (by decide), if_neg (by decide), if_pos (show nI 2 = 2 from rfl)]; rw [S.1]
  · show _ = some (Sum.inr (nI b))
    rw [e0, if_neg (by decide), if_neg (by decide), if_neg (by decide), if_pos (show nI 3 = 3 from rfl)]; unfold fX1_size; rw [B.2.1]; rfl
  · show _ = some (Sum.inr (sH ρ h 1))
    rw [e0, if_neg (by decide), if_neg (by decide), if_neg (by decide), if_neg (by decide), if_pos (show nI 4 = 4 from rfl)]; unfold fX4_sumOf; rw [H.2.1, l_1]; show ((fX7_sum 3 4 8 _ _ M).bind _).bind _ = _; rw [H.sum (by omega)]; rfl
  · show _ = some (Sum.inr (sH ρ h 2))
    rw [e0, if_neg (by decide), if_neg (by decide), if_neg (by decide), if_neg (by decide), if_neg (by decide), if_pos (show nI 5 = 5 from rfl)]; unfold fX4_sumOf; rw [H.2.1, l_2]; show ((fX7_sum 3 4 8 _ _ M).bind _).bind _ = _; rw [H.sum (by omega)]; rfl
  · show _ = some (Sum.inr (ρ 4))
    rw [e0, if_neg (by decide), if_neg (by decide), if_neg (by decide), if_neg (by decide), if_neg (by decide), if_neg (by decide), if_pos (show nI 6 = 6 from rfl)]; rw [S.2.2.2]
  · show _ = some (Sum.inr (nI c))
    rw [e0, if_neg (by decide), if_neg (by decide), if_neg (by decide), if_neg (by decide), if_neg (by decide), if_neg (by decide), if_neg (by decide), if_pos (show nI 7 = 7 from rfl)]; unfold fX6_cameOut; rw [L.2.1]; rfl
  · show _ = some (Sum.inr (ρ 6))
    rw [e0, if_neg (by decide), if_neg (by decide), if_neg (by decide), if_neg (by decide), if_neg (by decide), if_neg (by decide), if_neg (by decide), if_neg (by decide), if_pos (show nI 8 = 8 from rfl)]; unfold fX6_pale; rw [L.2.2.2.1]; rfl
  · show _ = some (Sum.inr (nI (min c 200)))
    rw [e0, if_neg (by decide), if_neg (by decide), if_neg (by decide), if_neg (by decide), if_neg (by decide), if_neg (by decide), if_neg (by decide), if_neg (by decide), if_neg (by decide), if_pos (show nI 9 = 9 from rfl)]; rw [L.keptn]; rfl
  · show _ = some (Sum.inr (sm (fun i => if ρ (201 + 7 * i + 5) = nI 8 then nI 1 else nI 0) 0 (min c 200)))
    rw [e0, if_neg (by decide), if_neg (by decide), if_neg (by decide), if_neg (by decide), if_neg (by decide), if_neg (by decide), if_neg (by decide), if_neg (by decide), if_neg (by decide), if_neg (by decide), if_pos (show nI 10 = 10 from rfl)]; rw [l_5, l_8, L.cw _ (by omega)]; rfl
  · show _ = some (Sum.inr (sm (fun i => if (nI 0 ≤ ρ (201 + 7 * i + 5) ∧ ρ (201 + 7 * i + 5) ≤ nI 7) ∧ ρ (201 + 7 * i + 5) ≠ ρ (201 + 7 * i + 0) then nI 1 else nI 0) 0 (min c 200)))
    rw [e0, if_neg (by decide), if_neg (by decide), if_neg (by decide), if_neg (by decide), if_neg (by decide), if_neg (by decide), if_neg (by decide), if_neg (by decide), if_neg (by decide), if_neg (by decide), if_neg (by decide), if_pos (show nI 11 = 11 from rfl)]; rw [L.others W]; rfl
  · show _ = some (Sum.inr (nI g))
    rw [e0, if_neg (by decide), if_neg (by decide), if_neg (by decide), if_neg (by decide), if_neg (by decide), if_neg (by decide), if_neg (by decide), if_neg (by decide), if_neg (by decide), if_neg (by decide), if_neg (by decide), if_neg (by decide), if_pos (show nI 12 = 12 from rfl)]; unfold fX5_size; rw [G.2.1]; rfl
  · show _ = some (Sum.inr (ρ 1))
    rw [e0, if_neg (by decide), if_neg (by decide), if_neg (by decide), if_neg (by decide), if_neg (by decide), if_neg (by decide), if_neg (by decide), if_neg (by decide), if_neg (by decide), if_neg (by decide), if_neg (by decide), if_neg (by decide), if_neg (by decide)]; rw [S.2.1]
theorem gw {M : Mem} {ρ : Nat → Int32} {h b g c : Nat} (V : Vi M ρ h b g c) (W : RLv ρ c) {k : Nat} (hk : k < 14) : gL_whole (nI k) M = some (wv ρ h b g c k) := rT_r (whole_v V W hk)
theorem whole_x (M : Mem) : fX11_whole (-1 : Int32) M = some (Sum.inl 2) := by
  unfold fX11_whole
  rw [wb (-1) 14 13 rfl, if_neg (by decide), Option.bind_some, refuse_k.2.1, Option.bind_some]
  rfl
/-- a household's values -/
def hv (ρ : Nat → Int32) (b c i : Nat) : Nat → Int32
  | 4 => sm (fun r => if ρ (201 + 7 * r + 0) = nI i then nI 1 else nI 0) 0 (min c 200)
  | 5 => sm (fun r => if ρ (201 + 7 * r + 5) = nI i then nI 1 else nI 0) 0 (min c 200)
  | 6 => sm (fun r => if ρ (201 + 7 * r + 0) = nI i ∧ ρ (201 + 7 * r + 5) = nI i then nI 1 else nI 0) 0 (min c 200)
  | 7 => sm (fun r => if ρ (41 + 3 * r + 0) = nI i then nI 1 else nI 0) 0 b
  | k => ρ (9 + 4 * i + k)
theorem house_v {M : Mem} {ρ : Nat → Int32} {h b g c i k : Nat} (V : Vi M ρ h b g c) (hi : i < h) (hk : k < 8) : fX11_household (nI i) (nI k) M = some (Sum.inr (hv ρ b c i k)) := by
  obtain ⟨H, B, G, L, S⟩ := V
  have hh := H.1
  have hb := B.1
  have e0 : fX11_household (nI i) (nI k) M = if nI k = 4 then ((fX6_countWith 23 (0 : Int32) (nI i) M).bind fun v10 => some (Sum.inr v10)) else if nI k = 5 then ((fX6_countWith 23 (5 : Int32) (nI i) M).bind fun v12 => some (Sum.inr v12)) else if nI k = 6 then ((fX6_countWithBoth 23 (0 : Int32) (nI i) (5 : Int32) (nI i) M).bind fun v14 => some (Sum.inr v14)) else if nI k = 7 then ((fX1_countOf 9 (nI i) M).bind fun v16 => some (Sum.inr v16)) else ((fX4_value 2 (nI i) (nI k) M).bind fun v18 => some (Sum.inr v18)) := by
    unfold fX11_household
    rw [who1 H, if_pos (who_i hi hh), Option.bind_some, refuse_0, Option.bind_some]
    simp only [xc]
    rw [wb (nI k) 8 7 rfl, if_pos ⟨pI_le (a := 0) (by omega) (by omega), pI_le (b := 7) (by omega) (by omega)⟩, Option.bind_some, refuse_0, Option.bind_some]
  rcases (show k < 4 ∨ k = 4 ∨ k = 5 ∨ k = 6 ∨ k = 7 by omega) with hk4 | rfl | rfl | rfl | rfl
  · have e1 : hv ρ b c i k = ρ (9 + 4 * i + k) := by
      rcases (show k = 0 ∨ k = 1 ∨ k = 2 ∨ k = 3 by omega) with rfl | rfl | rfl | rfl <;> rfl
    rw [e1, e0, l_4, l_5, l_6, l_7, if_neg (pI_ne (b := 4) (by omega) (by omega) (by omega)), if_neg (pI_ne (b := 5) (by omega) (by omega) (by omega)), if_neg (pI_ne (b := 6) (by omega) (by omega) (by omega)), if_neg (pI_ne (b := 7) (by omega) (by omega) (by omega))]
    unfold fX4_value
    show ((fX7_get 3 4 8 _ _ M).bind _).bind _ = _
    rw [H.gt hi hk4]; rfl
  · rw [e0, if_pos (show nI 4 = 4 from rfl), l_0, L.cw (nI i) (by omega)]; rfl
  · rw [e0, if_neg (by decide), if_pos (show nI 5 = 5 from rfl), l_5, L.cw (nI i) (by omega)]; rfl
  · rw [e0, if_neg (by decide), if_neg (by decide), if_pos (show nI 6 = 6 from rfl), l_0, l_5, L.cb (nI i) (nI i) (by omega) (by omega)]; rfl
  · rw [e0, if_neg (by decide), if_neg (by decide), if_neg (by decide), if_pos (show nI 7 = 7 from rfl), B.of (nI i)]; rfl
theorem house_x {M : Mem} {ρ : Nat → Int32} {h b g c : Nat} (V : Vi M ρ h b g c) {x : Int32} (hx : ¬ (0 ≤ x ∧ x < nI h)) (y : Int32) : fX11_household x y M = some (Sum.inl 1) := by
  unfold fX11_household
  rw [who1 V.1, if_neg hx, Option.bind_some, refuse_k.1, Option.bind_some]
  rfl
theorem gh {M : Mem} {ρ : Nat → Int32} {h b g c : Nat} (V : Vi M ρ h b g c) {i k : Nat} (hi : i < h) (hk : k < 8) : gL_household (nI i) (nI k) M = some (hv ρ b c i k) := rT_r (house_v V hi hk)
theorem fh {M : Mem} {ρ : Nat → Int32} {h b g c : Nat} (V : Vi M ρ h b g c) {i k : Nat} (hi : i < 8) (hk : k < 8) : fL_household (nI i) (nI k) M = some (if i < h then hv ρ b c i k else -5000003) := by
  have hh := V.1.1
  by_cases e : i < h
  · rw [if_pos e]; exact fT_r (house_v V e hk)
  · rw [if_neg e]
    exact fT_l (house_x V (fun q => by have := (mI_lt (by omega) (by omega)).mp q.2; omega) _) rfl
theorem due_v {M : Mem} {ρ : Nat → Int32} {h b g c i : Nat} (V : Vi M ρ h b g c) (hi : i < h) : fX11_due (nI i) M = some (Sum.inr (Du ρ h i)) := by
  have hh := V.1.1
  unfold fX11_due
  rw [who1 V.1, if_pos (who_i hi hh), Option.bind_some, refuse_0, Option.bind_some]
  simp only [xc]
  rw [V.1.due hi]; rfl
theorem due_x {M : Mem} {ρ : Nat → Int32} {h b g c : Nat} (V : Vi M ρ h b g c) {x : Int32} (hx : ¬ (0 ≤ x ∧ x < nI h)) : fX11_due x M = some (Sum.inl 1) := by
  unfold fX11_due
  rw [who1 V.1, if_neg hx, Option.bind_some, refuse_k.1, Option.bind_some]
  rfl
theorem gd' {M : Mem} {ρ : Nat → Int32} {h b g c : Nat} (V : Vi M ρ h b g c) {i : Nat} (hi : i < h) : gL_due (nI i) M = some (Du ρ h i) := rT_r (due_v V hi)
theorem gb {M : Mem} {ρ : Nat → Int32} {h b g c : Nat} (V : Vi M ρ h b g c) {i k : Nat} (hi : i < h) (hk : k < 3) : gL_balance (nI i) (nI k) M = some (Ba ρ c (nI i) (nI k)) := rT_r (bal_ok V hi hk)
theorem bal_x {M : Mem} {ρ : Nat → Int32} {h b g c : Nat} (V : Vi M ρ h b g c) {x : Int32} (hx : ¬ (0 ≤ x ∧ x < nI h)) (y : Int32) : fX11_balance x y M = some (Sum.inl 1) := by
  unfold fX11_balance
  rw [who1 V.1, if_neg hx, Option.bind_some, refuse_k.1, Option.bind_some]
  rfl
theorem bal_x2 {M : Mem} {ρ : Nat → Int32} {h b g c i : Nat} (V : Vi M ρ h b g c) (hi : i < h) : fX11_balance (nI i) 3 M = some (Sum.inl 2) := by
  have hh := V.1.1
  unfold fX11_balance
  rw [who1 V.1, if_pos (who_i hi hh), Option.bind_some, refuse_0, Option.bind_some]
  simp only [xc]
  rw [wb 3 3 2 rfl, if_neg (by decide), Option.bind_some, refuse_k.2.1, Option.bind_some]
theorem gf {M : Mem} {ρ : Nat → Int32} {h b g c : Nat} (V : Vi M ρ h b g c) {i k : Nat} (hi : i < c) (hi2 : c - 200 ≤ i) (hk : k < 7) : gL_loaf (nI i) (nI k) M = some (ρ (201 + 7 * (i % 200) + k)) := rT_r (loaf_ok V hi hi2 hk)
theorem loaf_x {M : Mem} {ρ : Nat → Int32} {h b g c : Nat} (V : Vi M ρ h b g c) {x : Int32} (hx : ¬ (nI (c - 200) ≤ x ∧ x < nI c)) (y : Int32) : fX11_loaf x y M = some (Sum.inl 1) := by
  unfold fX11_loaf
  rw [V.2.2.2.1.keeps, decide_eq_false hx, Option.bind_some, if_neg (by decide), Option.bind_some, refuse_k.1, Option.bind_some]
  rfl
theorem load_n {M : Mem} {ρ : Nat → Int32} {h b g c i k : Nat} (V : Vi M ρ h b g c) (hi : g ≤ i) (hi2 : i < 2 ^ 31) (hk : k < 5) : fX11_load (nI i) (nI k) M = some (Sum.inr NG) := by
  obtain ⟨H, B, G, L, S⟩ := V
  have hg := G.1
  unfold fX11_load
  rw [if_pos (show (0 : Int32) ≤ nI i from pI_le (a := 0) (by omega) (by omega)), wb (nI k) 5 4 rfl, if_pos ⟨pI_le (a := 0) (by omega) (by omega), pI_le (b := 4) (by omega) (by omega)⟩, Option.bind_some, Option.bind_some, refuse_0, Option.bind_some]
  simp only [xc]
  unfold fX5_size
  rw [G.2.1, Option.bind_some, if_pos (pI_le hi (by omega))]
  rfl
def lv' (ρ : Nat → Int32) (g i k : Nat) : Int32 := if i < g then ρ (101 + 5 * i + k) else NG
theorem gl {M : Mem} {ρ : Nat → Int32} {h b g c : Nat} (V : Vi M ρ h b g c) {i k : Nat} (hi : i < 2 ^ 31) (hk : k < 5) : gL_load (nI i) (nI k) M = some (lv' ρ g i k) := by
  unfold lv'
  by_cases e : i < g
  · rw [if_pos e]; exact rT_r (load_ok V e hk)
  · rw [if_neg e]; exact rT_r (load_n V (by omega) hi hk)
theorem load_x (M : Mem) : fX11_load 0 (-1) M = some (Sum.inl 2) := by
  unfold fX11_load
  rw [if_pos (by decide), wb (-1) 5 4 rfl, if_neg (by decide), Option.bind_some, Option.bind_some, refuse_k.2.1, Option.bind_some]
  rfl
/-- what the plan alone may change -/
def Pq (M M' : Mem) : Prop := (∀ q x, ¬ (33 ≤ q ∧ q < 45) → M'.1 q x = M.1 q x) ∧ M'.2 = M.2
theorem Pq.rf (M : Mem) : Pq M M := ⟨fun _ _ _ => rfl, rfl⟩
theorem Pq.tr {a b c : Mem} (h : Pq a b) (g : Pq b c) : Pq a c := ⟨fun q x hq => (g.1 q x hq).trans (h.1 q x hq), g.2.trans h.2⟩
theorem Pq.vi {M M' : Mem} {ρ : Nat → Int32} {h b g c : Nat} (P : Pq M M') (V : Vi M ρ h b g c) : Vi M' ρ h b g c := V.cg (fun q x h1 h2 => P.1 q x (by omega)) (fun _ _ => rfl)
theorem Pq.un {M M' : Mem} {past : Nat → Nat → Int32} {s l : Nat} (P : Pq M M') (U : URn M past s l) : URn M' past s l := U.mem fun q x h1 h2 => P.1 q x (by omega)
noncomputable def bv (ρ : Nat → Int32) (h b i k : Nat) : Int32 := if i < b then (if k < 3 then ρ (41 + 3 * i + k) else nI (pos (hbq ρ) h ((nxt ρ h).getD 0) b i)) else NG
theorem gq {M : Mem} {ρ : Nat → Int32} {h b g c : Nat} (V : Vi M ρ h b g c) (W : Wr ρ h b c) {i k : Nat} (hi : i < 2 ^ 31) (hk : k < 4) : ∃ M', gL_batch (nI i) (nI k) M = some (bv ρ h b i k, M') ∧ Pq M M' := by
  have hh := V.1.1
  have hb := V.2.1.1
  have e0 : fX11_batch (nI i) (nI k) M = (fX1_has 9 (nI i) M).bind fun b8 => if b8 = true then (if (3 : Int32) ≤ nI k then ((fX9_arrangeNextDay 1 M).bind fun M12 => (fX3_placeOf (nI i) M12).bind fun v14 => some (Sum.inr (v14, M12))) else ((fX1_value 9 (nI i) (nI k) M).bind fun v16 => some (Sum.inr (v16, M)))) else some (Sum.inr (NG, M)) := by
    unfold fX11_batch
    rw [if_pos (show (0 : Int32) ≤ nI i from pI_le (a := 0) (by omega) (by omega)), wb (nI k) 4 3 rfl, if_pos ⟨pI_le (a := 0) (by omega) (by omega), pI_le (b := 3) (by omega) (by omega)⟩, Option.bind_some, Option.bind_some, refuse_0, Option.bind_some]
    rfl
  have e1 : fX1_has 9 (nI i) M = some (decide (i < b)) := by
    unfold fX1_has
    rw [V.2.1.2.1, if_neg (show ¬ nI i < 0 from mI_nn (by omega))]
    by_cases e : i < b
    · rw [if_neg (pI_nle e (by omega)), decide_eq_true e]
    · rw [if_pos (pI_le (by omega) (by omega)), decide_eq_false e]
  unfold bv
  by_cases hib : i < b
  · rw [if_pos hib]
    rw [e1, decide_eq_true hib, Option.bind_some, if_pos rfl] at e0
    have hh0 : 0 < h := by obtain ⟨⟨a, ha, -⟩, -⟩ := W.2.1 i hib; omega
    obtain ⟨f, hf, hn⟩ := nxt_some W.1 hh0
    by_cases hk3 : k < 3
    · refine ⟨M, rT_r ?_, Pq.rf M⟩
      rw [if_pos hk3, e0, l_3, if_neg (pI_nle (by omega) (by omega))]
      unfold fX1_value
      show ((fX7_get 10 3 20 _ _ M).bind _).bind _ = _
      rw [V.2.1.gt hib hk3]; rfl
    · obtain rfl : k = 3 := by omega
      obtain ⟨M1, a1, a2, a3, a4⟩ := arrange_ok V W hh0 hn hf
      have hl := Od_len (f := f) hh hf W.2.1
      have hq := fun i hi => (bq_h hh W.2.1 (i := i) hi).2
      obtain ⟨p1, p2, p3⟩ := Od_at (hbq ρ) hf hq hib
      refine ⟨M1, rT_r ?_, ⟨fun q x hq => a3 q x (by omega) (by omega), a4⟩⟩
      rw [if_neg hk3, hn, e0, if_pos (show (3 : Int32) ≤ nI 3 from pI_le (a := 3) (by omega) (by omega)), a1, Option.bind_some]
      unfold fX3_placeOf
      rw [l_0, place_l a2 (by omega) (show pos (hbq ρ) h f b i < (Od ρ h f b).length by omega) (show i < 100 by omega) (fun p hp => by have := Od_lt hp; omega) p2 p3 _ 0 FUEL (Nat.zero_add _) (fuel8 (by omega))]
      rfl
  · rw [if_neg hib]
    refine ⟨M, rT_r ?_, Pq.rf M⟩
    rw [e0, e1, decide_eq_false hib, Option.bind_some, if_neg (by decide)]
theorem batch_x (M : Mem) : fX11_batch (-1) 0 M = some (Sum.inl 2) := by
  unfold fX11_batch
  rw [if_neg (by decide), Option.bind_some, refuse_k.2.1, Option.bind_some]
  rfl
theorem next_v {M : Mem} {ρ : Nat → Int32} {h b g c : Nat} (V : Vi M ρ h b g c) (W : RH ρ h) : fX11_nextForWood M = some (enc (nxt ρ h)) := by
  unfold fX11_nextForWood
  show ((fX4_nextOne 2 M).bind _) = _
  rw [V.1.next W]; rfl
