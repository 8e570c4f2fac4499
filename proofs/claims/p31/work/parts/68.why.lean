/-! why a call is refused: the class alone -/
theorem join_w {M : Mem} {ρ : Nat → Int32} {h : Nat} (H : HH M ρ h) (x : Int32) : (¬ (1 ≤ x ∧ x ≤ 65535) ∧ fX9_whyNoJoining 1 x M = some 2) ∨ ((1 ≤ x ∧ x ≤ 65535) ∧ (h = 8 ∨ ∃ i, i < h ∧ ρ (9 + 4 * i) = x) ∧ fX9_whyNoJoining 1 x M = some 3) ∨ (fX9_whyNoJoining 1 x M = some 0 ∧ h < 8 ∧ (∃ m, 1 ≤ m ∧ m < 65536 ∧ x = nI m) ∧ ∀ i, i < h → ρ (9 + 4 * i) ≠ x) := by
  have hh := H.1
  by_cases h1 : 1 ≤ x ∧ x ≤ 65535
  · right
    have e1 : fX9_whyNoJoining 1 x M = (fX4_isFull 2 M).bind fun b5 => if b5 = true then (some (3 : Int32)) else ((fX4_withMark 2 x M).bind fun v8 => if v8 = (-1 : Int32) then (some (0 : Int32)) else (some (3 : Int32))) := by
      unfold fX9_whyNoJoining
      rw [wn, if_pos h1, Option.bind_some, if_pos rfl]
    unfold fX4_isFull at e1
    rw [H.2.1] at e1
    by_cases h8 : h = 8
    · left
      subst h8
      rw [if_pos (show nI 8 = 8 from rfl), Option.bind_some, if_pos rfl] at e1
      exact ⟨h1, Or.inl rfl, e1⟩
    · rw [l_8, if_neg (pI_ne h8 (by omega) (by omega)), Option.bind_some, if_neg (by decide)] at e1
      rcases with_c H x with ⟨p1, p2⟩ | ⟨i, p1, p2, p3⟩
      · right
        rw [p1, Option.bind_some, if_pos (show NG = -1 from rfl)] at e1
        exact ⟨e1, by omega, mark_n h1, p2⟩
      · left
        rw [p3, Option.bind_some, if_neg (show ¬ nI i = -1 from nI_ng (by omega))] at e1
        exact ⟨h1, Or.inr ⟨i, p1, p2⟩, e1⟩
  · left
    refine ⟨h1, ?_⟩
    unfold fX9_whyNoJoining
    rw [wn, if_neg h1, Option.bind_some, if_neg (by decide)]
theorem remark_w {M : Mem} {ρ : Nat → Int32} {h i : Nat} (H : HH M ρ h) (W : RH ρ h) (hi : i < h) (x : Int32) (hx : 1 ≤ x ∧ x ≤ 65535) : fX9_whyNoOtherMark 1 (nI i) x M = some 3 ∨ (fX9_whyNoOtherMark 1 (nI i) x M = some 0 ∧ ∀ j, j < h → j ≠ i → ρ (9 + 4 * j) ≠ x) := by
  have hh := H.1
  have e1 : fX9_whyNoOtherMark 1 (nI i) x M = (fX4_withMark 2 x M).bind fun v8 => if v8 = (-1 : Int32) then (some (0 : Int32)) else (if v8 = nI i then (some (0 : Int32)) else (some (3 : Int32))) := by
    unfold fX9_whyNoOtherMark fX4_has
    rw [H.2.1, if_neg (show ¬ nI i < 0 from mI_nn (by omega)), if_neg (pI_nle hi (by omega)), Option.bind_some, if_pos rfl, wn, if_pos hx, Option.bind_some, if_pos rfl]
  rcases with_c H x with ⟨p1, p2⟩ | ⟨j, p1, p2, p3⟩
  · right
    exact ⟨by rw [e1, p1]; rfl, fun j hj _ => p2 j hj⟩
  · by_cases hj : j = i
    · right
      subst hj
      exact ⟨by rw [e1, p3, Option.bind_some, if_neg (show ¬ nI j = -1 from nI_ng (by omega)), if_pos rfl], fun k hk hkj q => hkj (W.2.1 k j hk p1 (q.trans p2.symm))⟩
    · left
      rw [e1, p3, Option.bind_some, if_neg (show ¬ nI j = -1 from nI_ng (by omega)), if_neg (pI_ne hj (by omega) (by omega))]
theorem remark_x1 {M : Mem} {ρ : Nat → Int32} {h : Nat} (H : HH M ρ h) {x : Int32} (hx : ¬ (0 ≤ x ∧ x < nI h)) (y : Int32) : fX9_whyNoOtherMark 1 x y M = some 1 := by
  unfold fX9_whyNoOtherMark
  rw [show fX4_has (1 + 1) x M = some _ from has_c H x, decide_eq_false hx, Option.bind_some, if_neg (by decide)]
theorem remark_x2 {M : Mem} {ρ : Nat → Int32} {h i : Nat} (H : HH M ρ h) (hi : i < h) : fX9_whyNoOtherMark 1 (nI i) 0 M = some 2 := by
  have hh := H.1
  unfold fX9_whyNoOtherMark
  rw [show fX4_has (1 + 1) (nI i) M = some _ from has_c H (nI i), decide_eq_true (who_i hi hh), Option.bind_some, if_pos rfl, wn, if_neg (by decide), Option.bind_some, if_neg (by decide)]
theorem bring_w {M : Mem} {ρ : Nat → Int32} {h b : Nat} (H : HH M ρ h) (B : BB M ρ b) (x y z : Int32) : (¬ (0 ≤ x ∧ x < nI h) ∧ fX9_whyNoBatch 1 x y z M = some 1) ∨ ((0 ≤ x ∧ x < nI h) ∧ ¬ ((0 ≤ y ∧ y ≤ 2) ∧ 1 ≤ z ∧ z ≤ 12) ∧ fX9_whyNoBatch 1 x y z M = some 2) ∨ fX9_whyNoBatch 1 x y z M = some 3 ∨ (fX9_whyNoBatch 1 x y z M = some 0 ∧ b < 20 ∧ (∃ a, a < h ∧ x = nI a) ∧ (∃ k, k < 3 ∧ y = nI k) ∧ ∃ w, 1 ≤ w ∧ w ≤ 12 ∧ z = nI w) := by
  have hh := H.1
  have hb := B.1
  have eh : fX4_has (1 + 1) x M = some (decide (0 ≤ x ∧ x < nI h)) := has_c H x
  by_cases h1 : 0 ≤ x ∧ x < nI h
  · by_cases h2 : 0 ≤ y ∧ y ≤ 2
    · by_cases h3 : 1 ≤ z ∧ z ≤ 12
      · have e1 : fX9_whyNoBatch 1 x y z M = if nI b = 20 then some 3 else some 0 := by
          unfold fX9_whyNoBatch fX1_isFull
          rw [eh, Option.bind_some, if_pos (decide_eq_true h1), wb y 3 2 rfl, if_pos h2, Option.bind_some, if_pos rfl, wn, if_pos h3, Option.bind_some, if_pos rfl]
          show ((if M.1 9 1 = 20 then some true else some false).bind _) = _
          rw [B.2.1]
          by_cases h4 : nI b = 20
          · rw [if_pos h4, if_pos h4]; rfl
          · rw [if_neg h4, if_neg h4]; rfl
        by_cases h4 : b = 20
        · subst h4
          exact Or.inr (Or.inr (Or.inl (by rw [e1, if_pos (show nI 20 = 20 from rfl)])))
        · refine Or.inr (Or.inr (Or.inr ⟨by rw [e1, l_20, if_neg (pI_ne h4 (by omega) (by omega))], by omega, who_n hh h1, ?_, ?_⟩))
          · obtain ⟨k, hk, e⟩ := rng (B := 2) (by omega) h2
            exact ⟨k, by omega, e⟩
          · have h0 : (0 : Int32) ≤ z := Int32.le_trans (show (0 : Int32) ≤ 1 by decide) h3.1
            obtain ⟨w, hw, rfl⟩ := rng (B := 12) (by omega) ⟨h0, h3.2⟩
            refine ⟨w, ?_, hw, rfl⟩
            have := h3.1
            rw [l_1, mI_le (by omega) (by omega)] at this
            exact this
      · refine Or.inr (Or.inl ⟨h1, fun q => h3 q.2, ?_⟩)
        unfold fX9_whyNoBatch
        rw [eh, Option.bind_some, if_pos (decide_eq_true h1), wb y 3 2 rfl, if_pos h2, Option.bind_some, if_pos rfl, wn, if_neg h3, Option.bind_some, if_neg (by decide)]
    · refine Or.inr (Or.inl ⟨h1, fun q => h2 q.1, ?_⟩)
      unfold fX9_whyNoBatch
      rw [eh, Option.bind_some, if_pos (decide_eq_true h1), wb y 3 2 rfl, if_neg h2, Option.bind_some, if_neg (by decide)]
  · refine Or.inl ⟨h1, ?_⟩
    unfold fX9_whyNoBatch
    rw [eh, Option.bind_some, if_neg (by rw [decide_eq_true_eq]; exact h1)]
theorem day_w {M : Mem} {ρ : Nat → Int32} {b : Nat} (B : BB M ρ b) (x : Int32) : (¬ (1 ≤ x ∧ x ≤ 40) ∧ fX9_whyNoDay 1 x M = some 2) ∨ ((1 ≤ x ∧ x ≤ 40) ∧ b = 0 ∧ fX9_whyNoDay 1 x M = some 3) ∨ (fX9_whyNoDay 1 x M = some 0 ∧ 0 < b ∧ ∃ w, 1 ≤ w ∧ w ≤ 40 ∧ x = nI w) := by
  have hb := B.1
  by_cases h1 : 1 ≤ x ∧ x ≤ 40
  · have e1 : fX9_whyNoDay 1 x M = if nI b = 0 then some 3 else some 0 := by
      unfold fX9_whyNoDay fX1_size
      rw [wn, if_pos h1, Option.bind_some, if_pos rfl]
      show ((some (M.1 9 1)).bind _) = _
      rw [Option.bind_some, B.2.1]
    right
    by_cases h0 : b = 0
    · left
      subst h0
      exact ⟨h1, rfl, by rw [e1, if_pos (show nI 0 = 0 from rfl)]⟩
    · right
      refine ⟨by rw [e1, l_0, if_neg (pI_ne h0 (by omega) (by omega))], by omega, ?_⟩
      have h00 : (0 : Int32) ≤ x := Int32.le_trans (show (0 : Int32) ≤ 1 by decide) h1.1
      obtain ⟨w, hw, rfl⟩ := rng (B := 40) (by omega) ⟨h00, h1.2⟩
      refine ⟨w, ?_, hw, rfl⟩
      have := h1.1
      rw [l_1, mI_le (by omega) (by omega)] at this
      exact this
  · left
    refine ⟨h1, ?_⟩
    unfold fX9_whyNoDay
    rw [wn, if_neg h1, Option.bind_some, if_neg (by decide)]
/-! the dough that is foretold -/
noncomputable def dgh (ρ : Nat → Int32) (h b w : Nat) : Nat := if b = 0 then 0 else sz (PL ρ h ((nxt ρ h).getD 0) b (nn (ρ 2)) w).2.1
theorem dgh_q {ρ : Nat → Int32} {h b t w : Nat} {O : List Nat} {tr : Nat → T3} (h2 : ρ 2 = nI t) (ht : t ≤ 400) (q1 : b = 0 → O = []) (q2 : 0 < b → ∃ f, f < h ∧ nxt ρ h = some f ∧ tb tr 0 O.length = (Od ρ h f b).map (bqt ρ)) : sz (dP 1000 (min 400 (t + 10 * w)) (tb tr 0 O.length)).2.1 = dgh ρ h b w := by
  unfold dgh
  by_cases hb : b = 0
  · rw [if_pos hb, q1 hb]
    rfl
  · obtain ⟨f, f1, f2, f3⟩ := q2 (by omega)
    rw [if_neg hb, f3, f2, h2, nn_n (by omega)]
    rfl
theorem dough_v {M : Mem} {ρ : Nat → Int32} {h b g c w : Nat} (V : Vi M ρ h b g c) (W : Wr ρ h b c) (hw : 1 ≤ w) (hw2 : w ≤ 40) : ∃ M', fX11_doughWith (nI w) M = some (Sum.inr (nI (dgh ρ h b w), M')) ∧ Pq M M' := by
  obtain ⟨t, t1, t2, t3⟩ := W.2.2.2.1
  obtain ⟨M4, O, tr, a1, a2, a3, a4, a5, a6⟩ := arrange_q V W
  obtain ⟨M5, b1, b2, b3, b4⟩ := dough_q a2 (t := t) (w := w) (by rw [a5 1 4 (by omega), V.2.2.2.2.1, t3]) t1 t2 hw2
  refine ⟨M5, ?_, fun q x hq => by rw [b3 q x hq, a5 q x hq], by rw [b4, a6]⟩
  rw [dgh_q t3 t2 a3 a4] at b1
  unfold fX11_doughWith
  rw [wn, if_pos ⟨pI_le (a := 1) hw (by omega), pI_le (b := 40) hw2 (by omega)⟩, Option.bind_some, refuse_0, Option.bind_some]
  show (fX9_arrangeNextDay 1 M).bind _ = _
  rw [a1, Option.bind_some, b1, Option.bind_some]
  rfl
theorem dough_x (M : Mem) : fX11_doughWith 0 M = some (Sum.inl 2) := by
  unfold fX11_doughWith
  rw [wn, if_neg (by decide), Option.bind_some, refuse_k.2.1, Option.bind_some]
  rfl
theorem bw_best {d : Nat → Nat} : ∀ (m w best : Nat), best < w → 1 ≤ best → (∀ v, 1 ≤ v → v < w → d best < d v ∨ (d best = d v ∧ best ≤ v)) → 1 ≤ bw d m w best ∧ bw d m w best < w + m ∧ ∀ v, 1 ≤ v → v < w + m → d (bw d m w best) < d v ∨ (d (bw d m w best) = d v ∧ bw d m w best ≤ v) := by
  intro m
  induction m with
  | zero => intro w best h1 h2 h3; exact ⟨h2, h1, h3⟩
  | succ m ih =>
    intro w best h1 h2 h3
    rw [bw]
    by_cases q : d w < d best
    · rw [if_pos q]
      have := ih (w + 1) w (by omega) (by omega) (fun v v1 v2 => by
        by_cases e : v = w
        · subst e; exact Or.inr ⟨rfl, Nat.le_refl _⟩
        · rcases h3 v v1 (by omega) with r | ⟨r, -⟩
          · exact Or.inl (by omega)
          · exact Or.inl (by omega))
      rw [show w + (m + 1) = w + 1 + m by omega]
      exact this
    · rw [if_neg q]
      have := ih (w + 1) best (by omega) h2 (fun v v1 v2 => by
        by_cases e : v = w
        · subst e
          by_cases e2 : d best = d v
          · exact Or.inr ⟨e2, by omega⟩
          · exact Or.inl (by omega)
        · exact h3 v v1 (by omega))
      rw [show w + (m + 1) = w + 1 + m by omega]
      exact this
theorem dgh_lt {ρ : Nat → Int32} {h b c w : Nat} (hh : h ≤ 8) (hb : b ≤ 20) (W : Wr ρ h b c) : dgh ρ h b w ≤ 240 := by
  unfold dgh
  by_cases hb0 : b = 0
  · rw [if_pos hb0]; omega
  · rw [if_neg hb0]
    have hh0 : 0 < h := by obtain ⟨⟨a, ha, -⟩, -⟩ := W.2.1 0 (by omega); omega
    obtain ⟨f, hf, hn⟩ := nxt_some W.1 hh0
    rw [hn]
    have hsz : sz ((Od ρ h f b).map (bqt ρ)) ≤ 240 := by
      have e1 := tb_map (bqt ρ) (Od ρ h f b)
      have e2 := sl_all (q := fun _ => true) (fun p => bqt ρ ((Od ρ h f b).getD p 0)) (Od ρ h f b).length 0 (fun _ _ _ => rfl)
      rw [← e1, ← e2]
      have := sl_sz (q := fun _ => true) (tr := fun p => bqt ρ ((Od ρ h f b).getD p 0)) (Od ρ h f b).length 0 (fun i _ hi => (bqt_ok hh W.2.1 (Od_lt (show i < (Od ρ h f b).length by omega))).2.2.2.2.2.2)
      have hl' := Od_len (f := f) hh hf W.2.1
      omega
    refine Nat.le_trans ?_ hsz
    have key : ∀ (n t : Nat) (W : List T3), sz (dP n t W).2.1 ≤ sz W := by
      intro n
      induction n with
      | zero => intro t W; exact Nat.le_refl _
      | succ n ih =>
        intro t W
        by_cases hW : W.length = 0
        · rw [dP, if_pos hW]; exact Nat.le_refl _
        · cases hk : kP t W with
          | some k =>
            rw [dP_load hW hk]
            have := (g_sum (pK k) W 24).2.1
            exact Nat.le_trans (ih _ _) (by omega)
          | none =>
            by_cases hh' : hotP t W
            · rw [dP_tick hW hk hh']; exact ih _ _
            · rw [dP_end hW hk hh']; exact Nat.le_refl _
    exact key 1000 _ _
theorem best_v {M : Mem} {ρ : Nat → Int32} {h b g c : Nat} (V : Vi M ρ h b g c) (W : Wr ρ h b c) (hb0 : 0 < b) : ∃ M' w, fX11_bestWood M = some (nI w, M') ∧ Pq M M' ∧ 1 ≤ w ∧ w ≤ 40 ∧ ∀ v, 1 ≤ v → v ≤ 40 → dgh ρ h b w < dgh ρ h b v ∨ (dgh ρ h b w = dgh ρ h b v ∧ w ≤ v) := by
  have hb := V.2.1.1
  obtain ⟨t, t1, t2, t3⟩ := W.2.2.2.1
  obtain ⟨M4, O, tr, a1, a2, a3, a4, a5, a6⟩ := arrange_q V W
  have hd : ∀ w, w ≤ 40 → dgh ρ h b w = sz (dP 1000 (min 400 (t + 10 * w)) (tb tr 0 O.length)).2.1 := fun w _ => (dgh_q t3 t2 a3 a4).symm
  have hd2 : ∀ w, w ≤ 40 → dgh ρ h b w < 1000 := fun w _ => by have := dgh_lt (w := w) V.1.1 hb W; omega
  have h44 : M4.1 1 4 = nI t := by rw [a5 1 4 (by omega), V.2.2.2.2.1, t3]
  obtain ⟨M5, b1, b2, b3, b4⟩ := dough_q a2 (t := t) (w := 1) h44 t1 t2 (by omega)
  rw [← hd 1 (by omega)] at b1
  obtain ⟨M6, c1, c2, c3⟩ := bw_c (d := dgh ρ h b) t1 t2 hd hd2 39 2 FUEL 1 M5 b2 (by rw [b3 1 4 (by omega)]; exact h44) (by omega) (by omega) (fuel8 (by omega))
  obtain ⟨r1, r2, r3⟩ := bw_best (d := dgh ρ h b) 39 2 1 (by omega) (by omega) (fun v v1 v2 => Or.inr ⟨by rw [show v = 1 by omega], by omega⟩)
  refine ⟨M6, bw (dgh ρ h b) 39 2 1, ?_, ⟨fun q x hq => by rw [c2 q x hq, b3 q x hq, a5 q x hq], by rw [c3, b4, a6]⟩, r1, by omega, fun v v1 v2 => r3 v v1 (by omega)⟩
  unfold fX11_bestWood fX1_size
  rw [V.2.1.2.1, Option.bind_some, if_neg (show ¬ nI b = 0 from pI_ne (b := 0) (by omega) (by omega) (by omega)), a1, Option.bind_some, show fX11_doughOfArrangedDay 1 M4 = _ from b1, Option.bind_some]
  refine un2i ?_
  rw [show lX11_bestWood_36 FUEL 1 (nI (dgh ρ h b 1)) 2 M5 = _ from c1, Option.bind_some]
  exact un2i rfl
theorem best_x {M : Mem} {ρ : Nat → Int32} {h g c : Nat} (V : Vi M ρ h 0 g c) : fX11_bestWood M = some (NG, M) := by
  unfold fX11_bestWood fX1_size
  rw [V.2.1.2.1, Option.bind_some, if_pos (show nI 0 = 0 from rfl)]
  rfl
