/-! returns, counted -/
/-- a loaf that a return could take -/
def Er (ρ : Nat → Int32) (i q r : Nat) : Prop := ρ (201 + 7 * r + 1) = nI q ∧ ρ (201 + 7 * r + 5) = nI i ∧ ¬ ρ (201 + 7 * r + 0) = nI i
theorem Er.back {ρ ρ' : Nat → Int32} {c i q r : Nat} {T : Nat → Nat} {S : Nat} (H : Mw i 8 ρ ρ' c T S) (hi : i < 8) (hr : r < min c 200) (h : Er ρ' i q r) : Er ρ i q r := by
  obtain ⟨e1, e2, e3⟩ := h
  rw [H.1 _ fun r' => by omega] at e1
  rw [H.1 _ fun r' => by omega] at e3
  refine ⟨e1, ?_, e3⟩
  rcases H.2.1 r hr with f | ⟨f1, f2⟩
  · rw [← f]; exact e2
  · exact f1
theorem ret_in {h b g c i q : Nat} (hi : i < h) (hq : q < 3) : ∀ (m n : Nat) (a : Int32) (M : Mem) (ρ : Nat → Int32), Vi M ρ h b g c → c - 200 + m ≤ c → m < n → ∃ t M' ρ', lX6_moveToShelf_25 23 (nI i) (nI q) n a (nI (bA ρ c i q 0) - nI (bA ρ c i q 5)) (nI (c - 200 + m) - 1) M = some (a + nI t, M') ∧ Vi M' ρ' h b g c ∧ Fc M M' ∧ Mw i 8 ρ ρ' c (fun q' => if q' = q then t else 0) t ∧ (bA ρ' c i q 5 ≤ bA ρ c i q 0 ∨ ∀ x, c - 200 ≤ x → x < c - 200 + m → ¬ Er ρ' i q (x % 200)) ∧ (t = 0 ∨ bA ρ c i q 0 ≤ bA ρ' c i q 5) := by
  have z0 : ∀ x : Nat, (fun q' : Nat => if q' = x then 0 else 0) = fun _ => 0 := fun x => by funext q'; split <;> rfl
  intro m
  induction m with
  | zero =>
    intro n a M ρ V h1 h2
    obtain ⟨n, rfl⟩ : ∃ n', n = n' + 1 := ⟨n - 1, by omega⟩
    have L := V.2.2.2.1
    have hc := L.1
    refine ⟨0, M, ρ, ?_, V, Fc.rf M, by rw [z0]; exact Mw.rf _ _ _ _, Or.inr fun x x1 x2 => by omega, Or.inl rfl⟩
    rw [lX6_moveToShelf_25, L.first, Option.bind_some, Nat.add_zero, if_pos (dn_lt (by omega)), sm_z]
  | succ m ih =>
    intro n a M ρ V h1 h2
    obtain ⟨n, rfl⟩ : ∃ n', n = n' + 1 := ⟨n - 1, by omega⟩
    have L := V.2.2.2.1
    have hc := L.1
    have hh := V.1.1
    rw [dn_s]
    obtain ⟨j, hj0⟩ : ∃ j, j = c - 200 + m := ⟨_, rfl⟩
    rw [← hj0]
    have hj : j % 200 < 200 := Nat.mod_lt _ (by omega)
    have hjr : j % 200 < min c 200 := by have := Nat.mod_le j 200; omega
    have en : nI j + (-1 : Int32) = nI (c - 200 + m) - 1 := by rw [Int32.sub_eq_add_neg, hj0]
    obtain ⟨y, hy⟩ : ∃ y, y = nI (bA ρ c i q 0) - nI (bA ρ c i q 5) := ⟨_, rfl⟩
    have bA0 := bA_le ρ c i q 0
    have bA5 := bA_le ρ c i q 5
    have ec : lX6_moveToShelf_25 23 (nI i) (nI q) (n + 1) a y (nI j) M = if 0 ≤ y then some (a, M) else if ρ (201 + 7 * (j % 200) + 1) = nI q then (if ρ (201 + 7 * (j % 200) + 5) = nI i then (if ρ (201 + 7 * (j % 200) + 0) = nI i then lX6_moveToShelf_25 23 (nI i) (nI q) n a y (nI (c - 200 + m) - 1) M else lX6_moveToShelf_25 23 (nI i) (nI q) n (a + 1) (y + 1) (nI (c - 200 + m) - 1) (mput M (26 + 5) (j % 200) (nI 8))) else lX6_moveToShelf_25 23 (nI i) (nI q) n a y (nI (c - 200 + m) - 1) M) else lX6_moveToShelf_25 23 (nI i) (nI q) n a y (nI (c - 200 + m) - 1) M := by
      rw [lX6_moveToShelf_25, L.first, Option.bind_some, if_neg (pI_nlt (by omega) (by omega))]
      rw [show fX6_value 23 (nI j) 1 M = some _ from L.val (k := 1) (by omega) (by omega), Option.bind_some, show fX6_value 23 (nI j) 5 M = some _ from L.val (k := 5) (by omega) (by omega), Option.bind_some, show fX6_value 23 (nI j) 0 M = some _ from L.val (k := 0) (by omega) (by omega), Option.bind_some, give_c (by omega), Option.bind_some, en]
      rfl
    have stay : ¬ Er ρ i q (j % 200) → lX6_moveToShelf_25 23 (nI i) (nI q) (n + 1) a y (nI j) M = lX6_moveToShelf_25 23 (nI i) (nI q) n a y (nI (c - 200 + m) - 1) M → ∃ t M' ρ', lX6_moveToShelf_25 23 (nI i) (nI q) (n + 1) a y (nI j) M = some (a + nI t, M') ∧ Vi M' ρ' h b g c ∧ Fc M M' ∧ Mw i 8 ρ ρ' c (fun q' => if q' = q then t else 0) t ∧ (bA ρ' c i q 5 ≤ bA ρ c i q 0 ∨ ∀ x, c - 200 ≤ x → x < c - 200 + (m + 1) → ¬ Er ρ' i q (x % 200)) ∧ (t = 0 ∨ bA ρ c i q 0 ≤ bA ρ' c i q 5) := fun hn he => by
      obtain ⟨t, M', ρ', a1, a2, a3, a4, a5, a6⟩ := ih n a M ρ V (by omega) (by omega)
      refine ⟨t, M', ρ', by rw [he, hy]; exact a1, a2, a3, a4, ?_, a6⟩
      rcases a5 with w | w
      · exact Or.inl w
      · refine Or.inr fun x x1 x2 => ?_
        by_cases e : x = j
        · subst e; exact fun hE => hn (hE.back a4 (by omega) hjr)
        · exact w x x1 (by omega)
    rw [← hy]
    by_cases c0 : 0 ≤ y
    · refine ⟨0, M, ρ, by rw [ec, if_pos c0, sm_z], V, Fc.rf M, by rw [z0]; exact Mw.rf _ _ _ _, Or.inl ?_, Or.inl rfl⟩
      rw [hy] at c0
      exact (y_ge bA0 bA5).mp c0
    by_cases c1 : ρ (201 + 7 * (j % 200) + 1) = nI q
    · by_cases c2 : ρ (201 + 7 * (j % 200) + 5) = nI i
      · by_cases c3 : ρ (201 + 7 * (j % 200) + 0) = nI i
        · exact stay (fun w => w.2.2 c3) (by rw [ec, if_neg c0, if_pos c1, if_pos c2, if_pos c3])
        · have V1 := V.ptL hj (show 5 < 7 by omega) (nI 8)
          have m1 := Mw.one (ρ := ρ) (show i ≠ 8 by omega) (by omega) (by omega) hjr hq c2 c1
          obtain ⟨t, M', ρ', a1, a2, a3, a4, a5, a6⟩ := ih n (a + 1) _ _ V1 (by omega) (by omega)
          have o1 := m1.own i q
          have o5 : bA (ru ρ (201 + 7 * (j % 200) + 5) (nI 8)) c i q 5 + (if q = q then 1 else 0) = bA ρ c i q 5 := (m1.2.2.2.1 q hq).1
          rw [if_pos rfl] at o5
          have o6 : bA (ru ρ (201 + 7 * (j % 200) + 5) (nI 8)) c i q 5 = bA ρ c i q 5 - 1 := by omega
          have ey : y + 1 = nI (bA ρ c i q 0) - nI (bA (ru ρ (201 + 7 * (j % 200) + 5) (nI 8)) c i q 5) := by
            rw [hy, ← o5, y_up]
          rw [o1, ← ey] at a1
          rw [o1] at a5 a6
          have lt : bA ρ c i q 0 < bA ρ c i q 5 := by
            rw [hy] at c0
            exact Nat.not_le.mp fun w => c0 ((y_ge bA0 bA5).mpr w)
          have mt := m1.tr (show i ≠ 8 by omega) (by omega) (by omega) a4
          have eT : (fun q' : Nat => (if q' = q then 1 else 0) + if q' = q then t else 0) = fun q' => if q' = q then 1 + t else 0 := by funext q'; split <;> omega
          rw [eT] at mt
          refine ⟨1 + t, M', ρ', ?_, a2, (Fc.pt M _ (by omega)).tr a3, mt, ?_, ?_⟩
          · rw [ec, if_neg c0, if_pos c1, if_pos c2, if_neg c3, a1, Int32.add_assoc, l_1, nI_ad]
          · rcases a5 with w | w
            · exact Or.inl w
            · refine Or.inr fun x x1 x2 => ?_
              by_cases e : x = j
              · subst e
                intro hE
                have := (hE.back a4 (by omega) hjr).2.1
                rw [ru_at] at this
                exact pI_ne (show 8 ≠ i by omega) (by omega) (by omega) this
              · exact w x x1 (by omega)
          · right
            rcases a6 with w | w
            · have : bA ρ' c i q 5 + (if q = q then t else 0) = _ := (a4.2.2.2.1 q hq).1
              rw [if_pos rfl] at this
              omega
            · exact w
      · exact stay (fun w => c2 w.2.1) (by rw [ec, if_neg c0, if_pos c1, if_neg c2])
    · exact stay (fun w => c1 w.1) (by rw [ec, if_neg c0, if_neg c1])
theorem ret_out {h b g c i : Nat} (hi : i < h) : ∀ (m k n : Nat) (a : Int32) (M : Mem) (ρ : Nat → Int32), Vi M ρ h b g c → k + m = 3 → m < n → ∃ T S M' ρ', lX6_moveToShelf_4 23 (nI i) n a (nI k) M = some (a + nI S, M') ∧ Vi M' ρ' h b g c ∧ Fc M M' ∧ Mw i 8 ρ ρ' c T S ∧ (∀ q, q < k → T q = 0) ∧ ∀ q, k ≤ q → q < 3 → (bA ρ' c i q 5 ≤ bA ρ c i q 0 ∨ ∀ x, c - 200 ≤ x → x < c → ¬ Er ρ' i q (x % 200)) ∧ (T q = 0 ∨ bA ρ c i q 0 ≤ bA ρ' c i q 5) := by
  intro m
  induction m with
  | zero =>
    intro k n a M ρ V h1 h2
    obtain ⟨n, rfl⟩ : ∃ n', n = n' + 1 := ⟨n - 1, by omega⟩
    refine ⟨fun _ => 0, 0, M, ρ, ?_, V, Fc.rf M, Mw.rf _ _ _ _, fun _ _ => rfl, fun q q1 q2 => by omega⟩
    rw [lX6_moveToShelf_4, l_3, if_pos (pI_le (by omega) (by omega)), sm_z]
  | succ m ih =>
    intro k n a M ρ V h1 h2
    obtain ⟨n, rfl⟩ : ∃ n', n = n' + 1 := ⟨n - 1, by omega⟩
    have L := V.2.2.2.1
    have hc := L.1
    have hh := V.1.1
    have hm : min c 200 ≤ 200 := Nat.min_le_right _ _
    have ce : c - 200 + min c 200 = c := by omega
    obtain ⟨t, M', ρ', a1, a2, a3, a4, a5, a6⟩ := ret_in hi (show k < 3 by omega) (min c 200) FUEL a M ρ V (by omega) (fuel8 (by omega))
    rw [ce] at a1 a5
    obtain ⟨T, S, M2, ρ2, d1, d2, d3, d4, d5, d6⟩ := ih (k + 1) n (a + nI t) M' ρ' a2 (by omega) (by omega)
    refine ⟨fun q => (if q = k then t else 0) + T q, t + S, M2, ρ2, ?_, d2, a3.tr d3, a4.tr (show i ≠ 8 by omega) (by omega) (by omega) d4, fun q hq => ?_, fun q q1 q2 => ?_⟩
    · rw [lX6_moveToShelf_4, l_3, if_neg (pI_nle (by omega) (by omega)), L.bal, Option.bind_some, L.2.1, Ba_n, a1, Option.bind_some]
      refine un2i ?_
      rw [show nI k + (1 : Int32) = nI (k + 1) from nI_ad k 1, d1, Int32.add_assoc, nI_ad]
    · dsimp only
      rw [if_neg (by omega), d5 q (by omega)]
    · dsimp only
      have o2 := (d4.2.2.2.1 q q2).1
      by_cases e : q = k
      · subst e
        rw [d5 q (by omega), Nat.add_zero] at o2
        rw [o2, if_pos rfl, d5 q (by omega), Nat.add_zero]
        refine ⟨?_, a6⟩
        rcases a5 with w | w
        · exact Or.inl w
        · exact Or.inr fun x x1 x2 hE => w x x1 x2 (hE.back d4 (by omega) (by have := Nat.mod_lt x (show 0 < 200 by omega); have := Nat.mod_le x 200; omega))
      · rw [if_neg e, Nat.zero_add, ← a4.own i q]
        exact d6 q (by omega) q2
/-- each row is some kept loaf's -/
theorem row_of {c r : Nat} (hr : r < min c 200) : ∃ x, c - 200 ≤ x ∧ x < c ∧ x % 200 = r := by
  by_cases h : c ≤ 200
  · exact ⟨r, by omega, by omega, by omega⟩
  · refine ⟨c - 200 + (r + 200 - (c - 200) % 200) % 200, by omega, ?_, ?_⟩
    · have := Nat.mod_lt (r + 200 - (c - 200) % 200) (show 0 < 200 by omega); omega
    · omega
/-- what the class does: a claim -/
theorem ov_claim {M : Mem} {ρ : Nat → Int32} {h b g c n i : Nat} (V : Vi M ρ h b g c) (D : Gd ρ h b g c n) (hi : i < h) : ∃ T S M' ρ', fX9_letClaim 1 (nI i) M = some (nI S, M') ∧ Vi M' ρ' h b g c ∧ Gd ρ' h b g c n ∧ Fc M M' ∧ Mw 8 i ρ ρ' c T S ∧ ∀ q, q < 3 → (bA ρ c i q 0 ≤ bA ρ' c i q 5 ∨ ∀ x, c - 200 ≤ x → x < c → ¬ El ρ' i q (x % 200)) ∧ (T q = 0 ∨ bA ρ' c i q 5 ≤ bA ρ c i q 0) := by
  obtain ⟨T, S, M', ρ', a1, a2, a3, a4, a5, a6⟩ := claim_out hi 3 0 FUEL 0 M ρ V (by omega) (fuel8 (by omega))
  refine ⟨T, S, M', ρ', ?_, a2, D.hold V.1.1 V.2.1.1 V.2.2.1.1 a4.1 fun r d hr G => a4.gl (Or.inr hi) hr G, a3, a4, fun q hq => a6 q (by omega) hq⟩
  unfold fX9_letClaim fX4_value fX6_moveFromShelf
  show ((fX7_get 3 4 8 _ _ M).bind _).bind _ = _
  rw [l_0, V.1.gt hi (by omega), Option.bind_some, Option.bind_some]
  show ((lX6_moveFromShelf_5 23 (nI i) (ρ (9 + 4 * i + 0)) FUEL 0 (nI 0) M).bind _).bind _ = _
  rw [a1, Int32.zero_add]; rfl
theorem ov_return {M : Mem} {ρ : Nat → Int32} {h b g c n i : Nat} (V : Vi M ρ h b g c) (D : Gd ρ h b g c n) (hi : i < h) : ∃ T S M' ρ', fX6_moveToShelf 23 (nI i) M = some (nI S, M') ∧ Vi M' ρ' h b g c ∧ Gd ρ' h b g c n ∧ Fc M M' ∧ Mw i 8 ρ ρ' c T S ∧ ∀ q, q < 3 → bA ρ' c i q 5 ≤ bA ρ c i q 0 ∧ (T q = 0 ∨ bA ρ c i q 0 ≤ bA ρ' c i q 5) := by
  obtain ⟨T, S, M', ρ', a1, a2, a3, a4, a5, a6⟩ := ret_out hi 3 0 FUEL 0 M ρ V (by omega) (fuel8 (by omega))
  refine ⟨T, S, M', ρ', ?_, a2, D.hold V.1.1 V.2.1.1 V.2.2.1.1 a4.1 fun r d hr G => a4.gl (Or.inl rfl) hr G, a3, a4, fun q hq => ⟨?_, (a6 q (by omega) hq).2⟩⟩
  · unfold fX6_moveToShelf
    show (lX6_moveToShelf_4 23 (nI i) FUEL 0 (nI 0) M).bind _ = _
    rw [a1, Int32.zero_add]; rfl
  · rcases (a6 q (by omega) hq).1 with w | w
    · exact w
    · rw [← a4.own i q]
      unfold bA
      refine sN_le _ _ fun r _ hr => iN_im fun z => ⟨z.1, Decidable.byContradiction fun e => ?_⟩
      obtain ⟨x, x1, x2, x3⟩ := row_of (c := c) (r := r) (by omega)
      exact w x x1 x2 (by rw [x3]; exact ⟨z.1, z.2, e⟩)
theorem ov_give {M : Mem} {ρ : Nat → Int32} {h b g c n : Nat} (V : Vi M ρ h b g c) (D : Gd ρ h b g c n) : Od1 (fX6_emptyShelf 23) M ρ h b g c n := by
  have hm : min c 200 ≤ 200 := Nat.min_le_right _ _
  obtain ⟨M', a1, a2, a3⟩ := gc_c (min c 200) 0 FUEL 0 M ρ V (by omega) (fuel8 (by omega))
  have es : sm (f8 ρ) 0 (min c 200) = nI (cH ρ c 8) := sm_i _ _ _
  have hk := cH_k ρ c 8
  refine ⟨cH ρ c 8, M', gc ρ 0 (min c 200), h, b, g, c, ?_, by omega, a2, D.hold V.1.1 V.2.1.1 V.2.2.1.1 (fun k hk' => ?_) (fun r d hr G => ?_), a3⟩
  · unfold fX6_emptyShelf
    show (lX6_emptyShelf_4 23 FUEL 0 (nI 0) M).bind _ = _
    rw [a1, Int32.zero_add, es]; rfl
  · simp only [gc]
    rw [if_neg]
    rintro ⟨q1, q2, -⟩
    exact hk' ((k - 201) / 7) (by omega)
  · obtain ⟨g1, g2, g3, g4, g5, g6⟩ := G
    have same : ∀ j, j < 7 → j ≠ 5 → gc ρ 0 (min c 200) (201 + 7 * r + j) = ρ (201 + 7 * r + j) := fun j j1 j2 => by
      simp only [gc]; rw [if_neg]; rintro ⟨q1, q2, -⟩; omega
    unfold Gl
    rw [same 0 (by omega) (by omega), same 1 (by omega) (by omega), same 2 (by omega) (by omega), same 3 (by omega) (by omega), same 4 (by omega) (by omega), same 6 (by omega) (by omega)]
    refine ⟨g1, g2, g3, g4, g5, ?_⟩
    simp only [gc]
    split
    · exact Or.inl rfl
    · exact g6
