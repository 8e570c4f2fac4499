/-! claims and returns: how many loaves go from one holder to another -/
theorem sN_upd {f g : Nat → Nat} {r : Nat} : ∀ (m a : Nat), a ≤ r → r < a + m → f r + 1 = g r → (∀ i, a ≤ i → i < a + m → i ≠ r → f i = g i) → sN f a m + 1 = sN g a m := by
  intro m
  induction m with
  | zero => intro a h1 h2; omega
  | succ m ih =>
    intro a h1 h2 h3 h4
    rw [sN, sN]
    by_cases e : a = r
    · subst e
      rw [sN_cg m (a + 1) (f := f) (g := g) fun i i1 i2 => h4 i (by omega) (by omega) (by omega)]; omega
    · have := ih (a + 1) (by omega) (by omega) h3 fun i i1 i2 i3 => h4 i (by omega) (by omega) i3
      rw [h4 a (Nat.le_refl _) (by omega) e]; omega
/-- of each kind q go T q loaves, S in all, from holder a to holder b -/
def Mw (a b : Nat) (ρ ρ' : Nat → Int32) (c : Nat) (T : Nat → Nat) (S : Nat) : Prop :=
  (∀ k, (∀ r, k ≠ 201 + 7 * r + 5) → ρ' k = ρ k) ∧ (∀ r, r < min c 200 → ρ' (201 + 7 * r + 5) = ρ (201 + 7 * r + 5) ∨ (ρ (201 + 7 * r + 5) = nI a ∧ ρ' (201 + 7 * r + 5) = nI b)) ∧
  (cH ρ' c a + S = cH ρ c a ∧ cH ρ' c b = cH ρ c b + S) ∧ (∀ q, q < 3 → bA ρ' c a q 5 + T q = bA ρ c a q 5 ∧ bA ρ' c b q 5 = bA ρ c b q 5 + T q) ∧ S = T 0 + T 1 + T 2
theorem Mw.rf (a b : Nat) (ρ : Nat → Int32) (c : Nat) : Mw a b ρ ρ c (fun _ => 0) 0 := ⟨fun _ _ => rfl, fun _ _ => Or.inl rfl, ⟨rfl, rfl⟩, fun _ _ => ⟨rfl, rfl⟩, rfl⟩
theorem Mw.tr {a b c : Nat} {ρ σ τ : Nat → Int32} {T T' : Nat → Nat} {S S' : Nat} (hab : a ≠ b) (ha : a < 100) (hb : b < 100) (H : Mw a b ρ σ c T S) (H' : Mw a b σ τ c T' S') : Mw a b ρ τ c (fun q => T q + T' q) (S + S') := by
  obtain ⟨h1, h2, ⟨h3, h4⟩, h5, h6⟩ := H
  obtain ⟨g1, g2, ⟨g3, g4⟩, g5, g6⟩ := H'
  refine ⟨fun k hk => (g1 k hk).trans (h1 k hk), fun r hr => ?_, ⟨by omega, by omega⟩, fun q hq => ?_, by dsimp only; omega⟩
  · rcases h2 r hr with e | ⟨e1, e2⟩
    · rcases g2 r hr with f | ⟨f1, f2⟩
      · exact Or.inl (f.trans e)
      · exact Or.inr ⟨by rw [← e]; exact f1, f2⟩
    · rcases g2 r hr with f | ⟨f1, f2⟩
      · exact Or.inr ⟨e1, f.trans e2⟩
      · exact absurd (e2.symm.trans f1) (pI_ne (by omega) (by omega) (by omega))
  · have a1 := h5 q hq
    have a2 := g5 q hq
    dsimp only
    constructor <;> omega
theorem Mw.own {a b c : Nat} {ρ ρ' : Nat → Int32} {T : Nat → Nat} {S : Nat} (H : Mw a b ρ ρ' c T S) (x q : Nat) : bA ρ' c x q 0 = bA ρ c x q 0 := by
  unfold bA
  refine sN_cg _ _ fun r _ _ => ?_
  rw [H.1 _ fun r' => by omega, H.1 _ fun r' => by omega]
theorem Mw.one {a b c r q : Nat} {ρ : Nat → Int32} (hab : a ≠ b) (ha : a < 100) (hb : b < 100) (hr : r < min c 200) (hq : q < 3) (e1 : ρ (201 + 7 * r + 5) = nI a) (e2 : ρ (201 + 7 * r + 1) = nI q) : Mw a b ρ (ru ρ (201 + 7 * r + 5) (nI b)) c (fun q' => if q' = q then 1 else 0) 1 := by
  have hne : ∀ k, (∀ r', k ≠ 201 + 7 * r' + 5) → ru ρ (201 + 7 * r + 5) (nI b) k = ρ k := fun k hk => ru_ne _ (hk r)
  have nab : ¬ nI a = nI b := pI_ne hab (by omega) (by omega)
  refine ⟨hne, fun r' hr' => ?_, ⟨?_, ?_⟩, fun q' hq' => ?_, ?_⟩
  · by_cases e : r' = r
    · subst e; exact Or.inr ⟨e1, ru_at _ _ _⟩
    · exact Or.inl (ru_ne _ (by omega))
  · unfold cH
    refine sN_upd (r := r) _ _ (by omega) (by omega) ?_ fun i _ _ hi => by rw [ru_ne _ (by omega)]
    rw [ru_at, e1, iN_n (fun w => nab w.symm), iN_p rfl]
  · unfold cH
    refine (sN_upd (r := r) _ _ (by omega) (by omega) ?_ fun i _ _ hi => by rw [ru_ne _ (by omega)]).symm
    rw [ru_at, e1, iN_n nab, iN_p rfl]
  · unfold bA
    dsimp only
    by_cases e : q' = q
    · subst e
      rw [if_pos rfl]
      constructor
      · refine sN_upd (r := r) _ _ (by omega) (by omega) ?_ fun i _ _ hi => by rw [ru_ne _ (by omega), ru_ne _ (by omega)]
        rw [ru_at, e1, iN_n (fun w => nab w.2.symm), iN_p ⟨e2, rfl⟩]
      · refine (sN_upd (r := r) _ _ (by omega) (by omega) ?_ fun i _ _ hi => by rw [ru_ne _ (by omega), ru_ne _ (by omega)]).symm
        rw [ru_at, e1, iN_n (fun w => nab w.2), ru_ne _ (by omega), iN_p ⟨e2, rfl⟩]
    · rw [if_neg e]
      have nq : ¬ nI q = nI q' := pI_ne (Ne.symm e) (by omega) (by omega)
      constructor
      · rw [Nat.add_zero]
        refine sN_cg _ _ fun i _ _ => ?_
        by_cases ei : i = r
        · subst ei
          rw [ru_ne (k := 201 + 7 * i + 5) (j := 201 + 7 * i + 1) _ (by omega), e2, iN_n (fun w => nq w.1), iN_n (fun w => nq w.1)]
        · rw [ru_ne _ (by omega), ru_ne _ (by omega)]
      · rw [Nat.add_zero]
        refine sN_cg _ _ fun i _ _ => ?_
        by_cases ei : i = r
        · subst ei
          rw [ru_ne (k := 201 + 7 * i + 5) (j := 201 + 7 * i + 1) _ (by omega), e2, iN_n (fun w => nq w.1), iN_n (fun w => nq w.1)]
        · rw [ru_ne _ (by omega), ru_ne _ (by omega)]
  · rcases (show q = 0 ∨ q = 1 ∨ q = 2 by omega) with rfl | rfl | rfl <;> rfl
theorem Mw.gl {a b c h d : Nat} {ρ ρ' : Nat → Int32} {T : Nat → Nat} {S : Nat} (H : Mw a b ρ ρ' c T S) (hb : b = 8 ∨ b < h) {r : Nat} (hr : r < min c 200) (G : Gl ρ h d r) : Gl ρ' h d r := by
  obtain ⟨h1, h2, -⟩ := H
  obtain ⟨g1, g2, g3, g4, g5, g6⟩ := G
  unfold Gl
  rw [h1 _ fun r' => by omega, h1 (201 + 7 * r + 1) fun r' => by omega, h1 (201 + 7 * r + 2) fun r' => by omega, h1 (201 + 7 * r + 3) fun r' => by omega, h1 (201 + 7 * r + 4) fun r' => by omega, h1 (201 + 7 * r + 6) fun r' => by omega]
  refine ⟨g1, g2, g3, g4, g5, ?_⟩
  rcases h2 r hr with e | ⟨-, e⟩
  · rw [e]; exact g6
  · rw [e]
    rcases hb with rfl | hb
    · exact Or.inr (Or.inl rfl)
    · exact Or.inr (Or.inr ⟨b, hb, rfl⟩)
/-- holders alone have changed -/
theorem Gd.hold {ρ ρ' : Nat → Int32} {h b g c n : Nat} (hh : h ≤ 8) (hb : b ≤ 20) (hg : g ≤ 20) (D : Gd ρ h b g c n) (h1 : ∀ k, (∀ r, k ≠ 201 + 7 * r + 5) → ρ' k = ρ k) (h2 : ∀ r d, r < min c 200 → Gl ρ h d r → Gl ρ' h d r) : Gd ρ' h b g c n := by
  obtain ⟨⟨w3, w4, w5, w6⟩, GW, hcn, ⟨d, d1, d2, ⟨k1, k2, q, k3, k4, k5⟩⟩, GO⟩ := D
  have lo' : ∀ k, k < 201 → ρ' k = ρ k := fun k hk => h1 k fun r => by omega
  have R : RLv ρ' c := fun r r1 r2 => by
    obtain ⟨-, -, -, -, -, g6⟩ := h2 r d (by omega) (k1 r (by omega))
    rcases g6 with e | e | ⟨x, x1, e⟩
    · exact Or.inl e
    · exact Or.inr ⟨8, by omega, e⟩
    · exact Or.inr ⟨x, by omega, e⟩
  refine ⟨⟨w3.cg hh fun k _ _ => lo' k (by omega), w4.cg hb fun k _ _ => lo' k (by omega), R, w6.cg fun k _ => lo' k (by omega)⟩, GW.cg fun i hi => ⟨lo' _ (by omega), lo' _ (by omega)⟩, hcn, ⟨d, by rw [lo' 3 (by omega)]; exact d1, d2, fun r hr => h2 r d hr (k1 r hr), fun i i1 i2 => ?_, ⟨q, by rw [lo' 6 (by omega)]; exact k3, k4, ?_⟩⟩, GO.cg hg (Nat.le_refl _) fun k _ a2 => lo' k (by omega)⟩
  · rw [h1 _ fun r => by omega, h1 (201 + 7 * ((i + 1) % 200) + 2) fun r => by omega]; exact k2 i i1 i2
  · rw [sN_cg (g := fun r => nn (ρ (201 + 7 * r + 3))) _ _ fun r _ _ => by rw [h1 _ fun r' => by omega]]; exact k5
theorem bA_le (ρ : Nat → Int32) (c i q j : Nat) : bA ρ c i q j ≤ 200 := Nat.le_trans (sN_ln _ _ fun _ _ _ => iN_le _) (Nat.min_le_right _ _)
theorem y_le {A B : Nat} (hA : A ≤ 200) (hB : B ≤ 200) : nI A - nI B ≤ 0 ↔ A ≤ B := by
  rw [Int32.le_iff_toInt_le, sub_int (by omega) (by omega), show (0 : Int32).toInt = 0 by decide]; omega
theorem y_ge {A B : Nat} (hA : A ≤ 200) (hB : B ≤ 200) : 0 ≤ nI A - nI B ↔ B ≤ A := by
  rw [Int32.le_iff_toInt_le, sub_int (by omega) (by omega), show (0 : Int32).toInt = 0 by decide]; omega
theorem y_dn (A B : Nat) : (nI A - nI B) + (-1) = nI A - nI (B + 1) := by
  rw [← nI_ad B 1, Int32.sub_eq_add_neg, Int32.sub_eq_add_neg, Int32.neg_add, Int32.sub_eq_add_neg, Int32.add_assoc]; rfl
theorem y_up (A B : Nat) : (nI A - nI (B + 1)) + 1 = nI A - nI B := by
  rw [← y_dn, Int32.add_assoc]
  exact Int32.add_zero _
/-- a loaf that a claim could take -/
def El (ρ : Nat → Int32) (i q r : Nat) : Prop := ρ (201 + 7 * r + 1) = nI q ∧ ρ (201 + 7 * r + 5) = nI 8 ∧ ρ (201 + 7 * r + 4) &&& (ρ (9 + 4 * i + 0) ^^^ (-1 : Int32)) = 0
theorem El.back {ρ ρ' : Nat → Int32} {c i q r : Nat} {T : Nat → Nat} {S : Nat} (H : Mw 8 i ρ ρ' c T S) (hi : i < 8) (hr : r < min c 200) (h : El ρ' i q r) : El ρ i q r := by
  obtain ⟨e1, e2, e3⟩ := h
  rw [H.1 _ fun r' => by omega] at e1
  rw [H.1 _ fun r' => by omega, H.1 (9 + 4 * i + 0) fun r' => by omega] at e3
  refine ⟨e1, ?_, e3⟩
  rcases H.2.1 r hr with f | ⟨f1, f2⟩
  · rw [← f]; exact e2
  · exact f1
theorem claim_in {h b g c i q : Nat} (hi : i < h) (hq : q < 3) : ∀ (m j n : Nat) (a : Int32) (M : Mem) (ρ : Nat → Int32), Vi M ρ h b g c → j + m = c → c - 200 ≤ j → m < n → ∃ t M' ρ', lX6_moveFromShelf_26 23 (nI i) (ρ (9 + 4 * i + 0)) (nI q) n a (nI (bA ρ c i q 0) - nI (bA ρ c i q 5)) (nI j) M = some (a + nI t, M') ∧ Vi M' ρ' h b g c ∧ Fc M M' ∧ Mw 8 i ρ ρ' c (fun q' => if q' = q then t else 0) t ∧ (bA ρ c i q 0 ≤ bA ρ' c i q 5 ∨ ∀ x, j ≤ x → x < c → ¬ El ρ' i q (x % 200)) ∧ (t = 0 ∨ bA ρ' c i q 5 ≤ bA ρ c i q 0) := by
  have z0 : ∀ x : Nat, (fun q' : Nat => if q' = x then 0 else 0) = fun _ => 0 := fun x => by funext q'; split <;> rfl
  intro m
  induction m with
  | zero =>
    intro j n a M ρ V h1 h0 h2
    obtain ⟨n, rfl⟩ : ∃ n', n = n' + 1 := ⟨n - 1, by omega⟩
    have L := V.2.2.2.1
    have hc := L.1
    refine ⟨0, M, ρ, ?_, V, Fc.rf M, by rw [z0]; exact Mw.rf _ _ _ _, Or.inr fun x x1 x2 => by omega, Or.inl rfl⟩
    rw [lX6_moveFromShelf_26, L.2.1, if_pos (pI_le (by omega) (by omega)), sm_z]
  | succ m ih =>
    intro j n a M ρ V h1 h0 h2
    obtain ⟨n, rfl⟩ : ∃ n', n = n' + 1 := ⟨n - 1, by omega⟩
    have L := V.2.2.2.1
    have hc := L.1
    have hh := V.1.1
    have hj : j % 200 < 200 := Nat.mod_lt _ (by omega)
    have hjr : j % 200 < min c 200 := by have := Nat.mod_le j 200; omega
    obtain ⟨y, hy⟩ : ∃ y, y = nI (bA ρ c i q 0) - nI (bA ρ c i q 5) := ⟨_, rfl⟩
    have bA0 := bA_le ρ c i q 0
    have bA5 := bA_le ρ c i q 5
    have ec : lX6_moveFromShelf_26 23 (nI i) (ρ (9 + 4 * i + 0)) (nI q) (n + 1) a y (nI j) M = if y ≤ 0 then some (a, M) else if ρ (201 + 7 * (j % 200) + 1) = nI q then (if ρ (201 + 7 * (j % 200) + 5) = nI 8 then (if ρ (201 + 7 * (j % 200) + 4) &&& (ρ (9 + 4 * i + 0) ^^^ (-1 : Int32)) = 0 then lX6_moveFromShelf_26 23 (nI i) (ρ (9 + 4 * i + 0)) (nI q) n (a + 1) (y + (-1)) (nI (j + 1)) (mput M (26 + 5) (j % 200) (nI i)) else lX6_moveFromShelf_26 23 (nI i) (ρ (9 + 4 * i + 0)) (nI q) n a y (nI (j + 1)) M) else lX6_moveFromShelf_26 23 (nI i) (ρ (9 + 4 * i + 0)) (nI q) n a y (nI (j + 1)) M) else lX6_moveFromShelf_26 23 (nI i) (ρ (9 + 4 * i + 0)) (nI q) n a y (nI (j + 1)) M := by
      rw [lX6_moveFromShelf_26, L.2.1, if_neg (pI_nle (by omega) (by omega))]
      rw [show fX6_value 23 (nI j) 1 M = some _ from L.val (k := 1) (by omega) (by omega), Option.bind_some, show fX6_value 23 (nI j) 5 M = some _ from L.val (k := 5) (by omega) (by omega), Option.bind_some, show fX6_value 23 (nI j) 4 M = some _ from L.val (k := 4) (by omega) (by omega), Option.bind_some, give_c (by omega), Option.bind_some, show nI j + (1 : Int32) = nI (j + 1) from nI_ad j 1, l_8]
      unfold fX11_contains
      by_cases e : ρ (201 + 7 * (j % 200) + 4) &&& (ρ (9 + 4 * i + 0) ^^^ (-1 : Int32)) = 0
      · rw [if_pos e, if_pos e, Option.bind_some, if_pos rfl]
      · rw [if_neg e, if_neg e, Option.bind_some, if_neg (show ¬ false = true by decide)]
    have stay : ¬ El ρ i q (j % 200) → lX6_moveFromShelf_26 23 (nI i) (ρ (9 + 4 * i + 0)) (nI q) (n + 1) a y (nI j) M = lX6_moveFromShelf_26 23 (nI i) (ρ (9 + 4 * i + 0)) (nI q) n a y (nI (j + 1)) M → ∃ t M' ρ', lX6_moveFromShelf_26 23 (nI i) (ρ (9 + 4 * i + 0)) (nI q) (n + 1) a y (nI j) M = some (a + nI t, M') ∧ Vi M' ρ' h b g c ∧ Fc M M' ∧ Mw 8 i ρ ρ' c (fun q' => if q' = q then t else 0) t ∧ (bA ρ c i q 0 ≤ bA ρ' c i q 5 ∨ ∀ x, j ≤ x → x < c → ¬ El ρ' i q (x % 200)) ∧ (t = 0 ∨ bA ρ' c i q 5 ≤ bA ρ c i q 0) := fun hn he => by
      obtain ⟨t, M', ρ', a1, a2, a3, a4, a5, a6⟩ := ih (j + 1) n a M ρ V (by omega) (by omega) (by omega)
      refine ⟨t, M', ρ', by rw [he, hy]; exact a1, a2, a3, a4, ?_, a6⟩
      rcases a5 with w | w
      · exact Or.inl w
      · refine Or.inr fun x x1 x2 => ?_
        by_cases e : x = j
        · subst e; exact fun hE => hn (hE.back a4 (by omega) hjr)
        · exact w x (by omega) x2
    rw [← hy]
    by_cases c0 : y ≤ 0
    · refine ⟨0, M, ρ, by rw [ec, if_pos c0, sm_z], V, Fc.rf M, by rw [z0]; exact Mw.rf _ _ _ _, Or.inl ?_, Or.inl rfl⟩
      rw [hy] at c0
      exact (y_le bA0 bA5).mp c0
    by_cases c1 : ρ (201 + 7 * (j % 200) + 1) = nI q
    · by_cases c2 : ρ (201 + 7 * (j % 200) + 5) = nI 8
      · by_cases c3 : ρ (201 + 7 * (j % 200) + 4) &&& (ρ (9 + 4 * i + 0) ^^^ (-1 : Int32)) = 0
        · have V1 := V.ptL hj (show 5 < 7 by omega) (nI i)
          have m1 := Mw.one (ρ := ρ) (show 8 ≠ i by omega) (by omega) (by omega) hjr hq c2 c1
          obtain ⟨t, M', ρ', a1, a2, a3, a4, a5, a6⟩ := ih (j + 1) n (a + 1) _ _ V1 (by omega) (by omega) (by omega)
          have o1 := m1.own i q
          have o5 := (m1.2.2.2.1 q hq).2
          replace o5 : _ = bA ρ c i q 5 + (if q = q then 1 else 0) := o5
          rw [if_pos rfl] at o5
          rw [ru_ne _ (by omega), o1, o5, ← y_dn, ← hy] at a1
          rw [o1] at a5 a6
          have lt : bA ρ c i q 5 < bA ρ c i q 0 := by
            rw [hy] at c0
            exact Nat.not_le.mp fun w => c0 ((y_le bA0 bA5).mpr w)
          have mt := m1.tr (show 8 ≠ i by omega) (by omega) (by omega) a4
          have eT : (fun q' : Nat => (if q' = q then 1 else 0) + if q' = q then t else 0) = fun q' => if q' = q then 1 + t else 0 := by funext q'; split <;> omega
          rw [eT] at mt
          refine ⟨1 + t, M', ρ', ?_, a2, (Fc.pt M _ (by omega)).tr a3, mt, ?_, ?_⟩
          · rw [ec, if_neg c0, if_pos c1, if_pos c2, if_pos c3, a1, Int32.add_assoc, l_1, nI_ad]
          · rcases a5 with w | w
            · exact Or.inl w
            · refine Or.inr fun x x1 x2 => ?_
              by_cases e : x = j
              · subst e
                intro hE
                have := (hE.back a4 (by omega) hjr).2.1
                rw [ru_at] at this
                exact pI_ne (show i ≠ 8 by omega) (by omega) (by omega) this
              · exact w x (by omega) x2
          · right
            rcases a6 with w | w
            · have := (a4.2.2.2.1 q hq).2
              replace this : _ = _ + (if q = q then t else 0) := this
              rw [if_pos rfl] at this
              omega
            · exact w
        · exact stay (fun w => c3 w.2.2) (by rw [ec, if_neg c0, if_pos c1, if_pos c2, if_neg c3])
      · exact stay (fun w => c2 w.2.1) (by rw [ec, if_neg c0, if_pos c1, if_neg c2])
    · exact stay (fun w => c1 w.1) (by rw [ec, if_neg c0, if_neg c1])
theorem claim_out {h b g c i : Nat} (hi : i < h) : ∀ (m k n : Nat) (a : Int32) (M : Mem) (ρ : Nat → Int32), Vi M ρ h b g c → k + m = 3 → m < n → ∃ T S M' ρ', lX6_moveFromShelf_5 23 (nI i) (ρ (9 + 4 * i + 0)) n a (nI k) M = some (a + nI S, M') ∧ Vi M' ρ' h b g c ∧ Fc M M' ∧ Mw 8 i ρ ρ' c T S ∧ (∀ q, q < k → T q = 0) ∧ ∀ q, k ≤ q → q < 3 → (bA ρ c i q 0 ≤ bA ρ' c i q 5 ∨ ∀ x, c - 200 ≤ x → x < c → ¬ El ρ' i q (x % 200)) ∧ (T q = 0 ∨ bA ρ' c i q 5 ≤ bA ρ c i q 0) := by
  intro m
  induction m with
  | zero =>
    intro k n a M ρ V h1 h2
    obtain ⟨n, rfl⟩ : ∃ n', n = n' + 1 := ⟨n - 1, by omega⟩
    refine ⟨fun _ => 0, 0, M, ρ, ?_, V, Fc.rf M, Mw.rf _ _ _ _, fun _ _ => rfl, fun q q1 q2 => by omega⟩
    rw [lX6_moveFromShelf_5, l_3, if_pos (pI_le (by omega) (by omega)), sm_z]
  | succ m ih =>
    intro k n a M ρ V h1 h2
    obtain ⟨n, rfl⟩ : ∃ n', n = n' + 1 := ⟨n - 1, by omega⟩
    have L := V.2.2.2.1
    have hc := L.1
    have hh := V.1.1
    have hm : min c 200 ≤ 200 := Nat.min_le_right _ _
    obtain ⟨t, M', ρ', a1, a2, a3, a4, a5, a6⟩ := claim_in hi (show k < 3 by omega) (min c 200) (c - 200) FUEL a M ρ V (by omega) (Nat.le_refl _) (fuel8 (by omega))
    obtain ⟨T, S, M2, ρ2, d1, d2, d3, d4, d5, d6⟩ := ih (k + 1) n (a + nI t) M' ρ' a2 (by omega) (by omega)
    rw [a4.1 _ fun r => by omega] at d1
    refine ⟨fun q => (if q = k then t else 0) + T q, t + S, M2, ρ2, ?_, d2, a3.tr d3, a4.tr (show 8 ≠ i by omega) (by omega) (by omega) d4, fun q hq => ?_, fun q q1 q2 => ?_⟩
    · rw [lX6_moveFromShelf_5, l_3, if_neg (pI_nle (by omega) (by omega)), L.bal, Option.bind_some, L.first, Option.bind_some, Ba_n, a1, Option.bind_some]
      refine un2i ?_
      rw [show nI k + (1 : Int32) = nI (k + 1) from nI_ad k 1, d1, Int32.add_assoc, nI_ad]
    · dsimp only
      rw [if_neg (by omega), d5 q (by omega)]
    · dsimp only
      have o2 := (d4.2.2.2.1 q q2).2
      by_cases e : q = k
      · subst e
        rw [d5 q (by omega), Nat.add_zero] at o2
        rw [o2, if_pos rfl, d5 q (by omega), Nat.add_zero]
        refine ⟨?_, a6⟩
        rcases a5 with w | w
        · exact Or.inl w
        · exact Or.inr fun x x1 x2 hE => w x x1 x2 (hE.back d4 (by omega) (by have := Nat.mod_lt x (show 0 < 200 by omega); have := Nat.mod_le x 200; omega))
      · rw [if_neg e, Nat.zero_add, ← a4.own i q]
        exact d6 q (by omega) q2
