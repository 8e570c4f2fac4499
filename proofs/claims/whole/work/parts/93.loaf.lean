/-! a loaf comes out: both sides -/
def DV (M : Mem) (γ : Nat → Int32) (h c : Nat) : Prop := HH M γ h ∧ LL M γ c ∧ M.1 1 5 = γ 1 ∧ M.1 1 6 = γ 3
def Lq (N : Mem) (γ : Nat → Int32) : Prop := ∀ k, k < 1601 → k ≠ 2 → k ≠ 4 → k ≠ 7 → k ≠ 8 → (k < 41 ∨ 201 ≤ k) → N.1 179 k = γ k
def bp (mk s : Nat) : Nat × Nat := bl (drS s / 65536 % 4) mk (drS s)
def pv (pl : Bool) : Int32 := if pl = true then nI 1 else nI 0
def cm (γ : Nat → Int32) (c s mk o k : Nat) (pl : Bool) : Nat → Int32 :=
  ru (ru (ru (ru (ru (ru (ru (ru (ru (ru γ 1 (nI (bp mk s).2)) (201 + 7 * (c % 200) + 0) (nI o)) (201 + 7 * (c % 200) + 1) (nI k)) (201 + 7 * (c % 200) + 2) (γ 3)) (201 + 7 * (c % 200) + 3) (pv pl)) (201 + 7 * (c % 200) + 4) (nI (bp mk s).1)) (201 + 7 * (c % 200) + 5) NG) (201 + 7 * (c % 200) + 6) (nI (pc mk - pc (bp mk s).1))) 5 (nI (c + 1))) 6 (γ 6 + pv pl)
theorem LL.grow {M : Mem} {γ : Nat → Int32} {c : Nat} (L : LL M γ c) (hc : c + 1 < 2 ^ 30) (hr : ∀ k, k < 7 → M.1 (26 + k) (c % 200) = γ (201 + 7 * (c % 200) + k)) : LL (mput M 23 1 (nI (c + 1))) (ru γ 5 (nI (c + 1))) (c + 1) := by
  obtain ⟨h1, h2, h3, h4, h5⟩ := L
  refine ⟨hc, by rw [mput_at, if_pos ⟨rfl, rfl⟩], ru_at _ _ _, by rw [mput_at, if_neg (by omega), ru_ne _ (by omega)]; exact h4, fun i k hi hj hk => ?_⟩
  rw [mput_at, if_neg (by omega), ru_ne _ (by omega)]
  by_cases e : i < c
  · exact h5 i k e hj hk
  · have e2 : i = c := by omega
    have e3 : c % 200 = i := by rw [Nat.mod_eq_of_lt (by omega)]; omega
    rw [← e3]; exact hr k hk
theorem LL.pale {M : Mem} {γ : Nat → Int32} {c : Nat} (L : LL M γ c) (x : Int32) : LL (mput M 23 2 x) (ru γ 6 x) c := by
  obtain ⟨h1, h2, h3, h4, h5⟩ := L
  exact ⟨h1, by rw [mput_at, if_neg (by omega)]; exact h2, by rw [ru_ne _ (by omega)]; exact h3, by rw [mput_at, if_pos ⟨rfl, rfl⟩, ru_at], fun i k hi hj hk => by rw [mput_at, if_neg (by omega), ru_ne _ (by omega)]; exact h5 i k hi hj hk⟩
theorem LL.same {M M' : Mem} {γ γ' : Nat → Int32} {c : Nat} (L : LL M γ c) (h1 : ∀ q x, 23 ≤ q → q < 33 → M'.1 q x = M.1 q x) (h2 : ∀ k, k < 1601 → (k = 5 ∨ k = 6 ∨ 201 ≤ k) → γ' k = γ k) : LL M' γ' c := L.cg h1 (fun k hk h => h2 k hk h)
theorem bp_c {M : Mem} {s mk : Nat} (h1 : M.1 1 5 = nI s) (hs : s < 2 ^ 31) : fX9_blur 1 (nI mk) M = some (nI (bp mk s).1, mput (mput M 1 5 (nI (drS s))) 1 5 (nI (bp mk s).2)) := by
  have hm : drS s / 65536 % 4 < 4 := Nat.mod_lt _ (by omega)
  unfold fX9_blur
  rw [l_4, draw_c h1 hs (by omega) (by omega), Option.bind_some]
  simp only [un2]
  rw [l_0, bl_c (drS s / 65536 % 4) 0 FUEL mk (drS s) _ _ (by rw [mput_at, if_pos ⟨rfl, rfl⟩]) (drS_lt s) (by omega) (by omega) (fuel8 (by omega))]
  rfl
theorem bp_ok {mk s : Nat} (hm : mk < 65536) : mk &&& (bp mk s).1 = (bp mk s).1 ∧ (bp mk s).1 < 65536 ∧ (bp mk s).2 < 2 ^ 31 := by
  have h1 : mk &&& (bp mk s).1 = (bp mk s).1 := bl_sub _ _ _ _ (Nat.and_self mk)
  have h2 : mk &&& (bp mk s).1 ≤ mk := Nat.and_le_left
  rw [h1] at h2
  exact ⟨h1, by omega, bl_lt _ _ _ (drS_lt s)⟩
theorem put_l {M : Mem} {i k : Nat} (hi : i < 200) (hk : k < 7) (x : Int32) : fX7_put (23 + 1) 7 200 (nI i) (nI k) x M = some (mput M (26 + k) i x) := by
  have := X7_put (t := 24) (w := 7) (r := 200) (M := M) (x := x) hk (by omega) hi (by omega)
  rw [show 24 + (2 + k) = 26 + k by omega] at this
  exact this
theorem loaf_c {M : Mem} {γ : Nat → Int32} {h c s mk o k : Nat} (pl : Bool) (D : DV M γ h c) (h1 : γ 1 = nI s) (hs : s < 2 ^ 31) (hm : mk < 65536) (hc : c + 1 < 2 ^ 30) : ∃ M', (fX9_blur 1 (nI mk) M).bind (un2 fun v19 M20 => fX6_add 23 (nI o) (nI k) (M.1 1 6) pl (nI mk) v19 M20) = some M' ∧ DV M' (cm γ c s mk o k pl) h (c + 1) ∧ (∀ q x, ¬ (q = 1 ∧ x = 5) → (q < 23 ∨ 33 ≤ q) → M'.1 q x = M.1 q x) ∧ M'.2 = M.2 := by
  obtain ⟨H, L, d1, d2⟩ := D
  obtain ⟨b1, b2, b3⟩ := bp_ok (s := s) hm
  have hr : c % 200 < 200 := Nat.mod_lt _ (by omega)
  obtain ⟨i, hi⟩ : ∃ i, i = c % 200 := ⟨_, rfl⟩
  obtain ⟨M0, hM0⟩ : ∃ M0, M0 = mput (mput M 1 5 (nI (drS s))) 1 5 (nI (bp mk s).2) := ⟨_, rfl⟩
  have c0 : ∀ q x, q ≠ 1 → M0.1 q x = M.1 q x := fun q x hq => by rw [hM0, mput_at, if_neg (by omega), mput_at, if_neg (by omega)]
  have La : LL M0 (ru γ 1 (nI (bp mk s).2)) c := L.cg (fun q x _ _ => c0 q x (by omega)) (fun k' _ _ => ru_ne _ (by omega))
  obtain ⟨M7, hM7⟩ : ∃ M7, M7 = mput (mput (mput (mput (mput (mput (mput M0 (26 + 0) i (nI o)) (26 + 1) i (nI k)) (26 + 2) i (γ 3)) (26 + 3) i (pv pl)) (26 + 4) i (nI (bp mk s).1)) (26 + 5) i NG) (26 + 6) i (nI (pc mk - pc (bp mk s).1)) := ⟨_, rfl⟩
  obtain ⟨γ7, hγ7⟩ : ∃ γ7, γ7 = ru (ru (ru (ru (ru (ru (ru (ru γ 1 (nI (bp mk s).2)) (201 + 7 * i + 0) (nI o)) (201 + 7 * i + 1) (nI k)) (201 + 7 * i + 2) (γ 3)) (201 + 7 * i + 3) (pv pl)) (201 + 7 * i + 4) (nI (bp mk s).1)) (201 + 7 * i + 5) NG) (201 + 7 * i + 6) (nI (pc mk - pc (bp mk s).1)) := ⟨_, rfl⟩
  have L7 : LL M7 γ7 c := by
    rw [hM7, hγ7]
    exact ((((((La.pt (by omega) _).pt (by omega) _).pt (by omega) _).pt (by omega) _).pt (by omega) _).pt (by omega) _).pt (by omega) _
  have L8 : LL (mput M7 23 1 (nI (c + 1))) (ru γ7 5 (nI (c + 1))) (c + 1) := L7.grow hc (fun k' hk' => by
    rw [← hi, hM7, hγ7]
    rcases (show k' = 0 ∨ k' = 1 ∨ k' = 2 ∨ k' = 3 ∨ k' = 4 ∨ k' = 5 ∨ k' = 6 by omega) with rfl | rfl | rfl | rfl | rfl | rfl | rfl <;> simp [mput_at, ru])
  have g6 : γ7 6 = γ 6 := by rw [hγ7, ru_ne _ (by omega), ru_ne _ (by omega), ru_ne _ (by omega), ru_ne _ (by omega), ru_ne _ (by omega), ru_ne _ (by omega), ru_ne _ (by omega), ru_ne _ (by omega)]
  have c7 : ∀ q x, q < 26 ∨ 33 ≤ q → M7.1 q x = M0.1 q x := fun q x hq => by rw [hM7, mput_at, if_neg (by omega), mput_at, if_neg (by omega), mput_at, if_neg (by omega), mput_at, if_neg (by omega), mput_at, if_neg (by omega), mput_at, if_neg (by omega), mput_at, if_neg (by omega)]
  have ecm : cm γ c s mk o k pl = ru (ru γ7 5 (nI (c + 1))) 6 (γ 6 + pv pl) := by rw [hγ7, hi]; rfl
  obtain ⟨lk1, lk2⟩ := pc_lack b1
  have hpm : pc mk < 2 ^ 31 := by
    have := pc_min (mk + 1) mk (by omega) (by omega)
    have h5 := Nat.lt_two_pow_self (n := pc mk)
    omega
  have eadd : (fX9_blur 1 (nI mk) M).bind (un2 fun v19 M20 => fX6_add 23 (nI o) (nI k) (M.1 1 6) pl (nI mk) v19 M20) = if pl = true then some (mput (mput M7 23 1 (nI (c + 1))) 23 2 (γ 6 + 1)) else some (mput M7 23 1 (nI (c + 1))) := by
    rw [bp_c (d1.trans h1) hs, Option.bind_some, ← hM0]
    simp only [un2]
    unfold fX6_add
    have e1 : M0.1 23 1 - M0.1 23 1 / 200 * 200 = nI i := by rw [c0 23 1 (by omega), L.2.1, l_200, mI_md (by have := L.1; omega) (by omega), hi]
    have ez : (if pl = true then (some (1 : Int32) : Option Int32) else some 0) = some (pv pl) := by cases pl <;> rfl
    rw [e1, ez, l_0, put_l (by omega) (by omega), Option.bind_some, l_1, put_l (by omega) (by omega), Option.bind_some, l_2, put_l (by omega) (by omega), Option.bind_some, Option.bind_some, l_3, put_l (by omega) (by omega), Option.bind_some, l_4, put_l (by omega) (by omega), Option.bind_some, l_5, show (-(nI 1) : Int32) = NG from rfl, put_l (by omega) (by omega), Option.bind_some, d2]
    rw [show nI mk &&& (nI (bp mk s).1 ^^^ NG) = nI (mk &&& ((bp mk s).1 ^^^ 4294967295)) from lack_n _ _]
    rw [count_n (by have : mk &&& ((bp mk s).1 ^^^ 4294967295) ≤ mk := Nat.and_le_left; omega), Option.bind_some, lk1, l_6, put_l (by omega) (by omega), Option.bind_some, ← hM7]
    unfold pf
    rw [Option.bind_some, c7 23 1 (by omega), c0 23 1 (by omega), L.2.1, nI_ad]
    cases pl
    · rw [if_neg (by decide), if_neg (by decide)]
    · rw [if_pos rfl, if_pos rfl, Option.bind_some, mput_at, if_neg (by omega), c7 23 2 (by omega), c0 23 2 (by omega), L.2.2.2.1]
  have hd : ∀ M', (∀ q x, q ≠ 23 → M'.1 q x = M7.1 q x) → LL M' (cm γ c s mk o k pl) (c + 1) → DV M' (cm γ c s mk o k pl) h (c + 1) := fun M' hM' L' => by
    have cg : ∀ j, j ≠ 1 → j ≠ 5 → j ≠ 6 → j < 201 → cm γ c s mk o k pl j = γ j := fun j q1 q2 q3 q4 => by
      rw [ecm, ru_ne _ q3, ru_ne _ q2, hγ7, ru_ne _ (by omega), ru_ne _ (by omega), ru_ne _ (by omega), ru_ne _ (by omega), ru_ne _ (by omega), ru_ne _ (by omega), ru_ne _ (by omega), ru_ne _ (by omega)]
    refine ⟨H.cg (fun q x _ _ => by rw [hM' _ _ (by omega), c7 _ _ (by omega), c0 _ _ (by omega)]) (fun j _ _ => cg j (by omega) (by omega) (by omega) (by omega)), L', ?_, ?_⟩
    · rw [hM' _ _ (by omega), c7 _ _ (by omega), hM0, mput_at, if_pos ⟨rfl, rfl⟩, ecm, ru_ne _ (by omega), ru_ne _ (by omega), hγ7, ru_ne _ (by omega), ru_ne _ (by omega), ru_ne _ (by omega), ru_ne _ (by omega), ru_ne _ (by omega), ru_ne _ (by omega), ru_ne _ (by omega), ru_at]
    · rw [hM' _ _ (by omega), c7 _ _ (by omega), hM0, mput_at, if_neg (by omega), mput_at, if_neg (by omega), cg 3 (by omega) (by omega) (by omega) (by omega)]
      exact d2
  rw [eadd]
  cases pl with
  | true =>
    rw [if_pos rfl]
    refine ⟨_, rfl, hd _ (fun q x hq => by rw [mput_at, if_neg (by omega), mput_at, if_neg (by omega)]) (by rw [ecm]; exact L8.pale _), fun q x h3 h4 => ?_, ?_⟩
    · rw [mput_at, if_neg (by omega), mput_at, if_neg (by omega), c7 _ _ (by omega), hM0, mput_at, if_neg h3, mput_at, if_neg h3]
    · rw [hM7, hM0]; rfl
  | false =>
    rw [if_neg (by decide)]
    refine ⟨_, rfl, hd _ (fun q x hq => by rw [mput_at, if_neg (by omega)]) ?_, fun q x h3 h4 => ?_, ?_⟩
    · refine L8.cg (fun _ _ _ _ => rfl) (fun j _ _ => ?_)
      rw [ecm]
      by_cases e : j = 6
      · rw [e, ru_at, ru_ne _ (by omega), g6]; exact sm_z _
      · exact ru_ne _ e
    · rw [mput_at, if_neg (by omega), c7 _ _ (by omega), hM0, mput_at, if_neg h3, mput_at, if_neg h3]
    · rw [hM7, hM0]; rfl
theorem Lq.pt {N : Mem} {γ : Nat → Int32} (R : Lq N γ) (k : Nat) (x : Int32) : Lq (mput N 179 k x) (ru γ k x) := fun j h1 h2 h3 h4 h5 h6 => by
  rw [mput_at]
  by_cases h : j = k
  · subst h; rw [if_pos ⟨rfl, rfl⟩, ru_at]
  · rw [if_neg (fun q => h q.2), ru_ne x h]; exact R j h1 h2 h3 h4 h5 h6
theorem Lq.at {N : Mem} {γ : Nat → Int32} (R : Lq N γ) {k : Nat} (h1 : k < 1601) (h2 : k ≠ 2) (h3 : k ≠ 4) (h4 : k ≠ 7) (h5 : k ≠ 8) (h6 : k < 41 ∨ 201 ≤ k) : ald (N.1 179) 1601 (nI k) = some (γ k) := by
  rw [ald_n h1 (by omega), R k h1 h2 h3 h4 h5 h6]
theorem Lq.of {N : Mem} {γ : Nat → Int32} (R : Lq N γ) {i k : Nat} (hi : i < 8) (hk : k < 4) : fX12_of (nI i) (nI k) N = some (γ (9 + 4 * i + k)) := by
  rw [X12_of' hi hk, R _ (by omega) (by omega) (by omega) (by omega) (by omega) (by omega)]
theorem loaf_r {N : Mem} {γ : Nat → Int32} {c s mk o k : Nat} (pl : Bool) (R : Lq N γ) (h1 : γ 1 = nI s) (hs : s < 2 ^ 31) (h5 : γ 5 = nI c) (hc : c + 1 < 2 ^ 30) (ho : o < 8) (hmk : γ (9 + 4 * o) = nI mk) (hm : mk < 65536) : ∃ N', fX12_comesOut (nI o) (nI k) pl N = some N' ∧ Lq N' (cm γ c s mk o k pl) ∧ (∀ q x, q ≠ 179 → N'.1 q x = N.1 q x) ∧ (∀ x, x ≠ 1 → x ≠ 5 → x ≠ 6 → x < 201 → N'.1 179 x = N.1 179 x) ∧ N'.2 = N.2 := by
  obtain ⟨b1, b2, b3⟩ := bp_ok (s := s) hm
  have hr : c % 200 < 200 := Nat.mod_lt _ (by omega)
  obtain ⟨a, ha⟩ : ∃ a, a = 201 + 7 * (c % 200) := ⟨_, rfl⟩
  have hlost : drS s / 65536 % 4 < 4 := Nat.mod_lt _ (by omega)
  obtain ⟨N0, hN0⟩ : ∃ N0, N0 = mput (mput N 179 1 (nI (drS s))) 179 1 (nI (bp mk s).2) := ⟨_, rfl⟩
  have R0 : Lq N0 (ru γ 1 (nI (bp mk s).2)) := fun j q1 q2 q3 q4 q5 q6 => by
    rw [hN0, mput_at]
    by_cases e : j = 1
    · subst e; rw [if_pos ⟨rfl, rfl⟩, ru_at]
    · rw [if_neg (fun w => e w.2), mput_at, if_neg (fun w => e w.2), ru_ne _ e]; exact R j q1 q2 q3 q4 q5 q6
  have hp1 : pc mk < 2 ^ 31 := by
    have := pc_min (mk + 1) mk (by omega) (by omega)
    have h5 := Nat.lt_two_pow_self (n := pc mk)
    omega
  obtain ⟨-, lk2⟩ := pc_lack b1
  have Ra := R0.pt (a + 0) (nI o)
  have Rb := Ra.pt (a + 1) (nI k)
  have Rc := Rb.pt (a + 2) (γ 3)
  have Rd := Rc.pt (a + 3) (pv pl)
  have Re := Rd.pt (a + 4) (nI (bp mk s).1)
  have Rf := Re.pt (a + 5) NG
  have Rg := Rf.pt (a + 6) (nI (pc mk - pc (bp mk s).1))
  have Rh := Rg.pt 5 (nI (c + 1))
  have Ri := Rh.pt 6 (γ 6 + pv pl)
  obtain ⟨Nf, hNf⟩ : ∃ Nf, Nf = mput (mput (mput (mput (mput (mput N0 179 (a + 0) (nI o)) 179 (a + 1) (nI k)) 179 (a + 2) (γ 3)) 179 (a + 3) (pv pl)) 179 (a + 4) (nI (bp mk s).1)) 179 (a + 5) NG := ⟨_, rfl⟩
  rw [← hNf] at Rf Rg Rh Ri
  have ez : (if pl = true then (some (1 : Int32) : Option Int32) else some 0) = some (pv pl) := by cases pl <;> rfl
  refine ⟨mput (mput (mput Nf 179 (a + 6) (nI (pc mk - pc (bp mk s).1))) 179 5 (nI (c + 1))) 179 6 (γ 6 + pv pl), ?_, ?_, fun q x hq => ?_, fun x q1 q2 q3 q4 => ?_, ?_⟩
  · unfold fX12_comesOut
    rw [ez, l_5, R.at (by omega) (by omega) (by omega) (by omega) (by omega) (by omega), Option.bind_some, h5, loafAt_n (by omega), Option.bind_some, ← ha, l_0, R.of ho (by omega), Option.bind_some, Nat.add_zero, hmk, l_4, draw_r ((R 1 (by omega) (by omega) (by omega) (by omega) (by omega) (by omega)).trans h1) hs (by omega) (by omega), Option.bind_some]
    simp only [un2]
    rw [show lX12_comesOut_29 (nI (drS s / 65536 % 4)) FUEL (nI mk) (nI 0) (mput N 179 1 (nI (drS s))) = some (nI (bp mk s).1, N0) from by
      rw [bl_r (drS s / 65536 % 4) 0 FUEL mk (drS s) _ _ (by rw [mput_at, if_pos ⟨rfl, rfl⟩]) (drS_lt s) (by omega) (by omega) (fuel8 (by omega)), hN0]; rfl, Option.bind_some]
    simp only [un2]
    rw [nI_ad, ast_n (by omega) (by omega), Option.bind_some, l_1, nI_ad, ast_n (by omega) (by omega), Option.bind_some, l_3, Rb.at (by omega) (by omega) (by omega) (by omega) (by omega) (by omega), Option.bind_some, ru_ne _ (by omega), ru_ne _ (by omega), ru_ne _ (by omega), l_2, nI_ad, ast_n (by omega) (by omega), Option.bind_some, Option.bind_some, nI_ad, ast_n (by omega) (by omega), Option.bind_some, nI_ad, ast_n (by omega) (by omega), Option.bind_some, nI_ad, show (-(nI 1) : Int32) = NG from rfl, ast_n (by omega) (by omega), Option.bind_some, ← hNf, Rf.of ho (by omega), Option.bind_some, ru_ne _ (by omega), ru_ne _ (by omega), ru_ne _ (by omega), ru_ne _ (by omega), ru_ne _ (by omega), ru_ne _ (by omega), ru_ne _ (by omega), Nat.add_zero, hmk, bits_n hm, Option.bind_some, bits_n b2, Option.bind_some, mI_sb lk2 hp1, l_6, nI_ad, ast_n (by omega) (by omega), Option.bind_some, Rg.at (by omega) (by omega) (by omega) (by omega) (by omega) (by omega), Option.bind_some, ru_ne _ (by omega), ru_ne _ (by omega), ru_ne _ (by omega), ru_ne _ (by omega), ru_ne _ (by omega), ru_ne _ (by omega), ru_ne _ (by omega), ru_ne _ (by omega), h5, nI_ad, ast_n (by omega) (by omega), Option.bind_some, Rh.at (by omega) (by omega) (by omega) (by omega) (by omega) (by omega), Option.bind_some, ru_ne _ (by omega), ru_ne _ (by omega), ru_ne _ (by omega), ru_ne _ (by omega), ru_ne _ (by omega), ru_ne _ (by omega), ru_ne _ (by omega), ru_ne _ (by omega), ru_ne _ (by omega), ast_n (by omega) (by omega), ast_n (by omega) (by omega)]
    cases pl
    · rw [if_neg (by decide)]; rfl
    · rw [if_pos rfl]; rfl
  · rw [show cm γ c s mk o k pl = ru (ru (ru (ru (ru (ru (ru (ru (ru (ru γ 1 (nI (bp mk s).2)) (a + 0) (nI o)) (a + 1) (nI k)) (a + 2) (γ 3)) (a + 3) (pv pl)) (a + 4) (nI (bp mk s).1)) (a + 5) NG) (a + 6) (nI (pc mk - pc (bp mk s).1))) 5 (nI (c + 1))) 6 (γ 6 + pv pl) from by rw [ha]; rfl]
    exact Ri
  · rw [mput_at, if_neg (by omega), mput_at, if_neg (by omega), mput_at, if_neg (by omega), hNf, mput_at, if_neg (by omega), mput_at, if_neg (by omega), mput_at, if_neg (by omega), mput_at, if_neg (by omega), mput_at, if_neg (by omega), mput_at, if_neg (by omega), hN0, mput_at, if_neg (by omega), mput_at, if_neg (by omega)]
  · rw [mput_at, if_neg (by omega), mput_at, if_neg (by omega), mput_at, if_neg (by omega), hNf, mput_at, if_neg (by omega), mput_at, if_neg (by omega), mput_at, if_neg (by omega), mput_at, if_neg (by omega), mput_at, if_neg (by omega), mput_at, if_neg (by omega), hN0, mput_at, if_neg (by omega), mput_at, if_neg (by omega)]
  · rw [hNf, hN0]; rfl
