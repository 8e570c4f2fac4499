/-! the law's first check: households -/
theorem mark_v {ρ : Nat → Int32} {h i : Nat} (W : RH ρ h) (hi : i < h) : ∃ m, 1 ≤ m ∧ m < 65536 ∧ ρ (9 + 4 * i + 0) = nI m := W.1 i hi
theorem kk_n {ρ : Nat → Int32} {i j a b : Nat} (ea : ρ (9 + 4 * i + 0) = nI a) (eb : ρ (9 + 4 * j + 0) = nI b) (ha : a < 65536) (hb : b < 65536) : kk ρ i j = if (nI a ||| nI b) = nI a ∨ (nI a ||| nI b) = nI b then nI 1 else nI 0 := by
  have hab : a ||| b < 65536 := Nat.or_lt_two_pow (n := 16) ha hb
  have e1 : (nI a ||| nI b) = nI a ↔ a &&& b = b := by rw [nO, mI_eq (by omega) (by omega)]; exact or_l
  have e2 : (nI a ||| nI b) = nI b ↔ a &&& b = a := by rw [nO, Nat.or_comm, mI_eq (by rw [Nat.or_comm]; omega) (by omega), Nat.and_comm]; exact or_l
  have hand : a &&& b < 65536 := Nat.and_lt_two_pow (n := 16) _ hb
  have e3 : akb (ρ (9 + 4 * i + 0)) (ρ (9 + 4 * j + 0)) = true ↔ (nI a ||| nI b) = nI a ∨ (nI a ||| nI b) = nI b := by
    rw [akb_ak, ea, eb, e1, e2]
    unfold ak
    rw [nA, mI_eq (by omega) (by omega), mI_eq (by omega) (by omega)]
    exact or_comm
  unfold kk
  by_cases q : (nI a ||| nI b) = nI a ∨ (nI a ||| nI b) = nI b
  · rw [if_pos q, if_pos (e3.mpr q)]
  · rw [if_neg q, if_neg (fun w => q (e3.mp w))]
theorem like_in {M : Mem} {ρ : Nat → Int32} {h b g c i : Nat} (V : Vi M ρ h b g c) (W : RH ρ h) (hi : i < h) : ∀ (m j n : Nat) (acc : Int32), j + m = i → m < n → lL_areHouses_250 M (nI i) n acc true (nI j) = some (acc + sm (kk ρ i) j m, true) := by
  have hh := V.1.1
  obtain ⟨a, a1, a2, a3⟩ := mark_v W hi
  intro m
  induction m with
  | zero =>
    intro j n acc h1 h2
    obtain ⟨n, rfl⟩ : ∃ n', n = n' + 1 := ⟨n - 1, by omega⟩
    rw [lL_areHouses_250, if_pos (pI_le (by omega) (by omega)), sm, sm_z]
  | succ m ih =>
    intro j n acc h1 h2
    obtain ⟨n, rfl⟩ : ∃ n', n = n' + 1 := ⟨n - 1, by omega⟩
    obtain ⟨b', b1, b2, b3⟩ := mark_v W (show j < h by omega)
    have e1 : gL_household (nI i) 0 M = some (nI a) := by rw [← a3]; exact gh V (k := 0) hi (by omega)
    have e2 : gL_household (nI j) 0 M = some (nI b') := by rw [← b3]; exact gh V (k := 0) (by omega) (by omega)
    have hne : ¬ nI a = nI b' := fun q => by
      have := W.2.1 i j hi (by omega) (a3.trans (q.trans b3.symm))
      omega
    rw [lL_areHouses_250, if_neg (pI_nle (by omega) (by omega)), if_pos rfl, e1, Option.bind_some, e2, Option.bind_some, if_neg hne, Option.bind_some, show nI j + (1 : Int32) = nI (j + 1) from nI_ad j 1, show acc + (1 : Int32) = acc + nI 1 from rfl, show acc + (0 : Int32) = acc + nI 0 from rfl, ih (j + 1) n (acc + nI 1) (by omega) (by omega), ih (j + 1) n (acc + nI 0) (by omega) (by omega), sm_s, kk_n a3 b3 a2 b2]
    by_cases q1 : (nI a ||| nI b') = nI a
    · rw [if_pos q1, if_pos (Or.inl q1)]
    · rw [if_neg q1]
      by_cases q2 : (nI a ||| nI b') = nI b'
      · rw [if_pos q2, if_pos (Or.inr q2)]
      · rw [if_neg q2, if_neg (fun w => w.elim q1 q2)]
theorem house_it {M : Mem} {ρ : Nat → Int32} {h b g c d i : Nat} (V : Vi M ρ h b g c) (W : Wr ρ h b c) (G : ∀ r, r < min c 200 → Gl ρ h d r) (hi : i < h) (n : Nat) (x1 x2 x3 x4 x5 x6 x7 x8 : Int32) (x9 : Int64) : lL_areHouses_37 M (nI h) (n + 1) x1 x2 x3 x4 x5 x6 x7 x8 x9 true (nI i) = lL_areHouses_37 M (nI h) n (x1 + ρ (9 + 4 * i + 1)) (x2 + ρ (9 + 4 * i + 2)) (x3 + nI (cO ρ c i)) (x4 + nI (cH ρ c i)) (x5 + nI (cB ρ c i)) (x6 + nI (cQ ρ b i)) (x7 + sm (kk ρ i) 0 i) (x8 + ρ (9 + 4 * i + 3)) (x9 + Du ρ h i) true (nI (i + 1)) := by
  have hh := V.1.1
  have hm : min c 200 ≤ 200 := Nat.min_le_right _ _
  obtain ⟨a, a1, a2, a3⟩ := mark_v W.1 hi
  have e0 : gL_household (nI i) 0 M = some (nI a) := by rw [← a3]; exact gh V (k := 0) hi (by omega)
  have e1 : gL_household (nI i) 1 M = some (ρ (9 + 4 * i + 1)) := gh V (k := 1) hi (by omega)
  have e2 : gL_household (nI i) 2 M = some (ρ (9 + 4 * i + 2)) := gh V (k := 2) hi (by omega)
  have e3 : gL_household (nI i) 3 M = some (ρ (9 + 4 * i + 3)) := gh V (k := 3) hi (by omega)
  have e4 : gL_household (nI i) 4 M = some (nI (cO ρ c i)) := by rw [← hv4 ρ b]; exact gh V (k := 4) hi (by omega)
  have e5 : gL_household (nI i) 5 M = some (nI (cH ρ c i)) := by rw [← hv5 ρ b]; exact gh V (k := 5) hi (by omega)
  have e6 : gL_household (nI i) 6 M = some (nI (cB ρ c i)) := by rw [← hv6 ρ b]; exact gh V (k := 6) hi (by omega)
  have e7 : gL_household (nI i) 7 M = some (nI (cQ ρ b i)) := by rw [← hv7 ρ b c]; exact gh V (k := 7) hi (by omega)
  have b0 : gL_balance (nI i) 0 M = some (Ba ρ c (nI i) (nI 0)) := gb V (k := 0) hi (by omega)
  have b1 : gL_balance (nI i) 1 M = some (Ba ρ c (nI i) (nI 1)) := gb V (k := 1) hi (by omega)
  have b2 : gL_balance (nI i) 2 M = some (Ba ρ c (nI i) (nI 2)) := gb V (k := 2) hi (by omega)
  obtain ⟨k1, k2⟩ := cB_le ρ c i
  have k3 := cO_k ρ c i
  have k4 := cH_k ρ c i
  have eL := like_in V W.1 hi i 0 FUEL x7 (by omega) (fuel8 (by omega))
  rw [lL_areHouses_37, if_neg (pI_nle hi (by omega)), if_pos rfl, e1, Option.bind_some, e2, Option.bind_some, e3, Option.bind_some, e4, Option.bind_some, e5, Option.bind_some, e6, Option.bind_some, e7, Option.bind_some, gd' V hi, Option.bind_some, e0, Option.bind_some, if_neg (show ¬ nI a ≤ 0 from pI_nle (b := 0) (by omega) (by omega)), Option.bind_some, l_65536, if_neg (pI_nle (by omega) (by omega)), Option.bind_some, Option.bind_some, if_neg (pI_nlt k1 (by omega)), Option.bind_some, Option.bind_some, if_neg (pI_nlt k2 (by omega)), b0, Option.bind_some, b1, Option.bind_some, b2, Option.bind_some, Option.bind_some, Option.bind_some, if_pos (Ba_3 i G), Option.bind_some, show (0 : Int32) = nI 0 from rfl, eL, Option.bind_some, show nI i + (1 : Int32) = nI (i + 1) from nI_ad i 1]
  exact un2i rfl
theorem house_37 {M : Mem} {ρ : Nat → Int32} {h b g c d : Nat} (V : Vi M ρ h b g c) (W : Wr ρ h b c) (G : ∀ r, r < min c 200 → Gl ρ h d r) : ∀ (m j n : Nat) (x1 x2 x3 x4 x5 x6 x7 x8 : Int32) (x9 : Int64), j + m = h → m < n → lL_areHouses_37 M (nI h) n x1 x2 x3 x4 x5 x6 x7 x8 x9 true (nI j) = some (x1 + sm (fun i => ρ (9 + 4 * i + 1)) j m, x2 + sm (fun i => ρ (9 + 4 * i + 2)) j m, x3 + sm (fun i => nI (cO ρ c i)) j m, x4 + sm (fun i => nI (cH ρ c i)) j m, x5 + sm (fun i => nI (cB ρ c i)) j m, x6 + sm (fun i => nI (cQ ρ b i)) j m, x7 + sm (fun i => sm (kk ρ i) 0 i) j m, x8 + sm (fun i => ρ (9 + 4 * i + 3)) j m, x9 + sL (Du ρ h) j m, true) := by
  have hh := V.1.1
  intro m
  induction m with
  | zero =>
    intro j n x1 x2 x3 x4 x5 x6 x7 x8 x9 h1 h2
    obtain ⟨n, rfl⟩ : ∃ n', n = n' + 1 := ⟨n - 1, by omega⟩
    rw [lL_areHouses_37, if_pos (pI_le (by omega) (by omega))]
    simp only [sm, sm_z, sL_z]
  | succ m ih =>
    intro j n x1 x2 x3 x4 x5 x6 x7 x8 x9 h1 h2
    obtain ⟨n, rfl⟩ : ∃ n', n = n' + 1 := ⟨n - 1, by omega⟩
    rw [house_it V W G (by omega), ih (j + 1) n _ _ _ _ _ _ _ _ _ (by omega) (by omega)]
    simp only [sm_s, sL_s]
theorem house_345 {M : Mem} {ρ : Nat → Int32} {h b g c p : Nat} (V : Vi M ρ h b g c) (W : Wr ρ h b c) (hp : nxt ρ h = some p) : ∀ (m j n : Nat), j + m = h → m < n → lL_areHouses_345 M (nI h) (sH ρ h 3) (nI p) n true (nI j) = some true := by
  have hh := V.1.1
  obtain ⟨p1, p2, p3⟩ := nxt_best W.1 hp
  intro m
  induction m with
  | zero =>
    intro j n h1 h2
    obtain ⟨n, rfl⟩ : ∃ n', n = n' + 1 := ⟨n - 1, by omega⟩
    rw [lL_areHouses_345, if_pos (pI_le (by omega) (by omega))]
  | succ m ih =>
    intro j n h1 h2
    obtain ⟨n, rfl⟩ : ∃ n', n = n' + 1 := ⟨n - 1, by omega⟩
    have e3 : gL_household (nI j) 3 M = some (ρ (9 + 4 * j + 3)) := gh V (k := 3) (by omega) (by omega)
    have tl : may ρ h j → ((gL_due (nI j) M).bind fun v98 => (gL_due (nI p) M).bind fun v100 => if v98 < v100 then (lL_areHouses_345 M (nI h) (sH ρ h 3) (nI p) n true (nI j + 1)) else ((gL_due (nI j) M).bind fun v103 => (gL_due (nI p) M).bind fun v105 => if v103 = v105 then (if nI j < nI p then (lL_areHouses_345 M (nI h) (sH ρ h 3) (nI p) n false (nI j + 1)) else (lL_areHouses_345 M (nI h) (sH ρ h 3) (nI p) n true (nI j + 1))) else (lL_areHouses_345 M (nI h) (sH ρ h 3) (nI p) n false (nI j + 1)))) = some true := fun hm => by
      rw [gd' V (show j < h by omega), Option.bind_some, gd' V p1, Option.bind_some]
      rcases p3 j (by omega) hm with q | ⟨q1, q2⟩
      · rw [if_pos q, show nI j + (1 : Int32) = nI (j + 1) from nI_ad j 1]; exact ih (j + 1) n (by omega) (by omega)
      · rw [if_neg (by rw [q1]; exact Int64.lt_irrefl), Option.bind_some, Option.bind_some, if_pos q1, if_neg (pI_nlt q2 (by omega)), show nI j + (1 : Int32) = nI (j + 1) from nI_ad j 1]; exact ih (j + 1) n (by omega) (by omega)
    rw [lL_areHouses_345, if_neg (pI_nle (by omega) (by omega)), if_pos rfl, e3]
    by_cases q : sH ρ h 3 = nI h
    · rw [if_pos q, Option.bind_some, if_pos rfl]
      exact tl (Or.inl q)
    · rw [if_neg q, Option.bind_some]
      by_cases q2 : ρ (9 + 4 * j + 3) = 0
      · rw [if_pos q2, Option.bind_some, if_pos rfl]
        exact tl (Or.inr q2)
      · rw [if_neg q2, Option.bind_some, if_neg (by decide), show nI j + (1 : Int32) = nI (j + 1) from nI_ad j 1]
        exact ih (j + 1) n (by omega) (by omega)
theorem un10i {α1 α2 α3 α4 α5 α6 α7 α8 α9 α10 β : Type} {f : α1 → α2 → α3 → α4 → α5 → α6 → α7 → α8 → α9 → α10 → β} {a1 : α1} {a2 : α2} {a3 : α3} {a4 : α4} {a5 : α5} {a6 : α6} {a7 : α7} {a8 : α8} {a9 : α9} {a10 : α10} {x : β} (h : f a1 a2 a3 a4 a5 a6 a7 a8 a9 a10 = x) : un10 f (a1, a2, a3, a4, a5, a6, a7, a8, a9, a10) = x := h
theorem areHouses_v {M : Mem} {ρ : Nat → Int32} {h b g c n : Nat} (V : Vi M ρ h b g c) (D : Gd ρ h b g c n) (hn : n ≤ 1000) : fL_areHouses M = some true := by
  obtain ⟨W, GW, hcn, ⟨d, d1, d2, GK⟩, GO⟩ := D
  have G := GK.1
  have hh := V.1.1
  have hb := V.2.1.1
  have hm : min c 200 ≤ 200 := Nat.min_le_right _ _
  have w0 : gL_whole 0 M = some (nI h) := gw V W.2.2.1 (k := 0) (by omega)
  have w3 : gL_whole 3 M = some (nI b) := gw V W.2.2.1 (k := 3) (by omega)
  have w4 : gL_whole 4 M = some (sH ρ h 1) := gw V W.2.2.1 (k := 4) (by omega)
  have w5 : gL_whole 5 M = some (sH ρ h 2) := gw V W.2.2.1 (k := 5) (by omega)
  have w9 : gL_whole 9 M = some (nI (min c 200)) := gw V W.2.2.1 (k := 9) (by omega)
  have w10 : gL_whole 10 M = some (nI (cH ρ c 8)) := by rw [← wv10 ρ h b g c]; exact gw V W.2.2.1 (k := 10) (by omega)
  have w11 : gL_whole 11 M = some (nI (cT ρ c)) := by rw [← wv11 ρ h b g c]; exact gw V W.2.2.1 (k := 11) (by omega)
  have e37 := house_37 V W G h 0 FUEL 0 0 0 0 0 0 0 0 0 (by omega) (fuel8 (by omega))
  have z : ∀ x : Int32, (0 : Int32) + x = x := Int32.zero_add
  rw [z, z, z, z, z, z, z, z, Int64.zero_add, GW.dues hn hcn, sm_n h 0 (g := cO ρ c) (fun _ _ _ => rfl), sm_n h 0 (g := cH ρ c) (fun _ _ _ => rfl), sm_n h 0 (g := cB ρ c) (fun _ _ _ => rfl), sm_n h 0 (g := cQ ρ b) (fun _ _ _ => rfl), sum_O hh G, sum_Q hh W.2.1] at e37
  have sh := sum_H hh G
  have sb := sum_B hh G
  have hl : fX11_likeMarks M = some (sm (fun i => sm (kk ρ i) 0 i) 0 h) := V.1.likes
  have tail : ∀ z116 : Bool, z116 = true → (if z116 = true then ((gL_whole (4 : Int32) M).bind fun v119 => if sm (fun i => ρ (9 + 4 * i + 1)) 0 h = v119 then ((gL_whole (5 : Int32) M).bind fun v122 => if sm (fun i => ρ (9 + 4 * i + 2)) 0 h = v122 then (if (0 : Int64) = (0 : Int64) then ((gL_whole (9 : Int32) M).bind fun v126 => if nI (min c 200) = v126 then ((gL_whole (9 : Int32) M).bind fun v129 => (gL_whole (10 : Int32) M).bind fun v131 => if (v129 - v131) < nI (sN (cH ρ c) 0 h) then (some false) else ((gL_whole (11 : Int32) M).bind fun v134 => if (nI (sN (cB ρ c) 0 h) + v134) = nI (sN (cH ρ c) 0 h) then ((gL_whole (3 : Int32) M).bind fun v137 => if nI b = v137 then ((fX11_likeMarks M).bind fun v140 => if v140 = sm (fun i => sm (kk ρ i) 0 i) 0 h then (some true) else (some false)) else (some false)) else (some false))) else (some false)) else (some false)) else (some false)) else (some false)) else (some false)) = some true := fun z116 hz => by
    rw [if_pos hz, w4, Option.bind_some, if_pos (show sm (fun i => ρ (9 + 4 * i + 1)) 0 h = sH ρ h 1 from rfl), w5, Option.bind_some, if_pos (show sm (fun i => ρ (9 + 4 * i + 2)) 0 h = sH ρ h 2 from rfl), if_pos rfl, w9, Option.bind_some, if_pos rfl, Option.bind_some, w10, Option.bind_some, mI_sb (by omega) (by omega), if_neg (pI_nlt (by omega) (by omega)), w11, Option.bind_some, nI_ad, if_pos (by rw [sb]), w3, Option.bind_some, if_pos rfl, hl, Option.bind_some, if_pos rfl]
  unfold fL_areHouses
  rw [w0, Option.bind_some, show (0 : Int32) = nI 0 from rfl, show lL_areHouses_37 M (nI h) FUEL (nI 0) (nI 0) (nI 0) (nI 0) (nI 0) (nI 0) (nI 0) (nI 0) 0 true (nI 0) = _ from e37, Option.bind_some]
  refine un10i ?_
  rw [next_v V W.1, Option.bind_some]
  by_cases h0 : h = 0
  · subst h0
    have en : enc (nxt ρ 0) = -1 := by
      unfold nxt nx
      rfl
    have e345 : ∀ x, lL_areHouses_345 M (nI 0) x (enc (nxt ρ 0)) FUEL true (nI 0) = some true := fun x => by
      obtain ⟨f, hf⟩ : ∃ f, FUEL = f + 1 := ⟨99999, rfl⟩
      rw [hf, lL_areHouses_345, if_pos (pI_le (by omega) (by omega))]
    rw [e345, Option.bind_some, if_pos rfl, if_pos rfl, en, if_pos rfl, Option.bind_some]
    exact tail true rfl
  · obtain ⟨p, p1, p2⟩ := nxt_some W.1 (by omega)
    obtain ⟨-, q2, -⟩ := nxt_best W.1 p2
    have e3 : gL_household (nI p) 3 M = some (ρ (9 + 4 * p + 3)) := gh V (k := 3) p1 (by omega)
    rw [p2]
    rw [show lL_areHouses_345 M (nI h) (sm (fun i => ρ (9 + 4 * i + 3)) 0 h) (enc (some p)) FUEL true (nI 0) = _ from house_345 V W p2 h 0 FUEL (by omega) (fuel8 (by omega)), Option.bind_some, if_pos rfl, if_neg (show ¬ nI h = nI 0 from pI_ne h0 (by omega) (by omega))]
    by_cases q : sH ρ h 3 = nI h
    · rw [if_pos (show sm (fun i => ρ (9 + 4 * i + 3)) 0 h = nI h from q), Option.bind_some]
      exact tail true rfl
    · rw [if_neg (show ¬ sm (fun i => ρ (9 + 4 * i + 3)) 0 h = nI h from q)]
      have q3 : ρ (9 + 4 * p + 3) = nI 0 := q2.resolve_left q
      rw [show gL_household (enc (some p)) 3 M = _ from e3, Option.bind_some, if_pos q3, Option.bind_some]
      exact tail true rfl
