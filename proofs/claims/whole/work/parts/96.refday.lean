/-! the reference's day: batches drop out of the row as they go in -/
def t0 : T3 := (0, 0, 0)
def TBr (N : Mem) (T : List T3) : Prop := T.length ≤ 20 ∧ N.1 179 7 = nI T.length ∧ (∀ i, i < T.length → N.1 179 (41 + 3 * i) = nI (T.getD i t0).1 ∧ N.1 179 (41 + 3 * i + 1) = nI (T.getD i t0).2.1 ∧ N.1 179 (41 + 3 * i + 2) = nI (T.getD i t0).2.2) ∧ ∀ x, x ∈ T → x.1 < 8 ∧ x.2.1 < 3 ∧ 1 ≤ x.2.2 ∧ x.2.2 ≤ 12
theorem gdL {α : Type} {A B : List α} {i : Nat} (d : α) (h : i < A.length) : (A ++ B).getD i d = A.getD i d := by
  rw [List.getD_eq_getElem?_getD, List.getElem?_append_left h, ← List.getD_eq_getElem?_getD]
theorem gdR {α : Type} {A B : List α} {i : Nat} (d : α) (h : A.length ≤ i) : (A ++ B).getD i d = B.getD (i - A.length) d := by
  rw [List.getD_eq_getElem?_getD, List.getElem?_append_right h, ← List.getD_eq_getElem?_getD]
theorem TBr.cg {N N' : Mem} {T : List T3} (H : TBr N T) (h : ∀ x, x = 7 ∨ (41 ≤ x ∧ x < 101) → N'.1 179 x = N.1 179 x) : TBr N' T := by
  obtain ⟨h1, h2, h3, h4⟩ := H
  refine ⟨h1, by rw [h 7 (by omega)]; exact h2, fun i hi => ?_, h4⟩
  rw [h _ (by omega), h _ (by omega), h _ (by omega)]; exact h3 i hi
theorem TBr.drop {N : Mem} {P R : List T3} {x : T3} (H : TBr N (P ++ x :: R)) : ∃ N', fX12_dropsBatch (nI P.length) N = some N' ∧ TBr N' (P ++ R) ∧ (∀ q y, ¬ (q = 179 ∧ (y = 7 ∨ (41 ≤ y ∧ y < 101))) → N'.1 q y = N.1 q y) ∧ N'.2 = N.2 := by
  obtain ⟨h1, h2, h3, h4⟩ := H
  have hl : (P ++ x :: R).length = P.length + R.length + 1 := by rw [List.length_append, List.length_cons]; omega
  obtain ⟨N', n1, n2, n3, n4⟩ := drops_r (Ro.id N) h1 (show P.length < (P ++ x :: R).length by omega) h2
  have hl2 : (P ++ R).length = P.length + R.length := List.length_append
  obtain ⟨b, hb⟩ : ∃ b, b = (P ++ x :: R).length := ⟨_, rfl⟩
  rw [← hb] at n2 h1 h2 h3 hl
  refine ⟨N', n1, ⟨by omega, ?_, fun i hi => ?_, fun y hy => h4 y ?_⟩, fun q y hq => ?_, n4⟩
  · rw [n2 7 (by omega)]
    simp only [dr, if_true]
    rw [show b - 1 = (P ++ R).length by omega]
  · have hd : ∀ k, k < 3 → N'.1 179 (41 + 3 * i + k) = if P.length ≤ i then N.1 179 (41 + 3 * (i + 1) + k) else N.1 179 (41 + 3 * i + k) := fun k hk => by
      rw [n2 _ (by omega)]
      simp only [dr]
      rw [if_neg (by omega)]
      by_cases h5 : P.length ≤ i
      · rw [if_pos (by omega), if_pos h5, show 41 + 3 * i + k + 3 = 41 + 3 * (i + 1) + k by omega]
      · rw [if_neg (by omega), if_neg h5]
    have hd0 := hd 0 (by omega)
    rw [Nat.add_zero, Nat.add_zero] at hd0
    rw [hd0, hd 1 (by omega), hd 2 (by omega)]
    by_cases h5 : P.length ≤ i
    · rw [if_pos h5, if_pos h5, if_pos h5, gdR t0 h5]
      have := h3 (i + 1) (by omega)
      rw [gdR t0 (by omega), show i + 1 - P.length = (i - P.length) + 1 by omega] at this
      exact this
    · rw [if_neg h5, if_neg h5, if_neg h5, gdL t0 (by omega)]
      have := h3 i (by omega)
      rw [gdL t0 (by omega)] at this
      exact this
  · rcases List.mem_append.mp hy with q | q
    · exact List.mem_append_left _ q
    · exact List.mem_append_right _ (List.mem_cons_of_mem _ q)
  · by_cases e : q = 179
    · subst e
      by_cases e2 : y < 1601
      · rw [n2 y e2]
        simp only [dr]
        rw [if_neg (by omega), if_neg (by omega)]
      · have hn := n1
        unfold fX12_dropsBatch at hn
        rw [l_7, (Ro.id N).at (by omega), Option.bind_some, h2, l_1, mI_sb (by omega) (by omega), ast_n (by omega) (by omega), Option.bind_some, l_41, l_3, nI_ml', nI_ad] at hn
        have e3 : lX12_dropsBatch_18 FUEL (nI (41 + 3 * P.length)) (mput N 179 7 (nI (b - 1))) = some _ := drop_loop (e := 41 + 3 * (b - 1)) (by omega) (3 * (b - 1 - P.length)) (41 + 3 * P.length) FUEL _ (by rw [mput_at, if_pos ⟨rfl, rfl⟩, show (41 + 3 * (b - 1) - 41) / 3 = b - 1 by omega]) (by omega) (by omega) (by omega) (fuel8 (by omega))
        rw [e3, Option.bind_some] at hn
        cases hn
        show (if 179 = 179 ∧ 41 + 3 * P.length ≤ y ∧ y < 41 + 3 * (b - 1) then _ else (mput N 179 7 _).1 179 y) = _
        rw [if_neg (by omega), mput_at, if_neg (by omega)]
    · exact n3 q y e
theorem rot_mod {h f t : Nat} (hf : f < h) (ht : t < h) : (f + t) % h = rot h f t := by
  unfold rot
  by_cases h1 : h ≤ f + t
  · rw [if_pos h1, show f + t = (f + t - h) + h by omega, Nat.add_mod_right, Nat.mod_eq_of_lt (by omega)]; omega
  · rw [if_neg h1, Nat.mod_eq_of_lt (by omega)]
def Ff (N N' : Mem) : Prop := (∀ q x, q ≠ 183 → ¬ (q = 178 ∧ x = 9) → ¬ (q = 179 ∧ (x = 7 ∨ (41 ≤ x ∧ x < 101))) → N'.1 q x = N.1 q x) ∧ N'.2 = N.2
def InO (N : Mem) (u : Nat) (I : List T3) : Prop := ∀ i, i < I.length → N.1 183 (2 * (u + i)) = nI (I.getD i t0).1 ∧ N.1 183 (2 * (u + i) + 1) = nI (I.getD i t0).2.2
theorem fi_in {k f tt h : Nat} (hh : h ≤ 8) (hf : f < h) (htt : tt < h) (hk : k < 3) : ∀ (R : List T3) (n : Nat) (P : List T3) (r u : Nat) (N : Mem), TBr N (P ++ R) → r ≤ 24 → N.1 178 9 = nI u → u + R.length ≤ 20 → R.length < n → ∃ N', lX12_fills_38 (nI k) (nI f) (nI tt) (nI h) n (nI r) (nI P.length) N = some (nI (gN (pZ (rot h f tt) k) r R), N') ∧ TBr N' (P ++ gR (pZ (rot h f tt) k) r R) ∧ N'.1 178 9 = nI (u + (gT (pZ (rot h f tt) k) r R).length) ∧ InO N' u (gT (pZ (rot h f tt) k) r R) ∧ (∀ x, x < 2 * u → N'.1 183 x = N.1 183 x) ∧ Ff N N' := by
  intro R
  induction R with
  | nil =>
    intro n P r u N H hr hu h1 h2
    obtain ⟨n, rfl⟩ : ∃ n', n = n' + 1 := ⟨n - 1, by omega⟩
    have hl := H.1
    have h7 := H.2.1
    rw [List.append_nil] at hl h7
    refine ⟨N, ?_, H, hu, fun i hi => absurd hi (Nat.not_lt_zero _), fun _ _ => rfl, fun _ _ _ _ _ => rfl, rfl⟩
    rw [lX12_fills_38, l_7, ald_n (by omega) (by omega), Option.bind_some, h7, if_pos (pI_le (by omega) (by omega))]
    rfl
  | cons x R ih =>
    intro n P r u N H hr hu h1 h2
    obtain ⟨n, rfl⟩ : ∃ n', n = n' + 1 := ⟨n - 1, by omega⟩
    have hl := H.1
    rw [List.length_cons] at h1 h2
    have hlen : (P ++ x :: R).length = P.length + R.length + 1 := by rw [List.length_append, List.length_cons]; omega
    obtain ⟨c0, c1, c2⟩ := H.2.2.1 P.length (by omega)
    rw [gdR t0 (Nat.le_refl _), Nat.sub_self] at c0 c1 c2
    have c0' : N.1 179 (41 + 3 * P.length) = nI x.1 := c0
    have c1' : N.1 179 (41 + 3 * P.length + 1) = nI x.2.1 := c1
    have c2' : N.1 179 (41 + 3 * P.length + 2) = nI x.2.2 := c2
    obtain ⟨m1, m2, m3, m4⟩ := H.2.2.2 x (List.mem_append_right _ List.mem_cons_self)
    have hz8 : rot h f tt < 8 := by have := rot_lt hf htt; omega
    have e1 : lX12_fills_38 (nI k) (nI f) (nI tt) (nI h) (n + 1) (nI r) (nI P.length) N = if nI x.1 = nI (rot h f tt) then (if nI x.2.1 = nI k then (if nI r < nI x.2.2 then lX12_fills_38 (nI k) (nI f) (nI tt) (nI h) n (nI r) (nI (P.length + 1)) N else ((fX12_dropsBatch (nI P.length) (mput (mput (mput N 183 (2 * u) (nI (rot h f tt))) 183 (2 * u + 1) (nI x.2.2)) 178 9 (nI (u + 1)))).bind fun M42 => lX12_fills_38 (nI k) (nI f) (nI tt) (nI h) n (nI r - nI x.2.2) (nI P.length) M42)) else lX12_fills_38 (nI k) (nI f) (nI tt) (nI h) n (nI r) (nI (P.length + 1)) N) else lX12_fills_38 (nI k) (nI f) (nI tt) (nI h) n (nI r) (nI (P.length + 1)) N := by
      rw [lX12_fills_38, show ald (N.1 179) 1601 7 = some (N.1 179 7) from ald_n (j := 7) (by omega) (by omega), Option.bind_some, H.2.1, if_neg (pI_nle (by omega) (by omega)), l_41, l_3, nI_ml', nI_ad, show nI (41 + 3 * P.length) + (2 : Int32) = nI (41 + 3 * P.length + 2) from nI_ad _ 2, ald_n (by omega) (by omega), Option.bind_some, ald_n (by omega) (by omega), Option.bind_some, c0', c2', show nI (41 + 3 * P.length) + (1 : Int32) = nI (41 + 3 * P.length + 1) from nI_ad _ 1, ald_n (by omega) (by omega), Option.bind_some, c1', nI_ad, mI_md (by omega) (by omega), rot_mod hf htt, hu, l_2, nI_ml', ast_n (by omega) (by omega), Option.bind_some, show (mput N 183 (2 * u) (nI (rot h f tt))).1 178 9 = nI u from by rw [mput_at, if_neg (by omega)]; exact hu, nI_ml', l_1, show nI (2 * u) + nI 1 = nI (2 * u + 1) from nI_ad _ 1, ast_n (by omega) (by omega), Option.bind_some]
      unfold pf
      rw [Option.bind_some, show (mput (mput N 183 (2 * u) (nI (rot h f tt))) 183 (2 * u + 1) (nI x.2.2)).1 178 9 = nI u from by rw [mput_at, if_neg (by omega), mput_at, if_neg (by omega)]; exact hu, nI_ad, nI_ad]
    have skip : ¬ (pZ (rot h f tt) k x = true ∧ x.2.2 ≤ r) → lX12_fills_38 (nI k) (nI f) (nI tt) (nI h) (n + 1) (nI r) (nI P.length) N = lX12_fills_38 (nI k) (nI f) (nI tt) (nI h) n (nI r) (nI (P.length + 1)) N → ∃ N', lX12_fills_38 (nI k) (nI f) (nI tt) (nI h) (n + 1) (nI r) (nI P.length) N = some (nI (gN (pZ (rot h f tt) k) r (x :: R)), N') ∧ TBr N' (P ++ gR (pZ (rot h f tt) k) r (x :: R)) ∧ N'.1 178 9 = nI (u + (gT (pZ (rot h f tt) k) r (x :: R)).length) ∧ InO N' u (gT (pZ (rot h f tt) k) r (x :: R)) ∧ (∀ y, y < 2 * u → N'.1 183 y = N.1 183 y) ∧ Ff N N' := by
      intro hc he
      obtain ⟨N', a1, a2, a3, a4, a5, a6⟩ := ih n (P ++ [x]) r u N (by rw [List.append_assoc]; exact H) hr hu (by omega) (by omega)
      rw [List.length_append] at a1
      refine ⟨N', by rw [he, gN, if_neg hc]; exact a1, ?_, by rw [gT, if_neg hc]; exact a3, by rw [gT, if_neg hc]; exact a4, a5, a6⟩
      rw [gR, if_neg hc]
      rw [List.append_assoc] at a2
      exact a2
    by_cases d1 : x.1 = rot h f tt
    · by_cases d2 : x.2.1 = k
      · by_cases d3 : x.2.2 ≤ r
        · have hc : pZ (rot h f tt) k x = true ∧ x.2.2 ≤ r := ⟨by simp [pZ, d1, d2], d3⟩
          have H1 : TBr (mput (mput (mput N 183 (2 * u) (nI (rot h f tt))) 183 (2 * u + 1) (nI x.2.2)) 178 9 (nI (u + 1))) (P ++ x :: R) := H.cg (fun y _ => by rw [mput_at, if_neg (by omega), mput_at, if_neg (by omega), mput_at, if_neg (by omega)])
          obtain ⟨N2, g1, g2, g3, g4⟩ := H1.drop
          obtain ⟨N', a1, a2, a3, a4, a5, a6, a7⟩ := ih n P (r - x.2.2) (u + 1) N2 g2 (by omega) (by rw [g3 178 9 (by omega), mput_at, if_pos ⟨rfl, rfl⟩]) (by omega) (by omega)
          refine ⟨N', ?_, by rw [gR, if_pos hc]; exact a2, by rw [gT, if_pos hc, List.length_cons, a3]; congr 1; omega, ?_, fun y hy => ?_, fun q y w1 w2 w3 => ?_, a7.trans g4⟩
          · rw [e1, if_pos (by rw [d1]), if_pos (by rw [d2]), if_neg (pI_nlt d3 (by omega)), g1, Option.bind_some, mI_sb d3 (by omega), gN, if_pos hc]
            exact a1
          · rw [gT, if_pos hc]
            intro i hi
            rw [List.length_cons] at hi
            by_cases e : i = 0
            · subst e
              rw [Nat.add_zero, a5 (2 * u) (by omega), a5 (2 * u + 1) (by omega), g3 183 _ (by omega), g3 183 _ (by omega), mput_at, if_neg (by omega), mput_at, if_neg (by omega), mput_at, if_pos ⟨rfl, rfl⟩, mput_at, if_neg (by omega), mput_at, if_pos ⟨rfl, rfl⟩]
              exact ⟨by rw [← d1]; rfl, rfl⟩
            · obtain ⟨i, rfl⟩ : ∃ i', i = i' + 1 := ⟨i - 1, by omega⟩
              have := a4 i (by omega)
              rw [show u + 1 + i = u + (i + 1) by omega] at this
              exact this
          · rw [a5 y (by omega), g3 183 y (by omega), mput_at, if_neg (by omega), mput_at, if_neg (by omega), mput_at, if_neg (by omega)]
          · rw [a6 q y w1 w2 w3, g3 q y w3, mput_at, if_neg w2, mput_at, if_neg (by omega), mput_at, if_neg (by omega)]
        · exact skip (fun q => d3 q.2) (by rw [e1, if_pos (by rw [d1]), if_pos (by rw [d2]), if_pos (pI_lt (by omega) (by omega))])
      · exact skip (fun q => d2 (by have := q.1; simp only [pZ, Bool.and_eq_true, decide_eq_true_eq] at this; exact this.2)) (by rw [e1, if_pos (by rw [d1]), if_neg (pI_ne d2 (by omega) (by omega))])
    · exact skip (fun q => d1 (by have := q.1; simp only [pZ, Bool.and_eq_true, decide_eq_true_eq] at this; exact this.1)) (by rw [e1, if_neg (pI_ne d1 (by omega) (by omega))])
theorem Ff.tr {a b c : Mem} (h : Ff a b) (g : Ff b c) : Ff a c := ⟨fun q x h1 h2 h3 => (g.1 q x h1 h2 h3).trans (h.1 q x h1 h2 h3), g.2.trans h.2⟩
theorem fi_out {k f h : Nat} (hh : h ≤ 8) (hf : f < h) (hk : k < 3) : ∀ (m tt n r u : Nat) (T : List T3) (N : Mem), TBr N T → N.1 179 0 = nI h → r ≤ 24 → N.1 178 9 = nI u → u + T.length ≤ 20 → tt + m = h → m < n → ∃ N', lX12_fills_11 (nI k) (nI f) n (nI r) (nI tt) N = some (nI (fa h f k m tt r T).2.2, N') ∧ TBr N' (fa h f k m tt r T).2.1 ∧ N'.1 178 9 = nI (u + (fa h f k m tt r T).1.length) ∧ InO N' u (fa h f k m tt r T).1 ∧ (∀ x, x < 2 * u → N'.1 183 x = N.1 183 x) ∧ Ff N N' := by
  intro m
  induction m with
  | zero =>
    intro tt n r u T N H h0 hr hu h1 h2 h3
    obtain ⟨n, rfl⟩ : ∃ n', n = n' + 1 := ⟨n - 1, by omega⟩
    refine ⟨N, ?_, H, hu, fun i hi => absurd hi (Nat.not_lt_zero _), fun _ _ => rfl, fun _ _ _ _ _ => rfl, rfl⟩
    rw [lX12_fills_11, l_0, ald_n (by omega) (by omega), Option.bind_some, h0, if_pos (pI_le (by omega) (by omega))]
    rfl
  | succ m ih =>
    intro tt n r u T N H h0 hr hu h1 h2 h3
    obtain ⟨n, rfl⟩ : ∃ n', n = n' + 1 := ⟨n - 1, by omega⟩
    have hl := H.1
    obtain ⟨N1, a1, a2, a3, a4, a5, a6⟩ := fi_in hh hf (show tt < h by omega) hk T FUEL [] r u N H hr hu h1 (fuel8 (by omega))
    obtain ⟨g1, g2, g3⟩ := g_sum (pZ (rot h f tt) k) T r
    obtain ⟨N2, b1, b2, b3, b4, b5, b6⟩ := ih (tt + 1) n (gN (pZ (rot h f tt) k) r T) (u + (gT (pZ (rot h f tt) k) r T).length) (gR (pZ (rot h f tt) k) r T) N1 a2 (by rw [a6.1 179 0 (by omega) (by omega) (by omega)]; exact h0) (by omega) a3 (by omega) (by omega) (by omega)
    refine ⟨N2, ?_, b2, ?_, ?_, fun x hx => by rw [b5 x (by omega), a5 x hx], a6.tr b6⟩
    · rw [lX12_fills_11, l_0, ald_n (by omega) (by omega), Option.bind_some, h0, if_neg (pI_nle (by omega) (by omega)), Option.bind_some, if_neg (pI_ne (by omega) (by omega) (by omega)), show lX12_fills_38 (nI k) (nI f) (nI tt) (nI h) FUEL (nI r) (nI 0) N = some (nI (gN (pZ (rot h f tt) k) r T), N1) from a1, Option.bind_some]
      simp only [un2]
      rw [l_1, nI_ad]
      exact b1
    · rw [b3, fa, List.length_append]; congr 1; omega
    · rw [fa]
      intro i hi
      rw [List.length_append] at hi
      by_cases e : i < (gT (pZ (rot h f tt) k) r T).length
      · rw [gdL t0 e, b5 _ (by omega), b5 _ (by omega)]
        exact a4 i e
      · rw [gdR t0 (by omega)]
        have := b4 (i - (gT (pZ (rot h f tt) k) r T).length) (by omega)
        rw [show u + (gT (pZ (rot h f tt) k) r T).length + (i - (gT (pZ (rot h f tt) k) r T).length) = u + i by omega] at this
        exact this
