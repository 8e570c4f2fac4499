def PB (M : Mem) (O : List Nat) (tr : Nat → T3) : Prop := OR M O ∧ O.length ≤ 20 ∧ ∀ p, p < O.length → O.getD p 0 < 20 ∧ ((tr p).1 < 8 ∧ (tr p).2.1 < 3 ∧ 1 ≤ (tr p).2.2 ∧ (tr p).2.2 ≤ 12) ∧ M.1 12 (O.getD p 0) = nI (tr p).1 ∧ M.1 13 (O.getD p 0) = nI (tr p).2.1 ∧ M.1 14 (O.getD p 0) = nI (tr p).2.2
theorem PB.cg {M M' : Mem} {O : List Nat} {tr : Nat → T3} (H : PB M O tr) (h1 : M'.1 33 4 = M.1 33 4) (h2 : ∀ q x, (12 ≤ q ∧ q < 15) ∨ q = 34 → M'.1 q x = M.1 q x) : PB M' O tr :=
  ⟨H.1.cg h1 (fun p => h2 34 p (by omega)), H.2.1, fun p hp => by
    obtain ⟨a, b, c, d, e⟩ := H.2.2 p hp
    exact ⟨a, b, (h2 12 _ (by omega)).trans c, (h2 13 _ (by omega)).trans d, (h2 14 _ (by omega)).trans e⟩⟩
theorem PB.v1 {M : Mem} {O : List Nat} {tr : Nat → T3} (H : PB M O tr) {p : Nat} (hp : p < O.length) : fX1_value 9 (nI (O.getD p 0)) 1 M = some (nI (tr p).2.1) := by
  obtain ⟨a, b, c, d, e⟩ := H.2.2 p hp
  unfold fX1_value
  show (fX7_get 10 3 20 _ (nI 1) M).bind _ = _
  rw [X7_get (by omega) (by omega) (by omega) (by omega), Option.bind_some, ← d]
theorem PB.v2 {M : Mem} {O : List Nat} {tr : Nat → T3} (H : PB M O tr) {p : Nat} (hp : p < O.length) : fX1_value 9 (nI (O.getD p 0)) 2 M = some (nI (tr p).2.2) := by
  obtain ⟨a, b, c, d, e⟩ := H.2.2 p hp
  unfold fX1_value
  show (fX7_get 10 3 20 _ (nI 2) M).bind _ = _
  rw [X7_get (by omega) (by omega) (by omega) (by omega), Option.bind_some, ← e]
theorem PB.ord {M : Mem} {O : List Nat} {tr : Nat → T3} (H : PB M O tr) {p : Nat} (hp : p < O.length) : ald (M.1 34) 20 (nI p) = some (nI (O.getD p 0)) := by
  have := H.2.1
  rw [ald_n (by omega) (by omega), H.1.2 p hp]
theorem w3_l : ∀ (m j n : Nat) (M : Mem), j + m = 3 → m < n → lX3_startWaiting_17 n (nI j) M = some (fun q x => if q = 36 ∧ j ≤ x ∧ x < 3 then nI 0 else M.1 q x, M.2) := by
  intro m
  induction m with
  | zero =>
    intro j n M h1 h2
    obtain ⟨n, rfl⟩ : ∃ n', n = n' + 1 := ⟨n - 1, by omega⟩
    rw [lX3_startWaiting_17, l_3, if_pos (pI_le (by omega) (by omega))]
    congr 1
    refine mem_ext (fun q x => ?_) rfl
    show M.1 q x = if _ then _ else _
    rw [if_neg (by omega)]
  | succ m ih =>
    intro j n M h1 h2
    obtain ⟨n, rfl⟩ : ∃ n', n = n' + 1 := ⟨n - 1, by omega⟩
    rw [lX3_startWaiting_17, l_3, if_neg (pI_nle (by omega) (by omega)), ast_n (by omega) (by omega), Option.bind_some, l_1, nI_ad, ih (j + 1) n _ (by omega) (by omega)]
    congr 1
    refine mem_ext (fun q x => ?_) rfl
    show (if q = 36 ∧ j + 1 ≤ x ∧ x < 3 then nI 0 else (mput M 36 j 0).1 q x) = if q = 36 ∧ j ≤ x ∧ x < 3 then nI 0 else M.1 q x
    rw [mput_at]
    by_cases h3 : q = 36 ∧ x = j
    · rw [if_neg (by omega), if_pos h3, if_pos (by omega)]; rfl
    · rw [if_neg h3]
      by_cases h4 : q = 36 ∧ j + 1 ≤ x ∧ x < 3
      · rw [if_pos h4, if_pos (by omega)]
      · rw [if_neg h4, if_neg (by omega)]
theorem sw_l {O : List Nat} {tr : Nat → T3} : ∀ (m j n : Nat) (M : Mem) (w : Nat → Nat), PB M O tr → j + m = O.length → m < n → (∀ k, k < 3 → M.1 36 k = nI (w k)) → ∃ M', lX3_startWaiting_37 9 n (nI j) M = some M' ∧ (∀ k, k < 3 → M'.1 36 k = nI (w k + cK k (tb tr j m))) ∧ (∀ p, j ≤ p → p < O.length → M'.1 35 p = NG) ∧ (∀ p, p < j → M'.1 35 p = M.1 35 p) ∧ (∀ q x, q ≠ 35 → q ≠ 36 → M'.1 q x = M.1 q x) ∧ M'.2 = M.2 := by
  intro m
  induction m with
  | zero =>
    intro j n M w H h1 h2 hw
    obtain ⟨n, rfl⟩ : ∃ n', n = n' + 1 := ⟨n - 1, by omega⟩
    have hO := H.2.1
    refine ⟨M, ?_, fun k hk => by rw [tb, cK, Nat.add_zero]; exact hw k hk, fun p h3 h4 => by omega, fun _ _ => rfl, fun _ _ _ _ => rfl, rfl⟩
    rw [lX3_startWaiting_37, H.1.1, if_pos (pI_le (by omega) (by omega))]
  | succ m ih =>
    intro j n M w H h1 h2 hw
    obtain ⟨n, rfl⟩ : ∃ n', n = n' + 1 := ⟨n - 1, by omega⟩
    have hO := H.2.1
    obtain ⟨-, ⟨t1, t2, t3, t4⟩, -⟩ := H.2.2 j (by omega)
    have H1 : PB (mput M 35 j NG) O tr := H.cg (by rw [mput_at, if_neg (by omega)]) (fun q x hq => by rw [mput_at, if_neg (by omega)])
    obtain ⟨k, hk⟩ : ∃ k, k = (tr j).2.1 := ⟨_, rfl⟩
    have ew : (mput M 35 j NG).1 36 k = nI (w k) := by rw [mput_at, if_neg (by omega)]; exact hw k (by omega)
    have e1 : lX3_startWaiting_37 9 (n + 1) (nI j) M = lX3_startWaiting_37 9 n (nI (j + 1)) (mput (mput M 35 j NG) 36 k (nI (w k + 1))) := by
      rw [lX3_startWaiting_37, H.1.1, if_neg (pI_nle (by omega) (by omega)), l_20, if_neg (pI_nle (by omega) (by omega)), show (-1 : Int32) = NG from rfl, ast_n (by omega) (by omega), Option.bind_some, H1.ord (by omega), Option.bind_some, H1.v1 (by omega), Option.bind_some, l_0, if_neg (pI_nlt (by omega) (by omega)), l_3, if_neg (pI_nle (by omega) (by omega)), ← hk, ald_n (by omega) (by omega), Option.bind_some, ew, l_1, nI_ad, ast_n (by omega) (by omega), Option.bind_some, nI_ad]
    obtain ⟨M', a1, a2, a3, a4, a5, a6⟩ := ih (j + 1) n _ (fun i => if i = k then w k + 1 else w i) (H1.cg (M' := mput (mput M 35 j NG) 36 k (nI (w k + 1))) (by rw [mput_at, if_neg (by omega)]) (fun q x hq => by rw [mput_at, if_neg (by omega)])) (by omega) (by omega) (fun i hi => by
      rw [mput_at]
      by_cases e : i = k
      · rw [if_pos ⟨rfl, e⟩, if_pos e]
      · rw [if_neg (fun q => e q.2), if_neg e, mput_at, if_neg (by omega)]; exact hw i hi)
    refine ⟨M', by rw [e1]; exact a1, fun i hi => ?_, fun p h3 h4 => ?_, fun p h3 => ?_, fun q x h3 h4 => ?_, a6⟩
    · rw [a2 i hi, tb, cK]
      by_cases e : i = k
      · rw [if_pos e, if_pos (by omega), e, Nat.add_assoc]
      · rw [if_neg e, if_neg (by omega), Nat.zero_add]
    · by_cases e : p = j
      · subst e; rw [a4 p (by omega), mput_at, if_neg (by omega), mput_at, if_pos ⟨rfl, rfl⟩]
      · exact a3 p (by omega) h4
    · rw [a4 p (by omega), mput_at, if_neg (by omega), mput_at, if_neg (by omega)]
    · rw [a5 q x h3 h4, mput_at, if_neg (by omega), mput_at, if_neg (by omega)]
/-- the plan so far -/
def L0 : L4 := (0, [], 0, 0)
def FS (M : Mem) (O : List Nat) (tr : Nat → T3) (Ls : List L4) (W : List T3) (t : Nat) : Prop :=
  PB M O tr ∧ (M.1 33 5 = nI W.length ∧ M.1 33 6 = nI t ∧ (∀ k, k < 3 → M.1 36 k = nI (cK k W)) ∧ M.1 37 1 = nI Ls.length) ∧ Ls.length + W.length ≤ O.length ∧
  (∀ i, i < Ls.length → M.1 40 i = nI (Ls.getD i L0).1 ∧ M.1 41 i = nI (Ls.getD i L0).2.1.length ∧ M.1 42 i = nI (sz (Ls.getD i L0).2.1) ∧ M.1 43 i = nI (Ls.getD i L0).2.2.1 ∧ M.1 44 i = nI (Ls.getD i L0).2.2.2) ∧
  sl (fun p => decide (M.1 35 p = NG)) tr 0 O.length = W ∧ (∀ L, L < Ls.length → sl (fun p => decide (M.1 35 p = nI L)) tr 0 O.length = (Ls.getD L L0).2.1) ∧ (∀ p, p < O.length → M.1 35 p = NG ∨ ∃ L, L < Ls.length ∧ M.1 35 p = nI L) ∧ ∀ x, x ∈ W → x.2.1 < 3 ∧ 1 ≤ x.2.2 ∧ x.2.2 ≤ 12
theorem tb_mem (tr : Nat → T3) : ∀ (m j : Nat) (x : T3), x ∈ tb tr j m → ∃ i, j ≤ i ∧ i < j + m ∧ x = tr i := by
  intro m
  induction m with
  | zero => intro j x h; cases h
  | succ m ih =>
    intro j x h
    rw [tb] at h
    rcases List.mem_cons.mp h with h | h
    · exact ⟨j, Nat.le_refl _, by omega, h⟩
    · obtain ⟨i, h1, h2, h3⟩ := ih _ _ h
      exact ⟨i, by omega, by omega, h3⟩
theorem start_w {M : Mem} {O : List Nat} {tr : Nat → T3} {t : Nat} (H : PB M O tr) (ht : M.1 33 6 = nI t) : ∃ M', fX3_startWaiting 9 M = some M' ∧ FS M' O tr [] (tb tr 0 O.length) t ∧ (∀ q x, ¬ (33 ≤ q ∧ q < 45) → M'.1 q x = M.1 q x) ∧ M'.2 = M.2 := by
  have hO := H.2.1
  obtain ⟨M1, hM1⟩ : ∃ M1, M1 = mput (mput M 37 1 0) 33 5 (nI O.length) := ⟨_, rfl⟩
  obtain ⟨M2, hM2⟩ : ∃ M2 : Mem, M2 = (fun q x => if q = 36 ∧ 0 ≤ x ∧ x < 3 then nI 0 else M1.1 q x, M1.2) := ⟨_, rfl⟩
  have c2 : ∀ q x, q ≠ 36 → ¬ (q = 37 ∧ x = 1) → ¬ (q = 33 ∧ x = 5) → M2.1 q x = M.1 q x := fun q x h1 h2 h3 => by
    rw [hM2]; show (if _ then _ else _) = _
    rw [if_neg (fun w => h1 w.1), hM1, mput_at, if_neg h3, mput_at, if_neg h2]
  have c2n : ∀ q x, q ≠ 36 → M2.1 q x = M1.1 q x := fun q x h1 => by
    rw [hM2]; show (if _ then _ else _) = _
    rw [if_neg (fun w => h1 w.1)]
  have P2 : PB M2 O tr := H.cg (c2 33 4 (by omega) (by omega) (by omega)) (fun q x hq => c2 q x (by omega) (by omega) (by omega))
  obtain ⟨M3, a1, a2, a3, a4, a5, a6⟩ := sw_l O.length 0 FUEL M2 (fun _ => 0) P2 (by omega) (fuel8 (by omega)) (fun k hk => by
    rw [hM2]; show (if _ then _ else _) = _
    rw [if_pos ⟨rfl, by omega, hk⟩])
  have c3 : ∀ q x, q ≠ 35 → q ≠ 36 → ¬ (q = 37 ∧ x = 1) → ¬ (q = 33 ∧ x = 5) → M3.1 q x = M.1 q x := fun q x h1 h2 h3 h4 => (a5 q x h1 h2).trans (c2 q x h2 h3 h4)
  have e1 := w3_l 3 0 FUEL M1 (by omega) (fuel8 (by omega))
  rw [← hM2] at e1
  refine ⟨M3, ?_, ⟨P2.cg (a5 33 4 (by omega) (by omega)) (fun q x hq => a5 q x (by omega) (by omega)), ⟨?_, ?_, fun k hk => ?_, ?_⟩, ?_, fun i hi => absurd hi (by simp), ?_, fun i hi => absurd hi (by simp), fun p hp => Or.inl (a3 p (by omega) hp), fun x hx => ?_⟩, fun q x hq => c3 q x (by omega) (by omega) (by omega) (by omega), ?_⟩
  · unfold fX3_startWaiting fX5_clear pf
    rw [Option.bind_some, Option.bind_some, Option.bind_some, show (mput M 37 1 0).1 33 4 = nI O.length from by rw [mput_at, if_neg (by omega)]; exact H.1.1, ← hM1, l_0, e1, Option.bind_some, a1]
    rfl
  · rw [tb_len, a5 33 5 (by omega) (by omega), c2n _ _ (by omega), hM1, mput_at, if_pos ⟨rfl, rfl⟩]
  · rw [c3 33 6 (by omega) (by omega) (by omega) (by omega)]; exact ht
  · rw [a2 k hk, Nat.zero_add]
  · rw [a5 37 1 (by omega) (by omega), c2n _ _ (by omega), hM1, mput_at, if_neg (by omega), mput_at, if_pos ⟨rfl, rfl⟩]; rfl
  · rw [tb_len]; simp
  · exact sl_all tr O.length 0 fun i _ hi => decide_eq_true (a3 i (by omega) (by omega))
  · obtain ⟨i, h1, h2, h3⟩ := tb_mem tr _ _ _ hx
    obtain ⟨-, ⟨t1, t2, t3, t4⟩, -⟩ := H.2.2 i (by omega)
    rw [h3]; exact ⟨t2, t3, t4⟩
  · rw [a6, hM2, hM1]; rfl
/-- batches go into a load, place by place -/
theorem bl_in {O : List Nat} {tr : Nat → T3} {k g : Nat} (hk : k < 3) (hg : g < 20) : ∀ (m j n r u : Nat) (M : Mem), PB M O tr → M.1 37 1 = nI g → j + m = O.length → m < n → r ≤ 24 → u + m ≤ 100 → (∀ p, j ≤ p → p < O.length → M.1 35 p ≠ nI g) → ∃ M', lX3_bakeLoad_24 9 (nI k) n (nI (24 - r)) (nI u) (nI j) M = some (nI (24 - gN (pK k) r (sl (fun p => decide (M.1 35 p = NG)) tr j m)), nI (u + (gT (pK k) r (sl (fun p => decide (M.1 35 p = NG)) tr j m)).length), M') ∧ sl (fun p => decide (M'.1 35 p = NG)) tr j m = gR (pK k) r (sl (fun p => decide (M.1 35 p = NG)) tr j m) ∧ sl (fun p => decide (M'.1 35 p = nI g)) tr j m = gT (pK k) r (sl (fun p => decide (M.1 35 p = NG)) tr j m) ∧ (∀ p, j ≤ p → p < O.length → M'.1 35 p = M.1 35 p ∨ (M.1 35 p = NG ∧ M'.1 35 p = nI g)) ∧ (∀ q x, ¬ (q = 35 ∧ j ≤ x ∧ x < O.length) → M'.1 q x = M.1 q x) ∧ M'.2 = M.2 := by
  intro m
  induction m with
  | zero =>
    intro j n r u M H h37 h1 h2 h3 h5 h4
    obtain ⟨n, rfl⟩ : ∃ n', n = n' + 1 := ⟨n - 1, by omega⟩
    have hO := H.2.1
    refine ⟨M, ?_, rfl, rfl, fun p h6 h7 => by omega, fun _ _ _ => rfl, rfl⟩
    rw [lX3_bakeLoad_24, H.1.1, if_pos (pI_le (by omega) (by omega))]
    rfl
  | succ m ih =>
    intro j n r u M H h37 h1 h2 h3 h5 h4
    obtain ⟨n, rfl⟩ : ∃ n', n = n' + 1 := ⟨n - 1, by omega⟩
    have hO := H.2.1
    obtain ⟨-, ⟨t1, t2, t3, t4⟩, -⟩ := H.2.2 j (by omega)
    have e1 : lX3_bakeLoad_24 9 (nI k) (n + 1) (nI (24 - r)) (nI u) (nI j) M = if M.1 35 j = NG then (if nI (tr j).2.1 = nI k then (if nI 24 < nI (24 - r + (tr j).2.2) then lX3_bakeLoad_24 9 (nI k) n (nI (24 - r)) (nI u) (nI (j + 1)) M else lX3_bakeLoad_24 9 (nI k) n (nI (24 - r + (tr j).2.2)) (nI (u + 1)) (nI (j + 1)) (mput M 35 j (nI g))) else lX3_bakeLoad_24 9 (nI k) n (nI (24 - r)) (nI u) (nI (j + 1)) M) else lX3_bakeLoad_24 9 (nI k) n (nI (24 - r)) (nI u) (nI (j + 1)) M := by
      rw [lX3_bakeLoad_24, H.1.1, if_neg (pI_nle (by omega) (by omega)), l_20, if_neg (pI_nle (by omega) (by omega)), H.ord (by omega), Option.bind_some, H.v2 (by omega), Option.bind_some, ald_n (by omega) (by omega), Option.bind_some, H.v1 (by omega), Option.bind_some, nI_ad]
      unfold fX5_size
      rw [h37, Option.bind_some, ast_n (by omega) (by omega), Option.bind_some, l_1, nI_ad, nI_ad, l_24]
      rfl
    by_cases c1 : M.1 35 j = NG
    · rw [sl, if_pos (decide_eq_true c1), gT, gR, gN]
      by_cases c2 : (tr j).2.1 = k
      · by_cases c3 : (tr j).2.2 ≤ r
        · have cc : pK k (tr j) = true ∧ (tr j).2.2 ≤ r := ⟨by simp [pK, c2], c3⟩
          rw [if_pos cc, if_pos cc, if_pos cc]
          have es : sl (fun p => decide ((mput M 35 j (nI g)).1 35 p = NG)) tr (j + 1) m = sl (fun p => decide (M.1 35 p = NG)) tr (j + 1) m := sl_cg tr m (j + 1) fun i h6 h7 => by rw [mput_at, if_neg (by omega)]
          obtain ⟨M', a1, a2, a3, a4, a5, a6⟩ := ih (j + 1) n (r - (tr j).2.2) (u + 1) (mput M 35 j (nI g)) (H.cg (by rw [mput_at, if_neg (by omega)]) (fun q x hq => by rw [mput_at, if_neg (by omega)])) (by rw [mput_at, if_neg (by omega)]; exact h37) (by omega) (by omega) (by omega) (by omega) (fun p h6 h7 => by rw [mput_at, if_neg (by omega)]; exact h4 p (by omega) h7)
          rw [es] at a1 a2 a3
          have ej : M'.1 35 j = nI g := by rw [a5 35 j (by omega), mput_at, if_pos ⟨rfl, rfl⟩]
          refine ⟨M', ?_, ?_, ?_, fun p h6 h7 => ?_, fun q x h6 => ?_, a6⟩
          · rw [e1, if_pos c1, if_pos (by rw [c2]), if_neg (pI_nlt (by omega) (by omega)), show 24 - r + (tr j).2.2 = 24 - (r - (tr j).2.2) by omega, a1, List.length_cons, show u + 1 + (gT (pK k) (r - (tr j).2.2) (sl (fun p => decide (M.1 35 p = NG)) tr (j + 1) m)).length = u + ((gT (pK k) (r - (tr j).2.2) (sl (fun p => decide (M.1 35 p = NG)) tr (j + 1) m)).length + 1) by omega]
          · rw [sl, if_neg (by rw [decide_eq_true_eq, ej]; exact nI_ng (by omega))]; exact a2
          · rw [sl, if_pos (decide_eq_true ej), a3]
          · by_cases e : p = j
            · subst e; exact Or.inr ⟨c1, ej⟩
            · rcases a4 p (by omega) h7 with q | q
              · left; rw [q, mput_at, if_neg (by omega)]
              · right; rw [mput_at, if_neg (by omega)] at q; exact q
          · rw [a5 q x (by omega), mput_at, if_neg (by omega)]
        · have cc : ¬ (pK k (tr j) = true ∧ (tr j).2.2 ≤ r) := fun q => c3 q.2
          rw [if_neg cc, if_neg cc, if_neg cc]
          obtain ⟨M', a1, a2, a3, a4, a5, a6⟩ := ih (j + 1) n r u M H h37 (by omega) (by omega) h3 (by omega) (fun p h6 h7 => h4 p (by omega) h7)
          have ej : M'.1 35 j = NG := by rw [a5 35 j (by omega)]; exact c1
          refine ⟨M', ?_, ?_, ?_, fun p h6 h7 => ?_, fun q x h6 => a5 q x (by omega), a6⟩
          · rw [e1, if_pos c1, if_pos (by rw [c2]), if_pos (pI_lt (by omega) (by omega)), a1]
          · rw [sl, if_pos (decide_eq_true ej), a2]
          · rw [sl, if_neg (by rw [decide_eq_true_eq, ej]; exact ng_nI (by omega)), a3]
          · by_cases e : p = j
            · subst e; left; rw [ej, c1]
            · exact a4 p (by omega) h7
      · have cc : ¬ (pK k (tr j) = true ∧ (tr j).2.2 ≤ r) := fun q => c2 (by have := q.1; simp only [pK, decide_eq_true_eq] at this; exact this)
        rw [if_neg cc, if_neg cc, if_neg cc]
        obtain ⟨M', a1, a2, a3, a4, a5, a6⟩ := ih (j + 1) n r u M H h37 (by omega) (by omega) h3 (by omega) (fun p h6 h7 => h4 p (by omega) h7)
        have ej : M'.1 35 j = NG := by rw [a5 35 j (by omega)]; exact c1
        refine ⟨M', ?_, ?_, ?_, fun p h6 h7 => ?_, fun q x h6 => a5 q x (by omega), a6⟩
        · rw [e1, if_pos c1, if_neg (pI_ne c2 (by omega) (by omega)), a1]
        · rw [sl, if_pos (decide_eq_true ej), a2]
        · rw [sl, if_neg (by rw [decide_eq_true_eq, ej]; exact ng_nI (by omega)), a3]
        · by_cases e : p = j
          · subst e; left; rw [ej, c1]
          · exact a4 p (by omega) h7
    · rw [sl, if_neg (by rw [decide_eq_true_eq]; exact c1)]
      obtain ⟨M', a1, a2, a3, a4, a5, a6⟩ := ih (j + 1) n r u M H h37 (by omega) (by omega) h3 (by omega) (fun p h6 h7 => h4 p (by omega) h7)
      have ej : M'.1 35 j = M.1 35 j := a5 35 j (by omega)
      refine ⟨M', ?_, ?_, ?_, fun p h6 h7 => ?_, fun q x h6 => a5 q x (by omega), a6⟩
      · rw [e1, if_neg c1, a1]
      · rw [sl, if_neg (by rw [decide_eq_true_eq, ej]; exact c1), a2]
      · rw [sl, if_neg (by rw [decide_eq_true_eq, ej]; exact h4 j (by omega) (by omega)), a3]
      · by_cases e : p = j
        · subst e; exact Or.inl ej
        · exact a4 p (by omega) h7
theorem lo_s {j : Nat} (hj : j < 3) : ald sLOWEST 3 (nI j) = some (nI (lo j)) := by
  rw [ald_n hj (by omega)]
  rcases (show j = 0 ∨ j = 1 ∨ j = 2 by omega) with rfl | rfl | rfl <;> rfl
theorem hg_s {j : Nat} (hj : j < 3) : ald sGREATEST 3 (nI j) = some (nI (hg j)) := by
  rw [ald_n hj (by omega)]
  rcases (show j = 0 ∨ j = 1 ∨ j = 2 by omega) with rfl | rfl | rfl <;> rfl
theorem tk_s {j : Nat} (hj : j < 3) : ald sTICKS 3 (nI j) = some (nI (tks j)) := by
  rw [ald_n hj (by omega)]
  rcases (show j = 0 ∨ j = 1 ∨ j = 2 by omega) with rfl | rfl | rfl <;> rfl
theorem lo_le (j : Nat) : lo j ≤ 260 ∧ hg j ≤ 400 ∧ tks j ≤ 8 := by
  by_cases h0 : j = 0
  · subst h0; decide
  · by_cases h1 : j = 1
    · subst h1; decide
    · unfold lo hg tks
      rw [if_neg h0, if_neg h1, if_neg h0, if_neg h1, if_neg h0, if_neg h1]
      decide
theorem cK_le (k : Nat) : ∀ W : List T3, cK k W ≤ W.length := by
  intro W
  induction W with
  | nil => exact Nat.le_refl _
  | cons x W ih => rw [cK, List.length_cons]; split <;> omega
theorem kind_1 {M : Mem} {W : List T3} {t : Nat} (h1 : M.1 33 6 = nI t) (h2 : ∀ k, k < 3 → M.1 36 k = nI (cK k W)) (hW : W.length ≤ 20) (ht : t ≤ 400) {j : Nat} (hj : j < 3) (n : Nat) : lX3_kindForHeat_2 M (n + 1) (nI j) = if 0 < cK j W ∧ lo j ≤ t ∧ t ≤ hg j then some (Sum.inl (nI j)) else lX3_kindForHeat_2 M n (nI (j + 1)) := by
  have hc := cK_le j W
  obtain ⟨l1, l2, -⟩ := lo_le j
  rw [lX3_kindForHeat_2, l_3, if_neg (pI_nle hj (by omega)), ald_n hj (by omega), Option.bind_some, h2 j hj, lo_s hj, Option.bind_some, hg_s hj, Option.bind_some, h1, l_0, l_1, nI_ad]
  by_cases c1 : 0 < cK j W
  · rw [if_neg (pI_nle c1 (by omega))]
    by_cases c2 : lo j ≤ t
    · rw [if_neg (pI_nlt c2 (by omega))]
      by_cases c3 : t ≤ hg j
      · rw [if_neg (pI_nlt c3 (by omega)), if_pos ⟨c1, c2, c3⟩]
      · rw [if_pos (pI_lt (by omega) (by omega)), if_neg (fun q => c3 q.2.2)]
    · rw [if_pos (pI_lt (by omega) (by omega)), if_neg (fun q => c2 q.2.1)]
  · rw [if_pos (pI_le (by omega) (by omega)), if_neg (fun q => c1 q.1)]
theorem kind_c {M : Mem} {W : List T3} {t : Nat} (h1 : M.1 33 6 = nI t) (h2 : ∀ k, k < 3 → M.1 36 k = nI (cK k W)) (hW : W.length ≤ 20) (ht : t ≤ 400) : fX3_kindForHeat M = some (enc (kP t W)) := by
  unfold fX3_kindForHeat
  rw [l_0, show FUEL = 99996 + 1 + 1 + 1 + 1 from rfl, kind_1 h1 h2 hW ht (by omega), kind_1 h1 h2 hW ht (by omega), kind_1 h1 h2 hW ht (by omega)]
  unfold kP
  by_cases c0 : 0 < cK 0 W ∧ 260 ≤ t ∧ t ≤ 400
  · rw [if_pos c0, if_pos (show 0 < cK 0 W ∧ lo 0 ≤ t ∧ t ≤ hg 0 from c0)]; rfl
  · rw [if_neg c0, if_neg (show ¬ (0 < cK 0 W ∧ lo 0 ≤ t ∧ t ≤ hg 0) from c0)]
    by_cases c1 : 0 < cK 1 W ∧ 180 ≤ t ∧ t ≤ 300
    · rw [if_pos c1, if_pos (show 0 < cK (0 + 1) W ∧ lo (0 + 1) ≤ t ∧ t ≤ hg (0 + 1) from c1)]; rfl
    · rw [if_neg c1, if_neg (show ¬ (0 < cK (0 + 1) W ∧ lo (0 + 1) ≤ t ∧ t ≤ hg (0 + 1)) from c1)]
      by_cases c2 : 0 < cK 2 W ∧ 90 ≤ t ∧ t ≤ 200
      · rw [if_pos c2, if_pos (show 0 < cK (0 + 1 + 1) W ∧ lo (0 + 1 + 1) ≤ t ∧ t ≤ hg (0 + 1 + 1) from c2)]; rfl
      · rw [if_neg c2, if_neg (show ¬ (0 < cK (0 + 1 + 1) W ∧ lo (0 + 1 + 1) ≤ t ∧ t ≤ hg (0 + 1 + 1)) from c2), lX3_kindForHeat_2, l_3, if_pos (pI_le (by omega) (by omega))]
        rfl
theorem hot_1 {M : Mem} {W : List T3} {t : Nat} (h1 : M.1 33 6 = nI t) (h2 : ∀ k, k < 3 → M.1 36 k = nI (cK k W)) (hW : W.length ≤ 20) (ht : t ≤ 400) {j : Nat} (hj : j < 3) (n : Nat) : lX3_isTooHotForSome_2 M (n + 1) (nI j) = if 0 < cK j W ∧ hg j < t then some (Sum.inl true) else lX3_isTooHotForSome_2 M n (nI (j + 1)) := by
  have hc := cK_le j W
  obtain ⟨l1, l2, -⟩ := lo_le j
  rw [lX3_isTooHotForSome_2, l_3, if_neg (pI_nle hj (by omega)), ald_n hj (by omega), Option.bind_some, h2 j hj, hg_s hj, Option.bind_some, h1, l_0, l_1, nI_ad]
  by_cases c1 : 0 < cK j W
  · rw [if_neg (pI_nle c1 (by omega))]
    by_cases c3 : hg j < t
    · rw [if_neg (pI_nle c3 (by omega)), if_pos ⟨c1, c3⟩]
    · rw [if_pos (pI_le (by omega) (by omega)), if_neg (fun q => c3 q.2)]
  · rw [if_pos (pI_le (by omega) (by omega)), if_neg (fun q => c1 q.1)]
theorem hot_c {M : Mem} {W : List T3} {t : Nat} (h1 : M.1 33 6 = nI t) (h2 : ∀ k, k < 3 → M.1 36 k = nI (cK k W)) (hW : W.length ≤ 20) (ht : t ≤ 400) : ∃ r, fX3_isTooHotForSome M = some r ∧ (r = true ↔ hotP t W) := by
  unfold fX3_isTooHotForSome
  rw [l_0, show FUEL = 99996 + 1 + 1 + 1 + 1 from rfl, hot_1 h1 h2 hW ht (by omega), hot_1 h1 h2 hW ht (by omega), hot_1 h1 h2 hW ht (by omega)]
  unfold hotP
  by_cases c0 : 0 < cK 0 W ∧ 400 < t
  · rw [if_pos (show 0 < cK 0 W ∧ hg 0 < t from c0)]
    exact ⟨true, rfl, ⟨fun _ => Or.inl c0, fun _ => rfl⟩⟩
  · rw [if_neg (show ¬ (0 < cK 0 W ∧ hg 0 < t) from c0)]
    by_cases c1 : 0 < cK 1 W ∧ 300 < t
    · rw [if_pos (show 0 < cK (0 + 1) W ∧ hg (0 + 1) < t from c1)]
      exact ⟨true, rfl, ⟨fun _ => Or.inr (Or.inl c1), fun _ => rfl⟩⟩
    · rw [if_neg (show ¬ (0 < cK (0 + 1) W ∧ hg (0 + 1) < t) from c1)]
      by_cases c2 : 0 < cK 2 W ∧ 200 < t
      · rw [if_pos (show 0 < cK (0 + 1 + 1) W ∧ hg (0 + 1 + 1) < t from c2)]
        exact ⟨true, rfl, ⟨fun _ => Or.inr (Or.inr c2), fun _ => rfl⟩⟩
      · rw [if_neg (show ¬ (0 < cK (0 + 1 + 1) W ∧ hg (0 + 1 + 1) < t) from c2), lX3_isTooHotForSome_2, l_3, if_pos (pI_le (by omega) (by omega))]
        exact ⟨false, rfl, ⟨(fun q => by cases q), (fun q => by rcases q with q | q | q <;> contradiction)⟩⟩
theorem add_l {M : Mem} {g : Nat} (hg : g < 20) (hc : M.1 37 1 = nI g) (x0 x1 x2 x3 x4 : Int32) : fX5_add 37 x0 x1 x2 x3 x4 M = some (mput (mput (mput (mput (mput (mput M 40 g x0) 41 g x1) 42 g x2) 43 g x3) 44 g x4) 37 1 (nI (g + 1))) := by
  unfold fX5_add
  rw [hc, show fX7_put (37 + 1) 5 20 (nI g) 0 x0 M = some (mput M 40 g x0) from X7_put (k := 0) (by omega) (by omega) hg (by omega), Option.bind_some]
  rw [show (mput M 40 g x0).1 37 1 = nI g from by rw [mput_at, if_neg (by omega)]; exact hc, show fX7_put (37 + 1) 5 20 (nI g) 1 x1 (mput M 40 g x0) = some (mput (mput M 40 g x0) 41 g x1) from X7_put (k := 1) (by omega) (by omega) hg (by omega), Option.bind_some]
  rw [show (mput (mput M 40 g x0) 41 g x1).1 37 1 = nI g from by rw [mput_at, if_neg (by omega), mput_at, if_neg (by omega)]; exact hc, show fX7_put (37 + 1) 5 20 (nI g) 2 x2 (mput (mput M 40 g x0) 41 g x1) = some (mput (mput (mput M 40 g x0) 41 g x1) 42 g x2) from X7_put (k := 2) (by omega) (by omega) hg (by omega), Option.bind_some]
  rw [show (mput (mput (mput M 40 g x0) 41 g x1) 42 g x2).1 37 1 = nI g from by rw [mput_at, if_neg (by omega), mput_at, if_neg (by omega), mput_at, if_neg (by omega)]; exact hc, show fX7_put (37 + 1) 5 20 (nI g) 3 x3 (mput (mput (mput M 40 g x0) 41 g x1) 42 g x2) = some (mput (mput (mput (mput M 40 g x0) 41 g x1) 42 g x2) 43 g x3) from X7_put (k := 3) (by omega) (by omega) hg (by omega), Option.bind_some]
  rw [show (mput (mput (mput (mput M 40 g x0) 41 g x1) 42 g x2) 43 g x3).1 37 1 = nI g from by rw [mput_at, if_neg (by omega), mput_at, if_neg (by omega), mput_at, if_neg (by omega), mput_at, if_neg (by omega)]; exact hc, show fX7_put (37 + 1) 5 20 (nI g) 4 x4 (mput (mput (mput (mput M 40 g x0) 41 g x1) 42 g x2) 43 g x3) = some (mput (mput (mput (mput (mput M 40 g x0) 41 g x1) 42 g x2) 43 g x3) 44 g x4) from X7_put (k := 4) (by omega) (by omega) hg (by omega), Option.bind_some]
  unfold pf
  rw [Option.bind_some, show (mput (mput (mput (mput (mput M 40 g x0) 41 g x1) 42 g x2) 43 g x3) 44 g x4).1 37 1 = nI g from by rw [mput_at, if_neg (by omega), mput_at, if_neg (by omega), mput_at, if_neg (by omega), mput_at, if_neg (by omega), mput_at, if_neg (by omega)]; exact hc, l_1, nI_ad]
theorem getD_app1 {Ls : List L4} {x : L4} {i : Nat} (h : i < Ls.length) : (Ls ++ [x]).getD i L0 = Ls.getD i L0 := by
  rw [List.getD_eq_getElem?_getD, List.getElem?_append_left h, ← List.getD_eq_getElem?_getD]
theorem getD_app2 (Ls : List L4) (x : L4) : (Ls ++ [x]).getD Ls.length L0 = x := by
  rw [List.getD_eq_getElem?_getD, List.getElem?_append_right (by omega), Nat.sub_self]; rfl
theorem load_c {M : Mem} {O : List Nat} {tr : Nat → T3} {Ls : List L4} {W : List T3} {t k : Nat} (F : FS M O tr Ls W t) (ht : t ≤ 400) (hk : kP t W = some k) : ∃ M', fX3_bakeLoad 9 (nI k) M = some M' ∧ FS M' O tr (Ls ++ [(k, gT (pK k) 24 W, t, fallP t k (sz (gT (pK k) 24 W)))]) (gR (pK k) 24 W) (fallP t k (sz (gT (pK k) 24 W))) ∧ (∀ q x, ¬ (33 ≤ q ∧ q < 45) → M'.1 q x = M.1 q x) ∧ M'.2 = M.2 := by
  obtain ⟨P, ⟨f1, f2, f3, f4⟩, f5, f6, f7, f8, f9, f10⟩ := F
  obtain ⟨k1, k2, k3, k4⟩ := kP_spec hk
  have hO := P.2.1
  have hfit : 0 < (gT (pK k) 24 W).length := g_fit W k2 (fun x hx => by have := (f10 x hx).2.2; omega)
  obtain ⟨s1, s2, s3⟩ := g_sum (pK k) W 24
  have hL : Ls.length < 20 := by omega
  obtain ⟨M1, a1, a2, a3, a4, a5, a6⟩ := bl_in (tr := tr) k1 hL O.length 0 FUEL 24 0 M P f4 (by omega) (fuel8 (by omega)) (by omega) (by omega) (fun p _ hp q => by
    rcases f9 p hp with e | ⟨L, hL2, e⟩
    · rw [e] at q; exact ng_nI (by omega) q
    · rw [e] at q; exact pI_ne (by omega) (by omega) (by omega) q)
  rw [f7] at a1 a2 a3
  rw [Nat.zero_add, show 24 - gN (pK k) 24 W = sz (gT (pK k) 24 W) by omega] at a1
  obtain ⟨T, hT⟩ : ∃ T, T = gT (pK k) 24 W := ⟨_, rfl⟩
  rw [← hT] at a1 a3 hfit s1 s2 s3 ⊢
  have c5 : ∀ q x, q ≠ 35 → M1.1 q x = M.1 q x := fun q x hq => a5 q x (fun w => hq w.1)
  obtain ⟨l1, l2, l3⟩ := lo_le k
  have ht8 : tks k * (5 + sz T / 8) ≤ t - 26 := by
    rcases (show k = 0 ∨ k = 1 ∨ k = 2 by omega) with rfl | rfl | rfl
    · have e1 : tks 0 = 2 := rfl
      have e2 : lo 0 = 260 := rfl
      rw [e1]
      omega
    · have e1 : tks 1 = 5 := rfl
      have e2 : lo 1 = 180 := rfl
      rw [e1]
      omega
    · have e1 : tks 2 = 8 := rfl
      have e2 : lo 2 = 90 := rfl
      rw [e1]
      omega
  have hlo : 90 ≤ lo k := by
    rcases (show k = 0 ∨ k = 1 ∨ k = 2 by omega) with rfl | rfl | rfl
    · exact (by decide : 90 ≤ 260)
    · exact (by decide : 90 ≤ 180)
    · exact Nat.le_refl 90
  have ef : fallP t k (sz T) = t - tks k * (5 + sz T / 8) := by unfold fallP; omega
  obtain ⟨M2, hM2⟩ : ∃ M2, M2 = mput (mput (mput M1 33 5 (nI (W.length - T.length))) 36 k (nI (cK k W - T.length))) 33 6 (nI (fallP t k (sz T))) := ⟨_, rfl⟩
  have hcW := cK_le k W
  have hcT := g_cnt k W 24
  rw [← hT] at hcT
  obtain ⟨M3, hM3⟩ : ∃ M3, M3 = mput (mput (mput (mput (mput (mput M2 40 Ls.length (nI k)) 41 Ls.length (nI T.length)) 42 Ls.length (nI (sz T))) 43 Ls.length (nI t)) 44 Ls.length (nI (fallP t k (sz T)))) 37 1 (nI (Ls.length + 1)) := ⟨_, rfl⟩
  have e37 : M2.1 37 1 = nI Ls.length := by rw [hM2, mput_at, if_neg (by omega), mput_at, if_neg (by omega), mput_at, if_neg (by omega), c5 _ _ (by omega)]; exact f4
  have ec : fX3_bakeLoad 9 (nI k) M = some M3 := by
    unfold fX3_bakeLoad
    rw [l_0, if_neg (pI_nlt (by omega) (by omega)), l_3, if_pos (pI_lt k1 (by omega)), show lX3_bakeLoad_24 9 (nI k) FUEL (nI 0) (nI 0) (nI 0) M = some (nI (sz T), nI T.length, M1) from a1, Option.bind_some]
    simp only [un3]
    unfold pf
    rw [Option.bind_some, c5 33 5 (by omega), f1, mI_sb (by omega) (by omega), ald_n k1 (by omega), Option.bind_some, show (mput M1 33 5 (nI (W.length - T.length))).1 36 k = nI (cK k W) from by rw [mput_at, if_neg (by omega), c5 _ _ (by omega)]; exact f3 k k1, mI_sb (by omega) (by omega), ast_n k1 (by omega), Option.bind_some, tk_s k1, Option.bind_some, Option.bind_some, show (mput (mput M1 33 5 (nI (W.length - T.length))) 36 k (nI (cK k W - T.length))).1 33 6 = nI t from by rw [mput_at, if_neg (by omega), mput_at, if_neg (by omega), c5 _ _ (by omega)]; exact f2, l_8, mI_dv (by omega) (by omega), l_5, nI_ad, nI_ml', mI_sb (by omega) (by omega), l_20, if_pos (pI_lt (by omega) (by omega)), ← ef, ← hM2, f2, show M2.1 33 6 = nI (fallP t k (sz T)) from by rw [hM2, mput_at, if_pos ⟨rfl, rfl⟩], add_l hL e37, ← hM3]
    rfl
  have c3 : ∀ q x, q ≠ 37 → (q < 40 ∨ 45 ≤ q) → M3.1 q x = M2.1 q x := fun q x h1 h2 => by
    rw [hM3, mput_at, if_neg (by omega), mput_at, if_neg (by omega), mput_at, if_neg (by omega), mput_at, if_neg (by omega), mput_at, if_neg (by omega), mput_at, if_neg (by omega)]
  have c2 : ∀ q x, ¬ (q = 33 ∧ (x = 5 ∨ x = 6)) → q ≠ 36 → M2.1 q x = M1.1 q x := fun q x h1 h2 => by
    rw [hM2, mput_at, if_neg (by omega), mput_at, if_neg (by omega), mput_at, if_neg (by omega)]
  have c35 : ∀ x, M3.1 35 x = M1.1 35 x := fun x => (c3 35 x (by omega) (by omega)).trans (c2 35 x (by omega) (by omega))
  have P3 : PB M3 O tr := P.cg (by rw [c3 33 4 (by omega) (by omega), c2 33 4 (by omega) (by omega), c5 _ _ (by omega)]) (fun q x hq => by rw [c3 q x (by omega) (by omega), c2 q x (by omega) (by omega), c5 _ _ (by omega)])
  refine ⟨M3, ec, ⟨P3, ⟨?_, ?_, fun i hi => ?_, ?_⟩, ?_, fun i hi => ?_, ?_, fun L hL2 => ?_, fun p hp => ?_, fun x hx => f10 x (gR_mem _ _ _ hx)⟩, fun q x hq => ?_, ?_⟩
  · rw [c3 33 5 (by omega) (by omega), hM2, mput_at, if_neg (by omega), mput_at, if_neg (by omega), mput_at, if_pos ⟨rfl, rfl⟩, show W.length - T.length = (gR (pK k) 24 W).length by omega]
  · rw [c3 33 6 (by omega) (by omega), hM2, mput_at, if_pos ⟨rfl, rfl⟩]
  · rw [c3 36 i (by omega) (by omega), hM2, mput_at, if_neg (by omega), mput_at]
    by_cases e : i = k
    · rw [if_pos ⟨rfl, e⟩, e, show cK k W - T.length = cK k (gR (pK k) 24 W) by omega]
    · rw [if_neg (fun w => e w.2), mput_at, if_neg (by omega), c5 _ _ (by omega), f3 i hi, g_oth e]
  · rw [hM3, mput_at, if_pos ⟨rfl, rfl⟩, List.length_append]; rfl
  · rw [List.length_append]; simp only [List.length_cons, List.length_nil]; omega
  · rw [List.length_append] at hi
    simp only [List.length_cons, List.length_nil] at hi
    by_cases e : i = Ls.length
    · subst e
      rw [getD_app2]
      refine ⟨?_, ?_, ?_, ?_, ?_⟩ <;> rw [hM3] <;> simp [mput_at]
    · rw [getD_app1 (by omega)]
      have hc : ∀ q, 40 ≤ q → q < 45 → M3.1 q i = M.1 q i := fun q h1 h2 => by
        rw [hM3, mput_at, if_neg (by omega), mput_at, if_neg (by omega), mput_at, if_neg (by omega), mput_at, if_neg (by omega), mput_at, if_neg (by omega), mput_at, if_neg (by omega), c2 q i (by omega) (by omega), c5 _ _ (by omega)]
      rw [hc 40 (by omega) (by omega), hc 41 (by omega) (by omega), hc 42 (by omega) (by omega), hc 43 (by omega) (by omega), hc 44 (by omega) (by omega)]
      exact f6 i (by omega)
  · simp only [c35]; exact a2
  · rw [List.length_append] at hL2
    simp only [List.length_cons, List.length_nil] at hL2
    simp only [c35]
    by_cases e : L = Ls.length
    · subst e; rw [getD_app2]; exact a3
    · rw [getD_app1 (by omega), ← f8 L (by omega)]
      refine sl_cg tr O.length 0 fun i _ hi => ?_
      rcases a4 i (by omega) (by omega) with q | ⟨q1, q2⟩
      · rw [q]
      · rw [q1, q2, decide_eq_false (ng_nI (by omega)), decide_eq_false (pI_ne (by omega) (by omega) (by omega))]
  · rw [c35, List.length_append]
    rcases a4 p (by omega) hp with q | ⟨q1, q2⟩
    · rw [q]
      rcases f9 p hp with e | ⟨L, hL2, e⟩
      · exact Or.inl e
      · exact Or.inr ⟨L, by omega, e⟩
    · exact Or.inr ⟨Ls.length, by simp only [List.length_cons, List.length_nil]; omega, q2⟩
  · rw [c3 q x (by omega) (by omega), c2 q x (by omega) (by omega), c5 _ _ (by omega)]
  · rw [hM3, hM2]; exact a6
theorem dP_tick {n t : Nat} {W : List T3} (hW : W.length ≠ 0) (hk : kP t W = none) (hh : hotP t W) : dP (n + 1) t W = dP n (max 20 (t - 5)) W := by
  rw [dP, if_neg hW, hk]
  exact if_pos hh
theorem dP_end {n t : Nat} {W : List T3} (hW : W.length ≠ 0) (hk : kP t W = none) (hh : ¬ hotP t W) : dP (n + 1) t W = ([], W, t) := by
  rw [dP, if_neg hW, hk]
  exact if_neg hh
theorem dP_load {n t k : Nat} {W : List T3} (hW : W.length ≠ 0) (hk : kP t W = some k) : dP (n + 1) t W = ((k, gT (pK k) 24 W, t, fallP t k (sz (gT (pK k) 24 W))) :: (dP n (fallP t k (sz (gT (pK k) 24 W))) (gR (pK k) 24 W)).1, (dP n (fallP t k (sz (gT (pK k) 24 W))) (gR (pK k) 24 W)).2) := by
  rw [dP, if_neg hW, hk]
theorem hot_200 {t : Nat} {W : List T3} (h : hotP t W) : 200 < t := by
  unfold hotP at h
  omega
theorem fall_r {t k s : Nat} (ht : t ≤ 400) (h20 : 20 ≤ t) : 20 ≤ fallP t k s ∧ fallP t k s ≤ t := by
  unfold fallP
  omega
theorem fire_l {O : List Nat} {tr : Nat → T3} : ∀ (n j fu : Nat) (M : Mem) (Ls : List L4) (W : List T3) (t : Nat), FS M O tr Ls W t → W.length + t / 5 < n → j + n ≤ 1000 → n < fu → 20 ≤ t → t ≤ 400 → ∃ M', (lX3_fire_12 9 fu (nI j) M = some (Sum.inl M') ∨ lX3_fire_12 9 fu (nI j) M = some (Sum.inr M')) ∧ FS M' O tr (Ls ++ (dP n t W).1) (dP n t W).2.1 (dP n t W).2.2 ∧ (20 ≤ (dP n t W).2.2 ∧ (dP n t W).2.2 ≤ 400) ∧ (∀ q x, ¬ (33 ≤ q ∧ q < 45) → M'.1 q x = M.1 q x) ∧ M'.2 = M.2 := by
  intro n
  induction n with
  | zero => intro j fu M Ls W t F h1; omega
  | succ n ih =>
    intro j fu M Ls W t F h1 h2 h3 h4 h5
    obtain ⟨fu, rfl⟩ : ∃ n', fu = n' + 1 := ⟨fu - 1, by omega⟩
    have hO := F.1.2.1
    have hlen := F.2.2.1
    obtain ⟨f1, f2, f3, f4⟩ := F.2.1
    by_cases hW : W.length = 0
    · have ed : dP (n + 1) t W = ([], W, t) := by rw [dP, if_pos hW]
      rw [ed]
      refine ⟨M, Or.inr ?_, by rw [List.append_nil]; exact F, ⟨h4, h5⟩, fun _ _ _ => rfl, rfl⟩
      rw [lX3_fire_12, l_1000, if_neg (pI_nle (by omega) (by omega)), f1, hW, l_0, if_pos (pI_le (by omega) (by omega))]
    · have e0 : lX3_fire_12 9 (fu + 1) (nI j) M = (some (enc (kP t W))).bind fun v10 => if v10 = (-1 : Int32) then ((fX3_isTooHotForSome M).bind fun b13 => if b13 = true then ((pf M 33 6 (if (20 : Int32) < ((M.1 33 6) - (5 : Int32)) then ((M.1 33 6) - (5 : Int32)) else (20 : Int32))).bind fun M15 => lX3_fire_12 9 fu (nI (j + 1)) M15) else (some (Sum.inl M))) else ((fX3_bakeLoad 9 v10 M).bind fun M18 => lX3_fire_12 9 fu (nI (j + 1)) M18) := by
        rw [lX3_fire_12, l_1000, if_neg (pI_nle (by omega) (by omega)), f1, show (0 : Int32) = nI 0 from rfl, if_neg (pI_nle (by omega) (by omega)), kind_c f2 f3 (by omega) h5, show nI j + (1 : Int32) = nI (j + 1) from nI_ad j 1]
      cases hk : kP t W with
      | some k =>
        rw [hk] at e0
        obtain ⟨k1, k2, k3, k4⟩ := kP_spec hk
        obtain ⟨M1, a1, a2, a3, a4⟩ := load_c F h5 hk
        obtain ⟨r1, r2⟩ := fall_r (k := k) (s := sz (gT (pK k) 24 W)) h5 h4
        have hfit : 0 < (gT (pK k) 24 W).length := g_fit W k2 (fun x hx => by have := (F.2.2.2.2.2.2.2 x hx).2.2; omega)
        obtain ⟨s1, s2, s3⟩ := g_sum (pK k) W 24
        have hdv : fallP t k (sz (gT (pK k) 24 W)) / 5 ≤ t / 5 := Nat.div_le_div_right r2
        obtain ⟨M2, b1, b2, b3, b4, b5⟩ := ih (j + 1) fu M1 _ _ _ a2 (by omega) (by omega) (by omega) r1 (by omega)
        rw [dP_load hW hk]
        refine ⟨M2, ?_, by rw [List.append_assoc] at b2; exact b2, b3, fun q x hq => (b4 q x hq).trans (a3 q x hq), b5.trans a4⟩
        rw [e0, Option.bind_some, if_neg (show ¬ enc (some k) = -1 from nI_ng (by omega)), show fX3_bakeLoad 9 (enc (some k)) M = some M1 from a1, Option.bind_some]
        exact b1
      | none =>
        rw [hk] at e0
        obtain ⟨r, q1, q2⟩ := hot_c f2 f3 (by omega) h5
        rw [Option.bind_some, if_pos (show enc none = -1 from rfl), q1, Option.bind_some] at e0
        by_cases hh : hotP t W
        · have h200 := hot_200 hh
          rw [if_pos (q2.mpr hh), f2, l_5, mI_sb (by omega) (by omega), l_20, if_pos (pI_lt (by omega) (by omega))] at e0
          unfold pf at e0
          rw [Option.bind_some] at e0
          have F1 : FS (mput M 33 6 (nI (t - 5))) O tr Ls W (t - 5) := by
            obtain ⟨P, -, g5, g6, g7, g8, g9, g10⟩ := F
            have hc : ∀ q x, ¬ (q = 33 ∧ x = 6) → (mput M 33 6 (nI (t - 5))).1 q x = M.1 q x := fun q x hq => by rw [mput_at, if_neg hq]
            refine ⟨P.cg (hc _ _ (by omega)) (fun q x hq => hc q x (by omega)), ⟨by rw [hc _ _ (by omega)]; exact f1, by rw [mput_at, if_pos ⟨rfl, rfl⟩], fun k hk => by rw [hc _ _ (by omega)]; exact f3 k hk, by rw [hc _ _ (by omega)]; exact f4⟩, g5, fun i hi => ?_, ?_, fun L hL => ?_, fun p hp => ?_, g10⟩
            · rw [hc _ _ (by omega), hc _ _ (by omega), hc _ _ (by omega), hc _ _ (by omega), hc _ _ (by omega)]; exact g6 i hi
            · rw [sl_cg (q' := fun p => decide (M.1 35 p = NG)) tr O.length 0 (fun i _ _ => by rw [hc _ _ (by omega)])]; exact g7
            · rw [sl_cg (q' := fun p => decide (M.1 35 p = nI L)) tr O.length 0 (fun i _ _ => by rw [hc _ _ (by omega)])]; exact g8 L hL
            · rw [hc _ _ (by omega)]; exact g9 p hp
          obtain ⟨M2, b1, b2, b3, b4, b5⟩ := ih (j + 1) fu _ _ _ _ F1 (by omega) (by omega) (by omega) (by omega) (by omega)
          rw [dP_tick hW hk hh, show max 20 (t - 5) = t - 5 by omega]
          refine ⟨M2, by rw [e0]; exact b1, b2, b3, fun q x hq => ?_, b5⟩
          rw [b4 q x hq, mput_at, if_neg (by omega)]
        · rw [if_neg (fun w => hh (q2.mp w))] at e0
          rw [dP_end hW hk hh]
          exact ⟨M, Or.inl e0, by rw [List.append_nil]; exact F, ⟨h4, h5⟩, fun _ _ _ => rfl, rfl⟩
/-- the whole plan -/
theorem fire_c {M : Mem} {O : List Nat} {tr : Nat → T3} {t : Nat} (P : PB M O tr) (h4 : 20 ≤ t) (h5 : t ≤ 400) : ∃ M', fX3_fire 9 (nI t) M = some M' ∧ FS M' O tr (dP 1000 t (tb tr 0 O.length)).1 (dP 1000 t (tb tr 0 O.length)).2.1 (dP 1000 t (tb tr 0 O.length)).2.2 ∧ (20 ≤ (dP 1000 t (tb tr 0 O.length)).2.2 ∧ (dP 1000 t (tb tr 0 O.length)).2.2 ≤ 400) ∧ (∀ q x, ¬ (33 ≤ q ∧ q < 45) → M'.1 q x = M.1 q x) ∧ M'.2 = M.2 := by
  have hO := P.2.1
  obtain ⟨M1, a1, a2, a3, a4⟩ := start_w (M := mput M 33 6 (nI t)) (P.cg (by rw [mput_at, if_neg (by omega)]) (fun q x hq => by rw [mput_at, if_neg (by omega)])) (by rw [mput_at, if_pos ⟨rfl, rfl⟩])
  obtain ⟨M2, b1, b2, b3, b4, b5⟩ := fire_l 1000 0 FUEL M1 [] _ t a2 (by rw [tb_len]; omega) (by omega) (by unfold FUEL; omega) h4 h5
  refine ⟨M2, ?_, b2, b3, fun q x hq => by rw [b4 q x hq, a3 q x hq, mput_at, if_neg (by omega)], b5.trans a4⟩
  unfold fX3_fire pf
  rw [Option.bind_some, a1, Option.bind_some]
  rcases b1 with b1 | b1
  · rw [l_0, b1]; rfl
  · rw [l_0, b1]; rfl
theorem loadAt_n {M : Mem} {O : List Nat} {j : Nat} (H : OR M O) (hO : O.length ≤ 20) (hj : j < O.length) : fX3_loadAt (nI j) M = some (M.1 35 j) := by
  unfold fX3_loadAt
  rw [H.1, l_0, if_neg (pI_nlt (by omega) (by omega)), if_neg (pI_nle hj (by omega)), l_20, if_neg (pI_nle (by omega) (by omega)), ald_n (by omega) (by omega), Option.bind_some]
theorem dough_l {M : Mem} {O : List Nat} {tr : Nat → T3} (P : PB M O tr) : ∀ (m j n : Nat) (a : Nat), j + m = O.length → m < n → lX3_dough_4 9 M n (nI a) (nI j) = some (nI (a + sz (sl (fun p => decide (M.1 35 p = NG)) tr j m))) := by
  intro m
  have hO := P.2.1
  induction m with
  | zero =>
    intro j n a h1 h2
    obtain ⟨n, rfl⟩ : ∃ n', n = n' + 1 := ⟨n - 1, by omega⟩
    rw [lX3_dough_4, P.1.1, if_pos (pI_le (by omega) (by omega))]; rfl
  | succ m ih =>
    intro j n a h1 h2
    obtain ⟨n, rfl⟩ : ∃ n', n = n' + 1 := ⟨n - 1, by omega⟩
    rw [lX3_dough_4, P.1.1, if_neg (pI_nle (by omega) (by omega)), loadAt_n P.1 hO (by omega), Option.bind_some, batchAt_n P.1 hO (by omega), Option.bind_some, P.v2 (by omega), Option.bind_some, l_1, nI_ad, nI_ad, ih (j + 1) n _ (by omega) (by omega), ih (j + 1) n _ (by omega) (by omega), sl]
    by_cases c : M.1 35 j = NG
    · rw [if_pos (show M.1 35 j = -(nI 1) from c), if_pos (decide_eq_true c), sz, Nat.add_assoc]
    · rw [if_neg (show ¬ M.1 35 j = -(nI 1) from c), if_neg (by rw [decide_eq_true_eq]; exact c)]
theorem dough_c {M : Mem} {O : List Nat} {tr : Nat → T3} {Ls : List L4} {W : List T3} {t : Nat} (F : FS M O tr Ls W t) : fX3_dough 9 M = some (nI (sz W)) := by
  unfold fX3_dough
  have := dough_l F.1 O.length 0 FUEL 0 (by omega) (fuel8 (by have := F.1.2.1; omega))
  rw [F.2.2.2.2.1, Nat.zero_add] at this
  show (lX3_dough_4 9 M FUEL (nI 0) (nI 0)).bind _ = _
  rw [this]; rfl
