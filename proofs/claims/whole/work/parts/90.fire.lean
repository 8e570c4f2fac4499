/-! the class's plan of a day -/
def PB (M : Mem) (O : List Nat) (tr : Nat → T3) : Prop := OR M O ∧ O.length ≤ 20 ∧ ∀ p, p < O.length → O.getD p 0 < 20 ∧ ((tr p).1 < 8 ∧ (tr p).2.1 < 3 ∧ 1 ≤ (tr p).2.2 ∧ (tr p).2.2 ≤ 12) ∧ M.1 12 (O.getD p 0) = nI (tr p).1 ∧ M.1 13 (O.getD p 0) = nI (tr p).2.1 ∧ M.1 14 (O.getD p 0) = nI (tr p).2.2
theorem PB.cg {M M' : Mem} {O : List Nat} {tr : Nat → T3} (H : PB M O tr) (h1 : M'.1 33 4 = M.1 33 4) (h2 : ∀ q x, (12 ≤ q ∧ q < 15) ∨ q = 34 → M'.1 q x = M.1 q x) : PB M' O tr :=
  ⟨H.1.cg h1 (fun p => h2 34 p (by omega)), H.2.1, fun p hp => by
    obtain ⟨a, b, c, d, e⟩ := H.2.2 p hp
    exact ⟨a, b, (h2 12 _ (by omega)).trans c, (h2 13 _ (by omega)).trans d, (h2 14 _ (by omega)).trans e⟩⟩
theorem PB.v1 {M : Mem} {O : List Nat} {tr : Nat → T3} (H : PB M O tr) {p : Nat} (hp : p < O.length) : fX1_value 9 (nI (O.getD p 0)) 1 M = some (nI (tr p).2.1) := by
  obtain ⟨a, b, c, d, e⟩ := H.2.2 p hp
  unfold fX1_value
  show (fX7_get 10 3 20 _ (nI 1) M).bind _ = _
  rw [X7_get (by omega) (by omega) (by omega) (by omega), Option.bind_some, ← d]
theorem PB.v2 {M : Mem} {O : List Nat} {tr : Nat → T3} (H : PB M O tr) {p : Nat} (hp : p < O.length) : fX1_value 9 (nI (O.getD p 0)) 2 M = some (nI (tr p).2.2) := by
  obtain ⟨a, b, c, d, e⟩ := H.2.2 p hp
  unfold fX1_value
  show (fX7_get 10 3 20 _ (nI 2) M).bind _ = _
  rw [X7_get (by omega) (by omega) (by omega) (by omega), Option.bind_some, ← e]
theorem PB.ord {M : Mem} {O : List Nat} {tr : Nat → T3} (H : PB M O tr) {p : Nat} (hp : p < O.length) : ald (M.1 34) 20 (nI p) = some (nI (O.getD p 0)) := by
  have := H.2.1
  rw [ald_n (by omega) (by omega), H.1.2 p hp]
theorem w3_l : ∀ (m j n : Nat) (M : Mem), j + m = 3 → m < n → lX3_startWaiting_17 n (nI j) M = some (fun q x => if q = 36 ∧ j ≤ x ∧ x < 3 then nI 0 else M.1 q x, M.2) := by
  intro m
  induction m with
  | zero =>
    intro j n M h1 h2
    obtain ⟨n, rfl⟩ : ∃ n', n = n' + 1 := ⟨n - 1, by omega⟩
    rw [lX3_startWaiting_17, l_3, if_pos (pI_le (by omega) (by omega))]
    congr 1
    refine mem_ext (fun q x => ?_) rfl
    show M.1 q x = if _ then _ else _
    rw [if_neg (by omega)]
  | succ m ih =>
    intro j n M h1 h2
    obtain ⟨n, rfl⟩ : ∃ n', n = n' + 1 := ⟨n - 1, by omega⟩
    rw [lX3_startWaiting_17, l_3, if_neg (pI_nle (by omega) (by omega)), ast_n (by omega) (by omega), Option.bind_some, l_1, nI_ad, ih (j + 1) n _ (by omega) (by omega)]
    congr 1
    refine mem_ext (fun q x => ?_) rfl
    show (if q = 36 ∧ j + 1 ≤ x ∧ x < 3 then nI 0 else (mput M 36 j 0).1 q x) = if q = 36 ∧ j ≤ x ∧ x < 3 then nI 0 else M.1 q x
    rw [mput_at]
    by_cases h3 : q = 36 ∧ x = j
    · rw [if_neg (by omega), if_pos h3, if_pos (by omega)]; rfl
    · rw [if_neg h3]
      by_cases h4 : q = 36 ∧ j + 1 ≤ x ∧ x < 3
      · rw [if_pos h4, if_pos (by omega)]
      · rw [if_neg h4, if_neg (by omega)]
theorem sw_l {O : List Nat} {tr : Nat → T3} : ∀ (m j n : Nat) (M : Mem) (w : Nat → Nat), PB M O tr → j + m = O.length → m < n → (∀ k, k < 3 → M.1 36 k = nI (w k)) → ∃ M', lX3_startWaiting_37 9 n (nI j) M = some M' ∧ (∀ k, k < 3 → M'.1 36 k = nI (w k + cK k (tb tr j m))) ∧ (∀ p, j ≤ p → p < O.length → M'.1 35 p = NG) ∧ (∀ p, p < j → M'.1 35 p = M.1 35 p) ∧ (∀ q x, q ≠ 35 → q ≠ 36 → M'.1 q x = M.1 q x) ∧ M'.2 = M.2 := by
  intro m
  induction m with
  | zero =>
    intro j n M w H h1 h2 hw
    obtain ⟨n, rfl⟩ : ∃ n', n = n' + 1 := ⟨n - 1, by omega⟩
    have hO := H.2.1
    refine ⟨M, ?_, fun k hk => by rw [tb, cK, Nat.add_zero]; exact hw k hk, fun p h3 h4 => by omega, fun _ _ => rfl, fun _ _ _ _ => rfl, rfl⟩
    rw [lX3_startWaiting_37, H.1.1, if_pos (pI_le (by omega) (by omega))]
  | succ m ih =>
    intro j n M w H h1 h2 hw
    obtain ⟨n, rfl⟩ : ∃ n', n = n' + 1 := ⟨n - 1, by omega⟩
    have hO := H.2.1
    obtain ⟨-, ⟨t1, t2, t3, t4⟩, -⟩ := H.2.2 j (by omega)
    have H1 : PB (mput M 35 j NG) O tr := H.cg (by rw [mput_at, if_neg (by omega)]) (fun q x hq => by rw [mput_at, if_neg (by omega)])
    obtain ⟨k, hk⟩ : ∃ k, k = (tr j).2.1 := ⟨_, rfl⟩
    have ew : (mput M 35 j NG).1 36 k = nI (w k) := by rw [mput_at, if_neg (by omega)]; exact hw k (by omega)
    have e1 : lX3_startWaiting_37 9 (n + 1) (nI j) M = lX3_startWaiting_37 9 n (nI (j + 1)) (mput (mput M 35 j NG) 36 k (nI (w k + 1))) := by
      rw [lX3_startWaiting_37, H.1.1, if_neg (pI_nle (by omega) (by omega)), l_20, if_neg (pI_nle (by omega) (by omega)), show (-1 : Int32) = NG from rfl, ast_n (by omega) (by omega), Option.bind_some, H1.ord (by omega), Option.bind_some, H1.v1 (by omega), Option.bind_some, l_0, if_neg (pI_nlt (by omega) (by omega)), l_3, if_neg (pI_nle (by omega) (by omega)), ← hk, ald_n (by omega) (by omega), Option.bind_some, ew, l_1, nI_ad, ast_n (by omega) (by omega), Option.bind_some, nI_ad]
    obtain ⟨M', a1, a2, a3, a4, a5, a6⟩ := ih (j + 1) n _ (fun i => if i = k then w k + 1 else w i) (H1.cg (M' := mput (mput M 35 j NG) 36 k (nI (w k + 1))) (by rw [mput_at, if_neg (by omega)]) (fun q x hq => by rw [mput_at, if_neg (by omega)])) (by omega) (by omega) (fun i hi => by
      rw [mput_at]
      by_cases e : i = k
      · rw [if_pos ⟨rfl, e⟩, if_pos e]
      · rw [if_neg (fun q => e q.2), if_neg e, mput_at, if_neg (by omega)]; exact hw i hi)
    refine ⟨M', by rw [e1]; exact a1, fun i hi => ?_, fun p h3 h4 => ?_, fun p h3 => ?_, fun q x h3 h4 => ?_, a6⟩
    · rw [a2 i hi, tb, cK]
      by_cases e : i = k
      · rw [if_pos e, if_pos (by omega), e, Nat.add_assoc]
      · rw [if_neg e, if_neg (by omega), Nat.zero_add]
    · by_cases e : p = j
      · subst e; rw [a4 p (by omega), mput_at, if_neg (by omega), mput_at, if_pos ⟨rfl, rfl⟩]
      · exact a3 p (by omega) h4
    · rw [a4 p (by omega), mput_at, if_neg (by omega), mput_at, if_neg (by omega)]
    · rw [a5 q x h3 h4, mput_at, if_neg (by omega), mput_at, if_neg (by omega)]
/-- the plan so far -/
def L0 : L4 := (0, [], 0, 0)
def FS (M : Mem) (O : List Nat) (tr : Nat → T3) (Ls : List L4) (W : List T3) (t : Nat) : Prop :=
  PB M O tr ∧ (M.1 33 5 = nI W.length ∧ M.1 33 6 = nI t ∧ (∀ k, k < 3 → M.1 36 k = nI (cK k W)) ∧ M.1 37 1 = nI Ls.length) ∧ Ls.length + W.length ≤ O.length ∧
  (∀ i, i < Ls.length → M.1 40 i = nI (Ls.getD i L0).1 ∧ M.1 41 i = nI (Ls.getD i L0).2.1.length ∧ M.1 42 i = nI (sz (Ls.getD i L0).2.1) ∧ M.1 43 i = nI (Ls.getD i L0).2.2.1 ∧ M.1 44 i = nI (Ls.getD i L0).2.2.2) ∧
  sl (fun p => decide (M.1 35 p = NG)) tr 0 O.length = W ∧ (∀ L, L < Ls.length → sl (fun p => decide (M.1 35 p = nI L)) tr 0 O.length = (Ls.getD L L0).2.1) ∧ (∀ p, p < O.length → M.1 35 p = NG ∨ ∃ L, L < Ls.length ∧ M.1 35 p = nI L) ∧ ∀ x, x ∈ W → x.2.1 < 3 ∧ 1 ≤ x.2.2 ∧ x.2.2 ≤ 12
theorem tb_mem (tr : Nat → T3) : ∀ (m j : Nat) (x : T3), x ∈ tb tr j m → ∃ i, j ≤ i ∧ i < j + m ∧ x = tr i := by
  intro m
  induction m with
  | zero => intro j x h; cases h
  | succ m ih =>
    intro j x h
    rw [tb] at h
    rcases List.mem_cons.mp h with h | h
    · exact ⟨j, Nat.le_refl _, by omega, h⟩
    · obtain ⟨i, h1, h2, h3⟩ := ih _ _ h
      exact ⟨i, by omega, by omega, h3⟩
theorem start_w {M : Mem} {O : List Nat} {tr : Nat → T3} {t : Nat} (H : PB M O tr) (ht : M.1 33 6 = nI t) : ∃ M', fX3_startWaiting 9 M = some M' ∧ FS M' O tr [] (tb tr 0 O.length) t ∧ (∀ q x, ¬ (33 ≤ q ∧ q < 45) → M'.1 q x = M.1 q x) ∧ M'.2 = M.2 := by
  have hO := H.2.1
  obtain ⟨M1, hM1⟩ : ∃ M1, M1 = mput (mput M 37 1 0) 33 5 (nI O.length) := ⟨_, rfl⟩
  obtain ⟨M2, hM2⟩ : ∃ M2 : Mem, M2 = (fun q x => if q = 36 ∧ 0 ≤ x ∧ x < 3 then nI 0 else M1.1 q x, M1.2) := ⟨_, rfl⟩
  have c2 : ∀ q x, q ≠ 36 → ¬ (q = 37 ∧ x = 1) → ¬ (q = 33 ∧ x = 5) → M2.1 q x = M.1 q x := fun q x h1 h2 h3 => by
    rw [hM2]; show (if _ then _ else _) = _
    rw [if_neg (fun w => h1 w.1), hM1, mput_at, if_neg h3, mput_at, if_neg h2]
  have c2n : ∀ q x, q ≠ 36 → M2.1 q x = M1.1 q x := fun q x h1 => by
    rw [hM2]; show (if _ then _ else _) = _
    rw [if_neg (fun w => h1 w.1)]
  have P2 : PB M2 O tr := H.cg (c2 33 4 (by omega) (by omega) (by omega)) (fun q x hq => c2 q x (by omega) (by omega) (by omega))
  obtain ⟨M3, a1, a2, a3, a4, a5, a6⟩ := sw_l O.length 0 FUEL M2 (fun _ => 0) P2 (by omega) (fuel8 (by omega)) (fun k hk => by
    rw [hM2]; show (if _ then _ else _) = _
    rw [if_pos ⟨rfl, by omega, hk⟩])
  have c3 : ∀ q x, q ≠ 35 → q ≠ 36 → ¬ (q = 37 ∧ x = 1) → ¬ (q = 33 ∧ x = 5) → M3.1 q x = M.1 q x := fun q x h1 h2 h3 h4 => (a5 q x h1 h2).trans (c2 q x h2 h3 h4)
  have e1 := w3_l 3 0 FUEL M1 (by omega) (fuel8 (by omega))
  rw [← hM2] at e1
  refine ⟨M3, ?_, ⟨P2.cg (a5 33 4 (by omega) (by omega)) (fun q x hq => a5 q x (by omega) (by omega)), ⟨?_, ?_, fun k hk => ?_, ?_⟩, ?_, fun i hi => absurd hi (by simp), ?_, fun i hi => absurd hi (by simp), fun p hp => Or.inl (a3 p (by omega) hp), fun x hx => ?_⟩, fun q x hq => c3 q x (by omega) (by omega) (by omega) (by omega), ?_⟩
  · unfold fX3_startWaiting fX5_clear pf
    rw [Option.bind_some, Option.bind_some, Option.bind_some, show (mput M 37 1 0).1 33 4 = nI O.length from by rw [mput_at, if_neg (by omega)]; exact H.1.1, ← hM1, l_0, e1, Option.bind_some, a1]
    rfl
  · rw [tb_len, a5 33 5 (by omega) (by omega), c2n _ _ (by omega), hM1, mput_at, if_pos ⟨rfl, rfl⟩]
  · rw [c3 33 6 (by omega) (by omega) (by omega) (by omega)]; exact ht
  · rw [a2 k hk, Nat.zero_add]
  · rw [a5 37 1 (by omega) (by omega), c2n _ _ (by omega), hM1, mput_at, if_neg (by omega), mput_at, if_pos ⟨rfl, rfl⟩]; rfl
  · rw [tb_len]; simp
  · exact sl_all tr O.length 0 fun i _ hi => decide_eq_true (a3 i (by omega) (by omega))
  · obtain ⟨i, h1, h2, h3⟩ := tb_mem tr _ _ _ hx
    obtain ⟨-, ⟨t1, t2, t3, t4⟩, -⟩ := H.2.2 i (by omega)
    rw [h3]; exact ⟨t2, t3, t4⟩
  · rw [a6, hM2, hM1]; rfl
/-- batches go into a load, place by place -/
theorem bl_in {O : List Nat} {tr : Nat → T3} {k g : Nat} (hk : k < 3) (hg : g < 20) : ∀ (m j n r u : Nat) (M : Mem), PB M O tr → M.1 37 1 = nI g → j + m = O.length → m < n → r ≤ 24 → u + m ≤ 100 → (∀ p, j ≤ p → p < O.length → M.1 35 p ≠ nI g) → ∃ M', lX3_bakeLoad_24 9 (nI k) n (nI (24 - r)) (nI u) (nI j) M = some (nI (24 - gN (pK k) r (sl (fun p => decide (M.1 35 p = NG)) tr j m)), nI (u + (gT (pK k) r (sl (fun p => decide (M.1 35 p = NG)) tr j m)).length), M') ∧ sl (fun p => decide (M'.1 35 p = NG)) tr j m = gR (pK k) r (sl (fun p => decide (M.1 35 p = NG)) tr j m) ∧ sl (fun p => decide (M'.1 35 p = nI g)) tr j m = gT (pK k) r (sl (fun p => decide (M.1 35 p = NG)) tr j m) ∧ (∀ p, j ≤ p → p < O.length → M'.1 35 p = M.1 35 p ∨ (M.1 35 p = NG ∧ M'.1 35 p = nI g)) ∧ (∀ q x, ¬ (q = 35 ∧ j ≤ x ∧ x < O.length) → M'.1 q x = M.1 q x) ∧ M'.2 = M.2 := by
  intro m
  induction m with
  | zero =>
    intro j n r u M H h37 h1 h2 h3 h5 h4
    obtain ⟨n, rfl⟩ : ∃ n', n = n' + 1 := ⟨n - 1, by omega⟩
    have hO := H.2.1
    refine ⟨M, ?_, rfl, rfl, fun p h6 h7 => by omega, fun _ _ _ => rfl, rfl⟩
    rw [lX3_bakeLoad_24, H.1.1, if_pos (pI_le (by omega) (by omega))]
    rfl
  | succ m ih =>
    intro j n r u M H h37 h1 h2 h3 h5 h4
    obtain ⟨n, rfl⟩ : ∃ n', n = n' + 1 := ⟨n - 1, by omega⟩
    have hO := H.2.1
    obtain ⟨-, ⟨t1, t2, t3, t4⟩, -⟩ := H.2.2 j (by omega)
    have e1 : lX3_bakeLoad_24 9 (nI k) (n + 1) (nI (24 - r)) (nI u) (nI j) M = if M.1 35 j = NG then (if nI (tr j).2.1 = nI k then (if nI 24 < nI (24 - r + (tr j).2.2) then lX3_bakeLoad_24 9 (nI k) n (nI (24 - r)) (nI u) (nI (j + 1)) M else lX3_bakeLoad_24 9 (nI k) n (nI (24 - r + (tr j).2.2)) (nI (u + 1)) (nI (j + 1)) (mput M 35 j (nI g))) else lX3_bakeLoad_24 9 (nI k) n (nI (24 - r)) (nI u) (nI (j + 1)) M) else lX3_bakeLoad_24 9 (nI k) n (nI (24 - r)) (nI u) (nI (j + 1)) M := by
      rw [lX3_bakeLoad_24, H.1.1, if_neg (pI_nle (by omega) (by omega)), l_20, if_neg (pI_nle (by omega) (by omega)), H.ord (by omega), Option.bind_some, H.v2 (by omega), Option.bind_some, ald_n (by omega) (by omega), Option.bind_some, H.v1 (by omega), Option.bind_some, nI_ad]
      unfold fX5_size
      rw [h37, Option.bind_some, ast_n (by omega) (by omega), Option.bind_some, l_1, nI_ad, nI_ad, l_24]
      rfl
    by_cases c1 : M.1 35 j = NG
    · rw [sl, if_pos (decide_eq_true c1), gT, gR, gN]
      by_cases c2 : (tr j).2.1 = k
      · by_cases c3 : (tr j).2.2 ≤ r
        · have cc : pK k (tr j) = true ∧ (tr j).2.2 ≤ r := ⟨by simp [pK, c2], c3⟩
          rw [if_pos cc, if_pos cc, if_pos cc]
          have es : sl (fun p => decide ((mput M 35 j (nI g)).1 35 p = NG)) tr (j + 1) m = sl (fun p => decide (M.1 35 p = NG)) tr (j + 1) m := sl_cg tr m (j + 1) fun i h6 h7 => by rw [mput_at, if_neg (by omega)]
          obtain ⟨M', a1, a2, a3, a4, a5, a6⟩ := ih (j + 1) n (r - (tr j).2.2) (u + 1) (mput M 35 j (nI g)) (H.cg (by rw [mput_at, if_neg (by omega)]) (fun q x hq => by rw [mput_at, if_neg (by omega)])) (by rw [mput_at, if_neg (by omega)]; exact h37) (by omega) (by omega) (by omega) (by omega) (fun p h6 h7 => by rw [mput_at, if_neg (by omega)]; exact h4 p (by omega) h7)
          rw [es] at a1 a2 a3
          have ej : M'.1 35 j = nI g := by rw [a5 35 j (by omega), mput_at, if_pos ⟨rfl, rfl⟩]
          refine ⟨M', ?_, ?_, ?_, fun p h6 h7 => ?_, fun q x h6 => ?_, a6⟩
          · rw [e1, if_pos c1, if_pos (by rw [c2]), if_neg (pI_nlt (by omega) (by omega)), show 24 - r + (tr j).2.2 = 24 - (r - (tr j).2.2) by omega, a1, List.length_cons, show u + 1 + (gT (pK k) (r - (tr j).2.2) (sl (fun p => decide (M.1 35 p = NG)) tr (j + 1) m)).length = u + ((gT (pK k) (r - (tr j).2.2) (sl (fun p => decide (M.1 35 p = NG)) tr (j + 1) m)).length + 1) by omega]
          · rw [sl, if_neg (by rw [decide_eq_true_eq, ej]; exact nI_ng (by omega))]; exact a2
          · rw [sl, if_pos (decide_eq_true ej), a3]
          · by_cases e : p = j
            · subst e; exact Or.inr ⟨c1, ej⟩
            · rcases a4 p (by omega) h7 with q | q
              · left; rw [q, mput_at, if_neg (by omega)]
              · right; rw [mput_at, if_neg (by omega)] at q; exact q
          · rw [a5 q x (by omega), mput_at, if_neg (by omega)]
        · have cc : ¬ (pK k (tr j) = true ∧ (tr j).2.2 ≤ r) := fun q => c3 q.2
          rw [if_neg cc, if_neg cc, if_neg cc]
          obtain ⟨M', a1, a2, a3, a4, a5, a6⟩ := ih (j + 1) n r u M H h37 (by omega) (by omega) h3 (by omega) (fun p h6 h7 => h4 p (by omega) h7)
          have ej : M'.1 35 j = NG := by rw [a5 35 j (by omega)]; exact c1
          refine ⟨M', ?_, ?_, ?_, fun p h6 h7 => ?_, fun q x h6 => a5 q x (by omega), a6⟩
          · rw [e1, if_pos c1, if_pos (by rw [c2]), if_pos (pI_lt (by omega) (by omega)), a1]
          · rw [sl, if_pos (decide_eq_true ej), a2]
          · rw [sl, if_neg (by rw [decide_eq_true_eq, ej]; exact ng_nI (by omega)), a3]
          · by_cases e : p = j
            · subst e; left; rw [ej, c1]
            · exact a4 p (by omega) h7
      · have cc : ¬ (pK k (tr j) = true ∧ (tr j).2.2 ≤ r) := fun q => c2 (by have := q.1; simp only [pK, decide_eq_true_eq] at this; exact this)
        rw [if_neg cc, if_neg cc, if_neg cc]
        obtain ⟨M', a1, a2, a3, a4, a5, a6⟩ := ih (j + 1) n r u M H h37 (by omega) (by omega) h3 (by omega) (fun p h6 h7 => h4 p (by omega) h7)
        have ej : M'.1 35 j = NG := by rw [a5 35 j (by omega)]; exact c1
        refine ⟨M', ?_, ?_, ?_, fun p h6 h7 => ?_, fun q x h6 => a5 q x (by omega), a6⟩
        · rw [e1, if_pos c1, if_neg (pI_ne c2 (by omega) (by omega)), a1]
        · rw [sl, if_pos (decide_eq_true ej), a2]
        · rw [sl, if_neg (by rw [decide_eq_true_eq, ej]; exact ng_nI (by omega)), a3]
        · by_cases e : p = j
          · subst e; left; rw [ej, c1]
          · exact a4 p (by omega) h7
    · rw [sl, if_neg (by rw [decide_eq_true_eq]; exact c1)]
      obtain ⟨M', a1, a2, a3, a4, a5, a6⟩ := ih (j + 1) n r u M H h37 (by omega) (by omega) h3 (by omega) (fun p h6 h7 => h4 p (by omega) h7)
      have ej : M'.1 35 j = M.1 35 j := a5 35 j (by omega)
      refine ⟨M', ?_, ?_, ?_, fun p h6 h7 => ?_, fun q x h6 => a5 q x (by omega), a6⟩
      · rw [e1, if_neg c1, a1]
      · rw [sl, if_neg (by rw [decide_eq_true_eq, ej]; exact c1), a2]
      · rw [sl, if_neg (by rw [decide_eq_true_eq, ej]; exact h4 j (by omega) (by omega)), a3]
      · by_cases e : p = j
        · subst e; exact Or.inl ej
        · exact a4 p (by omega) h7
