/-! numbers, commands, faults: both sides -/
def dgt (τ : Nat → Int32) (n : Nat) : Nat → Nat → Int32 → Int32 × Nat
  | 0, p, v => (v, p)
  | f + 1, p, v => if p < n ∧ qd (τ p) = true then dgt τ n f (p + 1) ((((10 : Int32) * v) + τ p) - (48 : Int32)) else (v, p)
theorem dgt_r (τ : Nat → Int32) (n : Nat) : ∀ (f p : Nat) (v : Int32), p ≤ n → p ≤ (dgt τ n f p v).2 ∧ (dgt τ n f p v).2 ≤ n := by
  intro f
  induction f with
  | zero => intro p v h; exact ⟨Nat.le_refl _, h⟩
  | succ f ih =>
    intro p v h
    rw [dgt]
    by_cases q : p < n ∧ qd (τ p) = true
    · rw [if_pos q]
      obtain ⟨h1, h2⟩ := ih (p + 1) ((((10 : Int32) * v) + τ p) - (48 : Int32)) (by omega)
      exact ⟨by omega, h2⟩
    · rw [if_neg q]; exact ⟨Nat.le_refl _, h⟩
theorem dgt_c {τ : Nat → Int32} {n : Nat} : ∀ (f p fu d : Nat) (v : Int32) (M : Mem), CT M τ n p → d + f = 5 → f < fu → lX2_readDigits_4 fu v (nI d) M = some ((dgt τ n f p v).1, mput M 175 4 (nI (dgt τ n f p v).2)) := by
  intro f
  induction f with
  | zero =>
    intro p fu d v M H h1 h2
    obtain ⟨fu, rfl⟩ : ∃ n', fu = n' + 1 := ⟨fu - 1, by omega⟩
    rw [lX2_readDigits_4, l_5, if_pos (pI_le (by omega) (by omega)), dgt, mp_id H.2.2.1]
  | succ f ih =>
    intro p fu d v M H h1 h2
    obtain ⟨fu, rfl⟩ : ∃ n', fu = n' + 1 := ⟨fu - 1, by omega⟩
    have hn := H.2.1
    rw [lX2_readDigits_4, l_5, if_neg (pI_nle (by omega) (by omega)), digit_c H, Option.bind_some, dgt]
    by_cases q : p < n ∧ qd (τ p) = true
    · rw [if_pos (decide_eq_true q), if_pos q, here_c H, if_pos q.1, Option.bind_some]
      unfold pf
      rw [Option.bind_some, H.2.2.1, l_1, nI_ad, nI_ad, ih (p + 1) fu (d + 1) _ _ (H.at (by omega)) (by omega) (by omega), mp2]
    · rw [if_neg (by rw [decide_eq_true_eq]; exact q), if_neg q, mp_id H.2.2.1]
theorem isD_r {N : Mem} {τ : Nat → Int32} {n p : Nat} (H : RT N τ n p) : fX12_isAt 48 57 N = some (decide (p < n ∧ qd (τ p) = true)) := by
  rw [isAt_r H]
  unfold qd
  congr 1
  by_cases e : p < n ∧ ((48 : Int32) ≤ τ p ∧ τ p ≤ 57)
  · rw [decide_eq_true e, decide_eq_true ⟨e.1, decide_eq_true e.2⟩]
  · rw [decide_eq_false e, decide_eq_false (fun q => e ⟨q.1, of_decide_eq_true q.2⟩)]
theorem dgt_R {τ : Nat → Int32} {n p0 : Nat} {N0 : Mem} (h0 : N0.1 178 11 = nI p0) (hp0 : p0 ≤ 150) : ∀ (f p fu : Nat) (v : Int32) (N : Mem), RT N τ n p → p + f = p0 + 5 → f < fu → lX12_readsNumber_27 N0 fu v N = some ((dgt τ n f p v).1, mput N 178 11 (nI (dgt τ n f p v).2)) := by
  intro f
  induction f with
  | zero =>
    intro p fu v N H h1 h2
    obtain ⟨fu, rfl⟩ : ∃ n', fu = n' + 1 := ⟨fu - 1, by omega⟩
    have hn := H.2.1
    have hpn := H.2.2.2.1
    rw [lX12_readsNumber_27, isD_r H, Option.bind_some, h0, l_5, nI_ad, H.2.2.1, dgt]
    by_cases q : p < n ∧ qd (τ p) = true
    · rw [if_pos (decide_eq_true q), if_pos (pI_le (by omega) (by omega)), mp_id H.2.2.1]
    · rw [if_neg (by rw [decide_eq_true_eq]; exact q), mp_id H.2.2.1]
  | succ f ih =>
    intro p fu v N H h1 h2
    obtain ⟨fu, rfl⟩ : ∃ n', fu = n' + 1 := ⟨fu - 1, by omega⟩
    have hn := H.2.1
    have hpn := H.2.2.2.1
    rw [lX12_readsNumber_27, isD_r H, Option.bind_some, h0, l_5, nI_ad, H.2.2.1, dgt]
    by_cases q : p < n ∧ qd (τ p) = true
    · rw [if_pos (decide_eq_true q), if_pos q, if_neg (pI_nle (by omega) (by omega)), ald_n (by omega) (by omega), Option.bind_some, H.2.2.2.2 p q.1]
      unfold pf
      rw [Option.bind_some, l_1, nI_ad, ih (p + 1) fu _ _ (H.at (by omega)) (by omega) (by omega), mp2]
    · rw [if_neg (by rw [decide_eq_true_eq]; exact q), if_neg q, mp_id H.2.2.1]
/-- m numbers from p on: at fault, or the numbers and what follows -/
def pn (τ : Nat → Int32) (n : Nat) : Nat → Nat → Nat ⊕ (List Int32 × Nat)
  | 0, p => .inr ([], p)
  | m + 1, p => if p < n ∧ τ p = 32 then (if nsp τ n p < n ∧ qd (τ (nsp τ n p)) = true then (if (dgt τ n 5 (nsp τ n p) 0).2 < n ∧ qd (τ (dgt τ n 5 (nsp τ n p) 0).2) = true then .inl (dgt τ n 5 (nsp τ n p) 0).2 else (match pn τ n m (dgt τ n 5 (nsp τ n p) 0).2 with | .inl e => .inl e | .inr x => .inr ((dgt τ n 5 (nsp τ n p) 0).1 :: x.1, x.2))) else .inl (nsp τ n p)) else .inl p
theorem pn_r (τ : Nat → Int32) (n : Nat) : ∀ (m p : Nat), p ≤ n → (∀ e, pn τ n m p = .inl e → e ≤ n) ∧ ∀ vs q, pn τ n m p = .inr (vs, q) → p ≤ q ∧ q ≤ n ∧ vs.length = m := by
  intro m
  induction m with
  | zero => intro p h; exact ⟨(fun e w => by cases w), fun vs q w => by cases w; exact ⟨Nat.le_refl _, h, rfl⟩⟩
  | succ m ih =>
    intro p h
    obtain ⟨s1, s2, -⟩ := nsp_r (τ := τ) h
    obtain ⟨d1, d2⟩ := dgt_r τ n 5 (nsp τ n p) 0 s2
    obtain ⟨i1, i2⟩ := ih _ d2
    rw [pn]
    by_cases c1 : p < n ∧ τ p = 32
    · rw [if_pos c1]
      by_cases c2 : nsp τ n p < n ∧ qd (τ (nsp τ n p)) = true
      · rw [if_pos c2]
        by_cases c3 : (dgt τ n 5 (nsp τ n p) 0).2 < n ∧ qd (τ (dgt τ n 5 (nsp τ n p) 0).2) = true
        · rw [if_pos c3]
          exact ⟨(fun e w => by cases w; exact d2), fun vs q w => by cases w⟩
        · rw [if_neg c3]
          cases hp : pn τ n m (dgt τ n 5 (nsp τ n p) 0).2 with
          | inl e => exact ⟨(fun e' w => by cases w; exact i1 _ hp), fun vs q w => by cases w⟩
          | inr x =>
            obtain ⟨vs, q⟩ := x
            obtain ⟨j1, j2, j3⟩ := i2 _ _ hp
            exact ⟨(fun e' w => by cases w), (fun vs' q' w => by cases w; exact ⟨by omega, j2, by rw [List.length_cons, j3]⟩)⟩
      · rw [if_neg c2]
        exact ⟨(fun e w => by cases w; exact s2), fun vs q w => by cases w⟩
    · rw [if_neg c1]
      exact ⟨(fun e w => by cases w; exact h), fun vs q w => by cases w⟩
def wN (i : Nat) : Nat := if i = 1 then 3 else if i = 6 then 0 else 1
theorem wN_ok : ∀ i, i < 7 → wNum i = nI (wN i) ∧ wN i ≤ 3 := by decide +kernel
def NS (f : Nat → Int32) (k : Nat) (vs : List Int32) : Prop := ∀ j, j < vs.length → f (k + j) = vs.getD j 0
theorem num_c {τ : Nat → Int32} {n i : Nat} (hi : i < 7) : ∀ (m k fu p : Nat) (M : Mem), CT M τ n p → k + m = wN i → m < fu → (∀ e, pn τ n m p = .inl e → ∃ M', lX2_readNumbers_21 i fu (nI k) M = some (Sum.inl (false, M')) ∧ M'.1 175 5 = nI e ∧ Tc M M') ∧ (∀ vs q, pn τ n m p = .inr (vs, q) → ∃ M', lX2_readNumbers_21 i fu (nI k) M = some (Sum.inr M') ∧ CT M' τ n q ∧ NS (M'.1 177) k vs ∧ (∀ x, x < k → M'.1 177 x = M.1 177 x) ∧ M'.1 175 5 = M.1 175 5 ∧ M'.1 175 2 = M.1 175 2 ∧ Tc M M') := by
  intro m
  obtain ⟨wn1, wn2⟩ := wN_ok i hi
  induction m with
  | zero =>
    intro k fu p M H h1 h2
    obtain ⟨fu, rfl⟩ : ∃ n', fu = n' + 1 := ⟨fu - 1, by omega⟩
    refine ⟨(fun e w => by cases w), fun vs q w => ?_⟩
    cases w
    exact ⟨M, by rw [lX2_readNumbers_21, wn1, if_pos (pI_le (by omega) (by omega))], H, fun j hj => absurd hj (Nat.not_lt_zero _), fun _ _ => rfl, rfl, rfl, Tc.rf M⟩
  | succ m ih =>
    intro k fu p M H h1 h2
    obtain ⟨fu, rfl⟩ : ∃ n', fu = n' + 1 := ⟨fu - 1, by omega⟩
    have hn := H.2.1
    have hp := H.2.2.2.1
    obtain ⟨s1, s2, -⟩ := nsp_r (τ := τ) hp
    obtain ⟨d1, d2⟩ := dgt_r τ n 5 (nsp τ n p) 0 s2
    have H1 := H.at s2
    have H2 := H1.at d2
    rw [mp2] at H2
    have e0 : lX2_readNumbers_21 i (fu + 1) (nI k) M = if decide (p < n ∧ τ p = 32) = true then (if decide (nsp τ n p < n ∧ qd (τ (nsp τ n p)) = true) = true then (if decide ((dgt τ n 5 (nsp τ n p) 0).2 < n ∧ qd (τ (dgt τ n 5 (nsp τ n p) 0).2) = true) = true then some (Sum.inl (false, mput (mput (mput M 175 4 (nI (dgt τ n 5 (nsp τ n p) 0).2)) 177 k (dgt τ n 5 (nsp τ n p) 0).1) 175 5 (nI (dgt τ n 5 (nsp τ n p) 0).2))) else lX2_readNumbers_21 i fu (nI (k + 1)) (mput (mput M 175 4 (nI (dgt τ n 5 (nsp τ n p) 0).2)) 177 k (dgt τ n 5 (nsp τ n p) 0).1)) else some (Sum.inl (false, mput (mput M 175 4 (nI (nsp τ n p))) 175 5 (nI (nsp τ n p))))) else some (Sum.inl (false, mput M 175 5 (nI p))) := by
      have H3 : CT (mput (mput M 175 4 (nI (dgt τ n 5 (nsp τ n p) 0).2)) 177 k (dgt τ n 5 (nsp τ n p) 0).1) τ n (dgt τ n 5 (nsp τ n p) 0).2 := H2.tc (Tc.p7 _ _ _) (by rw [mput_at, if_neg (by omega)])
      rw [lX2_readNumbers_21, wn1, if_neg (pI_nle (by omega) (by omega)), l_3, if_neg (pI_nle (by omega) (by omega)), stands_c H (by decide), Option.bind_some, skip_C H, Option.bind_some, digit_c H1, Option.bind_some]
      unfold fX2_readDigits fX2_failAt pf
      rw [show lX2_readDigits_4 FUEL 0 0 (mput M 175 4 (nI (nsp τ n p))) = _ from dgt_c 5 (nsp τ n p) FUEL 0 0 _ H1 (by omega) (fuel8 (by omega)), Option.bind_some]
      simp only [un2]
      rw [Option.bind_some]
      simp only [un2]
      rw [mp2, ast_n (by omega) (by omega), Option.bind_some, digit_c H3, Option.bind_some, Option.bind_some, Option.bind_some, Option.bind_some, Option.bind_some, Option.bind_some, Option.bind_some, l_1, nI_ad, H3.2.2.1, H1.2.2.1, H.2.2.1]
      simp only [un2]
    rw [pn]
    by_cases c1 : p < n ∧ τ p = 32
    · rw [if_pos c1]
      rw [if_pos (decide_eq_true c1)] at e0
      by_cases c2 : nsp τ n p < n ∧ qd (τ (nsp τ n p)) = true
      · rw [if_pos c2]
        rw [if_pos (decide_eq_true c2)] at e0
        by_cases c3 : (dgt τ n 5 (nsp τ n p) 0).2 < n ∧ qd (τ (dgt τ n 5 (nsp τ n p) 0).2) = true
        · rw [if_pos c3]
          rw [if_pos (decide_eq_true c3)] at e0
          refine ⟨fun e w => ?_, fun vs q w => by cases w⟩
          cases w
          exact ⟨_, e0, by rw [mput_at, if_pos ⟨rfl, rfl⟩], ((Tc.p4 M (by omega) _).tr (Tc.p7 _ _ _)).tr (Tc.p4 _ (by omega) _)⟩
        · rw [if_neg c3]
          rw [if_neg (by rw [decide_eq_true_eq]; exact c3)] at e0
          have H3 : CT (mput (mput M 175 4 (nI (dgt τ n 5 (nsp τ n p) 0).2)) 177 k (dgt τ n 5 (nsp τ n p) 0).1) τ n (dgt τ n 5 (nsp τ n p) 0).2 := H2.tc (Tc.p7 _ _ _) (by rw [mput_at, if_neg (by omega)])
          obtain ⟨i1, i2⟩ := ih (k + 1) fu _ _ H3 (by omega) (by omega)
          have tc : Tc M (mput (mput M 175 4 (nI (dgt τ n 5 (nsp τ n p) 0).2)) 177 k (dgt τ n 5 (nsp τ n p) 0).1) := (Tc.p4 M (by omega) _).tr (Tc.p7 _ _ _)
          cases hpn : pn τ n m (dgt τ n 5 (nsp τ n p) 0).2 with
          | inl e =>
            refine ⟨fun e' w => ?_, fun vs q w => by cases w⟩
            cases w
            obtain ⟨M', j1, j2, j3⟩ := i1 _ hpn
            exact ⟨M', e0.trans j1, j2, tc.tr j3⟩
          | inr x =>
            obtain ⟨vs, q⟩ := x
            refine ⟨(fun e' w => by cases w), (fun vs' q' w => ?_)⟩
            cases w
            obtain ⟨M', j1, j2, j3, j4, j5, j6, j7⟩ := i2 _ _ hpn
            refine ⟨M', e0.trans j1, j2, fun j hj => ?_, fun x hx => ?_, ?_, ?_, tc.tr j7⟩
            · cases j with
              | zero =>
                rw [Nat.add_zero, j4 k (by omega), mput_at, if_pos ⟨rfl, rfl⟩]; rfl
              | succ j =>
                have := j3 j (Nat.lt_of_succ_lt_succ (by rw [List.length_cons] at hj; exact hj))
                rw [show k + 1 + j = k + (j + 1) by omega] at this
                exact this
            · rw [j4 x (by omega), mput_at, if_neg (by omega), mput_at, if_neg (by omega)]
            · rw [j5, mput_at, if_neg (by omega), mput_at, if_neg (by omega)]
            · rw [j6, mput_at, if_neg (by omega), mput_at, if_neg (by omega)]
      · rw [if_neg c2]
        rw [if_neg (by rw [decide_eq_true_eq]; exact c2)] at e0
        refine ⟨fun e w => ?_, fun vs q w => by cases w⟩
        cases w
        exact ⟨_, e0, by rw [mput_at, if_pos ⟨rfl, rfl⟩], (Tc.p4 M (by omega) _).tr (Tc.p4 _ (by omega) _)⟩
    · rw [if_neg c1]
      rw [if_neg (by rw [decide_eq_true_eq]; exact c1)] at e0
      refine ⟨fun e w => ?_, fun vs q w => by cases w⟩
      cases w
      exact ⟨_, e0, by rw [mput_at, if_pos ⟨rfl, rfl⟩], Tc.p4 M (by omega) _⟩
/-- the reference's rest of a command -/
def tlr (M29 : Mem) : Option (Bool × Mem) := (fX12_skips M29).bind (un2 fun _ M32 => (fX12_isAt (59 : Int32) (59 : Int32) M32).bind fun b34 => if b34 = true then ((pf M32 178 11 ((M32.1 178 11) + (1 : Int32))).bind fun M38 => some (b34, M38)) else ((pf M32 178 11 ((M32.1 178 11) + (0 : Int32))).bind fun M36 => some (b34, M36)))
theorem tl_r {N : Mem} {τ : Nat → Int32} {n p : Nat} (H : RT N τ n p) : tlr N = if nsp τ n p < n ∧ τ (nsp τ n p) = 59 then some (true, mput N 178 11 (nI (nsp τ n p + 1))) else some (false, mput N 178 11 (nI (nsp τ n p))) := by
  obtain ⟨s1, s2, -⟩ := nsp_r (τ := τ) H.2.2.2.1
  have H1 := H.at s2
  unfold tlr
  rw [skip_R H, Option.bind_some]
  simp only [un2]
  rw [isAt_r H1, Option.bind_some, H1.2.2.1]
  unfold pf
  by_cases c : nsp τ n p < n ∧ τ (nsp τ n p) = 59
  · rw [if_pos (decide_eq_true ⟨c.1, one_ch.mpr c.2⟩), if_pos c, Option.bind_some, l_1, nI_ad, mp2, decide_eq_true ⟨c.1, one_ch.mpr c.2⟩]
  · have c' : ¬ (nsp τ n p < n ∧ ((59 : Int32) ≤ τ (nsp τ n p) ∧ τ (nsp τ n p) ≤ 59)) := fun q => c ⟨q.1, one_ch.mp q.2⟩
    rw [if_neg (by rw [decide_eq_true_eq]; exact c'), if_neg c, Option.bind_some, l_0, sm_z, mp2, decide_eq_false c']
theorem rdn_r {N : Mem} {τ : Nat → Int32} {n p : Nat} (H : RT N τ n p) : fX12_readsNumber N = if p < n ∧ τ p = 32 then (if nsp τ n p < n ∧ qd (τ (nsp τ n p)) = true then some ((dgt τ n 5 (nsp τ n p) 0).1, mput N 178 11 (nI (dgt τ n 5 (nsp τ n p) 0).2)) else some (NG, mput N 178 11 (nI (nsp τ n p)))) else some (NG, N) := by
  have hn := H.2.1
  obtain ⟨s1, s2, -⟩ := nsp_r (τ := τ) H.2.2.2.1
  have H1 := H.at s2
  unfold fX12_readsNumber
  rw [skip_R H, Option.bind_some]
  simp only [un2]
  by_cases c1 : p < n ∧ τ p = 32
  · rw [if_pos (decide_eq_true c1), if_pos c1, isD_r H1, Option.bind_some]
    by_cases c2 : nsp τ n p < n ∧ qd (τ (nsp τ n p)) = true
    · rw [if_pos (decide_eq_true c2), if_pos c2, dgt_R H1.2.2.1 (by omega) 5 (nsp τ n p) FUEL 0 _ H1 rfl (fuel8 (by omega)), Option.bind_some]
      rw [mp2]; rfl
    · rw [if_neg (by rw [decide_eq_true_eq]; exact c2), if_neg c2]; rfl
  · have e : nsp τ n p = p := by
      unfold nsp
      by_cases hp : p < n
      · obtain ⟨m, hm⟩ : ∃ m, n - p = m + 1 := ⟨n - p - 1, by omega⟩
        rw [hm, sk]
        unfold qs
        rw [if_neg (by rw [decide_eq_true_eq]; exact fun q => c1 ⟨hp, q⟩)]
      · rw [show n - p = 0 by omega]; rfl
    rw [if_neg (by rw [decide_eq_true_eq]; exact c1), if_neg c1, e, mp_id H.2.2.1]; rfl
/-- numbers read are not negative -/
theorem dgt_nn (τ : Nat → Int32) (n : Nat) : ∀ (f p : Nat) (v : Nat), v < 10 ^ (5 - f) → f ≤ 5 → ∃ w, w < 100000 ∧ (dgt τ n f p (nI v)).1 = nI w := by
  intro f
  induction f with
  | zero => intro p v h _; exact ⟨v, by omega, rfl⟩
  | succ f ih =>
    intro p v h hf
    have hp : 10 ^ (5 - (f + 1)) * 10 = 10 ^ (5 - f) := by rw [← Nat.pow_succ, show (5 - (f + 1)).succ = 5 - f by omega]
    have hq : 10 ^ (5 - f) ≤ 10 ^ 5 := Nat.pow_le_pow_right (by omega) (by omega)
    rw [dgt]
    by_cases q : p < n ∧ qd (τ p) = true
    · rw [if_pos q]
      have h48 := of_decide_eq_true q.2
      have h0 : (0 : Int32) ≤ τ p := Int32.le_trans (show (0 : Int32) ≤ 48 by decide) h48.1
      obtain ⟨x, hx, ex⟩ := rng (B := 57) (by omega) ⟨h0, h48.2⟩
      have hx2 : 48 ≤ x := by
        have := h48.1
        rw [ex, l_48, mI_le (by omega) (by omega)] at this
        exact this
      rw [ex, l_10, nI_ml', nI_ad, l_48, mI_sb (by omega) (by omega)]
      exact ih (p + 1) _ (by omega) (by omega)
    · rw [if_neg q]
      exact ⟨v, by omega, rfl⟩
theorem num_r {τ : Nat → Int32} {n w : Nat} (hw : w ≤ 3) : ∀ (m k fu p : Nat) (N : Mem), RT N τ n p → k + m = w → m < fu → (∀ e, pn τ n m p = .inl e → ∃ N', ((lX12_reads_82 (nI w) fu (nI k) N).bind fun o => s0 o tlr) = some (false, N') ∧ N'.1 178 11 = nI e ∧ Tr N N') ∧ (∀ vs q, pn τ n m p = .inr (vs, q) → ∃ N', lX12_reads_82 (nI w) fu (nI k) N = some (Sum.inr N') ∧ RT N' τ n q ∧ NS (N'.1 184) k vs ∧ (∀ x, x < k → N'.1 184 x = N.1 184 x) ∧ N'.1 178 12 = N.1 178 12 ∧ Tr N N') := by
  intro m
  induction m with
  | zero =>
    intro k fu p N H h1 h2
    obtain ⟨fu, rfl⟩ : ∃ n', fu = n' + 1 := ⟨fu - 1, by omega⟩
    refine ⟨(fun e w => by cases w), fun vs q w => ?_⟩
    cases w
    exact ⟨N, by rw [lX12_reads_82, if_pos (pI_le (by omega) (by omega))], H, fun j hj => absurd hj (Nat.not_lt_zero _), fun _ _ => rfl, rfl, Tr.rf N⟩
  | succ m ih =>
    intro k fu p N H h1 h2
    obtain ⟨fu, rfl⟩ : ∃ n', fu = n' + 1 := ⟨fu - 1, by omega⟩
    have hn := H.2.1
    have hp := H.2.2.2.1
    obtain ⟨s1, s2, -⟩ := nsp_r (τ := τ) hp
    obtain ⟨d1, d2⟩ := dgt_r τ n 5 (nsp τ n p) 0 s2
    have H2 := H.at d2
    obtain ⟨wv, wv1, wv2⟩ : ∃ w', w' < 100000 ∧ (dgt τ n 5 (nsp τ n p) 0).1 = nI w' := dgt_nn τ n 5 (nsp τ n p) 0 (by decide) (by omega)
    -- one number more
    have st : ∀ (v : Int32) (N1 : Mem), fX12_readsNumber N = some (v, N1) → lX12_reads_82 (nI w) (fu + 1) (nI k) N = if v = NG then some (Sum.inl (false, mput N1 184 k v)) else lX12_reads_82 (nI w) fu (nI (k + 1)) (mput N1 184 k v) := fun v N1 hv => by
      rw [lX12_reads_82, if_neg (pI_nle (by omega) (by omega)), hv, Option.bind_some]
      simp only [un2]
      rw [ast_n (by omega) (by omega), Option.bind_some, ald_n (by omega) (by omega), Option.bind_some, mput_at, if_pos (show (184 : Nat) = 184 ∧ k = k from ⟨rfl, rfl⟩), show (nI k + (1 : Int32)) = nI (k + 1) from nI_ad k 1]
      by_cases q : v = (-1 : Int32)
      · rw [if_pos q, if_pos (show v = NG from q)]
      · rw [if_neg q, if_neg (show ¬ v = NG from q)]
    have hr := rdn_r H
    rw [pn]
    by_cases c1 : p < n ∧ τ p = 32
    · rw [if_pos c1] at hr ⊢
      by_cases c2 : nsp τ n p < n ∧ qd (τ (nsp τ n p)) = true
      · rw [if_pos c2] at hr ⊢
        have e0 := st _ _ hr
        rw [if_neg (by rw [wv2]; exact nI_ng (by omega))] at e0
        have H3 : RT (mput (mput N 178 11 (nI (dgt τ n 5 (nsp τ n p) 0).2)) 184 k (dgt τ n 5 (nsp τ n p) 0).1) τ n (dgt τ n 5 (nsp τ n p) 0).2 := H2.tr' (Tr.p9 _ _ _) (by rw [mput_at, if_neg (by omega)])
        have tr : Tr N (mput (mput N 178 11 (nI (dgt τ n 5 (nsp τ n p) 0).2)) 184 k (dgt τ n 5 (nsp τ n p) 0).1) := (Tr.p8 N (by omega) _).tr (Tr.p9 _ _ _)
        by_cases c3 : (dgt τ n 5 (nsp τ n p) 0).2 < n ∧ qd (τ (dgt τ n 5 (nsp τ n p) 0).2) = true
        · rw [if_pos c3]
          refine ⟨fun e he => ?_, fun vs q he => by cases he⟩
          cases he
          obtain ⟨P, hP⟩ : ∃ P, P = (dgt τ n 5 (nsp τ n p) 0).2 := ⟨_, rfl⟩
          rw [← hP] at c3 H3 e0 tr ⊢
          have n32 : τ P ≠ 32 := fun q => by have := c3.2; rw [q] at this; exact absurd this (by decide)
          have n59 : τ P ≠ 59 := fun q => by have := c3.2; rw [q] at this; exact absurd this (by decide)
          rw [e0]
          have hns : nsp τ n P = P := by
            unfold nsp
            obtain ⟨m', hm⟩ : ∃ m', n - P = m' + 1 := ⟨n - P - 1, by omega⟩
            rw [hm, sk]
            unfold qs
            rw [if_neg (by rw [decide_eq_true_eq]; exact n32)]
          obtain ⟨fu, rfl⟩ : ∃ n', fu = n' + 1 := ⟨fu - 1, by omega⟩
          by_cases hk : w ≤ k + 1
          · rw [lX12_reads_82, if_pos (pI_le hk (by omega)), Option.bind_some]
            simp only [s0]
            rw [tl_r H3, hns, if_neg (fun q => n59 q.2)]
            exact ⟨_, rfl, by rw [mput_at, if_pos ⟨rfl, rfl⟩], tr.tr (Tr.p8 _ (by omega) _)⟩
          · have hr2 := rdn_r H3
            rw [if_neg (fun q => n32 q.2)] at hr2
            rw [lX12_reads_82, if_neg (pI_nle (by omega) (by omega)), hr2, Option.bind_some]
            simp only [un2]
            rw [ast_n (by omega) (by omega), Option.bind_some, ald_n (by omega) (by omega), Option.bind_some, mput_at, if_pos (show (184 : Nat) = 184 ∧ k + 1 = k + 1 from ⟨rfl, rfl⟩), if_pos (show NG = -1 from rfl), Option.bind_some]
            exact ⟨_, rfl, by rw [mput_at, if_neg (by omega)]; exact H3.2.2.1, tr.tr (Tr.p9 _ _ _)⟩
        · rw [if_neg c3]
          obtain ⟨i1, i2⟩ := ih (k + 1) fu _ _ H3 (by omega) (by omega)
          cases hpn : pn τ n m (dgt τ n 5 (nsp τ n p) 0).2 with
          | inl e =>
            refine ⟨fun e' he => ?_, fun vs q he => by cases he⟩
            cases he
            obtain ⟨N', j1, j2, j3⟩ := i1 _ hpn
            exact ⟨N', by rw [e0]; exact j1, j2, tr.tr j3⟩
          | inr x =>
            obtain ⟨vs, q⟩ := x
            refine ⟨(fun e' he => by cases he), (fun vs' q' he => ?_)⟩
            cases he
            obtain ⟨N', j1, j2, j3, j4, j5, j6⟩ := i2 _ _ hpn
            refine ⟨N', e0.trans j1, j2, fun j hj => ?_, fun x hx => ?_, ?_, tr.tr j6⟩
            · cases j with
              | zero =>
                rw [Nat.add_zero, j4 k (by omega), mput_at, if_pos ⟨rfl, rfl⟩]; rfl
              | succ j =>
                have := j3 j (Nat.lt_of_succ_lt_succ (by rw [List.length_cons] at hj; exact hj))
                rw [show k + 1 + j = k + (j + 1) by omega] at this
                exact this
            · rw [j4 x (by omega), mput_at, if_neg (by omega), mput_at, if_neg (by omega)]
            · rw [j5, mput_at, if_neg (by omega), mput_at, if_neg (by omega)]
      · rw [if_neg c2] at hr ⊢
        have e0 := st _ _ hr
        rw [if_pos rfl] at e0
        refine ⟨fun e he => ?_, fun vs q he => by cases he⟩
        cases he
        exact ⟨_, by rw [e0]; rfl, by rw [mput_at, if_neg (by omega), mput_at, if_pos ⟨rfl, rfl⟩], (Tr.p8 N (by omega) _).tr (Tr.p9 _ _ _)⟩
    · rw [if_neg c1] at hr ⊢
      have e0 := st _ _ hr
      rw [if_pos rfl] at e0
      refine ⟨fun e he => ?_, fun vs q he => by cases he⟩
      cases he
      exact ⟨_, by rw [e0]; rfl, by rw [mput_at, if_neg (by omega)]; exact H.2.2.1, Tr.p9 _ _ _⟩
/-- a command from p on (no space there, not the end): at fault, or word, numbers, what follows -/
def pcmd (τ : Nat → Int32) (n p : Nat) : Nat ⊕ (Nat × List Int32 × Nat) :=
  match fwd τ p (nle τ n p - p) with
  | none => .inl p
  | some i => match pn τ n (wN i) (nle τ n p) with
    | .inl e => .inl e
    | .inr x => if nsp τ n x.2 < n ∧ τ (nsp τ n x.2) = 59 then .inr (i, x.1, nsp τ n x.2 + 1) else .inl (nsp τ n x.2)
theorem nle_r {τ : Nat → Int32} {n p : Nat} (hp : p ≤ n) : p ≤ nle τ n p ∧ nle τ n p ≤ n ∧ ∀ j, p ≤ j → j < nle τ n p → ql (τ j) = true := by
  obtain ⟨h1, h2, h3, h4⟩ := sk_r ql τ (n - p) p
  unfold nle
  exact ⟨h1, by omega, h4⟩
