/-! the text of commands: what both sides read -/
def sk (q : Int32 → Bool) (τ : Nat → Int32) : Nat → Nat → Nat
  | 0, p => p
  | m + 1, p => if q (τ p) = true then sk q τ m (p + 1) else p
def qs (x : Int32) : Bool := decide (x = 32)
def ql (x : Int32) : Bool := decide (97 ≤ x ∧ x ≤ 122)
def qd (x : Int32) : Bool := decide (48 ≤ x ∧ x ≤ 57)
theorem sk_r (q : Int32 → Bool) (τ : Nat → Int32) : ∀ (m p : Nat), p ≤ sk q τ m p ∧ sk q τ m p ≤ p + m ∧ (sk q τ m p < p + m → q (τ (sk q τ m p)) = false) ∧ ∀ i, p ≤ i → i < sk q τ m p → q (τ i) = true := by
  intro m
  induction m with
  | zero => intro p; exact ⟨Nat.le_refl _, Nat.le_refl _, fun h => absurd h (Nat.lt_irrefl _), fun i h1 h2 => absurd h2 (Nat.not_lt.mpr h1)⟩
  | succ m ih =>
    intro p
    rw [sk]
    by_cases h : q (τ p) = true
    · rw [if_pos h]
      obtain ⟨h1, h2, h3, h4⟩ := ih (p + 1)
      exact ⟨by omega, by omega, fun w => h3 (by omega), fun i i1 i2 => by
        by_cases e : i = p
        · subst e; exact h
        · exact h4 i (by omega) i2⟩
    · rw [if_neg h]
      exact ⟨Nat.le_refl _, by omega, fun _ => by cases hq : q (τ p) with | false => rfl | true => exact absurd hq h, fun i h1 h2 => absurd h2 (Nat.not_lt.mpr h1)⟩
def CT (M : Mem) (τ : Nat → Int32) (n p : Nat) : Prop := M.1 175 3 = nI n ∧ n ≤ 150 ∧ M.1 175 4 = nI p ∧ p ≤ n ∧ ∀ i, i < n → M.1 176 i = τ i
def RT (N : Mem) (τ : Nat → Int32) (n p : Nat) : Prop := N.1 178 6 = nI n ∧ n ≤ 150 ∧ N.1 178 11 = nI p ∧ p ≤ n ∧ ∀ i, i < n → N.1 182 i = τ i
def TT (τ : Nat → Int32) (n : Nat) : Prop := ∀ i, i < n → 0 ≤ τ i ∧ τ i ≤ 127
def Tc (M M' : Mem) : Prop := (∀ q x, q ≠ 175 → q ≠ 177 → M'.1 q x = M.1 q x) ∧ M'.1 175 3 = M.1 175 3 ∧ M'.2 = M.2
def Tr (N N' : Mem) : Prop := (∀ q x, q ≠ 178 → q ≠ 184 → N'.1 q x = N.1 q x) ∧ (∀ x, x ≠ 11 → x ≠ 12 → N'.1 178 x = N.1 178 x) ∧ N'.2 = N.2
theorem Tc.rf (M : Mem) : Tc M M := ⟨fun _ _ _ _ => rfl, rfl, rfl⟩
theorem Tr.rf (M : Mem) : Tr M M := ⟨fun _ _ _ _ => rfl, fun _ _ _ => rfl, rfl⟩
theorem Tc.tr {a b c : Mem} (h : Tc a b) (g : Tc b c) : Tc a c := ⟨fun q x h1 h2 => (g.1 q x h1 h2).trans (h.1 q x h1 h2), g.2.1.trans h.2.1, g.2.2.trans h.2.2⟩
theorem Tr.tr {a b c : Mem} (h : Tr a b) (g : Tr b c) : Tr a c := ⟨fun q x h1 h2 => (g.1 q x h1 h2).trans (h.1 q x h1 h2), fun x h1 h2 => (g.2.1 x h1 h2).trans (h.2.1 x h1 h2), g.2.2.trans h.2.2⟩
theorem Tc.p4 (M : Mem) {k : Nat} (hk : k ≠ 3) (x : Int32) : Tc M (mput M 175 k x) := ⟨fun q y h1 _ => by rw [mput_at, if_neg (fun w => h1 w.1)], by rw [mput_at, if_neg (by omega)], rfl⟩
theorem Tc.p7 (M : Mem) (k : Nat) (x : Int32) : Tc M (mput M 177 k x) := ⟨fun q y _ h1 => by rw [mput_at, if_neg (fun w => h1 w.1)], by rw [mput_at, if_neg (by omega)], rfl⟩
theorem Tr.p8 (M : Mem) {k : Nat} (hk : k = 11 ∨ k = 12) (x : Int32) : Tr M (mput M 178 k x) := ⟨fun q y h1 _ => by rw [mput_at, if_neg (fun w => h1 w.1)], fun y h1 h2 => by rw [mput_at, if_neg (by omega)], rfl⟩
theorem Tr.p9 (M : Mem) (k : Nat) (x : Int32) : Tr M (mput M 184 k x) := ⟨fun q y _ h1 => by rw [mput_at, if_neg (fun w => h1 w.1)], fun y _ _ => by rw [mput_at, if_neg (by omega)], rfl⟩
theorem CT.at {M : Mem} {τ : Nat → Int32} {n p p' : Nat} (H : CT M τ n p) (hp : p' ≤ n) : CT (mput M 175 4 (nI p')) τ n p' :=
  ⟨by rw [mput_at, if_neg (by omega)]; exact H.1, H.2.1, by rw [mput_at, if_pos ⟨rfl, rfl⟩], hp, fun i hi => by rw [mput_at, if_neg (by omega)]; exact H.2.2.2.2 i hi⟩
theorem RT.at {M : Mem} {τ : Nat → Int32} {n p p' : Nat} (H : RT M τ n p) (hp : p' ≤ n) : RT (mput M 178 11 (nI p')) τ n p' :=
  ⟨by rw [mput_at, if_neg (by omega)]; exact H.1, H.2.1, by rw [mput_at, if_pos ⟨rfl, rfl⟩], hp, fun i hi => by rw [mput_at, if_neg (by omega)]; exact H.2.2.2.2 i hi⟩
theorem CT.tc {M M' : Mem} {τ : Nat → Int32} {n p : Nat} (H : CT M τ n p) (h : Tc M M') (h4 : M'.1 175 4 = M.1 175 4) : CT M' τ n p := ⟨h.2.1.trans H.1, H.2.1, h4.trans H.2.2.1, H.2.2.2.1, fun i hi => (h.1 176 i (by omega) (by omega)).trans (H.2.2.2.2 i hi)⟩
theorem RT.tr' {M M' : Mem} {τ : Nat → Int32} {n p : Nat} (H : RT M τ n p) (h : Tr M M') (h4 : M'.1 178 11 = M.1 178 11) : RT M' τ n p := ⟨(h.2.1 6 (by omega) (by omega)).trans H.1, H.2.1, h4.trans H.2.2.1, H.2.2.2.1, fun i hi => (h.1 182 i (by omega) (by omega)).trans (H.2.2.2.2 i hi)⟩
theorem mp2 (M : Mem) (a b : Nat) (x y : Int32) : mput (mput M a b x) a b y = mput M a b y := by
  refine mem_ext (fun q k => ?_) rfl
  simp only [mput_at]
  by_cases h : q = a ∧ k = b
  · rw [if_pos h, if_pos h]
  · rw [if_neg h, if_neg h, if_neg h]
theorem mp_id {M : Mem} {a b : Nat} {x : Int32} (h : M.1 a b = x) : mput M a b x = M := by
  refine mem_ext (fun q k => ?_) rfl
  rw [mput_at]
  by_cases e : q = a ∧ k = b
  · rw [if_pos e, e.1, e.2, h]
  · rw [if_neg e]
theorem here_c {M : Mem} {τ : Nat → Int32} {n p : Nat} (H : CT M τ n p) : fX2_here M = some (if p < n then τ p else NG) := by
  obtain ⟨h1, h2, h3, h4, h5⟩ := H
  unfold fX2_here
  rw [h3, h1, l_0, if_neg (pI_nlt (by omega) (by omega))]
  by_cases h : p < n
  · rw [if_neg (pI_nle h (by omega)), l_150, if_neg (pI_nle (by omega) (by omega)), ald_n (by omega) (by omega), Option.bind_some, h5 p h, if_pos h]
  · rw [if_pos (pI_le (by omega) (by omega)), if_neg h]; rfl
theorem stands_c {M : Mem} {τ : Nat → Int32} {n p : Nat} (H : CT M τ n p) {x : Int32} (hx : x ≠ NG) : fX2_stands x M = some (decide (p < n ∧ τ p = x)) := by
  unfold fX2_stands
  rw [here_c H, Option.bind_some]
  by_cases h : p < n
  · rw [if_pos h]
    by_cases e : τ p = x
    · rw [if_pos e, decide_eq_true ⟨h, e⟩]
    · rw [if_neg e, decide_eq_false (fun q => e q.2)]
  · rw [if_neg h, if_neg (fun q => hx q.symm), decide_eq_false (fun q => h q.1)]
theorem digit_c {M : Mem} {τ : Nat → Int32} {n p : Nat} (H : CT M τ n p) : fX2_standsDigit M = some (decide (p < n ∧ qd (τ p) = true)) := by
  unfold fX2_standsDigit qd
  rw [here_c H, Option.bind_some, Option.bind_some]
  by_cases h : p < n
  · rw [if_pos h]
    by_cases e1 : τ p < 48
    · rw [if_pos e1, decide_eq_false (fun q => absurd (of_decide_eq_true q.2).1 (Int32.not_le.mpr e1))]
    · rw [if_neg e1]
      by_cases e2 : 57 < τ p
      · rw [if_pos e2, decide_eq_false (fun q => absurd (of_decide_eq_true q.2).2 (Int32.not_le.mpr e2))]
      · rw [if_neg e2, decide_eq_true ⟨h, decide_eq_true ⟨Int32.not_lt.mp e1, Int32.not_lt.mp e2⟩⟩]
  · rw [if_neg h, if_pos (show NG < 48 by decide), decide_eq_false (fun q => h q.1)]
theorem isAt_r {N : Mem} {τ : Nat → Int32} {n p : Nat} (H : RT N τ n p) (x y : Int32) : fX12_isAt x y N = some (decide (p < n ∧ (x ≤ τ p ∧ τ p ≤ y))) := by
  obtain ⟨h1, h2, h3, h4, h5⟩ := H
  unfold fX12_isAt
  rw [h1, h3]
  by_cases h : p < n
  · rw [if_neg (pI_nle h (by omega)), ald_n (by omega) (by omega), Option.bind_some, h5 p h, inn, Option.bind_some]
    by_cases e : x ≤ τ p ∧ τ p ≤ y
    · rw [if_pos (decide_eq_true e), decide_eq_true ⟨h, e⟩]
    · rw [if_neg (by rw [decide_eq_true_eq]; exact e), decide_eq_false (fun q => e q.2)]
  · rw [if_pos (pI_le (by omega) (by omega)), decide_eq_false (fun q => h q.1)]
theorem one_ch {x y : Int32} : (x ≤ y ∧ y ≤ x) ↔ y = x := ⟨fun h => Int32.le_antisymm h.2 h.1, fun h => by subst h; exact ⟨Int32.le_refl _, Int32.le_refl _⟩⟩
theorem skip_c {τ : Nat → Int32} {n : Nat} : ∀ (m p fu : Nat) (M : Mem), CT M τ n p → p + m = n → m < fu → lX2_skipSpaces_0 fu M = some (mput M 175 4 (nI (sk qs τ m p))) := by
  intro m
  induction m with
  | zero =>
    intro p fu M H h1 h2
    obtain ⟨fu, rfl⟩ : ∃ n', fu = n' + 1 := ⟨fu - 1, by omega⟩
    have hn := H.2.1
    rw [lX2_skipSpaces_0, H.1, H.2.2.1, if_pos (pI_le (by omega) (by omega)), sk, mp_id H.2.2.1]
  | succ m ih =>
    intro p fu M H h1 h2
    obtain ⟨fu, rfl⟩ : ∃ n', fu = n' + 1 := ⟨fu - 1, by omega⟩
    have hn := H.2.1
    rw [lX2_skipSpaces_0, H.1, H.2.2.1, if_neg (pI_nle (by omega) (by omega)), stands_c H (by decide), Option.bind_some, sk]
    unfold qs
    by_cases e : τ p = 32
    · rw [if_pos (decide_eq_true ⟨by omega, e⟩), if_pos (decide_eq_true e)]
      unfold pf
      rw [Option.bind_some, l_1, nI_ad, ih (p + 1) fu _ (H.at (by omega)) (by omega) (by omega), mp2]
      rfl
    · rw [if_neg (by rw [decide_eq_true_eq]; exact fun q => e q.2), if_neg (by rw [decide_eq_true_eq]; exact e), mp_id H.2.2.1]
def nsp (τ : Nat → Int32) (n p : Nat) : Nat := sk qs τ (n - p) p
theorem nsp_r {τ : Nat → Int32} {n p : Nat} (hp : p ≤ n) : p ≤ nsp τ n p ∧ nsp τ n p ≤ n ∧ (nsp τ n p < n → τ (nsp τ n p) ≠ 32) := by
  obtain ⟨h1, h2, h3, -⟩ := sk_r qs τ (n - p) p
  unfold nsp
  exact ⟨h1, by omega, fun h e => by
    have := h3 (by omega)
    unfold qs at this
    exact absurd e (of_decide_eq_false this)⟩
theorem skip_C {M : Mem} {τ : Nat → Int32} {n p : Nat} (H : CT M τ n p) : fX2_skipSpaces M = some (mput M 175 4 (nI (nsp τ n p))) := by
  unfold fX2_skipSpaces
  rw [skip_c (n - p) p FUEL M H (by have := H.2.2.2.1; omega) (fuel8 (by have := H.2.1; omega))]
  rfl
theorem skip_r {τ : Nat → Int32} {n : Nat} : ∀ (m p fu : Nat) (N : Mem), RT N τ n p → p + m = n → m < fu → lX12_skips_9 fu N = some (mput N 178 11 (nI (sk qs τ m p))) := by
  intro m
  induction m with
  | zero =>
    intro p fu M H h1 h2
    obtain ⟨fu, rfl⟩ : ∃ n', fu = n' + 1 := ⟨fu - 1, by omega⟩
    rw [lX12_skips_9, isAt_r H, Option.bind_some, if_neg (by rw [decide_eq_true_eq]; omega), sk, mp_id H.2.2.1]
  | succ m ih =>
    intro p fu M H h1 h2
    obtain ⟨fu, rfl⟩ : ∃ n', fu = n' + 1 := ⟨fu - 1, by omega⟩
    rw [lX12_skips_9, isAt_r H, Option.bind_some, sk]
    unfold qs
    by_cases e : τ p = 32
    · rw [if_pos (decide_eq_true ⟨by omega, one_ch.mpr e⟩), if_pos (decide_eq_true e)]
      unfold pf
      rw [Option.bind_some, H.2.2.1, l_1, nI_ad, ih (p + 1) fu _ (H.at (by omega)) (by omega) (by omega), mp2]
      rfl
    · rw [if_neg (by rw [decide_eq_true_eq]; exact fun q => e (one_ch.mp q.2)), if_neg (by rw [decide_eq_true_eq]; exact e), mp_id H.2.2.1]
theorem skip_R {N : Mem} {τ : Nat → Int32} {n p : Nat} (H : RT N τ n p) : fX12_skips N = some (decide (p < n ∧ τ p = 32), mput N 178 11 (nI (nsp τ n p))) := by
  unfold fX12_skips
  rw [isAt_r H, Option.bind_some, skip_r (n - p) p FUEL N H (by have := H.2.2.2.1; omega) (fuel8 (by have := H.2.1; omega)), Option.bind_some]
  have : decide (p < n ∧ ((32 : Int32) ≤ τ p ∧ τ p ≤ 32)) = decide (p < n ∧ τ p = 32) := by
    by_cases e : p < n ∧ τ p = 32
    · rw [decide_eq_true e, decide_eq_true ⟨e.1, one_ch.mpr e.2⟩]
    · rw [decide_eq_false e, decide_eq_false (fun q => e ⟨q.1, one_ch.mp q.2⟩)]
  rw [this]; rfl
/-! letters -/
def nle (τ : Nat → Int32) (n p : Nat) : Nat := sk ql τ (n - p) p
theorem let_c {τ : Nat → Int32} {n : Nat} : ∀ (m p fu : Nat) (M : Mem), CT M τ n p → p + m = n → m < fu → lX2_readWord_5 fu M = some (mput M 175 4 (nI (sk ql τ m p))) := by
  intro m
  induction m with
  | zero =>
    intro p fu M H h1 h2
    obtain ⟨fu, rfl⟩ : ∃ n', fu = n' + 1 := ⟨fu - 1, by omega⟩
    have hn := H.2.1
    rw [lX2_readWord_5, H.1, H.2.2.1, if_pos (pI_le (by omega) (by omega)), sk, mp_id H.2.2.1]
  | succ m ih =>
    intro p fu M H h1 h2
    obtain ⟨fu, rfl⟩ : ∃ n', fu = n' + 1 := ⟨fu - 1, by omega⟩
    have hn := H.2.1
    rw [lX2_readWord_5, H.1, H.2.2.1, if_neg (pI_nle (by omega) (by omega)), here_c H, if_pos (show p < n by omega), Option.bind_some, Option.bind_some, sk]
    unfold ql
    by_cases e1 : τ p < 97
    · rw [if_pos e1, if_neg (by rw [decide_eq_true_eq]; exact fun q => absurd q.1 (Int32.not_le.mpr e1)), mp_id H.2.2.1]
    · rw [if_neg e1]
      by_cases e2 : 122 < τ p
      · rw [if_pos e2, if_neg (by rw [decide_eq_true_eq]; exact fun q => absurd q.2 (Int32.not_le.mpr e2)), mp_id H.2.2.1]
      · rw [if_neg e2, if_pos (decide_eq_true ⟨Int32.not_lt.mp e1, Int32.not_lt.mp e2⟩)]
        unfold pf
        rw [Option.bind_some, l_1, nI_ad, ih (p + 1) fu _ (H.at (by omega)) (by omega) (by omega), mp2]
        rfl
theorem let_r {τ : Nat → Int32} {n : Nat} : ∀ (m p fu : Nat) (N : Mem), RT N τ n p → p + m = n → m < fu → lX12_reads_5 fu N = some (mput N 178 11 (nI (sk ql τ m p))) := by
  intro m
  induction m with
  | zero =>
    intro p fu M H h1 h2
    obtain ⟨fu, rfl⟩ : ∃ n', fu = n' + 1 := ⟨fu - 1, by omega⟩
    rw [lX12_reads_5, isAt_r H, Option.bind_some, if_neg (by rw [decide_eq_true_eq]; omega), sk, mp_id H.2.2.1]
  | succ m ih =>
    intro p fu M H h1 h2
    obtain ⟨fu, rfl⟩ : ∃ n', fu = n' + 1 := ⟨fu - 1, by omega⟩
    rw [lX12_reads_5, isAt_r H, Option.bind_some, sk]
    unfold ql
    by_cases e : (97 : Int32) ≤ τ p ∧ τ p ≤ 122
    · rw [if_pos (decide_eq_true ⟨by omega, e⟩), if_pos (decide_eq_true e)]
      unfold pf
      rw [Option.bind_some, H.2.2.1, l_1, nI_ad, ih (p + 1) fu _ (H.at (by omega)) (by omega) (by omega), mp2]
      rfl
    · rw [if_neg (by rw [decide_eq_true_eq]; exact fun q => e q.2), if_neg (by rw [decide_eq_true_eq]; exact e), mp_id H.2.2.1]
/-! words -/
def wa (τ : Nat → Int32) (s i : Nat) : Nat → Nat → Bool
  | 0, _ => true
  | m + 1, k => decide (wCh i k = τ (s + k)) && wa τ s i m (k + 1)
def wm (τ : Nat → Int32) (s m i : Nat) : Bool := decide (m = wLn i) && wa τ s i (wLn i) 0
def fw (τ : Nat → Int32) (s m : Nat) : Nat → Nat → Option Nat
  | 0, _ => none
  | f + 1, i => if wm τ s m i = true then some i else fw τ s m f (i + 1)
theorem wl_7 : ∀ i, i < 7 → 4 ≤ wLn i ∧ wLn i ≤ 6 := by decide +kernel
theorem letter_ok : ∀ i, i < 7 → ∀ k, k < 7 → fX12_letterAt (nI i) (nI k) = some (if k < wLn i then wCh i k else 0) := by decide +kernel
theorem wch_ok : ∀ i, i < 7 → ∀ k, k < wLn i → (97 : Int32) ≤ wCh i k ∧ wCh i k ≤ 122 := by decide +kernel
theorem ib_l {M : Mem} {τ : Nat → Int32} {n p s i : Nat} (H : CT M τ n p) (hi : i < 7) (hs : s + wLn i ≤ n) : ∀ (m k fu : Nat), k + m = wLn i → m < fu → lX2_isBetween_26 i (nI s) M fu (nI k) = some (if wa τ s i m k = true then Sum.inr () else Sum.inl false) := by
  intro m
  obtain ⟨w1, w2⟩ := wl_7 i hi
  induction m with
  | zero =>
    intro k fu h1 h2
    obtain ⟨fu, rfl⟩ : ∃ n', fu = n' + 1 := ⟨fu - 1, by omega⟩
    rw [lX2_isBetween_26, show wLen i = nI (wLn i) from rfl, if_pos (pI_le (by omega) (by omega))]; rfl
  | succ m ih =>
    intro k fu h1 h2
    obtain ⟨fu, rfl⟩ : ∃ n', fu = n' + 1 := ⟨fu - 1, by omega⟩
    have hn := H.2.1
    rw [lX2_isBetween_26, show wLen i = nI (wLn i) from rfl, if_neg (pI_nle (by omega) (by omega)), if_neg (by rw [mI_tc (by omega)]; rintro (q | q); exact mI_nn (by omega) q; omega), nI_ad, ald_n (by omega) (by omega), Option.bind_some, mI_tc (by omega), H.2.2.2.2 (s + k) (by omega), l_1, nI_ad, ih (k + 1) fu (by omega) (by omega), wa]
    by_cases e : wCh i k = τ (s + k)
    · rw [if_pos e, decide_eq_true e, Bool.true_and]
    · rw [if_neg e, decide_eq_false e, Bool.false_and]; rfl
theorem ib_c {M : Mem} {τ : Nat → Int32} {n p s e i : Nat} (H : CT M τ n p) (hi : i < 7) (hs : s ≤ e) (he : e ≤ n) : fX2_isBetween i (nI s) (nI e) M = some (wm τ s (e - s) i) := by
  have hn := H.2.1
  obtain ⟨w1, w2⟩ := wl_7 i hi
  unfold fX2_isBetween wm
  rw [l_0, if_neg (pI_nlt (by omega) (by omega)), l_150, if_neg (pI_nlt (by omega) (by omega)), mI_sb hs (by omega), show wLen i = nI (wLn i) from rfl]
  by_cases q : e - s = wLn i
  · rw [if_pos (by rw [q]), decide_eq_true q, Bool.true_and, ib_l H hi (by omega) (wLn i) 0 FUEL (by omega) (fuel8 (by omega)), Option.bind_some]
    cases wa τ s i (wLn i) 0 <;> rfl
  · rw [if_neg (pI_ne q (by omega) (by omega)), decide_eq_false q, Bool.false_and]
theorem wb_c {M : Mem} {τ : Nat → Int32} {n p s e : Nat} (H : CT M τ n p) (hs : s ≤ e) (he : e ≤ n) : ∀ (f i fu : Nat), i + f = 7 → f < fu → lX2_wordBetween_2 (nI s) (nI e) M fu (nI i) = some (match fw τ s (e - s) f i with | some j => Sum.inl (some j) | none => Sum.inr ()) := by
  intro f
  induction f with
  | zero =>
    intro i fu h1 h2
    obtain ⟨fu, rfl⟩ : ∃ n', fu = n' + 1 := ⟨fu - 1, by omega⟩
    rw [lX2_wordBetween_2, l_7, if_pos (pI_le (by omega) (by omega))]; rfl
  | succ f ih =>
    intro i fu h1 h2
    obtain ⟨fu, rfl⟩ : ∃ n', fu = n' + 1 := ⟨fu - 1, by omega⟩
    rw [lX2_wordBetween_2, l_7, if_neg (pI_nle (by omega) (by omega)), if_neg (by rw [mI_tc (by omega)]; rintro (q | q); exact mI_nn (by omega) q; omega), mI_tc (by omega), ib_c H (by omega) hs he, Option.bind_some, l_1, nI_ad, ih (i + 1) fu (by omega) (by omega), fw]
    cases wm τ s (e - s) i
    · rw [if_neg (by decide), if_neg (by decide)]
    · rw [if_pos rfl, if_pos rfl]
def fwd (τ : Nat → Int32) (s m : Nat) : Option Nat := fw τ s m 7 0
theorem fw_lt (τ : Nat → Int32) (s m : Nat) : ∀ (f i j : Nat), i + f = 7 → fw τ s m f i = some j → j < 7 ∧ wm τ s m j = true := by
  intro f
  induction f with
  | zero => intro i j _ h; cases h
  | succ f ih =>
    intro i j h1 h
    rw [fw] at h
    by_cases q : wm τ s m i = true
    · rw [if_pos q] at h; cases h; exact ⟨by omega, q⟩
    · rw [if_neg q] at h; exact ih _ _ (by omega) h
theorem word_c {M : Mem} {τ : Nat → Int32} {n p s e : Nat} (H : CT M τ n p) (hs : s ≤ e) (he : e ≤ n) : fX2_wordBetween (nI s) (nI e) M = some (fwd τ s (e - s)) := by
  unfold fX2_wordBetween fwd
  rw [l_0, wb_c H hs he 7 0 FUEL (by omega) (fuel8 (by omega)), Option.bind_some]
  cases fw τ s (e - s) 7 0 <;> rfl
/-- the reference compares letter by letter, up to the word's end -/
theorem wf_l {N : Mem} {τ : Nat → Int32} {n s e i : Nat} (H : RT N τ n e) (hi : i < 7) (hs : s ≤ e) (hm : e - s < 7) : ∀ (m k fu : Nat) (b : Bool), k + m = e - s → m < fu → lX12_wordFrom_43 (nI s) N (nI i) fu b (nI k) = some (b && (List.range' k m).all (fun j => decide ((if j < wLn i then wCh i j else 0) = τ (s + j)))) := by
  intro m
  have hn := H.2.1
  have hen := H.2.2.2.1
  induction m with
  | zero =>
    intro k fu b h1 h2
    obtain ⟨fu, rfl⟩ : ∃ n', fu = n' + 1 := ⟨fu - 1, by omega⟩
    rw [lX12_wordFrom_43, H.2.2.1, mI_sb hs (by omega), if_pos (pI_le (by omega) (by omega))]
    cases b <;> rfl
  | succ m ih =>
    intro k fu b h1 h2
    obtain ⟨fu, rfl⟩ : ∃ n', fu = n' + 1 := ⟨fu - 1, by omega⟩
    rw [lX12_wordFrom_43, H.2.2.1, mI_sb hs (by omega), if_neg (pI_nle (by omega) (by omega)), letter_ok i hi k (by omega), Option.bind_some, nI_ad, ald_n (by omega) (by omega), Option.bind_some, H.2.2.2.2 (s + k) (by omega), l_1, nI_ad, ih (k + 1) fu _ (by omega) (by omega), ih (k + 1) fu _ (by omega) (by omega), List.range'_succ, List.all_cons]
    cases b
    · rw [if_neg (by decide)]; rfl
    · rw [if_pos rfl]
      by_cases q : (if k < wLn i then wCh i k else 0) = τ (s + k)
      · rw [if_pos q, decide_eq_true q]; rfl
      · rw [if_neg q, decide_eq_false q]; rfl
theorem wa_all (τ : Nat → Int32) (s i : Nat) : ∀ (m k : Nat), k + m ≤ wLn i → (List.range' k m).all (fun j => decide ((if j < wLn i then wCh i j else 0) = τ (s + j))) = wa τ s i m k := by
  intro m
  induction m with
  | zero => intro k _; rfl
  | succ m ih =>
    intro k h
    rw [List.range'_succ, List.all_cons, wa, ih (k + 1) (by omega), if_pos (show k < wLn i by omega)]
theorem wf_i {N : Mem} {τ : Nat → Int32} {n s e i : Nat} (H : RT N τ n e) (hi : i < 7) (hs : s ≤ e) (hl : ∀ j, s ≤ j → j < e → ql (τ j) = true) : ((if nI (e - s) ≤ 0 then (some false : Option Bool) else (if (7 : Int32) ≤ nI (e - s) then (some false : Option Bool) else ((fX12_letterAt (nI i) (nI (e - s))).bind fun v6 => if v6 = 0 then (some true : Option Bool) else (some false)))).bind (fun z8 => lX12_wordFrom_43 (nI s) N (nI i) FUEL z8 (0 : Int32))) = some (wm τ s (e - s) i) := by
  have hn := H.2.1
  have hen := H.2.2.2.1
  obtain ⟨w1, w2⟩ := wl_7 i hi
  have fl : ∀ k fu, lX12_wordFrom_43 (nI s) N (nI i) (fu + 1) false (nI k) = some false := fun k fu => by
    rw [lX12_wordFrom_43]
    split
    · rfl
    · rfl
  have fl0 : lX12_wordFrom_43 (nI s) N (nI i) FUEL false 0 = some false := fl 0 99999
  unfold wm
  by_cases c0 : e - s = 0
  · rw [c0, if_pos (show nI 0 ≤ 0 by decide), Option.bind_some, fl0, decide_eq_false (by omega), Bool.false_and]
  · rw [l_0, if_neg (pI_nle (by omega) (by omega)), ← l_0]
    by_cases c7 : 7 ≤ e - s
    · rw [l_7, if_pos (pI_le c7 (by omega)), Option.bind_some, fl0, decide_eq_false (by omega), Bool.false_and]
    · rw [l_7, if_neg (pI_nle (by omega) (by omega)), letter_ok i hi (e - s) (by omega), Option.bind_some]
      by_cases cl : e - s < wLn i
      · have := (wch_ok i hi (e - s) cl).1
        rw [if_pos cl, if_neg (fun q => by rw [q] at this; exact absurd this (by decide)), Option.bind_some, fl0, decide_eq_false (by omega), Bool.false_and]
      · rw [if_neg cl, if_pos rfl, Option.bind_some, l_0, wf_l H hi hs (by omega) (e - s) 0 FUEL true (by omega) (fuel8 (by omega)), Bool.true_and]
        by_cases ce : e - s = wLn i
        · rw [decide_eq_true ce, Bool.true_and, ce, wa_all τ s i (wLn i) 0 (by omega)]
        · rw [decide_eq_false ce, Bool.false_and]
          congr 1
          rw [List.all_eq_false]
          refine ⟨wLn i, List.mem_range'.mpr ⟨wLn i, by omega, by omega⟩, ?_⟩
          rw [if_neg (Nat.lt_irrefl _), decide_eq_true_eq]
          intro q
          have := hl (s + wLn i) (by omega) (by omega)
          rw [← q] at this
          exact absurd this (by decide)
theorem wf_o {N : Mem} {τ : Nat → Int32} {n s e : Nat} (H : RT N τ n e) (hs : s ≤ e) (hl : ∀ j, s ≤ j → j < e → ql (τ j) = true) : ∀ (f i fu : Nat), i + f = 7 → f < fu → lX12_wordFrom_9 (nI s) N fu (nI i) = some (match fw τ s (e - s) f i with | some j => Sum.inl (nI j) | none => Sum.inr ()) := by
  intro f
  have hn := H.2.1
  have hen := H.2.2.2.1
  induction f with
  | zero =>
    intro i fu h1 h2
    obtain ⟨fu, rfl⟩ : ∃ n', fu = n' + 1 := ⟨fu - 1, by omega⟩
    rw [lX12_wordFrom_9, l_7, if_pos (pI_le (by omega) (by omega))]; rfl
  | succ f ih =>
    intro i fu h1 h2
    obtain ⟨fu, rfl⟩ : ∃ n', fu = n' + 1 := ⟨fu - 1, by omega⟩
    have hw := wf_i H (show i < 7 by omega) hs hl
    rw [lX12_wordFrom_9, show (7 : Int32) = nI 7 from rfl, if_neg (pI_nle (by omega) (by omega)), H.2.2.1, mI_sb hs (by omega), ← l_7]
    rw [← Option.bind_assoc, hw, Option.bind_some, l_1, nI_ad, ih (i + 1) fu (by omega) (by omega), fw]
    cases wm τ s (e - s) i
    · rw [if_neg (by decide), if_neg (by decide)]
    · rw [if_pos rfl, if_pos rfl]
theorem word_r {N : Mem} {τ : Nat → Int32} {n s e : Nat} (H : RT N τ n e) (hs : s ≤ e) (hl : ∀ j, s ≤ j → j < e → ql (τ j) = true) : fX12_wordFrom (nI s) N = some (enc (fwd τ s (e - s))) := by
  unfold fX12_wordFrom fwd
  rw [l_0, wf_o H hs hl 7 0 FUEL (by omega) (fuel8 (by omega)), Option.bind_some]
  cases fw τ s (e - s) 7 0 <;> rfl
