/-! sums over the baking order and over the row -/
def ws (w : T3 → Nat) : List T3 → Nat
  | [] => 0
  | x :: T => w x + ws w T
theorem ws_app (w : T3 → Nat) : ∀ (A B : List T3), ws w (A ++ B) = ws w A + ws w B := by
  intro A
  induction A with
  | nil => intro B; rw [List.nil_append, ws, Nat.zero_add]
  | cons x A ih => intro B; rw [List.cons_append, ws, ws, ih, Nat.add_assoc]
theorem aT_cons {h f : Nat} (w : T3 → Nat) (hf : f < h) {x : T3} (hx : x.1 < h) (T : List T3) : ∀ (m t : Nat), t + m ≤ h → ws w (aT h f m t (x :: T)) = ws w (aT h f m t T) + (if t ≤ ky h f x.1 ∧ ky h f x.1 < t + m then w x else 0) := by
  intro m
  induction m with
  | zero => intro t _; rw [aT, aT, if_neg (by omega)]; rfl
  | succ m ih =>
    intro t ht
    rw [aT, aT, ws_app, ws_app, ih (t + 1) (by omega), fz]
    by_cases e : x.1 = rot h f t
    · have ek := (rot_ky hf (show t < h by omega) hx).mp e.symm
      rw [if_pos e, ws, if_neg (by omega), if_pos (by omega)]; omega
    · have ek : t ≠ ky h f x.1 := fun q => e ((rot_ky hf (by omega) hx).mpr q).symm
      rw [if_neg e]
      by_cases h3 : t + 1 ≤ ky h f x.1 ∧ ky h f x.1 < t + 1 + m
      · rw [if_pos h3, if_pos (by omega)]; omega
      · rw [if_neg h3, if_neg (by omega)]; omega
theorem aT_ws {h f : Nat} (w : T3 → Nat) (hf : f < h) : ∀ T : List T3, (∀ x, x ∈ T → x.1 < h) → ws w (aT h f h 0 T) = ws w T := by
  intro T
  induction T with
  | nil =>
    intro _
    have : ∀ (m t : Nat), aT h f m t [] = [] := by
      intro m
      induction m with
      | zero => intro t; rfl
      | succ m ih => intro t; rw [aT, ih (t + 1)]; rfl
    rw [this]
  | cons x T ih =>
    intro hT
    have hk := ky_lt hf (hT x List.mem_cons_self)
    rw [aT_cons w hf (hT x List.mem_cons_self) T h 0 (by omega), ih (fun y hy => hT y (List.mem_cons_of_mem _ hy)), if_pos (by omega), ws, Nat.add_comm]
theorem ws_len : ∀ T : List T3, ws (fun _ => 1) T = T.length := by
  intro T
  induction T with
  | nil => rfl
  | cons x T ih => rw [ws, ih, List.length_cons, Nat.add_comm]
theorem ws_sz : ∀ T : List T3, ws (fun x => x.2.2) T = sz T := by
  intro T
  induction T with
  | nil => rfl
  | cons x T ih => rw [ws, ih, sz]
theorem ws_cK (k : Nat) : ∀ T : List T3, ws (fun x => if x.2.1 = k then 1 else 0) T = cK k T := by
  intro T
  induction T with
  | nil => rfl
  | cons x T ih => rw [ws, ih, cK]
theorem aT_len {h f : Nat} (hf : f < h) {T : List T3} (hT : ∀ x, x ∈ T → x.1 < h) : (aT h f h 0 T).length = T.length := by
  rw [← ws_len, aT_ws _ hf T hT, ws_len]
theorem aT_sz {h f : Nat} (hf : f < h) {T : List T3} (hT : ∀ x, x ∈ T → x.1 < h) : sz (aT h f h 0 T) = sz T := by
  rw [← ws_sz, aT_ws _ hf T hT, ws_sz]
theorem aT_cK {h f : Nat} (hf : f < h) {T : List T3} (hT : ∀ x, x ∈ T → x.1 < h) (k : Nat) : cK k (aT h f h 0 T) = cK k T := by
  rw [← ws_cK, aT_ws _ hf T hT, ws_cK]
theorem fa_mem {h f k : Nat} : ∀ (m t r : Nat) (T : List T3) (x : T3), (x ∈ (fa h f k m t r T).2.1 → x ∈ T) ∧ (x ∈ (fa h f k m t r T).1 → x ∈ T ∧ x.2.1 = k) := by
  intro m
  induction m with
  | zero => intro t r T x; exact ⟨fun h => h, fun h => by cases h⟩
  | succ m ih =>
    intro t r T x
    obtain ⟨a1, a2⟩ := ih (t + 1) (gN (pZ (rot h f t) k) r T) (gR (pZ (rot h f t) k) r T) x
    rw [fa]
    refine ⟨fun hx => gR_mem _ _ _ (a1 hx), fun hx => ?_⟩
    rcases List.mem_append.mp hx with q | q
    · obtain ⟨q1, q2⟩ := gT_mem _ _ _ q
      simp only [pZ, Bool.and_eq_true, decide_eq_true_eq] at q2
      exact ⟨q1, q2.2⟩
    · exact ⟨gR_mem _ _ _ (a2 q).1, (a2 q).2⟩
/-! the reference: heat falls, a kind waits, which kind now -/
theorem falls_r {N : Mem} {t x : Nat} (h2 : N.1 179 2 = nI t) (ht : t ≤ 400) (hx : x ≤ 8) (h20 : 20 ≤ t) : fX12_falls (nI x) N = some (mput N 179 2 (nI (max 20 (t - x)))) := by
  unfold fX12_falls
  rw [l_2, ald_n (by omega) (by omega), Option.bind_some, h2, mI_sb (by omega) (by omega), l_20, ast_n (by omega) (by omega)]
  by_cases c : 20 ≤ t - x
  · rw [if_pos (pI_le c (by omega)), Option.bind_some, mI_sb (by omega) (by omega), ast_n (by omega) (by omega), Option.bind_some, show max 20 (t - x) = t - x by omega]
  · rw [if_neg (pI_nle (by omega) (by omega)), Option.bind_some, show max 20 (t - x) = 20 by omega]
theorem fl18_r {k s : Nat} (hk : k < 3) (hs : s ≤ 24) : ∀ (m j n t : Nat) (N : Mem), N.1 179 2 = nI t → 20 ≤ t → t ≤ 400 → j + m = tks k → m < n → lX12_bakes_18 (nI k) (nI s) n (nI j) N = some (mput N 179 2 (nI (max 20 (t - m * (5 + s / 8))))) := by
  intro m
  have hx : 5 + s / 8 ≤ 8 := by omega
  have ek : fX12_ticksOf (nI k) = some (nI (tks k)) := by
    rcases (show k = 0 ∨ k = 1 ∨ k = 2 by omega) with rfl | rfl | rfl <;> decide
  have htk : tks k ≤ 8 := (lo_le k).2.2
  generalize hX : 5 + s / 8 = X at hx ⊢
  induction m with
  | zero =>
    intro j n t N h2 h20 h400 h1 h3
    obtain ⟨n, rfl⟩ : ∃ n', n = n' + 1 := ⟨n - 1, by omega⟩
    rw [lX12_bakes_18, ek, Option.bind_some, if_pos (pI_le (by omega) (by omega))]
    congr 1
    refine mem_ext (fun a b => ?_) rfl
    rw [mput_at]
    by_cases e : a = 179 ∧ b = 2
    · rw [if_pos e, e.1, e.2, h2, Nat.zero_mul, show max 20 (t - 0) = t by omega]
    · rw [if_neg e]
  | succ m ih =>
    intro j n t N h2 h20 h400 h1 h3
    obtain ⟨n, rfl⟩ : ∃ n', n = n' + 1 := ⟨n - 1, by omega⟩
    have e5 : (5 : Int32) + nI s / 8 = nI X := by rw [l_5, l_8, mI_dv (by omega) (by omega), nI_ad, hX]
    rw [lX12_bakes_18, ek, Option.bind_some, if_neg (pI_nle (by omega) (by omega)), e5, falls_r h2 h400 hx h20, Option.bind_some, l_1, nI_ad, ih (j + 1) n (max 20 (t - X)) _ (by rw [mput_at, if_pos ⟨rfl, rfl⟩]) (by omega) (by omega) (by omega) (by omega)]
    congr 1
    refine mem_ext (fun a b => ?_) rfl
    simp only [mput_at]
    by_cases e : a = 179 ∧ b = 2
    · rw [if_pos e, if_pos e, show max 20 (max 20 (t - X) - m * X) = max 20 (t - (m + 1) * X) by rw [Nat.add_mul, Nat.one_mul]; omega]
    · rw [if_neg e, if_neg e, if_neg e]
theorem waits_l {N : Mem} {T : List T3} (H : TBr N T) {k : Nat} (hk : k < 3) : ∀ (R P : List T3) (n : Nat) (a : Bool), T = P ++ R → R.length < n → lX12_waits_4 (nI k) N n a (nI P.length) = some (a || decide (0 < cK k R)) := by
  intro R
  have hl := H.1
  induction R with
  | nil =>
    intro P n a hT hn
    obtain ⟨n, rfl⟩ : ∃ n', n = n' + 1 := ⟨n - 1, by omega⟩
    rw [List.append_nil] at hT
    rw [hT] at hl
    rw [lX12_waits_4, l_7, ald_n (by omega) (by omega), Option.bind_some, H.2.1, hT, if_pos (pI_le (by omega) (by omega))]
    cases a <;> rfl
  | cons x R ih =>
    intro P n a hT hn
    obtain ⟨n, rfl⟩ : ∃ n', n = n' + 1 := ⟨n - 1, by omega⟩
    have hlen : T.length = P.length + R.length + 1 := by rw [hT, List.length_append, List.length_cons]; omega
    rw [List.length_cons] at hn
    obtain ⟨-, c1, -⟩ := H.2.2.1 P.length (by omega)
    rw [hT, gdR t0 (Nat.le_refl _), Nat.sub_self] at c1
    have c1' : N.1 179 (41 + 3 * P.length + 1) = nI x.2.1 := c1
    have hx := (H.2.2.2 x (by rw [hT]; exact List.mem_append_right _ List.mem_cons_self)).2.1
    have ih' : ∀ b, lX12_waits_4 (nI k) N n b (nI (P.length + 1)) = some (b || decide (0 < cK k R)) := fun b => by
      have := ih (P ++ [x]) n b (by rw [hT, List.append_assoc]; rfl) (by omega)
      rw [List.length_append] at this
      exact this
    rw [lX12_waits_4, l_7, ald_n (by omega) (by omega), Option.bind_some, H.2.1, if_neg (pI_nle (by omega) (by omega)), l_41, l_3, nI_ml', nI_ad, l_1, show nI (41 + 3 * P.length) + nI 1 = nI (41 + 3 * P.length + 1) from nI_ad _ 1, ald_n (by omega) (by omega), Option.bind_some, c1', show nI P.length + nI 1 = nI (P.length + 1) from nI_ad _ 1, ih', ih', cK]
    cases a
    · rw [if_neg (by decide)]
      by_cases e : x.2.1 = k
      · rw [if_pos (by rw [e]), if_pos e, decide_eq_true (show 0 < 1 + cK k R by omega)]; rfl
      · rw [if_neg (pI_ne e (by omega) (by omega)), if_neg e, Nat.zero_add]
    · rw [if_pos rfl]; rfl
theorem waits_r {N : Mem} {T : List T3} (H : TBr N T) {k : Nat} (hk : k < 3) : fX12_waits (nI k) N = some (decide (0 < cK k T)) := by
  unfold fX12_waits
  have := waits_l H hk T [] FUEL false rfl (fuel8 (by have := H.1; omega))
  show (lX12_waits_4 (nI k) N FUEL false (nI 0)).bind _ = _
  rw [show lX12_waits_4 (nI k) N FUEL false (nI 0) = _ from this]
  rfl
theorem lo_m {k : Nat} (hk : k < 3) : fX12_lowest (nI k) = some (nI (lo k)) ∧ fX12_highest (nI k) = some (nI (hg k)) := by
  rcases (show k = 0 ∨ k = 1 ∨ k = 2 by omega) with rfl | rfl | rfl <;> decide
theorem kn_1 {N : Mem} {T : List T3} {t j : Nat} (H : TBr N T) (h2 : N.1 179 2 = nI t) (ht : t ≤ 400) (hj : j < 3) (n : Nat) (a : Int32) (b : Bool) : lX12_kindNow_6 N (n + 1) a b (nI j) = lX12_kindNow_6 N n (if 0 < cK j T ∧ lo j ≤ t ∧ t ≤ hg j then nI j else a) (b || decide (0 < cK j T ∧ hg j < t)) (nI j + NG) := by
  obtain ⟨l1, l2, -⟩ := lo_le j
  obtain ⟨e1, e2⟩ := lo_m hj
  have ez : (if decide (0 < cK j T) = true then ((ald (N.1 179) 1601 (2 : Int32)).bind fun v8 => (fX12_lowest (nI j)).bind fun v12 => (fX12_highest (nI j)).bind fun v14 => (fX12_in v8 v12 v14).bind fun b16 => if b16 = true then (some (nI j) : Option Int32) else some a) else some a) = some (if 0 < cK j T ∧ lo j ≤ t ∧ t ≤ hg j then nI j else a) := by
    rw [l_2, ald_n (by omega) (by omega), Option.bind_some, h2, e1, Option.bind_some, e2, Option.bind_some, inn, Option.bind_some]
    by_cases c1 : 0 < cK j T
    · rw [if_pos (decide_eq_true c1)]
      by_cases c2 : lo j ≤ t ∧ t ≤ hg j
      · rw [if_pos (decide_eq_true ⟨pI_le c2.1 (by omega), pI_le c2.2 (by omega)⟩), if_pos ⟨c1, c2⟩]
      · rw [if_neg (by rw [decide_eq_true_eq, mI_le (by omega) (by omega), mI_le (by omega) (by omega)]; exact c2), if_neg (fun q => c2 q.2)]
    · rw [if_neg (by rw [decide_eq_true_eq]; exact c1), if_neg (fun q => c1 q.1)]
  rw [lX12_kindNow_6, l_0, if_neg (pI_nlt (by omega) (by omega)), waits_r H hj, Option.bind_some, ez, Option.bind_some]
  cases b with
  | true => rw [if_pos rfl]; rfl
  | false =>
    rw [if_neg (by decide), Option.bind_some, l_2, ald_n (by omega) (by omega), Option.bind_some, h2, e2, Option.bind_some, Bool.false_or]
    by_cases c1 : 0 < cK j T
    · rw [if_pos (decide_eq_true c1)]
      by_cases c2 : hg j < t
      · rw [if_neg (pI_nle c2 (by omega)), decide_eq_true (show 0 < cK j T ∧ hg j < t from ⟨c1, c2⟩)]; rfl
      · rw [if_pos (pI_le (by omega) (by omega)), decide_eq_false (show ¬ (0 < cK j T ∧ hg j < t) from fun q => c2 q.2)]; rfl
    · rw [if_neg (by rw [decide_eq_true_eq]; exact c1), decide_eq_false (show ¬ (0 < cK j T ∧ hg j < t) from fun q => c1 q.1)]; rfl
theorem kn_r {N : Mem} {T : List T3} {t : Nat} (H : TBr N T) (h2 : N.1 179 2 = nI t) (ht : t ≤ 400) : ∃ r, fX12_kindNow N = some r ∧ ((∃ k, kP t T = some k ∧ r = nI k) ∨ (kP t T = none ∧ hotP t T ∧ r = nI 3) ∨ (kP t T = none ∧ ¬ hotP t T ∧ r = NG)) := by
  unfold fX12_kindNow
  rw [l_2, show FUEL = 99996 + 1 + 1 + 1 + 1 from rfl, kn_1 H h2 ht (by omega), nI_dec (by omega) (by omega), kn_1 H h2 ht (by omega), nI_dec (by omega) (by omega), kn_1 H h2 ht (by omega), show nI (2 - 1 - 1) + NG = NG from by decide, lX12_kindNow_6, if_pos (show NG < 0 from by decide), Option.bind_some]
  simp only [un2, Bool.false_or]
  have hh : ((decide (0 < cK 2 T ∧ hg 2 < t) || decide (0 < cK (2 - 1) T ∧ hg (2 - 1) < t)) || decide (0 < cK (2 - 1 - 1) T ∧ hg (2 - 1 - 1) < t)) = true ↔ hotP t T := by
    simp only [Bool.or_eq_true, decide_eq_true_eq]
    unfold hotP
    show (((0 < cK 2 T ∧ 200 < t) ∨ (0 < cK 1 T ∧ 300 < t)) ∨ (0 < cK 0 T ∧ 400 < t)) ↔ _
    constructor
    · rintro ((q | q) | q)
      · exact Or.inr (Or.inr q)
      · exact Or.inr (Or.inl q)
      · exact Or.inl q
    · rintro (q | q | q)
      · exact Or.inr q
      · exact Or.inl (Or.inr q)
      · exact Or.inl (Or.inl q)
  unfold kP
  show ∃ r, (if (if 0 < cK 0 T ∧ 260 ≤ t ∧ t ≤ 400 then nI 0 else if 0 < cK 1 T ∧ 180 ≤ t ∧ t ≤ 300 then nI 1 else if 0 < cK 2 T ∧ 90 ≤ t ∧ t ≤ 200 then nI 2 else (-1 : Int32)) = -1 then (if _ = true then some 3 else some (-1)) else some (if 0 < cK 0 T ∧ 260 ≤ t ∧ t ≤ 400 then nI 0 else if 0 < cK 1 T ∧ 180 ≤ t ∧ t ≤ 300 then nI 1 else if 0 < cK 2 T ∧ 90 ≤ t ∧ t ≤ 200 then nI 2 else (-1 : Int32))) = some r ∧ _
  by_cases c0 : 0 < cK 0 T ∧ 260 ≤ t ∧ t ≤ 400
  · simp only [if_pos c0]
    exact ⟨nI 0, if_neg (show ¬ nI 0 = NG from nI_ng (by omega)), Or.inl ⟨0, rfl, rfl⟩⟩
  · simp only [if_neg c0]
    by_cases c1 : 0 < cK 1 T ∧ 180 ≤ t ∧ t ≤ 300
    · simp only [if_pos c1]
      exact ⟨nI 1, if_neg (show ¬ nI 1 = NG from nI_ng (by omega)), Or.inl ⟨1, rfl, rfl⟩⟩
    · simp only [if_neg c1]
      by_cases c2 : 0 < cK 2 T ∧ 90 ≤ t ∧ t ≤ 200
      · simp only [if_pos c2]
        exact ⟨nI 2, if_neg (show ¬ nI 2 = NG from nI_ng (by omega)), Or.inl ⟨2, rfl, rfl⟩⟩
      · simp only [if_neg c2, if_true]
        by_cases ch : hotP t T
        · exact ⟨nI 3, if_pos (hh.mpr ch), Or.inr (Or.inl ⟨trivial, ch, rfl⟩)⟩
        · exact ⟨NG, if_neg (fun q => ch (hh.mp q)), Or.inr (Or.inr ⟨trivial, ch, rfl⟩)⟩
