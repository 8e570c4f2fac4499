def fls (p : Nat → Bool) : Nat → Nat → List Nat
  | _, 0 => []
  | j, m + 1 => if p j = true then j :: fls p (j + 1) m else fls p (j + 1) m
def hbq (ρ : Nat → Int32) (i : Nat) : Nat := (ρ (41 + 3 * i)).toNatClampNeg
def rot (h f t : Nat) : Nat := if h ≤ f + t then f + t - h else f + t
def ky (h f x : Nat) : Nat := if f ≤ x then x - f else x + h - f
def al (hb : Nat → Nat) (h f b : Nat) : Nat → Nat → List Nat
  | _, 0 => []
  | t, m + 1 => fls (fun i => decide (hb i = rot h f t)) 0 b ++ al hb h f b (t + 1) m
theorem rot_ky {h f t x : Nat} (hf : f < h) (ht : t < h) (hx : x < h) : rot h f t = x ↔ t = ky h f x := by
  unfold rot ky
  split <;> split <;> omega
theorem ky_lt {h f x : Nat} (hf : f < h) (hx : x < h) : ky h f x < h := by
  unfold ky
  split <;> omega
theorem fl_split (p : Nat → Bool) : ∀ (m j k : Nat), fls p j (m + k) = fls p j m ++ fls p (j + m) k := by
  intro m
  induction m with
  | zero => intro j k; rw [Nat.zero_add]; rfl
  | succ m ih =>
    intro j k
    rw [show m + 1 + k = (m + k) + 1 by omega, fls, fls, ih (j + 1) k, show j + 1 + m = j + (m + 1) by omega]
    split
    · rfl
    · rfl
theorem fl_cg {p q : Nat → Bool} : ∀ (m j : Nat), (∀ i, j ≤ i → i < j + m → p i = q i) → fls p j m = fls q j m := by
  intro m
  induction m with
  | zero => intro j _; rfl
  | succ m ih =>
    intro j h
    rw [fls, fls, h j (by omega) (by omega), ih (j + 1) (fun i h1 h2 => h i (by omega) (by omega))]
theorem fl_mem {p : Nat → Bool} : ∀ (m j i : Nat), i ∈ fls p j m → j ≤ i ∧ i < j + m ∧ p i = true := by
  intro m
  induction m with
  | zero => intro j i h; cases h
  | succ m ih =>
    intro j i h
    rw [fls] at h
    by_cases hp : p j = true
    · rw [if_pos hp] at h
      rcases List.mem_cons.mp h with h | h
      · subst h; exact ⟨Nat.le_refl _, by omega, hp⟩
      · have := ih _ _ h; exact ⟨by omega, by omega, this.2.2⟩
    · rw [if_neg hp] at h
      have := ih _ _ h; exact ⟨by omega, by omega, this.2.2⟩
theorem fl_or {p q r : Nat → Bool} (hr : ∀ i, r i = (p i || q i)) : ∀ (m j : Nat), (∀ i, j ≤ i → i < j + m → ¬ (p i = true ∧ q i = true)) → (fls r j m).length = (fls p j m).length + (fls q j m).length := by
  intro m
  induction m with
  | zero => intro j _; rfl
  | succ m ih =>
    intro j h
    have h1 := ih (j + 1) (fun i h1 h2 => h i (by omega) (by omega))
    have h2 := h j (by omega) (by omega)
    rw [fls, fls, fls, hr j]
    cases hp : p j <;> cases hq : q j
    · simp [h1]
    · simp [h1]; omega
    · simp [h1]; omega
    · exact absurd ⟨hp, hq⟩ h2
theorem fl_none {p : Nat → Bool} : ∀ (m j : Nat), (∀ i, j ≤ i → i < j + m → p i = false) → fls p j m = [] := by
  intro m
  induction m with
  | zero => intro j _; rfl
  | succ m ih =>
    intro j h
    rw [fls, h j (by omega) (by omega), if_neg (by decide), ih (j + 1) (fun i h1 h2 => h i (by omega) (by omega))]
theorem al_end (hb : Nat → Nat) {h f b : Nat} (hf : f < h) (hx : hb b < h) : ∀ (m t : Nat), t + m ≤ h → (al hb h f (b + 1) t m).length = (al hb h f b t m).length + (if t ≤ ky h f (hb b) ∧ ky h f (hb b) < t + m then 1 else 0) := by
  intro m
  induction m with
  | zero => intro t _; rw [al, al, if_neg (by omega)]; rfl
  | succ m ih =>
    intro t ht
    rw [al, al, List.length_append, List.length_append, ih (t + 1) (by omega), show b + 1 = b + 1 from rfl, fl_split _ b 0 1, List.length_append, Nat.zero_add]
    have e : (fls (fun i => decide (hb i = rot h f t)) b 1).length = if t = ky h f (hb b) then 1 else 0 := by
      rw [fls, fls]
      by_cases h1 : hb b = rot h f t
      · rw [if_pos (decide_eq_true h1), if_pos ((rot_ky hf (by omega) hx).mp h1.symm)]; rfl
      · rw [if_neg (by rw [decide_eq_true_eq]; exact h1), if_neg (fun q => h1 ((rot_ky hf (by omega) hx).mpr q).symm)]; rfl
    rw [e]
    by_cases h2 : t = ky h f (hb b)
    · rw [if_pos h2, if_neg (by omega), if_pos (by omega)]; omega
    · rw [if_neg h2]
      by_cases h3 : t + 1 ≤ ky h f (hb b) ∧ ky h f (hb b) < t + 1 + m
      · rw [if_pos h3, if_pos (by omega)]; omega
      · rw [if_neg h3, if_neg (by omega)]; omega
theorem al_zero (hb : Nat → Nat) (h f : Nat) : ∀ (m t : Nat), al hb h f 0 t m = [] := by
  intro m
  induction m with
  | zero => intro t; rfl
  | succ m ih => intro t; rw [al, ih (t + 1)]; rfl
/-- how many come before the turn K -/
theorem al_cnt (hb : Nat → Nat) {h f K : Nat} (hf : f < h) (hK : K ≤ h) : ∀ b, (∀ i, i < b → hb i < h) → (al hb h f b 0 K).length = (fls (fun i => decide (ky h f (hb i) < K)) 0 b).length := by
  intro b
  induction b with
  | zero => intro _; rw [al_zero]; rfl
  | succ b ih =>
    intro hh
    rw [al_end hb hf (hh b (by omega)) K 0 (by omega), ih (fun i hi => hh i (by omega)), fl_split _ b 0 1, List.length_append, Nat.zero_add, fls, fls]
    have e0 : hb (0 + b) = hb b := congrArg hb (Nat.zero_add b)
    by_cases h1 : ky h f (hb b) < K
    · rw [if_pos (by omega), if_pos (decide_eq_true (show ky h f (hb (0 + b)) < K by rw [e0]; exact h1))]; rfl
    · rw [if_neg (by omega), if_neg (by rw [decide_eq_true_eq]; show ¬ ky h f (hb (0 + b)) < K; rw [e0]; exact h1)]; rfl
theorem fl_all {p : Nat → Bool} : ∀ (m j : Nat), (∀ i, j ≤ i → i < j + m → p i = true) → (fls p j m).length = m := by
  intro m
  induction m with
  | zero => intro j _; rfl
  | succ m ih =>
    intro j h
    rw [fls, if_pos (h j (by omega) (by omega)), List.length_cons, ih (j + 1) (fun i h1 h2 => h i (by omega) (by omega))]
theorem al_len (hb : Nat → Nat) {h f b : Nat} (hf : f < h) (hh : ∀ i, i < b → hb i < h) : (al hb h f b 0 h).length = b := by
  rw [al_cnt hb hf (Nat.le_refl _) b hh]
  exact fl_all b 0 fun i _ hi => decide_eq_true (ky_lt hf (hh i (by omega)))
theorem al_split (hb : Nat → Nat) (h f b : Nat) : ∀ (m t k : Nat), al hb h f b t (m + k) = al hb h f b t m ++ al hb h f b (t + m) k := by
  intro m
  induction m with
  | zero => intro t k; rw [Nat.zero_add]; rfl
  | succ m ih =>
    intro t k
    rw [show m + 1 + k = (m + k) + 1 by omega, al, al, ih (t + 1) k, show t + 1 + m = t + (m + 1) by omega, List.append_assoc]
theorem al_mem (hb : Nat → Nat) (h f b : Nat) : ∀ (m t i : Nat), i ∈ al hb h f b t m → i < b ∧ ∃ u, t ≤ u ∧ u < t + m ∧ hb i = rot h f u := by
  intro m
  induction m with
  | zero => intro t i h; cases h
  | succ m ih =>
    intro t i hi
    rw [al] at hi
    rcases List.mem_append.mp hi with h1 | h1
    · have := fl_mem _ _ _ h1
      exact ⟨by omega, t, by omega, by omega, of_decide_eq_true this.2.2⟩
    · obtain ⟨h2, u, h3, h4, h5⟩ := ih _ _ h1
      exact ⟨h2, u, by omega, by omega, h5⟩
/-- the plan's order in the memory -/
def OR (M : Mem) (O : List Nat) : Prop := M.1 33 4 = nI O.length ∧ ∀ p, p < O.length → M.1 34 p = nI (O.getD p 0)
theorem OR.cg {M M' : Mem} {O : List Nat} (H : OR M O) (h1 : M'.1 33 4 = M.1 33 4) (h2 : ∀ p, M'.1 34 p = M.1 34 p) : OR M' O := ⟨h1.trans H.1, fun p hp => (h2 p).trans (H.2 p hp)⟩
theorem OR.snoc {M : Mem} {O : List Nat} (H : OR M O) (x : Nat) : OR (mput (mput M 34 O.length (nI x)) 33 4 (nI (O.length + 1))) (O ++ [x]) := by
  refine ⟨by rw [mput_at, if_pos ⟨rfl, rfl⟩, List.length_append]; rfl, fun p hp => ?_⟩
  rw [List.length_append] at hp
  rw [mput_at, if_neg (by omega), mput_at]
  by_cases e : p = O.length
  · subst e
    rw [if_pos ⟨rfl, rfl⟩, List.getD_eq_getElem?_getD, List.getElem?_append_right (by omega), Nat.sub_self]; rfl
  · rw [if_neg (fun q => e q.2), List.getD_eq_getElem?_getD, List.getElem?_append_left (by simp only [List.length_cons, List.length_nil] at hp; omega), ← List.getD_eq_getElem?_getD]
    exact H.2 p (by simp only [List.length_cons, List.length_nil] at hp; omega)
theorem bq_h {ρ : Nat → Int32} {h b i : Nat} (hh : h ≤ 8) (W : RB ρ h b) (hi : i < b) : ρ (41 + 3 * i) = nI (hbq ρ i) ∧ hbq ρ i < h := by
  obtain ⟨⟨a, ha, e⟩, -⟩ := W i hi
  unfold hbq
  rw [e, mI_tc (by omega)]
  exact ⟨rfl, ha⟩
theorem arr_in {ρ : Nat → Int32} {h b z : Nat} (hh : h ≤ 8) (hz : z < 8) (W : RB ρ h b) : ∀ (m j n : Nat) (M : Mem) (O : List Nat), BB M ρ b → OR M O → j + m = b → m < n → O.length + (fls (fun i => decide (hbq ρ i = z)) j m).length ≤ 20 → ∃ M', lX3_arrange_40 9 (nI z) n (nI j) M = some M' ∧ OR M' (O ++ fls (fun i => decide (hbq ρ i = z)) j m) ∧ (∀ q x, q ≠ 34 → ¬ (q = 33 ∧ x = 4) → M'.1 q x = M.1 q x) ∧ M'.2 = M.2 := by
  intro m
  induction m with
  | zero =>
    intro j n M O B H h1 h2 h3
    obtain ⟨n, rfl⟩ : ∃ n', n = n' + 1 := ⟨n - 1, by omega⟩
    have hb := B.1
    refine ⟨M, ?_, by rw [fls, List.append_nil]; exact H, fun _ _ _ _ => rfl, rfl⟩
    rw [lX3_arrange_40]
    unfold fX1_size
    rw [Option.bind_some, B.2.1, if_pos (pI_le (by omega) (by omega))]
  | succ m ih =>
    intro j n M O B H h1 h2 h3
    obtain ⟨n, rfl⟩ : ∃ n', n = n' + 1 := ⟨n - 1, by omega⟩
    have hb := B.1
    have hv : fX1_value 9 (nI j) 0 M = some (nI (hbq ρ j)) := by
      unfold fX1_value
      show (fX7_get 10 3 20 (nI j) (nI 0) M).bind _ = _
      rw [B.gt (by omega) (by omega), Nat.add_zero, (bq_h hh W (show j < b by omega)).1]; rfl
    have hj8 := (bq_h hh W (show j < b by omega)).2
    by_cases h20 : O.length = 20
    · have e0 : fls (fun i => decide (hbq ρ i = z)) j (m + 1) = [] := List.length_eq_zero_iff.mp (by omega)
      refine ⟨M, ?_, by rw [e0, List.append_nil]; exact H, fun _ _ _ _ => rfl, rfl⟩
      rw [lX3_arrange_40]
      unfold fX1_size
      rw [Option.bind_some, B.2.1, if_neg (pI_nle (by omega) (by omega)), H.1, l_20, if_pos (pI_le (by omega) (by omega))]
    · have e1 : lX3_arrange_40 9 (nI z) (n + 1) (nI j) M = if nI (hbq ρ j) = nI z then lX3_arrange_40 9 (nI z) n (nI (j + 1)) (mput (mput M 34 O.length (nI j)) 33 4 (nI (O.length + 1))) else lX3_arrange_40 9 (nI z) n (nI (j + 1)) M := by
        rw [lX3_arrange_40]
        unfold fX1_size
        rw [Option.bind_some, B.2.1, if_neg (pI_nle (by omega) (by omega)), H.1, l_20, if_neg (pI_nle (by omega) (by omega)), hv, Option.bind_some, ast_n (by omega) (by omega), Option.bind_some]
        unfold pf
        rw [Option.bind_some, show (mput M 34 O.length (nI j)).1 33 4 = nI O.length from by rw [mput_at, if_neg (by omega)]; exact H.1, l_1, nI_ad, nI_ad]
      rw [fls] at h3 ⊢
      by_cases hp : hbq ρ j = z
      · rw [if_pos (decide_eq_true hp), List.length_cons] at h3
        rw [if_pos (decide_eq_true hp)]
        obtain ⟨M', a1, a2, a3, a4⟩ := ih (j + 1) n _ (O ++ [j]) (B.cg (M' := mput (mput M 34 O.length (nI j)) 33 4 (nI (O.length + 1))) (fun q x _ _ => by rw [mput_at, if_neg (by omega), mput_at, if_neg (by omega)]) (fun _ _ _ => rfl)) (H.snoc j) (by omega) (by omega) (by rw [List.length_append]; simp only [List.length_cons, List.length_nil]; omega)
        refine ⟨M', by rw [e1, if_pos (by rw [hp])]; exact a1, ?_, fun q x h4 h5 => ?_, a4⟩
        · rw [List.append_assoc] at a2; exact a2
        · rw [a3 q x h4 h5, mput_at, if_neg h5, mput_at, if_neg (fun w => h4 w.1)]
      · rw [if_neg (by rw [decide_eq_true_eq]; exact hp)] at h3
        rw [if_neg (by rw [decide_eq_true_eq]; exact hp)]
        obtain ⟨M', a1, a2, a3, a4⟩ := ih (j + 1) n M O B H (by omega) (by omega) h3
        exact ⟨M', by rw [e1, if_neg (pI_ne hp (by omega) (by omega))]; exact a1, a2, a3, a4⟩
theorem arr_out {ρ : Nat → Int32} {h b f : Nat} (hh : h ≤ 8) (hf : f < h) (W : RB ρ h b) : ∀ (m t n : Nat) (M : Mem) (O : List Nat), BB M ρ b → OR M O → t + m = h → m < n → O.length + (al (hbq ρ) h f b t m).length ≤ 20 → ∃ M', lX3_arrange_8 9 (nI h) (nI f) n (nI t) M = some M' ∧ OR M' (O ++ al (hbq ρ) h f b t m) ∧ (∀ q x, q ≠ 34 → ¬ (q = 33 ∧ x = 4) → M'.1 q x = M.1 q x) ∧ M'.2 = M.2 := by
  intro m
  induction m with
  | zero =>
    intro t n M O B H h1 h2 h3
    obtain ⟨n, rfl⟩ : ∃ n', n = n' + 1 := ⟨n - 1, by omega⟩
    refine ⟨M, ?_, by rw [al, List.append_nil]; exact H, fun _ _ _ _ => rfl, rfl⟩
    rw [lX3_arrange_8, if_pos (pI_le (by omega) (by omega))]
  | succ m ih =>
    intro t n M O B H h1 h2 h3
    obtain ⟨n, rfl⟩ : ∃ n', n = n' + 1 := ⟨n - 1, by omega⟩
    have hb := B.1
    rw [al] at h3 ⊢
    rw [List.length_append] at h3
    have hr : rot h f t < 8 := by unfold rot; split <;> omega
    have er : (if nI h ≤ nI f + nI t then (some (nI f + nI t - nI h) : Option Int32) else some (nI f + nI t)) = some (nI (rot h f t)) := by
      rw [nI_ad]
      unfold rot
      by_cases h4 : h ≤ f + t
      · rw [if_pos (pI_le h4 (by omega)), if_pos h4, mI_sb h4 (by omega)]
      · rw [if_neg (pI_nle (by omega) (by omega)), if_neg h4]
    obtain ⟨M1, a1, a2, a3, a4⟩ := arr_in hh hr W b 0 FUEL M O B H (by omega) (fuel8 (by omega)) (by omega)
    obtain ⟨M2, b1, b2, b3, b4⟩ := ih (t + 1) n M1 _ (B.cg (fun q x _ _ => a3 q x (by omega) (by omega)) (fun _ _ _ => rfl)) a2 (by omega) (by omega) (by rw [List.length_append]; omega)
    refine ⟨M2, ?_, by rw [List.append_assoc] at b2; exact b2, fun q x h4 h5 => (b3 q x h4 h5).trans (a3 q x h4 h5), b4.trans a4⟩
    rw [lX3_arrange_8, if_neg (pI_nle (by omega) (by omega)), er, Option.bind_some, l_0, a1, Option.bind_some, l_1, nI_ad]
    exact b1
/-- the baking order of the next day -/
def Od (ρ : Nat → Int32) (h f b : Nat) : List Nat := al (hbq ρ) h f b 0 h
theorem Od_len {ρ : Nat → Int32} {h f b : Nat} (hh : h ≤ 8) (hf : f < h) (W : RB ρ h b) : (Od ρ h f b).length = b := al_len _ hf fun i hi => (bq_h hh W hi).2
theorem arrange_ok {M : Mem} {ρ : Nat → Int32} {h b g c f : Nat} (V : Vi M ρ h b g c) (W : Wr ρ h b c) (hb0 : 0 < h) (hn : nxt ρ h = some f) (hf : f < h) : ∃ M', fX9_arrangeNextDay 1 M = some M' ∧ OR M' (Od ρ h f b) ∧ (∀ q x, q ≠ 34 → ¬ (q = 33 ∧ x = 4) → M'.1 q x = M.1 q x) ∧ M'.2 = M.2 := by
  obtain ⟨H, B, G, L, S⟩ := V
  have hh := H.1
  have hb := B.1
  have B1 : BB (mput M 33 4 0) ρ b := B.cg (fun q x _ _ => by rw [mput_at, if_neg (by omega)]) (fun _ _ _ => rfl)
  have O1 : OR (mput M 33 4 0) [] := ⟨by rw [mput_at, if_pos ⟨rfl, rfl⟩]; rfl, fun p hp => absurd hp (by simp)⟩
  have hl : (al (hbq ρ) h f b 0 h).length = b := Od_len hh hf W.2.1
  obtain ⟨M', a1, a2, a3, a4⟩ := arr_out hh hf W.2.1 h 0 FUEL _ [] B1 O1 (by omega) (fuel8 (by omega)) (by simp only [List.length_nil]; omega)
  refine ⟨M', ?_, a2, fun q x h1 h2 => by rw [a3 q x h1 h2, mput_at, if_neg h2], a4⟩
  unfold fX9_arrangeNextDay fX4_size
  show (some (M.1 2 1)).bind _ = _
  rw [Option.bind_some, show fX4_nextOne (1 + 1) M = some (enc (nxt ρ h)) from H.next W.1, Option.bind_some, H.2.1, hn]
  unfold fX3_arrange pf
  rw [Option.bind_some]
  show ((lX3_arrange_8 9 (nI h) (nI f) FUEL (nI 0) (mput M 33 4 0)).bind _).bind _ = _
  rw [a1]; rfl
theorem app_at (A Q : List Nat) (x : Nat) : (A ++ x :: Q).getD A.length 0 = x := by
  rw [List.getD_eq_getElem?_getD, List.getElem?_append_right (by omega), Nat.sub_self]; rfl
theorem app_ne {A B : List Nat} {x p : Nat} (hx : x ∉ A) (hp : p < A.length) : (A ++ B).getD p 0 ≠ x := by
  rw [List.getD_eq_getElem?_getD, List.getElem?_append_left hp, List.getElem?_eq_getElem hp]
  intro q
  exact hx (q ▸ List.getElem_mem hp)
theorem batchAt_n {M : Mem} {O : List Nat} {j : Nat} (H : OR M O) (hO : O.length ≤ 20) (hj : j < O.length) : fX3_batchAt (nI j) M = some (nI (O.getD j 0)) := by
  unfold fX3_batchAt
  rw [H.1, l_0, if_neg (pI_nlt (by omega) (by omega)), if_neg (pI_nle hj (by omega)), l_20, if_neg (pI_nle (by omega) (by omega)), ald_n (by omega) (by omega), Option.bind_some, H.2 j hj]
theorem place_l {M : Mem} {O : List Nat} {x K : Nat} (H : OR M O) (hO : O.length ≤ 20) (hK : K < O.length) (hx : x < 100) (hb : ∀ p, p < O.length → O.getD p 0 < 100) (e1 : O.getD K 0 = x) (e2 : ∀ p, p < K → O.getD p 0 ≠ x) : ∀ (m j n : Nat), j + m = K → m < n → lX3_placeOf_2 (nI x) M n (nI j) = some (Sum.inl (nI K)) := by
  intro m
  induction m with
  | zero =>
    intro j n h1 h2
    obtain ⟨n, rfl⟩ : ∃ n', n = n' + 1 := ⟨n - 1, by omega⟩
    obtain rfl : j = K := by omega
    rw [lX3_placeOf_2, H.1, if_neg (pI_nle hK (by omega)), batchAt_n H hO hK, Option.bind_some, e1, if_pos rfl]
  | succ m ih =>
    intro j n h1 h2
    obtain ⟨n, rfl⟩ : ∃ n', n = n' + 1 := ⟨n - 1, by omega⟩
    have := hb j (by omega)
    rw [lX3_placeOf_2, H.1, if_neg (pI_nle (by omega) (by omega)), batchAt_n H hO (by omega), Option.bind_some, if_neg (pI_ne (e2 j (by omega)) (by omega) (by omega)), l_1, nI_ad, ih (j + 1) n (by omega) (by omega)]
/-- where batch x stands in the baking order -/
def pos (hb : Nat → Nat) (h f b x : Nat) : Nat := (al hb h f b 0 (ky h f (hb x))).length + (fls (fun i => decide (hb i = hb x)) 0 x).length
theorem Od_at (hb : Nat → Nat) {h f b x : Nat} (hf : f < h) (hh : ∀ i, i < b → hb i < h) (hx : x < b) : pos hb h f b x < b ∧ (al hb h f b 0 h).getD (pos hb h f b x) 0 = x ∧ ∀ p, p < pos hb h f b x → (al hb h f b 0 h).getD p 0 ≠ x := by
  have hk := ky_lt hf (hh x hx)
  obtain ⟨k, ek⟩ : ∃ k, k = ky h f (hb x) := ⟨_, rfl⟩
  have er : rot h f k = hb x := by rw [ek]; exact (rot_ky hf hk (hh x hx)).mpr rfl
  have e1 : al hb h f b 0 h = (al hb h f b 0 k ++ fls (fun i => decide (hb i = hb x)) 0 x) ++ x :: (fls (fun i => decide (hb i = hb x)) (x + 1) (b - x - 1) ++ al hb h f b (k + 1) (h - k - 1)) := by
    have h1 := al_split hb h f b k 0 (1 + (h - k - 1))
    rw [show k + (1 + (h - k - 1)) = h by omega, Nat.zero_add, Nat.add_comm 1, al, er] at h1
    have h2 := fl_split (fun i => decide (hb i = hb x)) x 0 ((b - x - 1) + 1)
    rw [show x + (b - x - 1 + 1) = b by omega, Nat.zero_add, fls, if_pos (decide_eq_true rfl)] at h2
    rw [h1, h2]
    simp only [List.append_assoc, List.cons_append]
  have hx2 : x ∉ al hb h f b 0 k ++ fls (fun i => decide (hb i = hb x)) 0 x := by
    intro q
    rcases List.mem_append.mp q with q | q
    · obtain ⟨-, u, u1, u2, u3⟩ := al_mem _ _ _ _ _ _ _ q
      have := (rot_ky hf (show u < h by omega) (hh x hx)).mp u3.symm
      omega
    · have := fl_mem _ _ _ q
      omega
  have el : pos hb h f b x = (al hb h f b 0 k ++ fls (fun i => decide (hb i = hb x)) 0 x).length := by
    rw [List.length_append, ek]; rfl
  have hl := al_len hb hf hh
  refine ⟨?_, ?_, fun p hp => ?_⟩
  · have hl2 := congrArg List.length e1
    rw [hl, List.length_append, ← el, List.length_cons] at hl2
    omega
  · rw [el, e1]; exact app_at _ _ _
  · rw [e1]; exact app_ne hx2 (by rw [← el]; exact hp)
theorem Od_lt {ρ : Nat → Int32} {h f b p : Nat} (hp : p < (Od ρ h f b).length) : (Od ρ h f b).getD p 0 < b := by
  rw [List.getD_eq_getElem?_getD, List.getElem?_eq_getElem hp]
  exact (al_mem _ _ _ _ _ _ _ (List.getElem_mem hp)).1
/-- what the reference counts -/
theorem pos_cnt (hb : Nat → Nat) {h f b x : Nat} (hf : f < h) (hh : ∀ i, i < b → hb i < h) (hx : x < b) : pos hb h f b x = (fls (fun i => decide (ky h f (hb i) < ky h f (hb x)) || (decide (ky h f (hb i) = ky h f (hb x)) && decide (i < x))) 0 b).length := by
  have h1 := fl_or (p := fun i => decide (ky h f (hb i) < ky h f (hb x))) (q := fun i => decide (ky h f (hb i) = ky h f (hb x)) && decide (i < x)) (r := fun i => decide (ky h f (hb i) < ky h f (hb x)) || (decide (ky h f (hb i) = ky h f (hb x)) && decide (i < x))) (fun i => rfl) b 0 (fun i _ _ q => by
    have q1 := of_decide_eq_true q.1
    have q2 := q.2
    rw [Bool.and_eq_true] at q2
    have := of_decide_eq_true q2.1
    omega)
  rw [h1]
  unfold pos
  rw [al_cnt hb hf (Nat.le_of_lt (ky_lt hf (hh x hx))) b hh]
  congr 1
  have h2 := fl_split (fun i => decide (ky h f (hb i) = ky h f (hb x)) && decide (i < x)) x 0 (b - x)
  rw [show x + (b - x) = b by omega, Nat.zero_add] at h2
  rw [h2, fl_none (b - x) x (fun i h3 h4 => by rw [decide_eq_false (show ¬ i < x by omega), Bool.and_false]), List.append_nil]
  congr 1
  refine fl_cg x 0 fun i _ hi => ?_
  rw [decide_eq_true (show i < x by omega), Bool.and_true]
  have hi2 := hh i (by omega)
  have hx2 := hh x hx
  by_cases e : hb i = hb x
  · rw [decide_eq_true e, decide_eq_true (by rw [e])]
  · rw [decide_eq_false e, decide_eq_false]
    intro q
    unfold ky at q
    split at q <;> split at q <;> omega
abbrev T3 : Type := Nat × Nat × Nat
def gT (p : T3 → Bool) : Nat → List T3 → List T3
  | _, [] => []
  | r, x :: W => if p x = true ∧ x.2.2 ≤ r then x :: gT p (r - x.2.2) W else gT p r W
def gR (p : T3 → Bool) : Nat → List T3 → List T3
  | _, [] => []
  | r, x :: W => if p x = true ∧ x.2.2 ≤ r then gR p (r - x.2.2) W else x :: gR p r W
def gN (p : T3 → Bool) : Nat → List T3 → Nat
  | r, [] => r
  | r, x :: W => if p x = true ∧ x.2.2 ≤ r then gN p (r - x.2.2) W else gN p r W
def fz (z : Nat) : List T3 → List T3
  | [] => []
  | x :: W => if x.1 = z then x :: fz z W else fz z W
def pK (k : Nat) : T3 → Bool := fun x => decide (x.2.1 = k)
def pZ (z k : Nat) : T3 → Bool := fun x => decide (x.1 = z) && decide (x.2.1 = k)
theorem g_app (p : T3 → Bool) : ∀ (A B : List T3) (r : Nat), gT p r (A ++ B) = gT p r A ++ gT p (gN p r A) B ∧ gR p r (A ++ B) = gR p r A ++ gR p (gN p r A) B ∧ gN p r (A ++ B) = gN p (gN p r A) B := by
  intro A
  induction A with
  | nil => intro B r; exact ⟨rfl, rfl, rfl⟩
  | cons x A ih =>
    intro B r
    simp only [List.cons_append, gT, gR, gN]
    by_cases h : p x = true ∧ x.2.2 ≤ r
    · simp only [if_pos h]
      obtain ⟨h1, h2, h3⟩ := ih B (r - x.2.2)
      exact ⟨by rw [h1]; rfl, h2, h3⟩
    · simp only [if_neg h]
      obtain ⟨h1, h2, h3⟩ := ih B r
      exact ⟨h1, by rw [h2]; rfl, h3⟩
theorem g_z (z k : Nat) : ∀ (T : List T3) (r : Nat), gT (pZ z k) r T = gT (pK k) r (fz z T) ∧ fz z (gR (pZ z k) r T) = gR (pK k) r (fz z T) ∧ gN (pZ z k) r T = gN (pK k) r (fz z T) := by
  intro T
  induction T with
  | nil => intro r; exact ⟨rfl, rfl, rfl⟩
  | cons x T ih =>
    intro r
    by_cases hz : x.1 = z
    · have ep : pZ z k x = pK k x := by simp [pZ, pK, hz]
      simp only [gT, gR, gN, fz, if_pos hz, ep]
      by_cases h : pK k x = true ∧ x.2.2 ≤ r
      · simp only [if_pos h]
        obtain ⟨h1, h2, h3⟩ := ih (r - x.2.2)
        exact ⟨by rw [h1], h2, h3⟩
      · simp only [if_neg h, fz, if_pos hz]
        obtain ⟨h1, h2, h3⟩ := ih r
        exact ⟨h1, by rw [h2], h3⟩
    · have ep : ¬ (pZ z k x = true ∧ x.2.2 ≤ r) := by simp [pZ, hz]
      simp only [gT, gR, gN, fz, if_neg hz, if_neg ep]
      exact ih r
theorem g_o {z y : Nat} (k : Nat) (hzy : y ≠ z) : ∀ (T : List T3) (r : Nat), fz y (gR (pZ z k) r T) = fz y T := by
  intro T
  induction T with
  | nil => intro r; rfl
  | cons x T ih =>
    intro r
    simp only [gR]
    by_cases h : pZ z k x = true ∧ x.2.2 ≤ r
    · have hz : x.1 = z := by
        have := h.1
        simp only [pZ, Bool.and_eq_true, decide_eq_true_eq] at this
        exact this.1
      simp only [if_pos h, fz, if_neg (show ¬ x.1 = y from fun q => hzy (q.symm.trans hz))]
      exact ih _
    · simp only [if_neg h, fz, ih r]
def aT (h f : Nat) : Nat → Nat → List T3 → List T3
  | 0, _, _ => []
  | m + 1, t, T => fz (rot h f t) T ++ aT h f m (t + 1) T
def fa (h f k : Nat) : Nat → Nat → Nat → List T3 → List T3 × List T3 × Nat
  | 0, _, r, T => ([], T, r)
  | m + 1, t, r, T => (gT (pZ (rot h f t) k) r T ++ (fa h f k m (t + 1) (gN (pZ (rot h f t) k) r T) (gR (pZ (rot h f t) k) r T)).1, (fa h f k m (t + 1) (gN (pZ (rot h f t) k) r T) (gR (pZ (rot h f t) k) r T)).2)
theorem rot_lt {h f t : Nat} (hf : f < h) (ht : t < h) : rot h f t < h := by unfold rot; split <;> omega
theorem rot_in {h f t u : Nat} (hf : f < h) (ht : t < h) (hu : u < h) (e : rot h f t = rot h f u) : t = u := by
  unfold rot at e
  split at e <;> split at e <;> omega
theorem aT_cg {h f : Nat} {T T' : List T3} : ∀ (m t : Nat), (∀ u, t ≤ u → u < t + m → fz (rot h f u) T' = fz (rot h f u) T) → aT h f m t T' = aT h f m t T := by
  intro m
  induction m with
  | zero => intro t _; rfl
  | succ m ih =>
    intro t hu
    rw [aT, aT, hu t (by omega) (by omega), ih (t + 1) (fun u h1 h2 => hu u (by omega) (by omega))]
theorem fa_ok {h f k : Nat} (hf : f < h) : ∀ (m t r : Nat) (T : List T3), t + m ≤ h → (fa h f k m t r T).1 = gT (pK k) r (aT h f m t T) ∧ aT h f m t (fa h f k m t r T).2.1 = gR (pK k) r (aT h f m t T) ∧ (fa h f k m t r T).2.2 = gN (pK k) r (aT h f m t T) ∧ ∀ z, (∀ u, t ≤ u → u < t + m → rot h f u ≠ z) → fz z (fa h f k m t r T).2.1 = fz z T := by
  intro m
  induction m with
  | zero => intro t r T _; exact ⟨rfl, rfl, rfl, fun z _ => rfl⟩
  | succ m ih =>
    intro t r T ht
    obtain ⟨a1, a2, a3, a4⟩ := ih (t + 1) (gN (pZ (rot h f t) k) r T) (gR (pZ (rot h f t) k) r T) (by omega)
    obtain ⟨b1, b2, b3⟩ := g_z (rot h f t) k T r
    have ec : aT h f m (t + 1) (gR (pZ (rot h f t) k) r T) = aT h f m (t + 1) T := aT_cg m (t + 1) fun u h1 h2 => g_o k (fun q => by have := rot_in hf (by omega) (by omega) q; omega) T r
    rw [ec] at a1 a2 a3
    obtain ⟨c1, c2, c3⟩ := g_app (pK k) (fz (rot h f t) T) (aT h f m (t + 1) T) r
    rw [← b3] at c1 c2 c3
    refine ⟨?_, ?_, ?_, fun z hz => ?_⟩
    · rw [fa, aT, c1, a1, b1]
    · rw [fa, aT, aT, c2]
      dsimp only
      rw [a2, a4 (rot h f t) (fun u h1 h2 q => by have := rot_in hf (by omega) (by omega) q; omega), b2]
    · rw [fa, aT, c3]
      exact a3
    · rw [fa]
      dsimp only
      rw [a4 z (fun u h1 h2 => hz u (by omega) (by omega))]
      exact g_o k (fun q => hz t (by omega) (by omega) q.symm) T r
def tb (tr : Nat → T3) : Nat → Nat → List T3
  | _, 0 => []
  | j, m + 1 => tr j :: tb tr (j + 1) m
def sl (q : Nat → Bool) (tr : Nat → T3) : Nat → Nat → List T3
  | _, 0 => []
  | j, m + 1 => if q j = true then tr j :: sl q tr (j + 1) m else sl q tr (j + 1) m
theorem fz_tb (tr : Nat → T3) (z : Nat) : ∀ (m j : Nat), fz z (tb tr j m) = (fls (fun i => decide ((tr i).1 = z)) j m).map tr := by
  intro m
  induction m with
  | zero => intro j; rfl
  | succ m ih =>
    intro j
    rw [tb, fz, fls, ih (j + 1)]
    by_cases h : (tr j).1 = z
    · rw [if_pos h, if_pos (decide_eq_true h)]; rfl
    · rw [if_neg h, if_neg (by rw [decide_eq_true_eq]; exact h)]
theorem aT_tb (tr : Nat → T3) (h f b : Nat) : ∀ (m t : Nat), aT h f m t (tb tr 0 b) = (al (fun i => (tr i).1) h f b t m).map tr := by
  intro m
  induction m with
  | zero => intro t; rfl
  | succ m ih =>
    intro t
    rw [aT, al, ih (t + 1), fz_tb, List.map_append]
theorem tb_len (tr : Nat → T3) : ∀ (m j : Nat), (tb tr j m).length = m := by
  intro m
  induction m with
  | zero => intro j; rfl
  | succ m ih => intro j; rw [tb, List.length_cons, ih]
theorem tb_cons (g : Nat → T3) (x : Nat) (O : List Nat) : ∀ (m j : Nat), tb (fun p => g ((x :: O).getD p 0)) (j + 1) m = tb (fun p => g (O.getD p 0)) j m := by
  intro m
  induction m with
  | zero => intro j; rfl
  | succ m ih => intro j; rw [tb, tb, ih (j + 1)]; rfl
theorem tb_map (g : Nat → T3) : ∀ (O : List Nat), tb (fun p => g (O.getD p 0)) 0 O.length = O.map g := by
  intro O
  induction O with
  | nil => rfl
  | cons x O ih => rw [List.length_cons, tb, tb_cons, ih]; rfl
theorem sl_all {q : Nat → Bool} (tr : Nat → T3) : ∀ (m j : Nat), (∀ i, j ≤ i → i < j + m → q i = true) → sl q tr j m = tb tr j m := by
  intro m
  induction m with
  | zero => intro j _; rfl
  | succ m ih =>
    intro j h
    rw [sl, tb, if_pos (h j (by omega) (by omega)), ih (j + 1) (fun i h1 h2 => h i (by omega) (by omega))]
theorem sl_none {q : Nat → Bool} (tr : Nat → T3) : ∀ (m j : Nat), (∀ i, j ≤ i → i < j + m → q i = false) → sl q tr j m = [] := by
  intro m
  induction m with
  | zero => intro j _; rfl
  | succ m ih =>
    intro j h
    rw [sl, h j (by omega) (by omega), if_neg (by decide), ih (j + 1) (fun i h1 h2 => h i (by omega) (by omega))]
theorem sl_cg {q q' : Nat → Bool} (tr : Nat → T3) : ∀ (m j : Nat), (∀ i, j ≤ i → i < j + m → q i = q' i) → sl q tr j m = sl q' tr j m := by
  intro m
  induction m with
  | zero => intro j _; rfl
  | succ m ih =>
    intro j h
    rw [sl, sl, h j (by omega) (by omega), ih (j + 1) (fun i h1 h2 => h i (by omega) (by omega))]
/-- sums and counts -/
def sz : List T3 → Nat
  | [] => 0
  | x :: W => x.2.2 + sz W
def cK (k : Nat) : List T3 → Nat
  | [] => 0
  | x :: W => (if x.2.1 = k then 1 else 0) + cK k W
theorem sz_app : ∀ (A B : List T3), sz (A ++ B) = sz A + sz B := by
  intro A
  induction A with
  | nil => intro B; rw [List.nil_append, sz, Nat.zero_add]
  | cons x A ih => intro B; rw [List.cons_append, sz, sz, ih, Nat.add_assoc]
theorem cK_app (k : Nat) : ∀ (A B : List T3), cK k (A ++ B) = cK k A + cK k B := by
  intro A
  induction A with
  | nil => intro B; rw [List.nil_append, cK, Nat.zero_add]
  | cons x A ih => intro B; rw [List.cons_append, cK, cK, ih, Nat.add_assoc]
theorem g_sum (p : T3 → Bool) : ∀ (W : List T3) (r : Nat), gN p r W + sz (gT p r W) = r ∧ sz (gT p r W) + sz (gR p r W) = sz W ∧ (gT p r W).length + (gR p r W).length = W.length := by
  intro W
  induction W with
  | nil => intro r; exact ⟨rfl, rfl, rfl⟩
  | cons x W ih =>
    intro r
    simp only [gT, gR, gN]
    by_cases h : p x = true ∧ x.2.2 ≤ r
    · simp only [if_pos h, sz, List.length_cons]
      obtain ⟨h1, h2, h3⟩ := ih (r - x.2.2)
      have := h.2
      omega
    · simp only [if_neg h, sz, List.length_cons]
      obtain ⟨h1, h2, h3⟩ := ih r
      omega
theorem g_cnt (k : Nat) : ∀ (W : List T3) (r : Nat), cK k (gR (pK k) r W) + (gT (pK k) r W).length = cK k W := by
  intro W
  induction W with
  | nil => intro r; rfl
  | cons x W ih =>
    intro r
    simp only [gT, gR]
    by_cases h : pK k x = true ∧ x.2.2 ≤ r
    · have hk : x.2.1 = k := by have := h.1; simp only [pK, decide_eq_true_eq] at this; exact this
      simp only [if_pos h, cK, if_pos hk, List.length_cons]
      have := ih (r - x.2.2)
      omega
    · simp only [if_neg h, cK]
      have := ih r
      omega
theorem g_oth {k j : Nat} (hj : j ≠ k) : ∀ (W : List T3) (r : Nat), cK j (gR (pK k) r W) = cK j W := by
  intro W
  induction W with
  | nil => intro r; rfl
  | cons x W ih =>
    intro r
    simp only [gR]
    by_cases h : pK k x = true ∧ x.2.2 ≤ r
    · have hk : x.2.1 = k := by have := h.1; simp only [pK, decide_eq_true_eq] at this; exact this
      simp only [if_pos h, cK, if_neg (show ¬ x.2.1 = j from fun q => hj (q.symm.trans hk)), Nat.zero_add]
      exact ih _
    · simp only [if_neg h, cK, ih r]
/-- each element of what is taken or left is one of those that waited -/
theorem gT_mem {p : T3 → Bool} : ∀ (W : List T3) (r : Nat) (x : T3), x ∈ gT p r W → x ∈ W ∧ p x = true := by
  intro W
  induction W with
  | nil => intro r x h; cases h
  | cons y W ih =>
    intro r x h
    simp only [gT] at h
    by_cases hc : p y = true ∧ y.2.2 ≤ r
    · rw [if_pos hc] at h
      rcases List.mem_cons.mp h with h | h
      · subst h; exact ⟨List.mem_cons_self, hc.1⟩
      · exact ⟨List.mem_cons_of_mem _ (ih _ _ h).1, (ih _ _ h).2⟩
    · rw [if_neg hc] at h
      exact ⟨List.mem_cons_of_mem _ (ih _ _ h).1, (ih _ _ h).2⟩
theorem gR_mem {p : T3 → Bool} : ∀ (W : List T3) (r : Nat) (x : T3), x ∈ gR p r W → x ∈ W := by
  intro W
  induction W with
  | nil => intro r x h; cases h
  | cons y W ih =>
    intro r x h
    simp only [gR] at h
    by_cases hc : p y = true ∧ y.2.2 ≤ r
    · rw [if_pos hc] at h
      exact List.mem_cons_of_mem _ (ih _ _ h)
    · rw [if_neg hc] at h
      rcases List.mem_cons.mp h with h | h
      · subst h; exact List.mem_cons_self
      · exact List.mem_cons_of_mem _ (ih _ _ h)
/-- one that fits goes in -/
theorem g_fit {k r : Nat} : ∀ (W : List T3), 0 < cK k W → (∀ x, x ∈ W → x.2.2 ≤ r) → 0 < (gT (pK k) r W).length := by
  intro W
  induction W with
  | nil => intro h _; cases h
  | cons x W ih =>
    intro h hr
    simp only [gT]
    by_cases hk : x.2.1 = k
    · rw [if_pos ⟨by simp [pK, hk], hr x List.mem_cons_self⟩, List.length_cons]; omega
    · rw [if_neg (fun q => hk (by have := q.1; simp only [pK, decide_eq_true_eq] at this; exact this))]
      rw [cK, if_neg hk, Nat.zero_add] at h
      exact ih h (fun y hy => hr y (List.mem_cons_of_mem _ hy))
def lo (k : Nat) : Nat := if k = 0 then 260 else if k = 1 then 180 else 90
def hg (k : Nat) : Nat := if k = 0 then 400 else if k = 1 then 300 else 200
def tks (k : Nat) : Nat := if k = 0 then 2 else if k = 1 then 5 else 8
def kP (t : Nat) (W : List T3) : Option Nat := if 0 < cK 0 W ∧ 260 ≤ t ∧ t ≤ 400 then some 0 else if 0 < cK 1 W ∧ 180 ≤ t ∧ t ≤ 300 then some 1 else if 0 < cK 2 W ∧ 90 ≤ t ∧ t ≤ 200 then some 2 else none
def hotP (t : Nat) (W : List T3) : Prop := (0 < cK 0 W ∧ 400 < t) ∨ (0 < cK 1 W ∧ 300 < t) ∨ (0 < cK 2 W ∧ 200 < t)
def fallP (t k s : Nat) : Nat := max 20 (t - tks k * (5 + s / 8))
abbrev L4 : Type := Nat × List T3 × Nat × Nat
noncomputable def dP : Nat → Nat → List T3 → List L4 × List T3 × Nat
  | 0, t, W => ([], W, t)
  | n + 1, t, W => if W.length = 0 then ([], W, t) else match kP t W with
    | some k => ((k, gT (pK k) 24 W, t, fallP t k (sz (gT (pK k) 24 W))) :: (dP n (fallP t k (sz (gT (pK k) 24 W))) (gR (pK k) 24 W)).1, (dP n (fallP t k (sz (gT (pK k) 24 W))) (gR (pK k) 24 W)).2)
    | none => @ite _ (hotP t W) (Classical.propDecidable _) (dP n (max 20 (t - 5)) W) ([], W, t)
theorem kP_spec {t k : Nat} {W : List T3} (h : kP t W = some k) : k < 3 ∧ 0 < cK k W ∧ lo k ≤ t ∧ t ≤ hg k := by
  unfold kP at h
  by_cases h0 : 0 < cK 0 W ∧ 260 ≤ t ∧ t ≤ 400
  · rw [if_pos h0] at h; cases h; exact ⟨by omega, h0.1, h0.2.1, h0.2.2⟩
  · rw [if_neg h0] at h
    by_cases h1 : 0 < cK 1 W ∧ 180 ≤ t ∧ t ≤ 300
    · rw [if_pos h1] at h; cases h; exact ⟨by omega, h1.1, h1.2.1, h1.2.2⟩
    · rw [if_neg h1] at h
      by_cases h2 : 0 < cK 2 W ∧ 90 ≤ t ∧ t ≤ 200
      · rw [if_pos h2] at h; cases h; exact ⟨by omega, h2.1, h2.2.1, h2.2.2⟩
      · rw [if_neg h2] at h; cases h
