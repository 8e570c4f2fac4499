/-! the baking order -/
def fls (p : Nat → Bool) : Nat → Nat → List Nat
  | _, 0 => []
  | j, m + 1 => if p j = true then j :: fls p (j + 1) m else fls p (j + 1) m
def hbq (ρ : Nat → Int32) (i : Nat) : Nat := (ρ (41 + 3 * i)).toNatClampNeg
def rot (h f t : Nat) : Nat := if h ≤ f + t then f + t - h else f + t
def ky (h f x : Nat) : Nat := if f ≤ x then x - f else x + h - f
def al (hb : Nat → Nat) (h f b : Nat) : Nat → Nat → List Nat
  | _, 0 => []
  | t, m + 1 => fls (fun i => decide (hb i = rot h f t)) 0 b ++ al hb h f b (t + 1) m
theorem rot_ky {h f t x : Nat} (hf : f < h) (ht : t < h) (hx : x < h) : rot h f t = x ↔ t = ky h f x := by
  unfold rot ky
  split <;> split <;> omega
theorem ky_lt {h f x : Nat} (hf : f < h) (hx : x < h) : ky h f x < h := by
  unfold ky
  split <;> omega
theorem fl_split (p : Nat → Bool) : ∀ (m j k : Nat), fls p j (m + k) = fls p j m ++ fls p (j + m) k := by
  intro m
  induction m with
  | zero => intro j k; rw [Nat.zero_add]; rfl
  | succ m ih =>
    intro j k
    rw [show m + 1 + k = (m + k) + 1 by omega, fls, fls, ih (j + 1) k, show j + 1 + m = j + (m + 1) by omega]
    split
    · rfl
    · rfl
theorem fl_cg {p q : Nat → Bool} : ∀ (m j : Nat), (∀ i, j ≤ i → i < j + m → p i = q i) → fls p j m = fls q j m := by
  intro m
  induction m with
  | zero => intro j _; rfl
  | succ m ih =>
    intro j h
    rw [fls, fls, h j (by omega) (by omega), ih (j + 1) (fun i h1 h2 => h i (by omega) (by omega))]
theorem fl_mem {p : Nat → Bool} : ∀ (m j i : Nat), i ∈ fls p j m → j ≤ i ∧ i < j + m ∧ p i = true := by
  intro m
  induction m with
  | zero => intro j i h; cases h
  | succ m ih =>
    intro j i h
    rw [fls] at h
    by_cases hp : p j = true
    · rw [if_pos hp] at h
      rcases List.mem_cons.mp h with h | h
      · subst h; exact ⟨Nat.le_refl _, by omega, hp⟩
      · have := ih _ _ h; exact ⟨by omega, by omega, this.2.2⟩
    · rw [if_neg hp] at h
      have := ih _ _ h; exact ⟨by omega, by omega, this.2.2⟩
theorem fl_or {p q r : Nat → Bool} (hr : ∀ i, r i = (p i || q i)) : ∀ (m j : Nat), (∀ i, j ≤ i → i < j + m → ¬ (p i = true ∧ q i = true)) → (fls r j m).length = (fls p j m).length + (fls q j m).length := by
  intro m
  induction m with
  | zero => intro j _; rfl
  | succ m ih =>
    intro j h
    have h1 := ih (j + 1) (fun i h1 h2 => h i (by omega) (by omega))
    have h2 := h j (by omega) (by omega)
    rw [fls, fls, fls, hr j]
    cases hp : p j <;> cases hq : q j
    · simp [h1]
    · simp [h1]; omega
    · simp [h1]; omega
    · exact absurd ⟨hp, hq⟩ h2
theorem fl_none {p : Nat → Bool} : ∀ (m j : Nat), (∀ i, j ≤ i → i < j + m → p i = false) → fls p j m = [] := by
  intro m
  induction m with
  | zero => intro j _; rfl
  | succ m ih =>
    intro j h
    rw [fls, h j (by omega) (by omega), if_neg (by decide), ih (j + 1) (fun i h1 h2 => h i (by omega) (by omega))]
theorem al_end (hb : Nat → Nat) {h f b : Nat} (hf : f < h) (hx : hb b < h) : ∀ (m t : Nat), t + m ≤ h → (al hb h f (b + 1) t m).length = (al hb h f b t m).length + (if t ≤ ky h f (hb b) ∧ ky h f (hb b) < t + m then 1 else 0) := by
  intro m
  induction m with
  | zero => intro t _; rw [al, al, if_neg (by omega)]; rfl
  | succ m ih =>
    intro t ht
    rw [al, al, List.length_append, List.length_append, ih (t + 1) (by omega), show b + 1 = b + 1 from rfl, fl_split _ b 0 1, List.length_append, Nat.zero_add]
    have e : (fls (fun i => decide (hb i = rot h f t)) b 1).length = if t = ky h f (hb b) then 1 else 0 := by
      rw [fls, fls]
      by_cases h1 : hb b = rot h f t
      · rw [if_pos (decide_eq_true h1), if_pos ((rot_ky hf (by omega) hx).mp h1.symm)]; rfl
      · rw [if_neg (by rw [decide_eq_true_eq]; exact h1), if_neg (fun q => h1 ((rot_ky hf (by omega) hx).mpr q).symm)]; rfl
    rw [e]
    by_cases h2 : t = ky h f (hb b)
    · rw [if_pos h2, if_neg (by omega), if_pos (by omega)]; omega
    · rw [if_neg h2]
      by_cases h3 : t + 1 ≤ ky h f (hb b) ∧ ky h f (hb b) < t + 1 + m
      · rw [if_pos h3, if_pos (by omega)]; omega
      · rw [if_neg h3, if_neg (by omega)]; omega
theorem al_zero (hb : Nat → Nat) (h f : Nat) : ∀ (m t : Nat), al hb h f 0 t m = [] := by
  intro m
  induction m with
  | zero => intro t; rfl
  | succ m ih => intro t; rw [al, ih (t + 1)]; rfl
/-- how many come before the turn K -/
theorem al_cnt (hb : Nat → Nat) {h f K : Nat} (hf : f < h) (hK : K ≤ h) : ∀ b, (∀ i, i < b → hb i < h) → (al hb h f b 0 K).length = (fls (fun i => decide (ky h f (hb i) < K)) 0 b).length := by
  intro b
  induction b with
  | zero => intro _; rw [al_zero]; rfl
  | succ b ih =>
    intro hh
    rw [al_end hb hf (hh b (by omega)) K 0 (by omega), ih (fun i hi => hh i (by omega)), fl_split _ b 0 1, List.length_append, Nat.zero_add, fls, fls]
    have e0 : hb (0 + b) = hb b := congrArg hb (Nat.zero_add b)
    by_cases h1 : ky h f (hb b) < K
    · rw [if_pos (by omega), if_pos (decide_eq_true (show ky h f (hb (0 + b)) < K by rw [e0]; exact h1))]; rfl
    · rw [if_neg (by omega), if_neg (by rw [decide_eq_true_eq]; show ¬ ky h f (hb (0 + b)) < K; rw [e0]; exact h1)]; rfl
theorem fl_all {p : Nat → Bool} : ∀ (m j : Nat), (∀ i, j ≤ i → i < j + m → p i = true) → (fls p j m).length = m := by
  intro m
  induction m with
  | zero => intro j _; rfl
  | succ m ih =>
    intro j h
    rw [fls, if_pos (h j (by omega) (by omega)), List.length_cons, ih (j + 1) (fun i h1 h2 => h i (by omega) (by omega))]
theorem al_len (hb : Nat → Nat) {h f b : Nat} (hf : f < h) (hh : ∀ i, i < b → hb i < h) : (al hb h f b 0 h).length = b := by
  rw [al_cnt hb hf (Nat.le_refl _) b hh]
  exact fl_all b 0 fun i _ hi => decide_eq_true (ky_lt hf (hh i (by omega)))
theorem al_split (hb : Nat → Nat) (h f b : Nat) : ∀ (m t k : Nat), al hb h f b t (m + k) = al hb h f b t m ++ al hb h f b (t + m) k := by
  intro m
  induction m with
  | zero => intro t k; rw [Nat.zero_add]; rfl
  | succ m ih =>
    intro t k
    rw [show m + 1 + k = (m + k) + 1 by omega, al, al, ih (t + 1) k, show t + 1 + m = t + (m + 1) by omega, List.append_assoc]
theorem al_mem (hb : Nat → Nat) (h f b : Nat) : ∀ (m t i : Nat), i ∈ al hb h f b t m → i < b ∧ ∃ u, t ≤ u ∧ u < t + m ∧ hb i = rot h f u := by
  intro m
  induction m with
  | zero => intro t i h; cases h
  | succ m ih =>
    intro t i hi
    rw [al] at hi
    rcases List.mem_append.mp hi with h1 | h1
    · have := fl_mem _ _ _ h1
      exact ⟨by omega, t, by omega, by omega, of_decide_eq_true this.2.2⟩
    · obtain ⟨h2, u, h3, h4, h5⟩ := ih _ _ h1
      exact ⟨h2, u, by omega, by omega, h5⟩
/-- the plan's order in the memory -/
def OR (M : Mem) (O : List Nat) : Prop := M.1 33 4 = nI O.length ∧ ∀ p, p < O.length → M.1 34 p = nI (O.getD p 0)
theorem OR.cg {M M' : Mem} {O : List Nat} (H : OR M O) (h1 : M'.1 33 4 = M.1 33 4) (h2 : ∀ p, M'.1 34 p = M.1 34 p) : OR M' O := ⟨h1.trans H.1, fun p hp => (h2 p).trans (H.2 p hp)⟩
theorem OR.snoc {M : Mem} {O : List Nat} (H : OR M O) (x : Nat) : OR (mput (mput M 34 O.length (nI x)) 33 4 (nI (O.length + 1))) (O ++ [x]) := by
  refine ⟨by rw [mput_at, if_pos ⟨rfl, rfl⟩, List.length_append]; rfl, fun p hp => ?_⟩
  rw [List.length_append] at hp
  rw [mput_at, if_neg (by omega), mput_at]
  by_cases e : p = O.length
  · subst e
    rw [if_pos ⟨rfl, rfl⟩, List.getD_eq_getElem?_getD, List.getElem?_append_right (by omega), Nat.sub_self]; rfl
  · rw [if_neg (fun q => e q.2), List.getD_eq_getElem?_getD, List.getElem?_append_left (by simp only [List.length_cons, List.length_nil] at hp; omega), ← List.getD_eq_getElem?_getD]
    exact H.2 p (by simp only [List.length_cons, List.length_nil] at hp; omega)
theorem bq_h {ρ : Nat → Int32} {h b i : Nat} (hh : h ≤ 8) (W : RB ρ h b) (hi : i < b) : ρ (41 + 3 * i) = nI (hbq ρ i) ∧ hbq ρ i < h := by
  obtain ⟨⟨a, ha, e⟩, -⟩ := W i hi
  unfold hbq
  rw [e, mI_tc (by omega)]
  exact ⟨rfl, ha⟩
theorem arr_in {ρ : Nat → Int32} {h b z : Nat} (hh : h ≤ 8) (hz : z < 8) (W : RB ρ h b) : ∀ (m j n : Nat) (M : Mem) (O : List Nat), BB M ρ b → OR M O → j + m = b → m < n → O.length + (fls (fun i => decide (hbq ρ i = z)) j m).length ≤ 20 → ∃ M', lX3_arrange_40 9 (nI z) n (nI j) M = some M' ∧ OR M' (O ++ fls (fun i => decide (hbq ρ i = z)) j m) ∧ (∀ q x, q ≠ 34 → ¬ (q = 33 ∧ x = 4) → M'.1 q x = M.1 q x) ∧ M'.2 = M.2 := by
  intro m
  induction m with
  | zero =>
    intro j n M O B H h1 h2 h3
    obtain ⟨n, rfl⟩ : ∃ n', n = n' + 1 := ⟨n - 1, by omega⟩
    have hb := B.1
    refine ⟨M, ?_, by rw [fls, List.append_nil]; exact H, fun _ _ _ _ => rfl, rfl⟩
    rw [lX3_arrange_40]
    unfold fX1_size
    rw [Option.bind_some, B.2.1, if_pos (pI_le (by omega) (by omega))]
  | succ m ih =>
    intro j n M O B H h1 h2 h3
    obtain ⟨n, rfl⟩ : ∃ n', n = n' + 1 := ⟨n - 1, by omega⟩
    have hb := B.1
    have hv : fX1_value 9 (nI j) 0 M = some (nI (hbq ρ j)) := by
      unfold fX1_value
      show (fX7_get 10 3 20 (nI j) (nI 0) M).bind _ = _
      rw [B.gt (by omega) (by omega), Nat.add_zero, (bq_h hh W (show j < b by omega)).1]; rfl
    have hj8 := (bq_h hh W (show j < b by omega)).2
    by_cases h20 : O.length = 20
    · have e0 : fls (fun i => decide (hbq ρ i = z)) j (m + 1) = [] := List.length_eq_zero_iff.mp (by omega)
      refine ⟨M, ?_, by rw [e0, List.append_nil]; exact H, fun _ _ _ _ => rfl, rfl⟩
      rw [lX3_arrange_40]
      unfold fX1_size
      rw [Option.bind_some, B.2.1, if_neg (pI_nle (by omega) (by omega)), H.1, l_20, if_pos (pI_le (by omega) (by omega))]
    · have e1 : lX3_arrange_40 9 (nI z) (n + 1) (nI j) M = if nI (hbq ρ j) = nI z then lX3_arrange_40 9 (nI z) n (nI (j + 1)) (mput (mput M 34 O.length (nI j)) 33 4 (nI (O.length + 1))) else lX3_arrange_40 9 (nI z) n (nI (j + 1)) M := by
        rw [lX3_arrange_40]
        unfold fX1_size
        rw [Option.bind_some, B.2.1, if_neg (pI_nle (by omega) (by omega)), H.1, l_20, if_neg (pI_nle (by omega) (by omega)), hv, Option.bind_some, ast_n (by omega) (by omega), Option.bind_some]
        unfold pf
        rw [Option.bind_some, show (mput M 34 O.length (nI j)).1 33 4 = nI O.length from by rw [mput_at, if_neg (by omega)]; exact H.1, l_1, nI_ad, nI_ad]
      rw [fls] at h3 ⊢
      by_cases hp : hbq ρ j = z
      · rw [if_pos (decide_eq_true hp), List.length_cons] at h3
        rw [if_pos (decide_eq_true hp)]
        obtain ⟨M', a1, a2, a3, a4⟩ := ih (j + 1) n _ (O ++ [j]) (B.cg (M' := mput (mput M 34 O.length (nI j)) 33 4 (nI (O.length + 1))) (fun q x _ _ => by rw [mput_at, if_neg (by omega), mput_at, if_neg (by omega)]) (fun _ _ _ => rfl)) (H.snoc j) (by omega) (by omega) (by rw [List.length_append]; simp only [List.length_cons, List.length_nil]; omega)
        refine ⟨M', by rw [e1, if_pos (by rw [hp])]; exact a1, ?_, fun q x h4 h5 => ?_, a4⟩
        · rw [List.append_assoc] at a2; exact a2
        · rw [a3 q x h4 h5, mput_at, if_neg h5, mput_at, if_neg (fun w => h4 w.1)]
      · rw [if_neg (by rw [decide_eq_true_eq]; exact hp)] at h3
        rw [if_neg (by rw [decide_eq_true_eq]; exact hp)]
        obtain ⟨M', a1, a2, a3, a4⟩ := ih (j + 1) n M O B H (by omega) (by omega) h3
        exact ⟨M', by rw [e1, if_neg (pI_ne hp (by omega) (by omega))]; exact a1, a2, a3, a4⟩
theorem arr_out {ρ : Nat → Int32} {h b f : Nat} (hh : h ≤ 8) (hf : f < h) (W : RB ρ h b) : ∀ (m t n : Nat) (M : Mem) (O : List Nat), BB M ρ b → OR M O → t + m = h → m < n → O.length + (al (hbq ρ) h f b t m).length ≤ 20 → ∃ M', lX3_arrange_8 9 (nI h) (nI f) n (nI t) M = some M' ∧ OR M' (O ++ al (hbq ρ) h f b t m) ∧ (∀ q x, q ≠ 34 → ¬ (q = 33 ∧ x = 4) → M'.1 q x = M.1 q x) ∧ M'.2 = M.2 := by
  intro m
  induction m with
  | zero =>
    intro t n M O B H h1 h2 h3
    obtain ⟨n, rfl⟩ : ∃ n', n = n' + 1 := ⟨n - 1, by omega⟩
    refine ⟨M, ?_, by rw [al, List.append_nil]; exact H, fun _ _ _ _ => rfl, rfl⟩
    rw [lX3_arrange_8, if_pos (pI_le (by omega) (by omega))]
  | succ m ih =>
    intro t n M O B H h1 h2 h3
    obtain ⟨n, rfl⟩ : ∃ n', n = n' + 1 := ⟨n - 1, by omega⟩
    have hb := B.1
    rw [al] at h3 ⊢
    rw [List.length_append] at h3
    have hr : rot h f t < 8 := by unfold rot; split <;> omega
    have er : (if nI h ≤ nI f + nI t then (some (nI f + nI t - nI h) : Option Int32) else some (nI f + nI t)) = some (nI (rot h f t)) := by
      rw [nI_ad]
      unfold rot
      by_cases h4 : h ≤ f + t
      · rw [if_pos (pI_le h4 (by omega)), if_pos h4, mI_sb h4 (by omega)]
      · rw [if_neg (pI_nle (by omega) (by omega)), if_neg h4]
    obtain ⟨M1, a1, a2, a3, a4⟩ := arr_in hh hr W b 0 FUEL M O B H (by omega) (fuel8 (by omega)) (by omega)
    obtain ⟨M2, b1, b2, b3, b4⟩ := ih (t + 1) n M1 _ (B.cg (fun q x _ _ => a3 q x (by omega) (by omega)) (fun _ _ _ => rfl)) a2 (by omega) (by omega) (by rw [List.length_append]; omega)
    refine ⟨M2, ?_, by rw [List.append_assoc] at b2; exact b2, fun q x h4 h5 => (b3 q x h4 h5).trans (a3 q x h4 h5), b4.trans a4⟩
    rw [lX3_arrange_8, if_neg (pI_nle (by omega) (by omega)), er, Option.bind_some, l_0, a1, Option.bind_some, l_1, nI_ad]
    exact b1
/-- the baking order of the next day -/
def Od (ρ : Nat → Int32) (h f b : Nat) : List Nat := al (hbq ρ) h f b 0 h
theorem Od_len {ρ : Nat → Int32} {h f b : Nat} (hh : h ≤ 8) (hf : f < h) (W : RB ρ h b) : (Od ρ h f b).length = b := al_len _ hf fun i hi => (bq_h hh W hi).2
theorem arrange_ok {M : Mem} {ρ : Nat → Int32} {h b g c f : Nat} (V : Vi M ρ h b g c) (W : Wr ρ h b c) (hb0 : 0 < h) (hn : nxt ρ h = some f) (hf : f < h) : ∃ M', fX9_arrangeNextDay 1 M = some M' ∧ OR M' (Od ρ h f b) ∧ (∀ q x, q ≠ 34 → ¬ (q = 33 ∧ x = 4) → M'.1 q x = M.1 q x) ∧ M'.2 = M.2 := by
  obtain ⟨H, B, G, L, S⟩ := V
  have hh := H.1
  have hb := B.1
  have B1 : BB (mput M 33 4 0) ρ b := B.cg (fun q x _ _ => by rw [mput_at, if_neg (by omega)]) (fun _ _ _ => rfl)
  have O1 : OR (mput M 33 4 0) [] := ⟨by rw [mput_at, if_pos ⟨rfl, rfl⟩]; rfl, fun p hp => absurd hp (by simp)⟩
  have hl : (al (hbq ρ) h f b 0 h).length = b := Od_len hh hf W.2.1
  obtain ⟨M', a1, a2, a3, a4⟩ := arr_out hh hf W.2.1 h 0 FUEL _ [] B1 O1 (by omega) (fuel8 (by omega)) (by simp only [List.length_nil]; omega)
  refine ⟨M', ?_, a2, fun q x h1 h2 => by rw [a3 q x h1 h2, mput_at, if_neg h2], a4⟩
  unfold fX9_arrangeNextDay fX4_size
  show (some (M.1 2 1)).bind _ = _
  rw [Option.bind_some, show fX4_nextOne (1 + 1) M = some (enc (nxt ρ h)) from H.next W.1, Option.bind_some, H.2.1, hn]
  unfold fX3_arrange pf
  rw [Option.bind_some]
  show ((lX3_arrange_8 9 (nI h) (nI f) FUEL (nI 0) (mput M 33 4 0)).bind _).bind _ = _
  rw [a1]; rfl
