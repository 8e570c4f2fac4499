/-! batches as triples: household, kind, loaves; a load taken of those that wait -/
abbrev T3 : Type := Nat × Nat × Nat
def gT (p : T3 → Bool) : Nat → List T3 → List T3
  | _, [] => []
  | r, x :: W => if p x = true ∧ x.2.2 ≤ r then x :: gT p (r - x.2.2) W else gT p r W
def gR (p : T3 → Bool) : Nat → List T3 → List T3
  | _, [] => []
  | r, x :: W => if p x = true ∧ x.2.2 ≤ r then gR p (r - x.2.2) W else x :: gR p r W
def gN (p : T3 → Bool) : Nat → List T3 → Nat
  | r, [] => r
  | r, x :: W => if p x = true ∧ x.2.2 ≤ r then gN p (r - x.2.2) W else gN p r W
def fz (z : Nat) : List T3 → List T3
  | [] => []
  | x :: W => if x.1 = z then x :: fz z W else fz z W
def pK (k : Nat) : T3 → Bool := fun x => decide (x.2.1 = k)
def pZ (z k : Nat) : T3 → Bool := fun x => decide (x.1 = z) && decide (x.2.1 = k)
theorem g_app (p : T3 → Bool) : ∀ (A B : List T3) (r : Nat), gT p r (A ++ B) = gT p r A ++ gT p (gN p r A) B ∧ gR p r (A ++ B) = gR p r A ++ gR p (gN p r A) B ∧ gN p r (A ++ B) = gN p (gN p r A) B := by
  intro A
  induction A with
  | nil => intro B r; exact ⟨rfl, rfl, rfl⟩
  | cons x A ih =>
    intro B r
    simp only [List.cons_append, gT, gR, gN]
    by_cases h : p x = true ∧ x.2.2 ≤ r
    · simp only [if_pos h]
      obtain ⟨h1, h2, h3⟩ := ih B (r - x.2.2)
      exact ⟨by rw [h1]; rfl, h2, h3⟩
    · simp only [if_neg h]
      obtain ⟨h1, h2, h3⟩ := ih B r
      exact ⟨h1, by rw [h2]; rfl, h3⟩
theorem g_z (z k : Nat) : ∀ (T : List T3) (r : Nat), gT (pZ z k) r T = gT (pK k) r (fz z T) ∧ fz z (gR (pZ z k) r T) = gR (pK k) r (fz z T) ∧ gN (pZ z k) r T = gN (pK k) r (fz z T) := by
  intro T
  induction T with
  | nil => intro r; exact ⟨rfl, rfl, rfl⟩
  | cons x T ih =>
    intro r
    by_cases hz : x.1 = z
    · have ep : pZ z k x = pK k x := by simp [pZ, pK, hz]
      simp only [gT, gR, gN, fz, if_pos hz, ep]
      by_cases h : pK k x = true ∧ x.2.2 ≤ r
      · simp only [if_pos h]
        obtain ⟨h1, h2, h3⟩ := ih (r - x.2.2)
        exact ⟨by rw [h1], h2, h3⟩
      · simp only [if_neg h, fz, if_pos hz]
        obtain ⟨h1, h2, h3⟩ := ih r
        exact ⟨h1, by rw [h2], h3⟩
    · have ep : ¬ (pZ z k x = true ∧ x.2.2 ≤ r) := by simp [pZ, hz]
      simp only [gT, gR, gN, fz, if_neg hz, if_neg ep]
      exact ih r
theorem g_o {z y : Nat} (k : Nat) (hzy : y ≠ z) : ∀ (T : List T3) (r : Nat), fz y (gR (pZ z k) r T) = fz y T := by
  intro T
  induction T with
  | nil => intro r; rfl
  | cons x T ih =>
    intro r
    simp only [gR]
    by_cases h : pZ z k x = true ∧ x.2.2 ≤ r
    · have hz : x.1 = z := by
        have := h.1
        simp only [pZ, Bool.and_eq_true, decide_eq_true_eq] at this
        exact this.1
      simp only [if_pos h, fz, if_neg (show ¬ x.1 = y from fun q => hzy (q.symm.trans hz))]
      exact ih _
    · simp only [if_neg h, fz, ih r]
def aT (h f : Nat) : Nat → Nat → List T3 → List T3
  | 0, _, _ => []
  | m + 1, t, T => fz (rot h f t) T ++ aT h f m (t + 1) T
def fa (h f k : Nat) : Nat → Nat → Nat → List T3 → List T3 × List T3 × Nat
  | 0, _, r, T => ([], T, r)
  | m + 1, t, r, T => (gT (pZ (rot h f t) k) r T ++ (fa h f k m (t + 1) (gN (pZ (rot h f t) k) r T) (gR (pZ (rot h f t) k) r T)).1, (fa h f k m (t + 1) (gN (pZ (rot h f t) k) r T) (gR (pZ (rot h f t) k) r T)).2)
theorem rot_lt {h f t : Nat} (hf : f < h) (ht : t < h) : rot h f t < h := by unfold rot; split <;> omega
theorem rot_in {h f t u : Nat} (hf : f < h) (ht : t < h) (hu : u < h) (e : rot h f t = rot h f u) : t = u := by
  unfold rot at e
  split at e <;> split at e <;> omega
theorem aT_cg {h f : Nat} {T T' : List T3} : ∀ (m t : Nat), (∀ u, t ≤ u → u < t + m → fz (rot h f u) T' = fz (rot h f u) T) → aT h f m t T' = aT h f m t T := by
  intro m
  induction m with
  | zero => intro t _; rfl
  | succ m ih =>
    intro t hu
    rw [aT, aT, hu t (by omega) (by omega), ih (t + 1) (fun u h1 h2 => hu u (by omega) (by omega))]
theorem fa_ok {h f k : Nat} (hf : f < h) : ∀ (m t r : Nat) (T : List T3), t + m ≤ h → (fa h f k m t r T).1 = gT (pK k) r (aT h f m t T) ∧ aT h f m t (fa h f k m t r T).2.1 = gR (pK k) r (aT h f m t T) ∧ (fa h f k m t r T).2.2 = gN (pK k) r (aT h f m t T) ∧ ∀ z, (∀ u, t ≤ u → u < t + m → rot h f u ≠ z) → fz z (fa h f k m t r T).2.1 = fz z T := by
  intro m
  induction m with
  | zero => intro t r T _; exact ⟨rfl, rfl, rfl, fun z _ => rfl⟩
  | succ m ih =>
    intro t r T ht
    obtain ⟨a1, a2, a3, a4⟩ := ih (t + 1) (gN (pZ (rot h f t) k) r T) (gR (pZ (rot h f t) k) r T) (by omega)
    obtain ⟨b1, b2, b3⟩ := g_z (rot h f t) k T r
    have ec : aT h f m (t + 1) (gR (pZ (rot h f t) k) r T) = aT h f m (t + 1) T := aT_cg m (t + 1) fun u h1 h2 => g_o k (fun q => by have := rot_in hf (by omega) (by omega) q; omega) T r
    rw [ec] at a1 a2 a3
    obtain ⟨c1, c2, c3⟩ := g_app (pK k) (fz (rot h f t) T) (aT h f m (t + 1) T) r
    rw [← b3] at c1 c2 c3
    refine ⟨?_, ?_, ?_, fun z hz => ?_⟩
    · rw [fa, aT, c1, a1, b1]
    · rw [fa, aT, aT, c2]
      dsimp only
      rw [a2, a4 (rot h f t) (fun u h1 h2 q => by have := rot_in hf (by omega) (by omega) q; omega), b2]
    · rw [fa, aT, c3]
      exact a3
    · rw [fa]
      dsimp only
      rw [a4 z (fun u h1 h2 => hz u (by omega) (by omega))]
      exact g_o k (fun q => hz t (by omega) (by omega) q.symm) T r
def tb (tr : Nat → T3) : Nat → Nat → List T3
  | _, 0 => []
  | j, m + 1 => tr j :: tb tr (j + 1) m
def sl (q : Nat → Bool) (tr : Nat → T3) : Nat → Nat → List T3
  | _, 0 => []
  | j, m + 1 => if q j = true then tr j :: sl q tr (j + 1) m else sl q tr (j + 1) m
theorem fz_tb (tr : Nat → T3) (z : Nat) : ∀ (m j : Nat), fz z (tb tr j m) = (fls (fun i => decide ((tr i).1 = z)) j m).map tr := by
  intro m
  induction m with
  | zero => intro j; rfl
  | succ m ih =>
    intro j
    rw [tb, fz, fls, ih (j + 1)]
    by_cases h : (tr j).1 = z
    · rw [if_pos h, if_pos (decide_eq_true h)]; rfl
    · rw [if_neg h, if_neg (by rw [decide_eq_true_eq]; exact h)]
theorem aT_tb (tr : Nat → T3) (h f b : Nat) : ∀ (m t : Nat), aT h f m t (tb tr 0 b) = (al (fun i => (tr i).1) h f b t m).map tr := by
  intro m
  induction m with
  | zero => intro t; rfl
  | succ m ih =>
    intro t
    rw [aT, al, ih (t + 1), fz_tb, List.map_append]
theorem tb_len (tr : Nat → T3) : ∀ (m j : Nat), (tb tr j m).length = m := by
  intro m
  induction m with
  | zero => intro j; rfl
  | succ m ih => intro j; rw [tb, List.length_cons, ih]
theorem tb_cons (g : Nat → T3) (x : Nat) (O : List Nat) : ∀ (m j : Nat), tb (fun p => g ((x :: O).getD p 0)) (j + 1) m = tb (fun p => g (O.getD p 0)) j m := by
  intro m
  induction m with
  | zero => intro j; rfl
  | succ m ih => intro j; rw [tb, tb, ih (j + 1)]; rfl
theorem tb_map (g : Nat → T3) : ∀ (O : List Nat), tb (fun p => g (O.getD p 0)) 0 O.length = O.map g := by
  intro O
  induction O with
  | nil => rfl
  | cons x O ih => rw [List.length_cons, tb, tb_cons, ih]; rfl
theorem sl_all {q : Nat → Bool} (tr : Nat → T3) : ∀ (m j : Nat), (∀ i, j ≤ i → i < j + m → q i = true) → sl q tr j m = tb tr j m := by
  intro m
  induction m with
  | zero => intro j _; rfl
  | succ m ih =>
    intro j h
    rw [sl, tb, if_pos (h j (by omega) (by omega)), ih (j + 1) (fun i h1 h2 => h i (by omega) (by omega))]
theorem sl_none {q : Nat → Bool} (tr : Nat → T3) : ∀ (m j : Nat), (∀ i, j ≤ i → i < j + m → q i = false) → sl q tr j m = [] := by
  intro m
  induction m with
  | zero => intro j _; rfl
  | succ m ih =>
    intro j h
    rw [sl, h j (by omega) (by omega), if_neg (by decide), ih (j + 1) (fun i h1 h2 => h i (by omega) (by omega))]
theorem sl_cg {q q' : Nat → Bool} (tr : Nat → T3) : ∀ (m j : Nat), (∀ i, j ≤ i → i < j + m → q i = q' i) → sl q tr j m = sl q' tr j m := by
  intro m
  induction m with
  | zero => intro j _; rfl
  | succ m ih =>
    intro j h
    rw [sl, sl, h j (by omega) (by omega), ih (j + 1) (fun i h1 h2 => h i (by omega) (by omega))]
/-- sums and counts -/
def sz : List T3 → Nat
  | [] => 0
  | x :: W => x.2.2 + sz W
def cK (k : Nat) : List T3 → Nat
  | [] => 0
  | x :: W => (if x.2.1 = k then 1 else 0) + cK k W
theorem sz_app : ∀ (A B : List T3), sz (A ++ B) = sz A + sz B := by
  intro A
  induction A with
  | nil => intro B; rw [List.nil_append, sz, Nat.zero_add]
  | cons x A ih => intro B; rw [List.cons_append, sz, sz, ih, Nat.add_assoc]
theorem cK_app (k : Nat) : ∀ (A B : List T3), cK k (A ++ B) = cK k A + cK k B := by
  intro A
  induction A with
  | nil => intro B; rw [List.nil_append, cK, Nat.zero_add]
  | cons x A ih => intro B; rw [List.cons_append, cK, cK, ih, Nat.add_assoc]
theorem g_sum (p : T3 → Bool) : ∀ (W : List T3) (r : Nat), gN p r W + sz (gT p r W) = r ∧ sz (gT p r W) + sz (gR p r W) = sz W ∧ (gT p r W).length + (gR p r W).length = W.length := by
  intro W
  induction W with
  | nil => intro r; exact ⟨rfl, rfl, rfl⟩
  | cons x W ih =>
    intro r
    simp only [gT, gR, gN]
    by_cases h : p x = true ∧ x.2.2 ≤ r
    · simp only [if_pos h, sz, List.length_cons]
      obtain ⟨h1, h2, h3⟩ := ih (r - x.2.2)
      have := h.2
      omega
    · simp only [if_neg h, sz, List.length_cons]
      obtain ⟨h1, h2, h3⟩ := ih r
      omega
theorem g_cnt (k : Nat) : ∀ (W : List T3) (r : Nat), cK k (gR (pK k) r W) + (gT (pK k) r W).length = cK k W := by
  intro W
  induction W with
  | nil => intro r; rfl
  | cons x W ih =>
    intro r
    simp only [gT, gR]
    by_cases h : pK k x = true ∧ x.2.2 ≤ r
    · have hk : x.2.1 = k := by have := h.1; simp only [pK, decide_eq_true_eq] at this; exact this
      simp only [if_pos h, cK, if_pos hk, List.length_cons]
      have := ih (r - x.2.2)
      omega
    · simp only [if_neg h, cK]
      have := ih r
      omega
theorem g_oth {k j : Nat} (hj : j ≠ k) : ∀ (W : List T3) (r : Nat), cK j (gR (pK k) r W) = cK j W := by
  intro W
  induction W with
  | nil => intro r; rfl
  | cons x W ih =>
    intro r
    simp only [gR]
    by_cases h : pK k x = true ∧ x.2.2 ≤ r
    · have hk : x.2.1 = k := by have := h.1; simp only [pK, decide_eq_true_eq] at this; exact this
      simp only [if_pos h, cK, if_neg (show ¬ x.2.1 = j from fun q => hj (q.symm.trans hk)), Nat.zero_add]
      exact ih _
    · simp only [if_neg h, cK, ih r]
/-- each element of what is taken or left is one of those that waited -/
theorem gT_mem {p : T3 → Bool} : ∀ (W : List T3) (r : Nat) (x : T3), x ∈ gT p r W → x ∈ W ∧ p x = true := by
  intro W
  induction W with
  | nil => intro r x h; cases h
  | cons y W ih =>
    intro r x h
    simp only [gT] at h
    by_cases hc : p y = true ∧ y.2.2 ≤ r
    · rw [if_pos hc] at h
      rcases List.mem_cons.mp h with h | h
      · subst h; exact ⟨List.mem_cons_self, hc.1⟩
      · exact ⟨List.mem_cons_of_mem _ (ih _ _ h).1, (ih _ _ h).2⟩
    · rw [if_neg hc] at h
      exact ⟨List.mem_cons_of_mem _ (ih _ _ h).1, (ih _ _ h).2⟩
theorem gR_mem {p : T3 → Bool} : ∀ (W : List T3) (r : Nat) (x : T3), x ∈ gR p r W → x ∈ W := by
  intro W
  induction W with
  | nil => intro r x h; cases h
  | cons y W ih =>
    intro r x h
    simp only [gR] at h
    by_cases hc : p y = true ∧ y.2.2 ≤ r
    · rw [if_pos hc] at h
      exact List.mem_cons_of_mem _ (ih _ _ h)
    · rw [if_neg hc] at h
      rcases List.mem_cons.mp h with h | h
      · subst h; exact List.mem_cons_self
      · exact List.mem_cons_of_mem _ (ih _ _ h)
/-- one that fits goes in -/
theorem g_fit {k r : Nat} : ∀ (W : List T3), 0 < cK k W → (∀ x, x ∈ W → x.2.2 ≤ r) → 0 < (gT (pK k) r W).length := by
  intro W
  induction W with
  | nil => intro h _; cases h
  | cons x W ih =>
    intro h hr
    simp only [gT]
    by_cases hk : x.2.1 = k
    · rw [if_pos ⟨by simp [pK, hk], hr x List.mem_cons_self⟩, List.length_cons]; omega
    · rw [if_neg (fun q => hk (by have := q.1; simp only [pK, decide_eq_true_eq] at this; exact this))]
      rw [cK, if_neg hk, Nat.zero_add] at h
      exact ih h (fun y hy => hr y (List.mem_cons_of_mem _ hy))
/-! the loads of a day: kind, batches, heat before, heat after -/
def lo (k : Nat) : Nat := if k = 0 then 260 else if k = 1 then 180 else 90
def hg (k : Nat) : Nat := if k = 0 then 400 else if k = 1 then 300 else 200
def tks (k : Nat) : Nat := if k = 0 then 2 else if k = 1 then 5 else 8
def kP (t : Nat) (W : List T3) : Option Nat := if 0 < cK 0 W ∧ 260 ≤ t ∧ t ≤ 400 then some 0 else if 0 < cK 1 W ∧ 180 ≤ t ∧ t ≤ 300 then some 1 else if 0 < cK 2 W ∧ 90 ≤ t ∧ t ≤ 200 then some 2 else none
def hotP (t : Nat) (W : List T3) : Prop := (0 < cK 0 W ∧ 400 < t) ∨ (0 < cK 1 W ∧ 300 < t) ∨ (0 < cK 2 W ∧ 200 < t)
def fallP (t k s : Nat) : Nat := max 20 (t - tks k * (5 + s / 8))
abbrev L4 : Type := Nat × List T3 × Nat × Nat
noncomputable def dP : Nat → Nat → List T3 → List L4 × List T3 × Nat
  | 0, t, W => ([], W, t)
  | n + 1, t, W => if W.length = 0 then ([], W, t) else match kP t W with
    | some k => ((k, gT (pK k) 24 W, t, fallP t k (sz (gT (pK k) 24 W))) :: (dP n (fallP t k (sz (gT (pK k) 24 W))) (gR (pK k) 24 W)).1, (dP n (fallP t k (sz (gT (pK k) 24 W))) (gR (pK k) 24 W)).2)
    | none => @ite _ (hotP t W) (Classical.propDecidable _) (dP n (max 20 (t - 5)) W) ([], W, t)
theorem kP_spec {t k : Nat} {W : List T3} (h : kP t W = some k) : k < 3 ∧ 0 < cK k W ∧ lo k ≤ t ∧ t ≤ hg k := by
  unfold kP at h
  by_cases h0 : 0 < cK 0 W ∧ 260 ≤ t ∧ t ≤ 400
  · rw [if_pos h0] at h; cases h; exact ⟨by omega, h0.1, h0.2.1, h0.2.2⟩
  · rw [if_neg h0] at h
    by_cases h1 : 0 < cK 1 W ∧ 180 ≤ t ∧ t ≤ 300
    · rw [if_pos h1] at h; cases h; exact ⟨by omega, h1.1, h1.2.1, h1.2.2⟩
    · rw [if_neg h1] at h
      by_cases h2 : 0 < cK 2 W ∧ 90 ≤ t ∧ t ≤ 200
      · rw [if_pos h2] at h; cases h; exact ⟨by omega, h2.1, h2.2.1, h2.2.2⟩
      · rw [if_neg h2] at h; cases h
