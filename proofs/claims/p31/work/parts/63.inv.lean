/-! what holds of the row between the calls -/
def nn (x : Int32) : Nat := x.toNatClampNeg
theorem nn_n {n : Nat} (h : n < 2 ^ 31) : nn (nI n) = n := nI_nat h
/-- wood and loaves -/
def Gw (ρ : Nat → Int32) (h c n : Nat) : Prop := ∃ w p : Nat → Nat, (∀ i, i < h → ρ (9 + 4 * i + 1) = nI (w i) ∧ ρ (9 + 4 * i + 2) = nI (p i)) ∧ sN w 0 h ≤ 40 * n ∧ sN p 0 h = c
/-- a kept loaf; d days are over -/
def Gl (ρ : Nat → Int32) (h d r : Nat) : Prop :=
  (∃ o, o < h ∧ ρ (201 + 7 * r + 0) = nI o) ∧ (∃ k, k < 3 ∧ ρ (201 + 7 * r + 1) = nI k) ∧ (∃ y, y < d ∧ ρ (201 + 7 * r + 2) = nI y) ∧ (∃ p, p ≤ 1 ∧ ρ (201 + 7 * r + 3) = nI p) ∧
  (∃ p z, p < 65536 ∧ z ≤ 3 ∧ pc p + z ≤ 16 ∧ ρ (201 + 7 * r + 4) = nI p ∧ ρ (201 + 7 * r + 6) = nI z) ∧
  (ρ (201 + 7 * r + 5) = NG ∨ ρ (201 + 7 * r + 5) = nI 8 ∨ ∃ x, x < h ∧ ρ (201 + 7 * r + 5) = nI x)
def Gk (ρ : Nat → Int32) (h c d : Nat) : Prop := (∀ r, r < min c 200 → Gl ρ h d r) ∧ (∀ i, c - 200 ≤ i → i + 1 < c → nn (ρ (201 + 7 * (i % 200) + 2)) ≤ nn (ρ (201 + 7 * ((i + 1) % 200) + 2))) ∧ ∃ q, ρ 6 = nI q ∧ q ≤ c ∧ sN (fun r => nn (ρ (201 + 7 * r + 3))) 0 (min c 200) ≤ q
/-- the loads of the last day -/
def Go (ρ : Nat → Int32) (g c : Nat) : Prop := ∃ (k m z t v : Nat → Nat), (∀ i, i < g → (ρ (101 + 5 * i + 0) = nI (k i) ∧ ρ (101 + 5 * i + 1) = nI (m i) ∧ ρ (101 + 5 * i + 2) = nI (z i) ∧ ρ (101 + 5 * i + 3) = nI (t i) ∧ ρ (101 + 5 * i + 4) = nI (v i)) ∧ k i < 3 ∧ 1 ≤ m i ∧ m i ≤ z i ∧ z i ≤ 24 ∧ lo (k i) ≤ t i ∧ t i ≤ hg (k i) ∧ v i = fallP (t i) (k i) (z i)) ∧ (∀ i, i + 1 < g → t (i + 1) ≤ v i) ∧ sN z 0 g ≤ c
def Gd (ρ : Nat → Int32) (h b g c n : Nat) : Prop := Wr ρ h b c ∧ Gw ρ h c n ∧ c ≤ 240 * n ∧ (∃ d, ρ 3 = nI d ∧ d ≤ n ∧ Gk ρ h c d) ∧ Go ρ g c
theorem Gw.cg {ρ ρ' : Nat → Int32} {h c n : Nat} (H : Gw ρ h c n) (hr : ∀ i, i < h → ρ' (9 + 4 * i + 1) = ρ (9 + 4 * i + 1) ∧ ρ' (9 + 4 * i + 2) = ρ (9 + 4 * i + 2)) : Gw ρ' h c n := by
  obtain ⟨w, p, h1, h2, h3⟩ := H
  exact ⟨w, p, fun i hi => by rw [(hr i hi).1, (hr i hi).2]; exact h1 i hi, h2, h3⟩
theorem Gl.cg {ρ ρ' : Nat → Int32} {h d r : Nat} (H : Gl ρ h d r) (hr : ∀ k, k < 7 → ρ' (201 + 7 * r + k) = ρ (201 + 7 * r + k)) : Gl ρ' h d r := by
  unfold Gl
  rw [hr 0 (by omega), hr 1 (by omega), hr 2 (by omega), hr 3 (by omega), hr 4 (by omega), hr 5 (by omega), hr 6 (by omega)]
  exact H
theorem Gl.up {ρ : Nat → Int32} {h h' d d' r : Nat} (H : Gl ρ h d r) (hh : h ≤ h') (hd : d ≤ d') : Gl ρ h' d' r := by
  obtain ⟨⟨o, o1, o2⟩, h2, ⟨y, y1, y2⟩, h4, h5, h6⟩ := H
  refine ⟨⟨o, by omega, o2⟩, h2, ⟨y, by omega, y2⟩, h4, h5, ?_⟩
  rcases h6 with h6 | h6 | ⟨x, x1, x2⟩
  · exact Or.inl h6
  · exact Or.inr (Or.inl h6)
  · exact Or.inr (Or.inr ⟨x, by omega, x2⟩)
theorem Gk.cg {ρ ρ' : Nat → Int32} {h c d : Nat} (H : Gk ρ h c d) (h6 : ρ' 6 = ρ 6) (hr : ∀ k, 201 ≤ k → k < 1601 → ρ' k = ρ k) : Gk ρ' h c d := by
  obtain ⟨h1, h2, h3⟩ := H
  have hm : min c 200 ≤ 200 := Nat.min_le_right _ _
  refine ⟨fun r hr' => (h1 r hr').cg fun k hk => hr _ (by omega) (by omega), fun i i1 i2 => ?_, ?_⟩
  · rw [hr _ (by omega) (by have := Nat.mod_lt i (show 0 < 200 by omega); omega), hr _ (by omega) (by have := Nat.mod_lt (i + 1) (show 0 < 200 by omega); omega)]
    exact h2 i i1 i2
  · rw [h6]
    obtain ⟨q, q1, q2, q3⟩ := h3
    refine ⟨q, q1, q2, ?_⟩
    rw [sN_cg (g := fun r => nn (ρ (201 + 7 * r + 3))) _ _ fun i _ hi => by rw [hr _ (by omega) (by omega)]]
    exact q3
theorem Go.cg {ρ ρ' : Nat → Int32} {g c c' : Nat} (H : Go ρ g c) (hg : g ≤ 20) (hc : c ≤ c') (hr : ∀ k, 101 ≤ k → k < 201 → ρ' k = ρ k) : Go ρ' g c' := by
  obtain ⟨k, m, z, t, v, h1, h2, h3⟩ := H
  refine ⟨k, m, z, t, v, fun i hi => ?_, h2, by omega⟩
  rw [hr _ (by omega) (by omega), hr _ (by omega) (by omega), hr _ (by omega) (by omega), hr _ (by omega) (by omega), hr _ (by omega) (by omega)]
  exact h1 i hi
theorem Gd.up {ρ : Nat → Int32} {h b g c n n' : Nat} (H : Gd ρ h b g c n) (hn : n ≤ n') : Gd ρ h b g c n' := by
  obtain ⟨h1, ⟨w, p, a1, a2, a3⟩, h3, ⟨d, d1, d2, d3⟩, h5⟩ := H
  exact ⟨h1, ⟨w, p, a1, by omega, a3⟩, by omega, ⟨d, d1, by omega, d3⟩, h5⟩
/-- the sums that the class reads -/
theorem Gw.s1 {ρ : Nat → Int32} {h c n : Nat} (H : Gw ρ h c n) : sH ρ h 2 = nI c := by
  obtain ⟨w, p, h1, h2, h3⟩ := H
  rw [← h3]
  exact sm_n h 0 fun i _ hi => (h1 i (by omega)).2
theorem sN_at (f : Nat → Nat) : ∀ (m a i : Nat), a ≤ i → i < a + m → f i ≤ sN f a m := by
  intro m
  induction m with
  | zero => intro a i q1 q2; omega
  | succ m ih =>
    intro a i q1 q2
    rw [sN]
    by_cases q : i = a
    · subst q; omega
    · have := ih (a + 1) i (by omega) (by omega); omega
/-- dues sum up to nothing -/
theorem Gw.dues {ρ : Nat → Int32} {h c n : Nat} (H : Gw ρ h c n) (hn : n ≤ 1000) (hcn : c ≤ 240 * n) : sL (Du ρ h) 0 h = 0 := by
  obtain ⟨w, p, h1, h2, h3⟩ := H
  have e1 : sH ρ h 1 = nI (sN w 0 h) := sm_n h 0 fun i _ hi => (h1 i (by omega)).1
  have e2 : sH ρ h 2 = nI (sN p 0 h) := sm_n h 0 fun i _ hi => (h1 i (by omega)).2
  have bw : ∀ i, i < h → w i < 2 ^ 31 ∧ p i < 2 ^ 31 := by
    intro i hi
    have := sN_at w h 0 i (by omega) (by omega)
    have := sN_at p h 0 i (by omega) (by omega)
    constructor <;> omega
  have key : ∀ m j, j + m = h → sL (Du ρ h) j m = nL (sN w 0 h * sN p j m) - nL (sN p 0 h * sN w j m) := by
    intro m
    induction m with
    | zero => intro j _; simp [sL, sN]
    | succ m ih =>
      intro j hj
      have hb := bw j (by omega)
      rw [sL, ih (j + 1) (by omega), sN, sN]
      unfold Du
      rw [e1, e2, (h1 j (by omega)).1, (h1 j (by omega)).2, nL_of (n := sN w 0 h) (by omega), nL_of (n := sN p 0 h) (by omega), nL_of (n := w j) hb.1, nL_of (n := p j) hb.2, nL_ml, nL_ml, sub_add4L, nL_ad, nL_ad, Nat.mul_add, Nat.mul_add]
  rw [key h 0 (by omega), Nat.mul_comm (sN p 0 h) (sN w 0 h), Int64.sub_self]
