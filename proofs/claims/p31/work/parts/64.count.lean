/-! what the counts of households, loaves and batches have to do with one another -/
def cO (ρ : Nat → Int32) (c i : Nat) : Nat := sN (fun r => iN (ρ (201 + 7 * r + 0) = nI i)) 0 (min c 200)
def cH (ρ : Nat → Int32) (c i : Nat) : Nat := sN (fun r => iN (ρ (201 + 7 * r + 5) = nI i)) 0 (min c 200)
def cB (ρ : Nat → Int32) (c i : Nat) : Nat := sN (fun r => iN (ρ (201 + 7 * r + 0) = nI i ∧ ρ (201 + 7 * r + 5) = nI i)) 0 (min c 200)
def cQ (ρ : Nat → Int32) (b i : Nat) : Nat := sN (fun r => iN (ρ (41 + 3 * r + 0) = nI i)) 0 b
def cT (ρ : Nat → Int32) (c : Nat) : Nat := sN (fun i => iN ((nI 0 ≤ ρ (201 + 7 * i + 5) ∧ ρ (201 + 7 * i + 5) ≤ nI 7) ∧ ρ (201 + 7 * i + 5) ≠ ρ (201 + 7 * i + 0))) 0 (min c 200)
theorem hv4 (ρ : Nat → Int32) (b c i : Nat) : hv ρ b c i 4 = nI (cO ρ c i) := sm_i _ _ _
theorem hv5 (ρ : Nat → Int32) (b c i : Nat) : hv ρ b c i 5 = nI (cH ρ c i) := sm_i _ _ _
theorem hv6 (ρ : Nat → Int32) (b c i : Nat) : hv ρ b c i 6 = nI (cB ρ c i) := sm_i _ _ _
theorem hv7 (ρ : Nat → Int32) (b c i : Nat) : hv ρ b c i 7 = nI (cQ ρ b i) := sm_i _ _ _
theorem wv10 (ρ : Nat → Int32) (h b g c : Nat) : wv ρ h b g c 10 = nI (cH ρ c 8) := sm_i _ _ _
theorem wv11 (ρ : Nat → Int32) (h b g c : Nat) : wv ρ h b g c 11 = nI (cT ρ c) := sm_i _ _ _
theorem cB_le (ρ : Nat → Int32) (c i : Nat) : cB ρ c i ≤ cO ρ c i ∧ cB ρ c i ≤ cH ρ c i := ⟨sN_le _ _ fun _ _ _ => iN_im fun q => q.1, sN_le _ _ fun _ _ _ => iN_im fun q => q.2⟩
theorem cO_k (ρ : Nat → Int32) (c i : Nat) : cO ρ c i ≤ min c 200 := sN_ln _ _ fun _ _ _ => iN_le _
theorem cH_k (ρ : Nat → Int32) (c i : Nat) : cH ρ c i ≤ min c 200 := sN_ln _ _ fun _ _ _ => iN_le _
/-- in how many households a place lies -/
theorem in_one {x h : Nat} (hx : x < h) (hh : h ≤ 8) : sN (fun i => iN (nI x = nI i)) 0 h = 1 := by
  rw [sN_cg (g := fun i => iN (x = i)) h 0 fun i _ hi => iN_cg (mI_eq (by omega) (by omega)), sN_one, iN_p ⟨by omega, by omega⟩]
theorem in_none {y : Int32} {h : Nat} (hy : ∀ i, i < h → ¬ y = nI i) : sN (fun i => iN (y = nI i)) 0 h = 0 := sN_0 _ _ fun i _ hi => iN_n (hy i (by omega))
theorem sum_O {ρ : Nat → Int32} {h c d : Nat} (hh : h ≤ 8) (G : ∀ r, r < min c 200 → Gl ρ h d r) : sN (cO ρ c) 0 h = min c 200 := by
  unfold cO
  rw [sN_swap (fun i r => iN (ρ (201 + 7 * r + 0) = nI i)), sN_cg (g := fun _ => 1) _ _ fun r _ hr => ?_, sN_c]
  · omega
  · obtain ⟨⟨o, o1, o2⟩, -⟩ := G r (by omega)
    rw [o2]
    exact in_one o1 hh
theorem hold_3 {ρ : Nat → Int32} {h d r : Nat} (hh : h ≤ 8) (G : Gl ρ h d r) : (sN (fun i => iN (ρ (201 + 7 * r + 5) = nI i)) 0 h + iN (ρ (201 + 7 * r + 5) = nI 8) ≤ 1) ∧ sN (fun i => iN (ρ (201 + 7 * r + 0) = nI i ∧ ρ (201 + 7 * r + 5) = nI i)) 0 h + iN ((nI 0 ≤ ρ (201 + 7 * r + 5) ∧ ρ (201 + 7 * r + 5) ≤ nI 7) ∧ ρ (201 + 7 * r + 5) ≠ ρ (201 + 7 * r + 0)) = sN (fun i => iN (ρ (201 + 7 * r + 5) = nI i)) 0 h := by
  obtain ⟨⟨o, o1, o2⟩, -, -, -, -, h6⟩ := G
  rw [o2]
  rcases h6 with e | e | ⟨x, x1, e⟩
  · rw [e, in_none fun i hi => ng_nI (by omega), iN_n (ng_nI (by omega)), iN_n (fun q => nle_ng (by omega) q.1.1), sN_0 _ _ fun i _ hi => iN_n fun q => ng_nI (by omega) q.2]
    exact ⟨by omega, rfl⟩
  · rw [e, in_none fun i hi => pI_ne (by omega) (by omega) (by omega), iN_p rfl, iN_n (fun q => pI_nle (by omega) (by omega) q.1.2), sN_0 _ _ fun i _ hi => iN_n fun q => pI_ne (by omega) (by omega) (by omega) q.2]
    exact ⟨by omega, rfl⟩
  · rw [e, in_one x1 hh, iN_n (pI_ne (b := 8) (by omega) (by omega) (by omega))]
    refine ⟨by omega, ?_⟩
    by_cases q : x = o
    · subst q
      rw [iN_n (fun w => w.2 rfl), sN_cg (g := fun i => iN (nI x = nI i)) _ _ fun i _ _ => iN_cg ⟨fun w => w.1, fun w => ⟨w, w⟩⟩, in_one x1 hh]
    · rw [iN_p ⟨⟨pI_le (by omega) (by omega), pI_le (by omega) (by omega)⟩, pI_ne q (by omega) (by omega)⟩, sN_0 _ _ fun i _ hi => iN_n fun w => ?_]
      have h1 := (mI_eq (by omega) (by omega)).mp w.1
      have h2 := (mI_eq (by omega) (by omega)).mp w.2
      omega
theorem sum_H {ρ : Nat → Int32} {h c d : Nat} (hh : h ≤ 8) (G : ∀ r, r < min c 200 → Gl ρ h d r) : sN (cH ρ c) 0 h + cH ρ c 8 ≤ min c 200 := by
  have e : sN (cH ρ c) 0 h = sN (fun r => sN (fun i => iN (ρ (201 + 7 * r + 5) = nI i)) 0 h) 0 (min c 200) := sN_swap (fun i r => iN (ρ (201 + 7 * r + 5) = nI i)) _ _ _ _
  rw [e]
  unfold cH
  rw [← sN_add]
  exact sN_ln _ _ fun r _ hr => (hold_3 hh (G r (by omega))).1
theorem sum_B {ρ : Nat → Int32} {h c d : Nat} (hh : h ≤ 8) (G : ∀ r, r < min c 200 → Gl ρ h d r) : sN (cB ρ c) 0 h + cT ρ c = sN (cH ρ c) 0 h := by
  have e : sN (cH ρ c) 0 h = sN (fun r => sN (fun i => iN (ρ (201 + 7 * r + 5) = nI i)) 0 h) 0 (min c 200) := sN_swap (fun i r => iN (ρ (201 + 7 * r + 5) = nI i)) _ _ _ _
  have e2 : sN (cB ρ c) 0 h = sN (fun r => sN (fun i => iN (ρ (201 + 7 * r + 0) = nI i ∧ ρ (201 + 7 * r + 5) = nI i)) 0 h) 0 (min c 200) := sN_swap (fun i r => iN (ρ (201 + 7 * r + 0) = nI i ∧ ρ (201 + 7 * r + 5) = nI i)) _ _ _ _
  rw [e, e2]
  unfold cT
  rw [← sN_add]
  exact sN_cg _ _ fun r _ hr => (hold_3 hh (G r (by omega))).2
theorem sum_Q {ρ : Nat → Int32} {h b : Nat} (hh : h ≤ 8) (W : RB ρ h b) : sN (cQ ρ b) 0 h = b := by
  unfold cQ
  rw [sN_swap (fun i r => iN (ρ (41 + 3 * r + 0) = nI i)), sN_cg (g := fun _ => 1) _ _ fun r _ hr => ?_, sN_c]
  · omega
  · obtain ⟨⟨o, o1, o2⟩, -⟩ := W r (by omega)
    have o3 : ρ (41 + 3 * r + 0) = nI o := o2
    rw [o3]
    exact in_one o1 hh
/-- the kinds are three -/
theorem kinds {ρ : Nat → Int32} {h c d i : Nat} (j : Nat) (G : ∀ r, r < min c 200 → Gl ρ h d r) : sN (fun r => iN (ρ (201 + 7 * r + 1) = nI 0 ∧ ρ (201 + 7 * r + j) = nI i)) 0 (min c 200) + sN (fun r => iN (ρ (201 + 7 * r + 1) = nI 1 ∧ ρ (201 + 7 * r + j) = nI i)) 0 (min c 200) + sN (fun r => iN (ρ (201 + 7 * r + 1) = nI 2 ∧ ρ (201 + 7 * r + j) = nI i)) 0 (min c 200) = sN (fun r => iN (ρ (201 + 7 * r + j) = nI i)) 0 (min c 200) := by
  rw [← sN_add, ← sN_add]
  refine sN_cg _ _ fun r _ hr => ?_
  obtain ⟨-, ⟨k, k1, k2⟩, -⟩ := G r (by omega)
  rw [k2]
  rcases (show k = 0 ∨ k = 1 ∨ k = 2 by omega) with rfl | rfl | rfl
  · rw [iN_n (P := nI 0 = nI 1 ∧ _) fun q => absurd q.1 (by decide), iN_n (P := nI 0 = nI 2 ∧ _) fun q => absurd q.1 (by decide), iN_cg (P := nI 0 = nI 0 ∧ _) (Q := ρ (201 + 7 * r + j) = nI i) ⟨fun q => q.2, fun q => ⟨rfl, q⟩⟩]; omega
  · rw [iN_n (P := nI 1 = nI 0 ∧ _) fun q => absurd q.1 (by decide), iN_n (P := nI 1 = nI 2 ∧ _) fun q => absurd q.1 (by decide), iN_cg (P := nI 1 = nI 1 ∧ _) (Q := ρ (201 + 7 * r + j) = nI i) ⟨fun q => q.2, fun q => ⟨rfl, q⟩⟩]; omega
  · rw [iN_n (P := nI 2 = nI 0 ∧ _) fun q => absurd q.1 (by decide), iN_n (P := nI 2 = nI 1 ∧ _) fun q => absurd q.1 (by decide), iN_cg (P := nI 2 = nI 2 ∧ _) (Q := ρ (201 + 7 * r + j) = nI i) ⟨fun q => q.2, fun q => ⟨rfl, q⟩⟩]; omega
def bA (ρ : Nat → Int32) (c i k j : Nat) : Nat := sN (fun r => iN (ρ (201 + 7 * r + 1) = nI k ∧ ρ (201 + 7 * r + j) = nI i)) 0 (min c 200)
theorem Ba_n (ρ : Nat → Int32) (c i k : Nat) : Ba ρ c (nI i) (nI k) = nI (bA ρ c i k 0) - nI (bA ρ c i k 5) := by
  unfold Ba
  rw [sm_i (fun r => ρ (201 + 7 * r + 1) = nI k ∧ ρ (201 + 7 * r + 0) = nI i), sm_i (fun r => ρ (201 + 7 * r + 1) = nI k ∧ ρ (201 + 7 * r + 5) = nI i)]
  rfl
theorem Ba_3 {ρ : Nat → Int32} {h c d : Nat} (i : Nat) (G : ∀ r, r < min c 200 → Gl ρ h d r) : (Ba ρ c (nI i) (nI 0) + Ba ρ c (nI i) (nI 1)) + Ba ρ c (nI i) (nI 2) = nI (cO ρ c i) - nI (cH ρ c i) := by
  rw [Ba_n, Ba_n, Ba_n, sub_add4, sub_add4, nI_ad, nI_ad, nI_ad, nI_ad]
  congr 2
  · exact kinds 0 G
  · exact kinds 5 G
/-- the next one: its due is the greatest of those that may, the first of them -/
def may (ρ : Nat → Int32) (h : Nat) (i : Nat) : Prop := sH ρ h 3 = nI h ∨ ρ (9 + 4 * i + 3) = nI 0
theorem nx_best {ρ : Nat → Int32} {h : Nat} (z : Bool) (W : RH ρ h) : ∀ (m j : Nat) (b : Option Nat), j + m = h → (∀ p, b = some p → p < j ∧ (z = true ∨ ρ (9 + 4 * p + 3) = nI 0) ∧ ∀ i, i < j → (z = true ∨ ρ (9 + 4 * i + 3) = nI 0) → Du ρ h i < Du ρ h p ∨ (Du ρ h i = Du ρ h p ∧ p ≤ i)) → (b = none → ∀ i, i < j → ¬ (z = true ∨ ρ (9 + 4 * i + 3) = nI 0)) → ∀ p, nx ρ h z m j b = some p → p < h ∧ (z = true ∨ ρ (9 + 4 * p + 3) = nI 0) ∧ ∀ i, i < h → (z = true ∨ ρ (9 + 4 * i + 3) = nI 0) → Du ρ h i < Du ρ h p ∨ (Du ρ h i = Du ρ h p ∧ p ≤ i) := by
  intro m
  induction m with
  | zero =>
    intro j b h1 h2 h3 p hp
    obtain rfl : j = h := by omega
    exact h2 p hp
  | succ m ih =>
    intro j b h1 h2 h3 p hp
    rw [nx] at hp
    by_cases q : z = true ∨ ρ (9 + 4 * j + 3) = nI 0
    · rw [if_pos q] at hp
      refine ih (j + 1) _ (by omega) (fun p' hp' => ?_) (fun e => ?_) p hp
      · unfold bt at hp'
        cases b with
        | none =>
          cases hp'
          refine ⟨by omega, q, fun i hi hm => ?_⟩
          by_cases e : i = j
          · subst e; exact Or.inr ⟨rfl, Nat.le_refl _⟩
          · exact absurd hm (h3 rfl i (by omega))
        | some p0 =>
          obtain ⟨a1, a2, a3⟩ := h2 p0 rfl
          dsimp only at hp'
          by_cases le : Du ρ h j ≤ Du ρ h p0
          · rw [if_pos le] at hp'
            cases hp'
            refine ⟨by omega, a2, fun i hi hm => ?_⟩
            by_cases e : i = j
            · subst e
              by_cases e2 : Du ρ h i = Du ρ h p'
              · exact Or.inr ⟨e2, by omega⟩
              · exact Or.inl (Int64.lt_of_le_of_ne le e2)
            · exact a3 i (by omega) hm
          · rw [if_neg le] at hp'
            cases hp'
            refine ⟨by omega, q, fun i hi hm => ?_⟩
            by_cases e : i = j
            · subst e; exact Or.inr ⟨rfl, Nat.le_refl _⟩
            · have gt : Du ρ h p0 < Du ρ h j := Int64.not_le.mp le
              rcases a3 i (by omega) hm with r | ⟨r, -⟩
              · exact Or.inl (Int64.lt_trans r gt)
              · rw [r]; exact Or.inl gt
      · unfold bt at e
        cases b with
        | none => cases e
        | some p0 =>
          dsimp only at e
          split at e <;> cases e
    · rw [if_neg q] at hp
      refine ih (j + 1) b (by omega) (fun p' hp' => ?_) (fun e i hi => ?_) p hp
      · obtain ⟨a1, a2, a3⟩ := h2 p' hp'
        refine ⟨by omega, a2, fun i hi hm => ?_⟩
        by_cases e : i = j
        · subst e; exact absurd hm q
        · exact a3 i (by omega) hm
      · by_cases e2 : i = j
        · subst e2; exact q
        · exact h3 e i (by omega)
theorem nxt_best {ρ : Nat → Int32} {h p : Nat} (W : RH ρ h) (hp : nxt ρ h = some p) : p < h ∧ may ρ h p ∧ ∀ i, i < h → may ρ h i → Du ρ h i < Du ρ h p ∨ (Du ρ h i = Du ρ h p ∧ p ≤ i) := by
  have e : ∀ i, (decide (sH ρ h 3 = nI h) = true ∨ ρ (9 + 4 * i + 3) = nI 0) ↔ may ρ h i := fun i => by unfold may; rw [decide_eq_true_iff]
  obtain ⟨h1, h2, h3⟩ := nx_best (decide (sH ρ h 3 = nI h)) W h 0 none (by omega) (fun _ q => by cases q) (fun _ i hi => absurd hi (Nat.not_lt_zero _)) p hp
  exact ⟨h1, (e p).mp h2, fun i hi hm => h3 i hi ((e i).mpr hm)⟩
