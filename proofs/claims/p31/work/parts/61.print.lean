/-! the print, as a number of the row alone -/
def fo (f : Nat → Int64 → Int64) : Nat → Nat → Int64 → Int64
  | 0, _, a => a
  | m + 1, j, a => fo f m (j + 1) (f j a)
theorem un2i {α1 α2 β : Type} {f : α1 → α2 → β} {a : α1} {b : α2} {x : β} (h : f a b = x) : un2 f (a, b) = x := h
theorem bo {α β : Type} {o : Option α} {f : α → Option β} {v : α} {r : Option β} (h : o = some v) (h2 : f v = r) : o.bind f = r := by rw [h]; exact h2
section PR
variable {M : Mem} {ρ : Nat → Int32} {h b g c : Nat}
theorem pr6 (V : Vi M ρ h b g c) (W : RLv ρ c) : ∀ (m j n : Nat) (a : Int64), j + m = 14 → m < n → lL_print_6 M n a (nI j) = some (fo (fun k a => (31 : Int64) * a + (wv ρ h b g c k).toInt64) m j a) := by
  intro m
  induction m with
  | zero =>
    intro j n a h1 h2
    obtain ⟨n, rfl⟩ : ∃ n', n = n' + 1 := ⟨n - 1, by omega⟩
    unfold lL_print_6
    rw [l_14, if_pos (pI_le (by omega) (by omega))]
    rfl
  | succ m ih =>
    intro j n a h1 h2
    obtain ⟨n, rfl⟩ : ∃ n', n = n' + 1 := ⟨n - 1, by omega⟩
    unfold lL_print_6
    rw [l_14, if_neg (pI_nle (by omega) (by omega)), gw V W (by omega), Option.bind_some, show nI j + (1 : Int32) = nI (j + 1) from nI_ad j 1, ih (j + 1) n _ (by omega) (by omega)]
    rfl
theorem pr42 (V : Vi M ρ h b g c) {i : Nat} (hi : i < 8) : ∀ (m j n : Nat) (a : Int64), j + m = 8 → m < n → lL_print_42 M (nI i) n a (nI j) = some (fo (fun k a => (31 : Int64) * a + (if i < h then hv ρ b c i k else -5000003).toInt64) m j a) := by
  intro m
  induction m with
  | zero =>
    intro j n a h1 h2
    obtain ⟨n, rfl⟩ : ∃ n', n = n' + 1 := ⟨n - 1, by omega⟩
    unfold lL_print_42
    rw [l_8, if_pos (pI_le (by omega) (by omega))]
    rfl
  | succ m ih =>
    intro j n a h1 h2
    obtain ⟨n, rfl⟩ : ∃ n', n = n' + 1 := ⟨n - 1, by omega⟩
    unfold lL_print_42
    rw [l_8, if_neg (pI_nle (by omega) (by omega)), fh V hi (by omega), Option.bind_some, show nI j + (1 : Int32) = nI (j + 1) from nI_ad j 1, ih (j + 1) n _ (by omega) (by omega)]
    rfl
theorem pr33 (V : Vi M ρ h b g c) : ∀ (m j n : Nat) (a : Int64), j + m = 8 → m < n → lL_print_33 M n a (nI j) = some (fo (fun i a => fo (fun k a => (31 : Int64) * a + (if i < h then hv ρ b c i k else -5000003).toInt64) 8 0 a) m j a) := by
  intro m
  induction m with
  | zero =>
    intro j n a h1 h2
    obtain ⟨n, rfl⟩ : ∃ n', n = n' + 1 := ⟨n - 1, by omega⟩
    unfold lL_print_33
    rw [l_8, if_pos (pI_le (by omega) (by omega))]
    rfl
  | succ m ih =>
    intro j n a h1 h2
    obtain ⟨n, rfl⟩ : ∃ n', n = n' + 1 := ⟨n - 1, by omega⟩
    unfold lL_print_33
    rw [l_8, if_neg (pI_nle (by omega) (by omega)), l_0, pr42 V (by omega) 8 0 9 a (by omega) (by omega), Option.bind_some, show nI j + (1 : Int32) = nI (j + 1) from nI_ad j 1, ih (j + 1) n _ (by omega) (by omega)]
    rfl
end PR
noncomputable def fb (ρ : Nat → Int32) (h b g i : Nat) : Nat → Int64 → Int64 := fun k a => (31 : Int64) * ((31 : Int64) * a + (bv ρ h b i k).toInt64) + (lv' ρ g i (k + 1)).toInt64
section PR2
variable {ρ : Nat → Int32} {h b g c : Nat}
theorem pr87 (W : Wr ρ h b c) {i : Nat} (hi : i < 20) : ∀ (m j n : Nat) (a : Int64) (M : Mem), Vi M ρ h b g c → j + m = 4 → m < n → ∃ M', lL_print_87 (nI i) n a (nI j) M = some (fo (fb ρ h b g i) m j a, M') ∧ Pq M M' := by
  intro m
  induction m with
  | zero =>
    intro j n a M V h1 h2
    obtain ⟨n, rfl⟩ : ∃ n', n = n' + 1 := ⟨n - 1, by omega⟩
    refine ⟨M, ?_, Pq.rf M⟩
    unfold lL_print_87
    rw [l_4, if_pos (pI_le (by omega) (by omega))]
    rfl
  | succ m ih =>
    intro j n a M V h1 h2
    obtain ⟨n, rfl⟩ : ∃ n', n = n' + 1 := ⟨n - 1, by omega⟩
    obtain ⟨M1, a1, a2⟩ := gq V W (i := i) (k := j) (by omega) (by omega)
    obtain ⟨M2, b1, b2⟩ := ih (j + 1) n (fb ρ h b g i j a) M1 (a2.vi V) (by omega) (by omega)
    refine ⟨M2, ?_, a2.tr b2⟩
    unfold lL_print_87
    rw [l_4, if_neg (pI_nle (by omega) (by omega)), a1, Option.bind_some]
    simp only [un2]
    rw [show nI j + (1 : Int32) = nI (j + 1) from nI_ad j 1, gl (a2.vi V) (by omega) (by omega), Option.bind_some]
    exact b1
theorem pr78 (W : Wr ρ h b c) : ∀ (m j n : Nat) (a : Int64) (M : Mem), Vi M ρ h b g c → j + m = 20 → m < n → ∃ M', lL_print_78 n a (nI j) M = some (fo (fun i a => fo (fb ρ h b g i) 4 0 a) m j a, M') ∧ Pq M M' := by
  intro m
  induction m with
  | zero =>
    intro j n a M V h1 h2
    obtain ⟨n, rfl⟩ : ∃ n', n = n' + 1 := ⟨n - 1, by omega⟩
    refine ⟨M, ?_, Pq.rf M⟩
    unfold lL_print_78
    rw [l_20, if_pos (pI_le (by omega) (by omega))]
    rfl
  | succ m ih =>
    intro j n a M V h1 h2
    obtain ⟨n, rfl⟩ : ∃ n', n = n' + 1 := ⟨n - 1, by omega⟩
    obtain ⟨M1, a1, a2⟩ := pr87 (g := g) W (i := j) (by omega) 4 0 FUEL a M V (by omega) (fuel8 (by omega))
    obtain ⟨M2, b1, b2⟩ := ih (j + 1) n (fo (fb ρ h b g j) 4 0 a) M1 (a2.vi V) (by omega) (by omega)
    refine ⟨M2, ?_, a2.tr b2⟩
    unfold lL_print_78
    rw [l_20, if_neg (pI_nle (by omega) (by omega)), l_0, a1, Option.bind_some]
    simp only [un2]
    rw [show nI j + (1 : Int32) = nI (j + 1) from nI_ad j 1]
    exact b1
end PR2
def ff (ρ : Nat → Int32) : Nat → Int64 → Int64 := fun i a => (31 : Int64) * ((31 : Int64) * ((31 : Int64) * a + (ρ (201 + 7 * (i % 200) + 4)).toInt64) + (ρ (201 + 7 * (i % 200) + 5)).toInt64) + (ρ (201 + 7 * (i % 200) + 1)).toInt64
theorem g7 {M : Mem} {ρ : Nat → Int32} {h b g c : Nat} (V : Vi M ρ h b g c) (W : RLv ρ c) : gL_whole (7 : Int32) M = some (nI c) := gw V W (k := 7) (by omega)
theorem g9 {M : Mem} {ρ : Nat → Int32} {h b g c : Nat} (V : Vi M ρ h b g c) (W : RLv ρ c) : gL_whole (9 : Int32) M = some (nI (min c 200)) := gw V W (k := 9) (by omega)
theorem pr149 {M : Mem} {ρ : Nat → Int32} {h b g c : Nat} (V : Vi M ρ h b g c) (W : RLv ρ c) : ∀ (m j n : Nat) (a : Int64), j + m = c → c - 200 ≤ j → m < n → lL_print_149 M n a (nI j) = some (fo (ff ρ) m j a) := by
  have hc := V.2.2.2.1.1
  intro m
  induction m with
  | zero =>
    intro j n a h1 h0 h2
    obtain ⟨n, rfl⟩ : ∃ n', n = n' + 1 := ⟨n - 1, by omega⟩
    unfold lL_print_149
    rw [g7 V W, Option.bind_some, if_pos (pI_le (by omega) (by omega))]
    rfl
  | succ m ih =>
    intro j n a h1 h0 h2
    obtain ⟨n, rfl⟩ : ∃ n', n = n' + 1 := ⟨n - 1, by omega⟩
    unfold lL_print_149
    rw [g7 V W, Option.bind_some, if_neg (pI_nle (by omega) (by omega)), show gL_loaf (nI j) 4 M = some _ from gf V (k := 4) (by omega) (by omega) (by omega), Option.bind_some, show gL_loaf (nI j) 5 M = some _ from gf V (k := 5) (by omega) (by omega) (by omega), Option.bind_some, show gL_loaf (nI j) 1 M = some _ from gf V (k := 1) (by omega) (by omega) (by omega), Option.bind_some, show nI j + (1 : Int32) = nI (j + 1) from nI_ad j 1, ih (j + 1) n _ (by omega) (by omega) (by omega)]
    rfl
noncomputable def Pv (ρ : Nat → Int32) (h b g c : Nat) : Int64 :=
  fo (ff ρ) (min c 200) (c - 200) (fo (fun i a => fo (fb ρ h b g i) 4 0 a) 20 0 (fo (fun i a => fo (fun k a => (31 : Int64) * a + (if i < h then hv ρ b c i k else -5000003).toInt64) 8 0 a) 8 0 (fo (fun k a => (31 : Int64) * a + (wv ρ h b g c k).toInt64) 14 0 59)))
theorem first_n {c : Nat} (hc : c < 2 ^ 30) : nI c - nI (min c 200) = nI (c - 200) := by
  rw [mI_sb (Nat.min_le_left _ _) (by omega), show c - min c 200 = c - 200 by omega]
theorem print_v {M : Mem} {ρ : Nat → Int32} {h b g c : Nat} (V : Vi M ρ h b g c) (W : Wr ρ h b c) : ∃ M', fL_print M = some (Pv ρ h b g c, M') ∧ Pq M M' := by
  have hc := V.2.2.2.1.1
  have hm : min c 200 ≤ 200 := Nat.min_le_right _ _
  obtain ⟨M1, a1, a2⟩ := pr78 (g := g) W 20 0 FUEL (fo (fun i a => fo (fun k a => (31 : Int64) * a + (if i < h then hv ρ b c i k else -5000003).toInt64) 8 0 a) 8 0 (fo (fun k a => (31 : Int64) * a + (wv ρ h b g c k).toInt64) 14 0 59)) M V (by omega) (fuel8 (by omega))
  refine ⟨M1, ?_, a2⟩
  have e1 : lL_print_6 M FUEL (59 : Int64) (nI 0) = some (fo (fun k a => (31 : Int64) * a + (wv ρ h b g c k).toInt64) 14 0 59) := pr6 V W.2.2.1 14 0 FUEL 59 (by omega) (fuel8 (by omega))
  obtain ⟨A, hA⟩ : ∃ A, A = fo (fun k a => (31 : Int64) * a + (wv ρ h b g c k).toInt64) 14 0 59 := ⟨_, rfl⟩
  rw [← hA] at e1 a1
  have e2 : lL_print_33 M 9 A (nI 0) = some (fo (fun i a => fo (fun k a => (31 : Int64) * a + (if i < h then hv ρ b c i k else -5000003).toInt64) 8 0 a) 8 0 A) := pr33 V 8 0 9 A (by omega) (by omega)
  obtain ⟨B, hB⟩ : ∃ B, B = fo (fun i a => fo (fun k a => (31 : Int64) * a + (if i < h then hv ρ b c i k else -5000003).toInt64) 8 0 a) 8 0 A := ⟨_, rfl⟩
  rw [← hB] at e2 a1
  obtain ⟨D, hD⟩ : ∃ D, D = fo (fun i a => fo (fb ρ h b g i) 4 0 a) 20 0 B := ⟨_, rfl⟩
  rw [← hD] at a1
  have e3 : Pv ρ h b g c = fo (ff ρ) (min c 200) (c - 200) D := by rw [hD, hB, hA]; rfl
  rw [e3]
  have e4 : lL_print_149 M1 FUEL D (nI c - nI (min c 200)) = some (fo (ff ρ) (min c 200) (c - 200) D) := by
    rw [first_n hc]
    exact pr149 (a2.vi V) W.2.2.1 (min c 200) (c - 200) FUEL D (by omega) (by omega) (fuel8 (by omega))
  have e5 : (gL_whole (7 : Int32) M1).bind (fun v35 => (gL_whole (9 : Int32) M1).bind fun v37 => (lL_print_149 M1 FUEL D (v35 - v37)).bind (fun a49 => some (a49, M1))) = some (fo (ff ρ) (min c 200) (c - 200) D, M1) := by
    rw [g7 (a2.vi V) W.2.2.1, Option.bind_some, g9 (a2.vi V) W.2.2.1, Option.bind_some, e4, Option.bind_some]
  have e6 : (lL_print_78 FUEL B (nI 0) M).bind (un2 fun a32 M33 => (gL_whole (7 : Int32) M33).bind fun v35 => (gL_whole (9 : Int32) M33).bind fun v37 => (lL_print_149 M33 FUEL a32 (v35 - v37)).bind (fun a49 => some (a49, M33))) = some (fo (ff ρ) (min c 200) (c - 200) D, M1) := by
    rw [a1, Option.bind_some]
    exact un2i e5
  unfold fL_print
  rw [l_0, e1, Option.bind_some, e2, Option.bind_some]
  exact e6
