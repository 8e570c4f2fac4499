/-! what the class's village and the reference's row have in common -/
def RVn (M : Mem) (v : Nat) (row : Nat → Int32) (h b g c : Nat) : Prop :=
  (h ≤ 8 ∧ b ≤ 20 ∧ g ≤ 20 ∧ c < 2 ^ 30) ∧
  (M.1 (v + 1) 1 = nI h ∧ M.1 (v + 8) 1 = nI b ∧ M.1 (v + 14) 1 = nI g ∧ M.1 (v + 22) 1 = nI c) ∧
  (row 0 = nI h ∧ row 7 = nI b ∧ row 8 = nI g ∧ row 5 = nI c) ∧
  (M.1 (v + 0) 4 = row 2 ∧ M.1 (v + 0) 5 = row 1 ∧ M.1 (v + 0) 6 = row 3 ∧ M.1 (v + 0) 7 = row 4 ∧ M.1 (v + 22) 2 = row 6) ∧
  (∀ i k, i < h → k < 4 → M.1 (v + (4 + k)) i = row (9 + 4 * i + k)) ∧
  (∀ i k, i < b → k < 3 → M.1 (v + (11 + k)) i = row (41 + 3 * i + k)) ∧
  (∀ i k, i < g → k < 5 → M.1 (v + (17 + k)) i = row (101 + 5 * i + k)) ∧
  (∀ i k, i < c → i < 200 → k < 7 → M.1 (v + (25 + k)) i = row (201 + 7 * i + k))
def RV (M : Mem) (v : Nat) (row : Nat → Int32) : Prop := ∃ h b g c, RVn M v row h b g c
theorem RVn.mem {M M' : Mem} {v : Nat} {row : Nat → Int32} {h b g c : Nat} (H : RVn M v row h b g c) (hM : ∀ a x, a < 32 → M'.1 (v + a) x = M.1 (v + a) x) : RVn M' v row h b g c := by
  obtain ⟨h1, h2, h3, h4, h5, h6, h7, h8⟩ := H
  refine ⟨h1, ?_, h3, ?_, fun i k hi hk => ?_, fun i k hi hk => ?_, fun i k hi hk => ?_, fun i k hi hj hk => ?_⟩
  · rw [hM 1 1 (by omega), hM 8 1 (by omega), hM 14 1 (by omega), hM 22 1 (by omega)]; exact h2
  · rw [hM 0 4 (by omega), hM 0 5 (by omega), hM 0 6 (by omega), hM 0 7 (by omega), hM 22 2 (by omega)]; exact h4
  · rw [hM _ _ (by omega)]; exact h5 i k hi hk
  · rw [hM _ _ (by omega)]; exact h6 i k hi hk
  · rw [hM _ _ (by omega)]; exact h7 i k hi hk
  · rw [hM _ _ (by omega)]; exact h8 i k hi hj hk
theorem RVn.row {M : Mem} {v : Nat} {row row' : Nat → Int32} {h b g c : Nat} (H : RVn M v row h b g c) (hr : ∀ k, k < 1601 → row' k = row k) : RVn M v row' h b g c := by
  obtain ⟨h1, h2, h3, h4, h5, h6, h7, h8⟩ := H
  refine ⟨h1, h2, ?_, ?_, fun i k hi hk => ?_, fun i k hi hk => ?_, fun i k hi hk => ?_, fun i k hi hj hk => ?_⟩
  · rw [hr 0 (by omega), hr 7 (by omega), hr 8 (by omega), hr 5 (by omega)]; exact h3
  · rw [hr 2 (by omega), hr 1 (by omega), hr 3 (by omega), hr 4 (by omega), hr 6 (by omega)]; exact h4
  · rw [hr _ (by omega)]; exact h5 i k hi hk
  · rw [hr _ (by omega)]; exact h6 i k hi hk
  · rw [hr _ (by omega)]; exact h7 i k hi hk
  · rw [hr _ (by omega)]; exact h8 i k hi hj hk
theorem RVn.val {M M' : Mem} {v u : Nat} {row : Nat → Int32} {h b g c : Nat} (H : RVn M u row h b g c)
    (e1 : M'.1 (v + 1) 1 = M.1 (u + 1) 1) (e2 : M'.1 (v + 8) 1 = M.1 (u + 8) 1) (e3 : M'.1 (v + 14) 1 = M.1 (u + 14) 1) (e4 : M'.1 (v + 22) 1 = M.1 (u + 22) 1) (e5 : M'.1 (v + 22) 2 = M.1 (u + 22) 2) (e6 : ∀ x, 4 ≤ x → x < 8 → M'.1 (v + 0) x = M.1 (u + 0) x)
    (e7 : ∀ i k, i < h → k < 4 → M'.1 (v + (4 + k)) i = M.1 (u + (4 + k)) i) (e8 : ∀ i k, i < b → k < 3 → M'.1 (v + (11 + k)) i = M.1 (u + (11 + k)) i) (e9 : ∀ i k, i < g → k < 5 → M'.1 (v + (17 + k)) i = M.1 (u + (17 + k)) i) (e10 : ∀ i k, i < c → i < 200 → k < 7 → M'.1 (v + (25 + k)) i = M.1 (u + (25 + k)) i) : RVn M' v row h b g c := by
  obtain ⟨h1, h2, h3, h4, h5, h6, h7, h8⟩ := H
  refine ⟨h1, ?_, h3, ?_, fun i k hi hk => ?_, fun i k hi hk => ?_, fun i k hi hk => ?_, fun i k hi hj hk => ?_⟩
  · rw [e1, e2, e3, e4]; exact h2
  · rw [e6 4 (by omega) (by omega), e6 5 (by omega) (by omega), e6 6 (by omega) (by omega), e6 7 (by omega) (by omega), e5]; exact h4
  · rw [e7 i k hi hk]; exact h5 i k hi hk
  · rw [e8 i k hi hk]; exact h6 i k hi hk
  · rw [e9 i k hi hk]; exact h7 i k hi hk
  · rw [e10 i k hi hj hk]; exact h8 i k hi hj hk
theorem ov_at {P : Nat → Nat → Bool} {v u a x : Nat} {M : Mem} (h : P (v + a) x = true) : (ov P v u M).1 (v + a) x = M.1 (u + a) x := by
  show (if P (v + a) x = true then _ else _) = _
  rw [if_pos h, show u + (v + a - v) = u + a by omega]
theorem pc_l {P : Nat → Nat → Bool} {q c a x : Nat} (h : P a x = true) : Pc P q c a x = true := by simp [Pc, h]
theorem pc_r {P : Nat → Nat → Bool} {q c : Nat} : Pc P q c q c = true := by simp [Pc]
theorem pt_l {P : Nat → Nat → Bool} {t w c a x : Nat} (h : P a x = true) : Pt' P t w c a x = true := by simp [Pt', h]
theorem pt_r {P : Nat → Nat → Bool} {t w c a x : Nat} (h : t + 2 ≤ a ∧ a < t + 2 + w ∧ x < c) : Pt' P t w c a x = true := by simp [Pt', h]
theorem PV_inv {v h b g k : Nat} : Inv (PV v h b g k) v :=
  Inv_c (a := 0) (Inv_c (a := 0) (Inv_c (a := 0) (Inv_c (a := 0) (Inv_c (a := 22) (Inv_c (a := 22) (Inv_t (a := 23) (Inv_c (a := 14) (Inv_t (a := 15) (Inv_c (a := 8) (Inv_t (a := 9) (Inv_c (a := 1) (Inv_t (a := 2) (Inv_0 v) (by omega)) (by omega)) (by omega)) (by omega)) (by omega)) (by omega)) (by omega)) (by omega)) (by omega)) (by omega)) (by omega)) (by omega)) (by omega)
theorem PV_out {v h b g k q x : Nat} (hq : q < v ∨ v + 32 ≤ q) : ¬ PV v h b g k q x = true := fun h => by
  have := PV_inv q x h
  omega
theorem kept_n {c : Nat} (hc : c < 2 ^ 30) : kept (nI c) = nI (min c 200) := by
  unfold kept
  rw [show (200 : Int32) = nI 200 from rfl]
  by_cases h : 200 < c
  · rw [if_pos ((mI_lt (by omega) (by omega)).mpr h), Nat.min_eq_right (by omega)]
  · rw [if_neg (fun q => h ((mI_lt (by omega) (by omega)).mp q)), Nat.min_eq_left (by omega)]
/-- a village copied holds what the other holds; nothing else moves -/
theorem rv_copy {M : Mem} {v u : Nat} {row : Nat → Int32} {h b g c : Nat} (hd : Apart v u) (H : RVn M u row h b g c) : ∃ M', fX9_copyFrom v u M = some M' ∧ RVn M' v row h b g c ∧ (∀ q x, q < v ∨ v + 32 ≤ q → M'.1 q x = M.1 q x) ∧ M'.2 = M.2 := by
  have H2 := H
  obtain ⟨⟨r1, r2, r3, r4⟩, ⟨c1, c2, c3, c4⟩, -⟩ := H2
  refine ⟨_, X9_copy hd c1 r1 c2 r2 c3 r3 (by rw [c4]; exact kept_n r4) (Nat.min_le_right _ _), ?_, fun q x hq => ?_, rfl⟩
  · exact H.val (ov_at (pc_l (pc_l (pc_l (pc_l (pc_l (pc_l (pt_l (pc_l (pt_l (pc_l (pt_l (pc_r))))))))))))) (ov_at (pc_l (pc_l (pc_l (pc_l (pc_l (pc_l (pt_l (pc_l (pt_l (pc_r))))))))))) (ov_at (pc_l (pc_l (pc_l (pc_l (pc_l (pc_l (pt_l (pc_r))))))))) (ov_at (pc_l (pc_l (pc_l (pc_l (pc_l (pc_r))))))) (ov_at (pc_l (pc_l (pc_l (pc_l (pc_r))))))
      (fun x h1 h2 => ov_at (by
        rcases (show x = 4 ∨ x = 5 ∨ x = 6 ∨ x = 7 by omega) with rfl | rfl | rfl | rfl
        · exact pc_l (pc_l (pc_l (pc_r)))
        · exact pc_l (pc_l (pc_r))
        · exact pc_l (pc_r)
        · exact pc_r))
      (fun i k hi hk => ov_at (pc_l (pc_l (pc_l (pc_l (pc_l (pc_l (pt_l (pc_l (pt_l (pc_l (pt_l (pc_l (pt_r ⟨by omega, by omega, hi⟩)))))))))))))) (fun i k hi hk => ov_at (pc_l (pc_l (pc_l (pc_l (pc_l (pc_l (pt_l (pc_l (pt_l (pc_l (pt_r ⟨by omega, by omega, hi⟩)))))))))))) (fun i k hi hk => ov_at (pc_l (pc_l (pc_l (pc_l (pc_l (pc_l (pt_l (pc_l (pt_r ⟨by omega, by omega, hi⟩)))))))))) (fun i k hi hj hk => ov_at (pc_l (pc_l (pc_l (pc_l (pc_l (pc_l (pt_r ⟨by omega, by omega, Nat.lt_min.mpr ⟨hi, hj⟩⟩))))))))
  · show (if PV v h b g (min c 200) q x = true then _ else _) = _
    rw [if_neg (PV_out hq)]
/-- the undo stack, latest l, s of it, against the rows of the past -/
def URn (M : Mem) (past : Nat → Nat → Int32) (s l : Nat) : Prop :=
  s ≤ 4 ∧ l < 4 ∧ M.1 45 2 = nI s ∧ M.1 45 1 = nI l ∧ ∀ i, i < s → RV M (47 + 32 * ((l + 4 - i) % 4)) (past (s - 1 - i))
