/-! the reference's rows, saved and taken back -/
theorem sv_shift : ∀ (k j n : Nat) (M : Mem), j + k = 4803 → k < n → lX12_saves_10 n (nI j) M = some (fun q b => if q = 180 ∧ j ≤ b ∧ b < 4803 then M.1 180 (b + 1601) else M.1 q b, M.2) := by
  intro k
  induction k with
  | zero =>
    intro j n M h1 h2
    obtain ⟨n, rfl⟩ : ∃ n', n = n' + 1 := ⟨n - 1, by omega⟩
    unfold lX12_saves_10
    rw [show (4803 : Int32) = nI 4803 from rfl, if_pos ((mI_le (by omega) (by omega)).mpr (by omega))]
    congr 1
    refine mem_ext (fun a b => ?_) rfl
    show M.1 a b = if _ then _ else _
    rw [if_neg (by omega)]
  | succ k ih =>
    intro j n M h1 h2
    obtain ⟨n, rfl⟩ : ∃ n', n = n' + 1 := ⟨n - 1, by omega⟩
    unfold lX12_saves_10
    rw [show (4803 : Int32) = nI 4803 from rfl, if_neg (fun q => by rw [mI_le (by omega) (by omega)] at q; omega), show nI j + (1601 : Int32) = nI (j + 1601) from nI_ad j 1601, ald_n (by omega) (by omega), Option.bind_some, ast_n (by omega) (by omega), Option.bind_some, show nI j + 1 = nI (j + 1) from nI_ad j 1, ih (j + 1) n _ (by omega) (by omega)]
    congr 1
    refine mem_ext (fun a b => ?_) rfl
    show (if a = 180 ∧ j + 1 ≤ b ∧ b < 4803 then (mput M 180 j _).1 180 (b + 1601) else (mput M 180 j _).1 a b) = _
    simp only [mput_at]
    by_cases h3 : a = 180 ∧ b = j
    · rw [if_neg (by omega), if_pos h3, if_pos (by omega), h3.2]
    · by_cases h4 : a = 180 ∧ j + 1 ≤ b ∧ b < 4803
      · rw [if_pos h4, if_neg (by omega), if_pos (by omega)]
      · rw [if_neg h4, if_neg h3, if_neg (by omega)]
theorem sv_put {s : Nat} (hs : s ≤ 3) : ∀ (k j n : Nat) (M : Mem), M.1 178 3 = nI s → j + k = 1601 → k < n → lX12_saves_51 n (nI j) M = some (fun q b => if q = 180 ∧ 1601 * s + j ≤ b ∧ b < 1601 * s + 1601 then M.1 179 (b - 1601 * s) else M.1 q b, M.2) := by
  intro k
  induction k with
  | zero =>
    intro j n M h0 h1 h2
    obtain ⟨n, rfl⟩ : ∃ n', n = n' + 1 := ⟨n - 1, by omega⟩
    unfold lX12_saves_51
    rw [show (1601 : Int32) = nI 1601 from rfl, if_pos ((mI_le (by omega) (by omega)).mpr (by omega))]
    congr 1
    refine mem_ext (fun a b => ?_) rfl
    show M.1 a b = if _ then _ else _
    rw [if_neg (by omega)]
  | succ k ih =>
    intro j n M h0 h1 h2
    obtain ⟨n, rfl⟩ : ∃ n', n = n' + 1 := ⟨n - 1, by omega⟩
    unfold lX12_saves_51
    rw [show (1601 : Int32) = nI 1601 from rfl, if_neg (fun q => by rw [mI_le (by omega) (by omega)] at q; omega), ald_n (by omega) (by omega), Option.bind_some, h0, nI_ml', nI_ad, ast_n (by omega) (by omega), Option.bind_some, show nI j + 1 = nI (j + 1) from nI_ad j 1, ih (j + 1) n _ (by rw [mput_at, if_neg (by omega)]; exact h0) (by omega) (by omega)]
    congr 1
    refine mem_ext (fun a b => ?_) rfl
    show (if a = 180 ∧ 1601 * s + (j + 1) ≤ b ∧ b < 1601 * s + 1601 then (mput M 180 (1601 * s + j) _).1 179 (b - 1601 * s) else (mput M 180 (1601 * s + j) _).1 a b) = _
    simp only [mput_at]
    by_cases h3 : a = 180 ∧ b = 1601 * s + j
    · rw [if_neg (by omega), if_pos h3, if_pos (by omega), h3.2, show 1601 * s + j - 1601 * s = j by omega]
    · by_cases h4 : a = 180 ∧ 1601 * s + (j + 1) ≤ b ∧ b < 1601 * s + 1601
      · rw [if_pos h4, if_neg (by omega), if_pos (by omega)]
      · rw [if_neg h4, if_neg h3, if_neg (by omega)]
theorem sv_back {s : Nat} (hs : s ≤ 3) : ∀ (k j n : Nat) (M : Mem), M.1 178 3 = nI s → j + k = 1601 → k < n → lX12_undo_33 n (nI j) M = some (fun q b => if q = 179 ∧ j ≤ b ∧ b < 1601 then M.1 180 (1601 * s + b) else M.1 q b, M.2) := by
  intro k
  induction k with
  | zero =>
    intro j n M h0 h1 h2
    obtain ⟨n, rfl⟩ : ∃ n', n = n' + 1 := ⟨n - 1, by omega⟩
    unfold lX12_undo_33
    rw [show (1601 : Int32) = nI 1601 from rfl, if_pos ((mI_le (by omega) (by omega)).mpr (by omega))]
    congr 1
    refine mem_ext (fun a b => ?_) rfl
    show M.1 a b = if _ then _ else _
    rw [if_neg (by omega)]
  | succ k ih =>
    intro j n M h0 h1 h2
    obtain ⟨n, rfl⟩ : ∃ n', n = n' + 1 := ⟨n - 1, by omega⟩
    unfold lX12_undo_33
    rw [show (1601 : Int32) = nI 1601 from rfl, if_neg (fun q => by rw [mI_le (by omega) (by omega)] at q; omega), h0, nI_ml', nI_ad, ald_n (by omega) (by omega), Option.bind_some, ast_n (by omega) (by omega), Option.bind_some, show nI j + 1 = nI (j + 1) from nI_ad j 1, ih (j + 1) n _ (by rw [mput_at, if_neg (by omega)]; exact h0) (by omega) (by omega)]
    congr 1
    refine mem_ext (fun a b => ?_) rfl
    show (if a = 179 ∧ j + 1 ≤ b ∧ b < 1601 then (mput M 179 j _).1 180 (1601 * s + b) else (mput M 179 j _).1 a b) = _
    simp only [mput_at]
    by_cases h3 : a = 179 ∧ b = j
    · rw [if_neg (by omega), if_pos h3, if_pos (by omega), h3.2]
    · by_cases h4 : a = 179 ∧ j + 1 ≤ b ∧ b < 1601
      · rw [if_pos h4, if_neg (by omega), if_pos (by omega)]
      · rw [if_neg h4, if_neg h3, if_neg (by omega)]
/-- the rows behind a saving: row i of the past -/
def svM (M : Mem) (s : Nat) : Mem := (fun q b => if q = 178 ∧ b = 3 then nI (if s = 4 then 4 else s + 1) else if q = 180 then (if s = 4 then (if b < 4803 then M.1 180 (b + 1601) else if b < 6404 then M.1 179 (b - 4803) else M.1 180 b) else (if 1601 * s ≤ b ∧ b < 1601 * s + 1601 then M.1 179 (b - 1601 * s) else M.1 180 b)) else M.1 q b, M.2)
theorem saves_eq {M : Mem} {s : Nat} (h : M.1 178 3 = nI s) (hs : s ≤ 4) : fX12_saves M = some (svM M s) := by
  unfold fX12_saves
  by_cases h4 : s = 4
  · subst h4
    rw [h, if_pos (show nI 4 = (4 : Int32) from rfl), show (0 : Int32) = nI 0 from rfl, sv_shift 4803 0 FUEL M (by omega) (by unfold FUEL; omega), Option.bind_some]
    unfold pf
    rw [Option.bind_some, Option.bind_some]
    rw [sv_put (s := 3) (by omega) 1601 0 FUEL _ (by
      rw [mput_at, if_pos ⟨rfl, rfl⟩]
      show (if (178 : Nat) = 180 ∧ _ then _ else M.1 178 3) - (1 : Int32) = nI 3
      rw [if_neg (by omega), h]; rfl) (by omega) (by unfold FUEL; omega), Option.bind_some, Option.bind_some]
    congr 1
    refine mem_ext (fun q b => ?_) rfl
    simp only [mput_at, svM]
    by_cases h1 : q = 178 ∧ b = 3
    · rw [if_pos h1, if_pos h1]
      simp [h]
    · rw [if_neg h1, if_neg h1]
      by_cases h2 : q = 180
      · subst h2
        simp only [true_and, if_true, if_pos]
        by_cases h3 : b < 4803
        · simp [h3]; omega
        · by_cases h5 : b < 6404
          · simp [h3, h5]
          · simp [h3, h5]
      · simp [h2, h1]
  · rw [h, if_neg (fun q => h4 ((mI_eq (by omega) (by omega)).mp (q.trans (show (4 : Int32) = nI 4 from rfl)))), Option.bind_some, show (0 : Int32) = nI 0 from rfl, sv_put (s := s) (by omega) 1601 0 FUEL M h (by omega) (by unfold FUEL; omega), Option.bind_some]
    unfold pf
    rw [Option.bind_some]
    congr 1
    refine mem_ext (fun q b => ?_) rfl
    simp only [mput_at, svM]
    by_cases h1 : q = 178 ∧ b = 3
    · rw [if_pos h1, if_pos h1, if_neg h4]
      show (if (178 : Nat) = 180 ∧ _ then _ else M.1 178 3) + (1 : Int32) = _
      rw [if_neg (by omega), h]; exact nI_ad s 1
    · rw [if_neg h1, if_neg h1]
      by_cases h2 : q = 180
      · subst h2
        simp [h4]
      · simp [h2]
