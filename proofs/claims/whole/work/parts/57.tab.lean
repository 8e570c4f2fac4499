/-! a table's cell, a row's cell -/
theorem X7_get {t w r i k : Nat} {M : Mem} (hk : k < w) (hw : w < 1000) (hi : i < r) (hr : r < 2 ^ 31) : fX7_get t w r (nI i) (nI k) M = some (M.1 (t + (2 + k)) i) := by
  unfold fX7_get
  have hk2 := nI_nat (n := k) (by omega)
  rw [if_neg (mI_nn (by omega)), if_neg (fun q => by rw [mI_le (by omega) (by omega)] at q; omega), if_neg (mI_nn (by omega)), if_pos ((mI_lt (by omega) (by omega)).mpr hk), if_neg (by rw [hk2]; rintro (q | q); exact mI_nn (by omega) q; omega), hk2, ald_n hi hr]
  rfl
theorem X7_put {t w r i k : Nat} {M : Mem} {x : Int32} (hk : k < w) (hw : w < 1000) (hi : i < r) (hr : r < 2 ^ 31) : fX7_put t w r (nI i) (nI k) x M = some (mput M (t + (2 + k)) i x) := by
  unfold fX7_put
  have hk2 := nI_nat (n := k) (by omega)
  rw [if_neg (mI_nn (by omega)), if_neg (fun q => by rw [mI_le (by omega) (by omega)] at q; omega), if_neg (mI_nn (by omega)), if_neg (fun q => by rw [mI_le (by omega) (by omega)] at q; omega), if_neg (by rw [hk2]; rintro (q | q); exact mI_nn (by omega) q; omega), hk2, ast_n hi hr]
  rfl
theorem row_house (i k : Nat) : ((9 : Int32) + ((4 : Int32) * nI i)) + nI k = nI (9 + 4 * i + k) := by
  rw [show (9 : Int32) = nI 9 from rfl, show (4 : Int32) = nI 4 from rfl, nI_ml', nI_ad, nI_ad]
theorem X12_of' {i k : Nat} {M : Mem} (hi : i < 8) (hk : k < 4) : fX12_of (nI i) (nI k) M = some (M.1 179 (9 + 4 * i + k)) := by
  unfold fX12_of
  rw [row_house, ald_n (by omega) (by omega)]
  rfl
theorem X12_lays' {i k : Nat} {M : Mem} {x : Int32} (hi : i < 8) (hk : k < 4) : fX12_lays (nI i) (nI k) x M = some (mput M 179 (9 + 4 * i + k) x) := by
  unfold fX12_lays
  rw [row_house, ast_n (by omega) (by omega)]
  rfl
