/-- a household is added -/
theorem add_c {M : Mem} {h : Nat} (hh : h < 8) (hc : M.1 2 1 = nI h) (x : Int32) : fX4_add 2 x M = some (nI h, mput (mput (mput (mput (mput M 5 h x) 6 h 0) 7 h 0) 8 h 0) 2 1 (nI (h + 1))) := by
  unfold fX4_add
  rw [hc, show fX7_put (2 + 1) 4 8 (nI h) 0 x M = some (mput M 5 h x) from X7_put (k := 0) (by omega) (by omega) hh (by omega), Option.bind_some]
  rw [show fX7_put (2 + 1) 4 8 (nI h) 1 0 (mput M 5 h x) = some (mput (mput M 5 h x) 6 h 0) from X7_put (k := 1) (by omega) (by omega) hh (by omega), Option.bind_some]
  rw [show fX7_put (2 + 1) 4 8 (nI h) 2 0 (mput (mput M 5 h x) 6 h 0) = some (mput (mput (mput M 5 h x) 6 h 0) 7 h 0) from X7_put (k := 2) (by omega) (by omega) hh (by omega), Option.bind_some]
  rw [show fX7_put (2 + 1) 4 8 (nI h) 3 0 (mput (mput (mput M 5 h x) 6 h 0) 7 h 0) = some (mput (mput (mput (mput M 5 h x) 6 h 0) 7 h 0) 8 h 0) from X7_put (k := 3) (by omega) (by omega) hh (by omega), Option.bind_some]
  unfold pf
  rw [Option.bind_some, show (mput (mput (mput (mput M 5 h x) 6 h 0) 7 h 0) 8 h 0).1 2 1 = nI h from by rw [mput_at, if_neg (by omega), mput_at, if_neg (by omega), mput_at, if_neg (by omega), mput_at, if_neg (by omega)]; exact hc, show nI h + (1 : Int32) = nI (h + 1) from nI_ad h 1]
