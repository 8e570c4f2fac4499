/-! pairs of like marks -/
def akb (a b : Int32) : Bool := decide (a &&& b = a) || decide (a &&& b = b)
theorem akb_ak (a b : Int32) : akb a b = true ↔ ak a b := by simp [akb, ak]
theorem akb_sym (a b : Int32) : akb a b = akb b a := by
  have h : akb a b = true ↔ akb b a = true := (akb_ak a b).trans (ak_sym.trans (akb_ak b a).symm)
  cases h1 : akb a b <;> cases h2 : akb b a
  · rfl
  · rw [h1, h2] at h; exact absurd (h.mpr rfl) (by decide)
  · rw [h1, h2] at h; exact absurd (h.mp rfl) (by decide)
  · rfl
theorem bool_of {r s : Bool} (h : r = true ↔ s = true) : r = s := by
  cases r <;> cases s
  · rfl
  · exact absurd (h.mpr rfl) (by decide)
  · exact absurd (h.mp rfl) (by decide)
  · rfl
theorem alike_cb (a b : Int32) : fX4_alike a b = some (akb a b) := by
  obtain ⟨r, h1, h2⟩ := alike_c a b
  rw [h1, bool_of (h2.trans (akb_ak a b).symm)]
theorem alike_rb (a b : Int32) : fX12_isLike a b = some (akb a b) := by
  obtain ⟨r, h1, h2⟩ := alike_r a b
  rw [h1, bool_of (h2.trans (akb_ak a b).symm)]
def kk (ρ : Nat → Int32) (i j : Nat) : Int32 := if akb (ρ (9 + 4 * i + 0)) (ρ (9 + 4 * j + 0)) = true then nI 1 else nI 0
theorem lp_in {M : Mem} {ρ : Nat → Int32} {h i : Nat} (H : HH M ρ h) (hi : i < h) : ∀ (m j n : Nat) (acc : Int32), j + m = h → m < n → lX4_likePairs_16 2 M (nI i) n acc (nI j) = some (acc + sm (kk ρ i) j m) := by
  intro m
  have hh := H.1
  induction m with
  | zero =>
    intro j n acc h1 h2
    obtain ⟨n, rfl⟩ : ∃ n', n = n' + 1 := ⟨n - 1, by omega⟩
    rw [lX4_likePairs_16, H.2.1, if_pos (pI_le (by omega) (by omega)), sm, sm_z]
  | succ m ih =>
    intro j n acc h1 h2
    obtain ⟨n, rfl⟩ : ∃ n', n = n' + 1 := ⟨n - 1, by omega⟩
    rw [lX4_likePairs_16, H.2.1, if_neg (pI_nle (by omega) (by omega)), show fX7_get (2 + 1) 4 8 (nI i) 0 M = some _ from H.gt (k := 0) hi (by omega), Option.bind_some, show fX7_get (2 + 1) 4 8 (nI j) 0 M = some _ from H.gt (k := 0) (by omega) (by omega), Option.bind_some, alike_cb, Option.bind_some, l_1, nI_ad, ih (j + 1) n _ (by omega) (by omega), ih (j + 1) n _ (by omega) (by omega), sm_s]
    unfold kk
    by_cases e : akb (ρ (9 + 4 * i + 0)) (ρ (9 + 4 * j + 0)) = true
    · rw [if_pos e, if_pos e]
    · rw [if_neg e, if_neg e, sm_z]
theorem lp_out {M : Mem} {ρ : Nat → Int32} {h : Nat} (H : HH M ρ h) : ∀ (m j n : Nat) (acc : Int32), j + m = h → m < n → lX4_likePairs_4 2 M n acc (nI j) = some (acc + sm (fun i => sm (kk ρ i) (i + 1) (h - (i + 1))) j m) := by
  intro m
  have hh := H.1
  induction m with
  | zero =>
    intro j n acc h1 h2
    obtain ⟨n, rfl⟩ : ∃ n', n = n' + 1 := ⟨n - 1, by omega⟩
    rw [lX4_likePairs_4, H.2.1, if_pos (pI_le (by omega) (by omega)), sm, sm_z]
  | succ m ih =>
    intro j n acc h1 h2
    obtain ⟨n, rfl⟩ : ∃ n', n = n' + 1 := ⟨n - 1, by omega⟩
    rw [lX4_likePairs_4, H.2.1, if_neg (pI_nle (by omega) (by omega)), l_1, nI_ad, lp_in H (by omega) (h - (j + 1)) (j + 1) FUEL _ (by omega) (fuel8 (by omega)), Option.bind_some, ih (j + 1) n _ (by omega) (by omega), sm_s]
theorem lr_in {N : Mem} {ρ : Nat → Int32} {i : Nat} (R : Ro N ρ) (hi : i < 8) : ∀ (m j n : Nat) (acc : Int32), j + m = i → m < n → lX12_likes_16 N (nI i) n acc (nI j) = some (acc + sm (kk ρ i) j m) := by
  intro m
  induction m with
  | zero =>
    intro j n acc h1 h2
    obtain ⟨n, rfl⟩ : ∃ n', n = n' + 1 := ⟨n - 1, by omega⟩
    rw [lX12_likes_16, if_pos (pI_le (by omega) (by omega)), sm, sm_z]
  | succ m ih =>
    intro j n acc h1 h2
    obtain ⟨n, rfl⟩ : ∃ n', n = n' + 1 := ⟨n - 1, by omega⟩
    rw [lX12_likes_16, if_neg (pI_nle (by omega) (by omega)), show fX12_of (nI i) 0 N = some _ from R.of (k := 0) hi (by omega), Option.bind_some, show fX12_of (nI j) 0 N = some _ from R.of (k := 0) (by omega) (by omega), Option.bind_some, alike_rb, Option.bind_some, l_1, nI_ad, ih (j + 1) n _ (by omega) (by omega), ih (j + 1) n _ (by omega) (by omega), sm_s]
    unfold kk
    by_cases e : akb (ρ (9 + 4 * i + 0)) (ρ (9 + 4 * j + 0)) = true
    · rw [if_pos e, if_pos e]
    · rw [if_neg e, if_neg e]; rfl
theorem lr_out {N : Mem} {ρ : Nat → Int32} {h : Nat} (R : Ro N ρ) (h0 : ρ 0 = nI h) (hh : h ≤ 8) : ∀ (m j n : Nat) (acc : Int32), j + m = h → m < n → lX12_likes_4 N n acc (nI j) = some (acc + sm (fun i => sm (kk ρ i) 0 i) j m) := by
  intro m
  induction m with
  | zero =>
    intro j n acc h1 h2
    obtain ⟨n, rfl⟩ : ∃ n', n = n' + 1 := ⟨n - 1, by omega⟩
    rw [lX12_likes_4, l_0, R.at (by omega), Option.bind_some, h0, if_pos (pI_le (by omega) (by omega)), sm, sm_z]
  | succ m ih =>
    intro j n acc h1 h2
    obtain ⟨n, rfl⟩ : ∃ n', n = n' + 1 := ⟨n - 1, by omega⟩
    rw [lX12_likes_4, l_0, R.at (by omega), Option.bind_some, h0, if_neg (pI_nle (by omega) (by omega)), lr_in R (by omega) j 0 FUEL _ (by omega) (fuel8 (by omega)), Option.bind_some, l_1, nI_ad, ih (j + 1) n _ (by omega) (by omega), sm_s]
theorem sm_add (f g : Nat → Int32) : ∀ (m a : Nat), sm (fun i => f i + g i) a m = sm f a m + sm g a m := by
  intro m
  induction m with
  | zero => intro a; rw [sm, sm, sm, sm_z]
  | succ m ih =>
    intro a
    rw [sm, ih (a + 1), sm, sm]
    ac_rfl
theorem sm_tri (K : Nat → Nat → Int32) (hK : ∀ i j, K i j = K j i) : ∀ h, sm (fun i => sm (K i) (i + 1) (h - (i + 1))) 0 h = sm (fun i => sm (K i) 0 i) 0 h := by
  intro h
  induction h with
  | zero => rfl
  | succ h ih =>
    rw [sm_end, sm_end, Nat.zero_add, ← ih, show h + 1 - (h + 1) = 0 by omega, show sm (K h) (h + 1) 0 = nI 0 from rfl, sm_z, show sm (K h) 0 h = sm (fun i => K i h) 0 h from sm_cg h 0 fun i _ _ => hK h i, ← sm_add]
    refine sm_cg h 0 fun i _ hi => ?_
    rw [show h + 1 - (i + 1) = (h - (i + 1)) + 1 by omega, sm_end, show i + 1 + (h - (i + 1)) = h by omega]
def Lk (ρ : Nat → Int32) (h : Nat) : Int32 := sm (fun i => sm (kk ρ i) 0 i) 0 h
theorem HH.likes {M : Mem} {ρ : Nat → Int32} {h : Nat} (H : HH M ρ h) : fX11_likeMarks M = some (Lk ρ h) := by
  have hh := H.1
  unfold fX11_likeMarks fX4_likePairs
  rw [l_0, lp_out H h 0 FUEL _ (by omega) (fuel8 (by omega)), Option.bind_some, Option.bind_some, show nI 0 = (0 : Int32) from rfl, Int32.zero_add, sm_tri (kk ρ) (fun i j => by unfold kk; rw [akb_sym])]
  rfl
theorem Ro.likes {N : Mem} {ρ : Nat → Int32} {h : Nat} (R : Ro N ρ) (h0 : ρ 0 = nI h) (hh : h ≤ 8) : fX12_likes N = some (Lk ρ h) := by
  unfold fX12_likes
  rw [l_0, lr_out R h0 hh h 0 FUEL _ (by omega) (fuel8 (by omega)), Option.bind_some, show nI 0 = (0 : Int32) from rfl, Int32.zero_add]
  rfl
theorem step20 {n : Nat} {M : Mem} {h b g c s l t : Nat} (F : Fu n M h b g c s l t) : ∃ M3, LS20 M M3 ∧ Iv (n + 1) M3 := by
  have H := F.vi.1
  refine ⟨_, ⟨Lk (M.1 179) h, H.likes, ?_⟩, F.rf 0⟩
  unfold fX12_likeMarks pf
  rw [Option.bind_some, (Ro.rf' M 0).likes H.2.2.1 H.1]; rfl
