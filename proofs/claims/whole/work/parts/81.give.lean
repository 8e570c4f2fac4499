/-! the shelf given away: the class by places, the reference by numbers -/
def gc (ρ : Nat → Int32) (j m : Nat) : Nat → Int32 := fun k => if 201 ≤ k ∧ (k - 201) % 7 = 5 ∧ j ≤ (k - 201) / 7 ∧ (k - 201) / 7 < j + m ∧ ρ k = nI 8 then NG else ρ k
def gr (ρ : Nat → Int32) (j m : Nat) : Nat → Int32 := fun k => if 201 ≤ k ∧ (k - 201) % 7 = 5 ∧ ((k - 201) / 7 + 200 - j % 200) % 200 < m ∧ ρ k = nI 8 then NG else ρ k
def f8 (ρ : Nat → Int32) : Nat → Int32 := fun i => if ρ (201 + 7 * i + 5) = nI 8 then nI 1 else nI 0
theorem gc_c {h b g c : Nat} : ∀ (m j n : Nat) (a : Int32) (M : Mem) (ρ : Nat → Int32), Vi M ρ h b g c → j + m = min c 200 → m < n → ∃ M', lX6_emptyShelf_4 23 n a (nI j) M = some (a + sm (f8 ρ) j m, M') ∧ Vi M' (gc ρ j m) h b g c ∧ Fc M M' := by
  intro m
  induction m with
  | zero =>
    intro j n a M ρ V h1 h2
    obtain ⟨n, rfl⟩ : ∃ n', n = n' + 1 := ⟨n - 1, by omega⟩
    have L := V.2.2.2.1
    have hm : min c 200 ≤ 200 := Nat.min_le_right _ _
    refine ⟨M, ?_, V.cg (fun _ _ _ _ => rfl) (fun k _ => ?_), Fc.rf M⟩
    · rw [lX6_emptyShelf_4, L.keptn, Option.bind_some, if_pos (pI_le (by omega) (by omega)), sm, sm_z]
    · simp only [gc]; rw [if_neg (by omega)]
  | succ m ih =>
    intro j n a M ρ V h1 h2
    obtain ⟨n, rfl⟩ : ∃ n', n = n' + 1 := ⟨n - 1, by omega⟩
    have L := V.2.2.2.1
    have hm : min c 200 ≤ 200 := Nat.min_le_right _ _
    have hm2 : min c 200 ≤ c := Nat.min_le_left _ _
    have ec : lX6_emptyShelf_4 23 (n + 1) a (nI j) M = if ρ (201 + 7 * j + 5) = nI 8 then lX6_emptyShelf_4 23 n (a + nI 1) (nI (j + 1)) (mput M (26 + 5) j NG) else lX6_emptyShelf_4 23 n a (nI (j + 1)) M := by
      rw [lX6_emptyShelf_4, L.keptn, Option.bind_some, if_neg (pI_nle (by omega) (by omega))]
      rw [show fX7_get (23 + 1) 7 200 (nI j) 5 M = some _ from L.gt (k := 5) (by omega) (by omega) (by omega), Option.bind_some, show fX7_put (23 + 1) 7 200 (nI j) 5 (-1) M = some (mput M (26 + 5) j NG) from X7_put (k := 5) (by omega) (by omega) (by omega) (by omega), Option.bind_some, show nI j + (1 : Int32) = nI (j + 1) from nI_ad j 1]
      rfl
    by_cases e : ρ (201 + 7 * j + 5) = nI 8
    · have V1 := V.ptL (show j < 200 by omega) (show 5 < 7 by omega) NG
      obtain ⟨M', a1, a2, a3⟩ := ih (j + 1) n (a + nI 1) _ _ V1 (by omega) (by omega)
      refine ⟨M', ?_, a2.cg (fun _ _ _ _ => rfl) (fun k hk => ?_), (Fc.pt M _ (by omega)).tr a3⟩
      · rw [ec, if_pos e, a1, sm_s, show f8 ρ j = nI 1 from if_pos e]
        congr 3
        exact sm_cg m (j + 1) fun i h3 h4 => by simp only [f8]; rw [ru_ne _ (by omega)]
      · simp only [gc]
        by_cases e2 : k = 201 + 7 * j + 5
        · subst e2
          rw [if_pos (by refine ⟨by omega, by omega, by omega, by omega, e⟩), if_neg (fun q => by have := q.2.2.1; omega), ru_at]
        · rw [ru_ne _ e2]
          by_cases e3 : 201 ≤ k ∧ (k - 201) % 7 = 5 ∧ j ≤ (k - 201) / 7 ∧ (k - 201) / 7 < j + (m + 1) ∧ ρ k = nI 8
          · rw [if_pos e3, if_pos (by refine ⟨e3.1, e3.2.1, by omega, by omega, e3.2.2.2.2⟩)]
          · rw [if_neg e3, if_neg (fun q => e3 ⟨q.1, q.2.1, by omega, by omega, q.2.2.2.2⟩)]
    · obtain ⟨M', a1, a2, a3⟩ := ih (j + 1) n a M ρ V (by omega) (by omega)
      refine ⟨M', ?_, a2.cg (fun _ _ _ _ => rfl) (fun k hk => ?_), a3⟩
      · rw [ec, if_neg e, a1, sm_s, show f8 ρ j = nI 0 from if_neg e, sm_z]
      · simp only [gc]
        by_cases e3 : 201 ≤ k ∧ (k - 201) % 7 = 5 ∧ j ≤ (k - 201) / 7 ∧ (k - 201) / 7 < j + (m + 1) ∧ ρ k = nI 8
        · have : k ≠ 201 + 7 * j + 5 := fun q => e (by rw [← q]; exact e3.2.2.2.2)
          rw [if_pos e3, if_pos (by refine ⟨e3.1, e3.2.1, by omega, by omega, e3.2.2.2.2⟩)]
        · rw [if_neg e3, if_neg (fun q => e3 ⟨q.1, q.2.1, by omega, by omega, q.2.2.2.2⟩)]
theorem gr_r {c : Nat} (hc : c < 2 ^ 30) : ∀ (m j n : Nat) (a : Int32) (N : Mem) (ρ : Nat → Int32), Ro N ρ → ρ 5 = nI c → j + m = c → m ≤ 200 → m < n → ∃ N', lX12_gives_7 n a (nI j) N = some (a + sm (fun i => f8 ρ (i % 200)) j m, N') ∧ Ro N' (gr ρ j m) ∧ Fr N N' := by
  intro m
  induction m with
  | zero =>
    intro j n a N ρ R h5 h1 h3 h2
    obtain ⟨n, rfl⟩ : ∃ n', n = n' + 1 := ⟨n - 1, by omega⟩
    refine ⟨N, ?_, fun k hk => ?_, Fr.rf N⟩
    · rw [lX12_gives_7, l_5, R.at (by omega), Option.bind_some, h5, if_pos (pI_le (by omega) (by omega)), sm, sm_z]
    · simp only [gr]; rw [if_neg (by omega)]; exact R k hk
  | succ m ih =>
    intro j n a N ρ R h5 h1 h3 h2
    obtain ⟨n, rfl⟩ : ∃ n', n = n' + 1 := ⟨n - 1, by omega⟩
    have hj : j % 200 < 200 := Nat.mod_lt _ (by omega)
    have er : lX12_gives_7 (n + 1) a (nI j) N = if ρ (201 + 7 * (j % 200) + 5) = nI 8 then lX12_gives_7 n (a + nI 1) (nI (j + 1)) (mput N 179 (201 + 7 * (j % 200) + 5) NG) else lX12_gives_7 n a (nI (j + 1)) N := by
      rw [lX12_gives_7, show ald (N.1 179) 1601 5 = some (ρ 5) from R.at (k := 5) (by omega), Option.bind_some, h5, if_neg (pI_nle (by omega) (by omega))]
      rw [show fX12_loafOf (nI j) 5 N = some _ from R.loaf (k := 5) (by omega) (by omega), Option.bind_some, loafAt_n (by omega), Option.bind_some, show nI (201 + 7 * (j % 200)) + (5 : Int32) = nI (201 + 7 * (j % 200) + 5) from nI_ad _ 5, ast_n (by omega) (by omega), Option.bind_some, show nI j + (1 : Int32) = nI (j + 1) from nI_ad j 1]
      rfl
    have key : ∀ k, k < 1601 → 201 ≤ k → (k - 201) % 7 = 5 → k ≠ 201 + 7 * (j % 200) + 5 → (((k - 201) / 7 + 200 - j % 200) % 200 < m + 1 ↔ ((k - 201) / 7 + 200 - (j + 1) % 200) % 200 < m) := fun k h1 h2 h3 h4 => by omega
    by_cases e : ρ (201 + 7 * (j % 200) + 5) = nI 8
    · obtain ⟨N', a1, a2, a3⟩ := ih (j + 1) n (a + nI 1) _ _ (R.pt (201 + 7 * (j % 200) + 5) NG) (by rw [ru_ne _ (by omega)]; exact h5) (by omega) (by omega) (by omega)
      refine ⟨N', ?_, fun k hk => ?_, (Fr.pt N _).tr a3⟩
      · rw [er, if_pos e, a1, sm_s, show f8 ρ (j % 200) = nI 1 from if_pos e]
        congr 3
        exact sm_cg m (j + 1) fun i h6 h7 => by simp only [f8]; rw [ru_ne _ (by omega)]
      · rw [a2 k hk]
        simp only [gr]
        by_cases e2 : k = 201 + 7 * (j % 200) + 5
        · subst e2
          rw [if_neg (fun q => by have := q.2.2.1; omega), ru_at, if_pos ⟨by omega, by omega, by omega, e⟩]
        · rw [ru_ne _ e2]
          by_cases e3 : 201 ≤ k ∧ (k - 201) % 7 = 5 ∧ ((k - 201) / 7 + 200 - j % 200) % 200 < m + 1 ∧ ρ k = nI 8
          · rw [if_pos e3, if_pos ⟨e3.1, e3.2.1, (key k hk e3.1 e3.2.1 e2).mp e3.2.2.1, e3.2.2.2⟩]
          · rw [if_neg e3, if_neg (fun q => e3 ⟨q.1, q.2.1, (key k hk q.1 q.2.1 e2).mpr q.2.2.1, q.2.2.2⟩)]
    · obtain ⟨N', a1, a2, a3⟩ := ih (j + 1) n a N ρ R h5 (by omega) (by omega) (by omega)
      refine ⟨N', ?_, fun k hk => ?_, a3⟩
      · rw [er, if_neg e, a1, sm_s, show f8 ρ (j % 200) = nI 0 from if_neg e, sm_z]
      · rw [a2 k hk]
        simp only [gr]
        by_cases e2 : k = 201 + 7 * (j % 200) + 5
        · subst e2
          rw [if_neg (fun q => e q.2.2.2), if_neg (fun q => e q.2.2.2)]
        · by_cases e3 : 201 ≤ k ∧ (k - 201) % 7 = 5 ∧ ((k - 201) / 7 + 200 - j % 200) % 200 < m + 1 ∧ ρ k = nI 8
          · rw [if_pos e3, if_pos ⟨e3.1, e3.2.1, (key k hk e3.1 e3.2.1 e2).mp e3.2.2.1, e3.2.2.2⟩]
          · rw [if_neg e3, if_neg (fun q => e3 ⟨q.1, q.2.1, (key k hk q.1 q.2.1 e2).mpr q.2.2.1, q.2.2.2⟩)]
theorem op_give {M : Mem} {ρ : Nat → Int32} {h b g c : Nat} (V : Vi M ρ h b g c) (W : Wr ρ h b c) : Opp (fX6_emptyShelf 23) fX12_gives M ρ c := by
  have L := V.2.2.2.1
  have hc := L.1
  have hm : min c 200 ≤ 200 := Nat.min_le_right _ _
  obtain ⟨M', a1, a2, a3⟩ := gc_c (min c 200) 0 FUEL 0 M ρ V (by omega) (fuel8 (by omega))
  refine ⟨sm (f8 ρ) 0 (min c 200), M', gc ρ 0 (min c 200), h, b, g, c, ?_, a2, ?_, by omega, a3, fun N R => ?_⟩
  · unfold fX6_emptyShelf
    show (lX6_emptyShelf_4 23 FUEL 0 (nI 0) M).bind _ = _
    rw [a1, show (0 : Int32) + sm (f8 ρ) 0 (min c 200) = sm (f8 ρ) 0 (min c 200) from Int32.zero_add _]; rfl
  · have low : ∀ k, k < 201 → gc ρ 0 (min c 200) k = ρ k := fun k hk => by simp only [gc]; rw [if_neg (by omega)]
    refine Hc.wr V.1.1 V.2.1.1 ⟨low, fun w r h1 h2 => ?_⟩ W
    simp only [gc]
    split
    · exact Or.inl rfl
    · exact w r h1 h2
  · obtain ⟨N', b1, b2, b3⟩ := gr_r hc (min c 200) (c - 200) FUEL 0 N ρ R L.2.2.1 (by omega) hm (fuel8 (by omega))
    refine ⟨N', ?_, fun k hk => ?_, b3⟩
    · unfold fX12_gives
      rw [first_r R hc L.2.2.1, Option.bind_some, b1, show (0 : Int32) + sm (fun i => f8 ρ (i % 200)) (c - 200) (min c 200) = sm (f8 ρ) 0 (min c 200) from by rw [Int32.zero_add]; exact sm_k (f8 ρ) c]; rfl
    · rw [b2 k hk]
      simp only [gr, gc]
      by_cases e : 201 ≤ k ∧ (k - 201) % 7 = 5 ∧ 0 ≤ (k - 201) / 7 ∧ (k - 201) / 7 < 0 + min c 200 ∧ ρ k = nI 8
      · rw [if_pos e, if_pos ⟨e.1, e.2.1, by omega, e.2.2.2.2⟩]
      · rw [if_neg e, if_neg (fun q => e ⟨q.1, q.2.1, by omega, by omega, q.2.2.2⟩)]
theorem stp7 {n : Nat} {M : Mem} {h b g c s l t : Nat} (F : Fu n M h b g c s l t) (p : Int32) : ∃ M3, LS7 p M M3 ∧ Iv (n + 1) M3 := by
  have H := F.vi.1
  have hh := H.1
  by_cases h1 : 0 ≤ p ∧ p < nI h
  · obtain ⟨i, hi, rfl⟩ := who_n hh h1
    obtain ⟨Mp, r, M1, M2, M3, e1, e2, R, e3, e4, e5, e6, e7⟩ := und' F (fun M1 V W => op_claim V W hi)
    refine ⟨M3, Or.inl ⟨r, M1, r, ?_, ?_, e5, rfl, e6⟩, e7⟩
    · unfold fX11_claim
      rw [who1 H, if_pos h1, Option.bind_some, refuse_0, Option.bind_some]
      show (fX8_push 1 M).bind _ = _
      rw [e1, Option.bind_some, e2]; rfl
    · unfold fX12_claim
      rw [who2 R H.2.2.1 hh, Option.bind_some, if_pos (decide_eq_true h1), Option.bind_some, ref0, Option.bind_some]
      show (fX12_saves _).bind _ = _
      rw [e3, Option.bind_some, e4]; rfl
  · refine ⟨_, Or.inr ⟨0, ?_, ?_, thr_n _ 1⟩, F.rf _⟩
    · unfold fX11_claim
      rw [who1 H, if_neg h1, Option.bind_some, refuse_k.1]; rfl
    · unfold fX12_claim
      rw [who2 (Ro.id M) H.2.2.1 hh, Option.bind_some, if_neg (by rw [decide_eq_true_eq]; exact h1), Option.bind_some, ref1]; rfl
theorem stp8 {n : Nat} {M : Mem} {h b g c s l t : Nat} (F : Fu n M h b g c s l t) (p : Int32) : ∃ M3, LS8 p M M3 ∧ Iv (n + 1) M3 := by
  have H := F.vi.1
  have hh := H.1
  by_cases h1 : 0 ≤ p ∧ p < nI h
  · obtain ⟨i, hi, rfl⟩ := who_n hh h1
    obtain ⟨Mp, r, M1, M2, M3, e1, e2, R, e3, e4, e5, e6, e7⟩ := und' F (fun M1 V W => op_return V W hi)
    refine ⟨M3, Or.inl ⟨r, M1, r, ?_, ?_, e5, rfl, e6⟩, e7⟩
    · unfold fX11_returnLoaves
      rw [who1 H, if_pos h1, Option.bind_some, refuse_0, Option.bind_some]
      show (fX8_push 1 M).bind _ = _
      rw [e1, Option.bind_some, e2]; rfl
    · unfold fX12_returnLoaves
      rw [who2 R H.2.2.1 hh, Option.bind_some, if_pos (decide_eq_true h1), Option.bind_some, ref0, Option.bind_some]
      show (fX12_saves _).bind _ = _
      rw [e3, Option.bind_some, e4]; rfl
  · refine ⟨_, Or.inr ⟨0, ?_, ?_, thr_n _ 1⟩, F.rf _⟩
    · unfold fX11_returnLoaves
      rw [who1 H, if_neg h1, Option.bind_some, refuse_k.1]; rfl
    · unfold fX12_returnLoaves
      rw [who2 (Ro.id M) H.2.2.1 hh, Option.bind_some, if_neg (by rw [decide_eq_true_eq]; exact h1), Option.bind_some, ref1]; rfl
theorem stp9 {n : Nat} {M : Mem} {h b g c s l t : Nat} (F : Fu n M h b g c s l t) : ∃ M3, LS9 M M3 ∧ Iv (n + 1) M3 := by
  obtain ⟨Mp, r, M1, e1, e2, e3, e4⟩ := und F (fun M1 V W => op_give V W)
  obtain ⟨M2, M3, q1, q2, q3, q4, q5⟩ := e4 M1 rfl
  refine ⟨M3, ⟨r, M1, ?_, ?_⟩, q5⟩
  · unfold fX11_giveAway
    rw [e1, Option.bind_some, e2]; rfl
  · unfold fX12_giveAway pf
    rw [Option.bind_some, q1, Option.bind_some, q2]; rfl
