theorem dP_heat : ∀ (n t : Nat) (W : List T3), 20 ≤ t → t ≤ 400 → 20 ≤ (dP n t W).2.2 ∧ (dP n t W).2.2 ≤ 400 := by
  intro n
  induction n with
  | zero => intro t W h1 h2; exact ⟨h1, h2⟩
  | succ n ih =>
    intro t W h1 h2
    by_cases hW : W.length = 0
    · rw [dP, if_pos hW]; exact ⟨h1, h2⟩
    · cases hk : kP t W with
      | some k =>
        rw [dP_load hW hk]
        obtain ⟨r1, r2⟩ := fall_r (k := k) (s := sz (gT (pK k) 24 W)) h2 h1
        exact ih _ _ r1 (by omega)
      | none =>
        by_cases hh : hotP t W
        · have := hot_200 hh
          rw [dP_tick hW hk hh]
          exact ih _ _ (by omega) (by omega)
        · rw [dP_end hW hk hh]; exact ⟨h1, h2⟩
/-! holders, as loaves come out -/
theorem RLv_cm {γ : Nat → Int32} {c s mk o k : Nat} {pl : Bool} (W : RLv γ c) : RLv (cm γ c s mk o k pl) (c + 1) := fun r h1 h2 => by
  unfold cm
  rw [ru_ne _ (by omega), ru_ne _ (by omega), ru_ne _ (by omega)]
  by_cases e : r = c % 200
  · subst e; left; rw [ru_at]
  · rw [ru_ne _ (by omega), ru_ne _ (by omega), ru_ne _ (by omega), ru_ne _ (by omega), ru_ne _ (by omega), ru_ne _ (by omega), ru_ne _ (by omega)]
    have hr : r < c := by
      rcases Nat.lt_or_ge r c with q | q
      · exact q
      · have : r = c := by omega
        subst this
        exact absurd (Nat.mod_eq_of_lt h2).symm e
    exact W r hr h2
theorem RLv_cmz {mk o k : Nat} {pl : Bool} : ∀ (z : Nat) (G : Gs), RLv G.1 G.2.1 → RLv (cmz mk o k pl z G).1 (cmz mk o k pl z G).2.1 := by
  intro z
  induction z with
  | zero => intro G h; exact h
  | succ z ih => intro G h; rw [cmz]; exact ih _ (RLv_cm h)
theorem RLv_btl {mkf : Nat → Nat} {h t : Nat} (hh : h ≤ 8) : ∀ (T : List T3) (G : Gs), (∀ x, x ∈ T → x.1 < h) → RLv G.1 G.2.1 → RLv (btl mkf t T G).1 (btl mkf t T G).2.1 := by
  intro T
  induction T with
  | nil => intro G _ h; exact h
  | cons x T ih =>
    intro G hT hr
    rw [btl]
    refine ih _ (fun y hy => hT y (List.mem_cons_of_mem _ hy)) (RLv_cmz _ _ ?_)
    have := hT x List.mem_cons_self
    exact hr.cg fun k h1 h2 => ru_ne _ (by omega)
theorem RLv_ldi {mkf : Nat → Nat} {h : Nat} (hh : h ≤ 8) {Ls : List L4} (hLs : ∀ L, L < Ls.length → ∀ x, x ∈ (Ls.getD L L0).2.1 → x.1 < h) : ∀ (m L : Nat) (G : Gs), L + m = Ls.length → RLv G.1 G.2.1 → RLv (ldi mkf Ls L m G).1 (ldi mkf Ls L m G).2.1 := by
  intro m
  induction m with
  | zero => intro L G _ h; exact h
  | succ m ih =>
    intro L G h1 hr
    rw [ldi]
    exact ih (L + 1) _ (by omega) (RLv_btl hh _ _ (hLs L (by omega)) hr)
/-! the reference's day, up to the sorting -/
noncomputable def PL (ρ : Nat → Int32) (h f b t w : Nat) : List L4 × List T3 × Nat := dP 1000 (min 400 (t + 10 * w)) ((Od ρ h f b).map (bqt ρ))
noncomputable def GF (ρ : Nat → Int32) (h f b c s t w : Nat) : Gs := ldl (mkq ρ) (PL ρ h f b t w).1 (wdz ρ h f w, c, s)
theorem PL_heat {ρ : Nat → Int32} {h f b t w : Nat} (h1 : 20 ≤ t) (h2 : t ≤ 400) : 20 ≤ (PL ρ h f b t w).2.2 ∧ (PL ρ h f b t w).2.2 ≤ 400 := dP_heat _ _ _ (by omega) (by omega)
theorem day_pre {N : Mem} {ρ : Nat → Int32} {h b c s t f w : Nat} (R : Ro N ρ) (hh : h ≤ 8) (hb : b ≤ 20) (h0 : ρ 0 = nI h) (h7 : ρ 7 = nI b) (h5 : ρ 5 = nI c) (hc : c + 500 < 2 ^ 29) (h2 : ρ 2 = nI t) (ht : 20 ≤ t) (ht4 : t ≤ 400) (h1 : ρ 1 = nI s) (hs : s < 2 ^ 31) (W : Wr ρ h b c) (hn : nxt ρ h = some f) (hf : f < h) (hw : w ≤ 40) :
    ∃ N5, fX12_dayWith (nI w) N = ((fX12_sorts (nI c) (bml (PL ρ h f b t w).1 0) N5).bind fun M80 => (ald (M80.1 179) 1601 (3 : Int32)).bind fun v81 => (ast M80 179 1601 (3 : Int32) (v81 + (1 : Int32))).bind fun M84 => (ald (M84.1 179) 1601 (5 : Int32)).bind fun v87 => some ((v87 - nI c), M84)) ∧ (N5.1 179 0 = nI h ∧ N5.1 179 2 = nI (max 20 ((PL ρ h f b t w).2.2 / 2)) ∧ N5.1 179 7 = nI 0 ∧ N5.1 179 8 = nI (PL ρ h f b t w).1.length ∧ N5.1 179 4 = ρ 4 + nI (sz (PL ρ h f b t w).2.1)) ∧ LC N5 (PL ρ h f b t w).1 ∧ Lq N5 (GF ρ h f b c s t w).1 ∧ GI (mkq ρ) h (GF ρ h f b c s t w) ∧ (GF ρ h f b c s t w).2.1 + sz (PL ρ h f b t w).2.1 = c + sz ((Od ρ h f b).map (bqt ρ)) ∧ (PL ρ h f b t w).1.length ≤ 20 ∧ Fdy N N5 := by
  obtain ⟨t1, ht1⟩ : ∃ t1, t1 = min 400 (t + 10 * w) := ⟨_, rfl⟩
  have htb : ∀ x, x ∈ tb (bqt ρ) 0 b → x.1 < h ∧ x.2.1 < 3 ∧ 1 ≤ x.2.2 ∧ x.2.2 ≤ 12 := fun x hx => by
    obtain ⟨i, i1, i2, i3⟩ := tb_mem _ _ _ _ hx
    obtain ⟨-, -, -, q⟩ := bqt_ok hh W.2.1 (show i < b by omega)
    rw [i3]; exact q
  have eW : aT h f h 0 (tb (bqt ρ) 0 b) = (Od ρ h f b).map (bqt ρ) := aT_tb (bqt ρ) h f b h 0
  have R1 := R.pt (9 + 4 * f + 1) (ρ (9 + 4 * f + 1) + nI w)
  obtain ⟨N1, a1, a2, a3, a4⟩ := xz_r hh h 0 FUEL _ _ R1 (by rw [ru_ne _ (by omega)]; exact h0) (by omega) (fuel8 (by omega))
  have a2' : Ro N1 (wdz ρ h f w) := a2
  have z : ∀ k, (∀ i, i < h → k ≠ 9 + 4 * i + 3) → k ≠ 9 + 4 * f + 1 → wdz ρ h f w k = ρ k := fun k q1 q2 => wdz_ne q1 q2
  obtain ⟨N2, hN2⟩ : ∃ N2, N2 = mput (mput (mput N1 179 2 (nI t1)) 179 8 0) 178 10 0 := ⟨_, rfl⟩
  have c2 : ∀ q x, ¬ (q = 179 ∧ (x = 2 ∨ x = 8)) → ¬ (q = 178 ∧ x = 10) → N2.1 q x = N1.1 q x := fun q x q1 q2 => by rw [hN2, mput_at, if_neg q2, mput_at, if_neg (by omega), mput_at, if_neg (by omega)]
  have r2 : ∀ k, k < 1601 → k ≠ 2 → k ≠ 8 → N2.1 179 k = wdz ρ h f w k := fun k k1 k2 k3 => by rw [c2 _ _ (by omega) (by omega)]; exact a2' k k1
  have B : TBr N2 (tb (bqt ρ) 0 b) := by
    refine ⟨by rw [tb_len]; exact hb, ?_, fun i hi => ?_, fun x hx => ?_⟩
    · rw [tb_len, r2 7 (by omega) (by omega) (by omega), z 7 (fun i _ => by omega) (by omega)]; exact h7
    · rw [tb_len] at hi
      rw [tb_at _ _ _ _ hi, Nat.zero_add]
      obtain ⟨q1, q2, q3, -⟩ := bqt_ok hh W.2.1 hi
      rw [r2 _ (by omega) (by omega) (by omega), r2 _ (by omega) (by omega) (by omega), r2 _ (by omega) (by omega) (by omega), z _ (fun i _ => by omega) (by omega), z _ (fun i _ => by omega) (by omega), z _ (fun i _ => by omega) (by omega)]
      exact ⟨q1, q2, q3⟩
    · obtain ⟨q1, q2⟩ := htb x hx
      exact ⟨by omega, q2⟩
  have I0 : GI (mkq ρ) h (wdz ρ h f w, c, s) := by
    refine ⟨?_, hs, ?_, fun i hi => ?_⟩
    · dsimp only; rw [z 1 (fun i _ => by omega) (by omega)]; exact h1
    · dsimp only; rw [z 5 (fun i _ => by omega) (by omega)]; exact h5
    · dsimp only; rw [z _ (fun i' _ => by omega) (by omega)]; exact mkq_ok W.1 hi
  have D : DN (mkq ρ) N2 h (tb (bqt ρ) 0 b) t1 [] (ρ 4) 0 (wdz ρ h f w, c, s) := by
    refine ⟨B, fun x hx => (htb x hx).1, ⟨?_, ?_, ?_, ?_, ?_⟩, by rw [tb_len]; simp; omega, fun i hi => absurd hi (Nat.not_lt_zero _), fun j q1 q2 q3 q4 q5 q6 => r2 j q1 q2 q5, I0⟩
    · rw [r2 0 (by omega) (by omega) (by omega), z 0 (fun i _ => by omega) (by omega)]; exact h0
    · rw [hN2, mput_at, if_neg (by omega), mput_at, if_neg (by omega), mput_at, if_pos ⟨rfl, rfl⟩]
    · rw [hN2, mput_at, if_neg (by omega), mput_at, if_pos ⟨rfl, rfl⟩]; rfl
    · rw [r2 4 (by omega) (by omega) (by omega), z 4 (fun i _ => by omega) (by omega)]
    · rw [hN2, mput_at, if_pos ⟨rfl, rfl⟩]
  have hsz : sz (tb (bqt ρ) 0 b) ≤ 12 * b := by
    have e := sl_all (q := fun _ => true) (bqt ρ) b 0 (fun _ _ _ => rfl)
    rw [← e]
    exact sl_sz b 0 fun i _ hi => (bqt_ok hh W.2.1 (show i < b by omega)).2.2.2.2.2.2
  obtain ⟨N3, b1, b2, b3, b4, b5, b6, b7, b8⟩ := dw_l hh hf 1000 FUEL N2 _ t1 [] _ _ _ D (by rw [tb_len]; omega) (by unfold FUEL; omega) (by omega) (by omega) (by dsimp only; omega)
  rw [eW] at b2 b3 b4 b5 b6 b7
  have hP : dP 1000 t1 ((Od ρ h f b).map (bqt ρ)) = PL ρ h f b t w := by unfold PL; rw [ht1]
  rw [hP] at b2 b3 b4 b5 b6 b7
  have hG : ldl (mkq ρ) (PL ρ h f b t w).1 (wdz ρ h f w, c, s) = GF ρ h f b c s t w := rfl
  rw [hG] at b4 b5 b6
  rw [List.nil_append] at b2 b3 b7
  obtain ⟨p1, p2⟩ := PL_heat (ρ := ρ) (h := h) (f := f) (b := b) (w := w) ht ht4
  obtain ⟨g0, g2, g7, g8, g4, g10⟩ := b2
  obtain ⟨te, hte⟩ : ∃ te, te = (PL ρ h f b t w).2.2 := ⟨_, rfl⟩
  rw [← hte] at g2 p1 p2 ⊢
  obtain ⟨N5, hN5⟩ : ∃ N5, N5 = mput N3 179 2 (nI (max 20 (te / 2))) := ⟨_, rfl⟩
  have c5 : ∀ q x, ¬ (q = 179 ∧ x = 2) → N5.1 q x = N3.1 q x := fun q x hq => by rw [hN5, mput_at, if_neg hq]
  refine ⟨N5, ?_, ⟨by rw [c5 _ _ (by omega)]; exact g0, by rw [hN5, mput_at, if_pos ⟨rfl, rfl⟩], by rw [c5 _ _ (by omega)]; exact g7, by rw [c5 _ _ (by omega)]; exact g8, by rw [c5 _ _ (by omega)]; exact g4⟩, fun i hi => ?_, fun j q1 q2 q3 q4 q5 q6 => ?_, b5, ?_, b7, fun q x q1 q2 q3 => ?_, fun x q1 q2 => ?_, ?_⟩
  · unfold fX12_dayWith
    rw [R.next h0 hh, Option.bind_some, hn, l_5, R.at (by omega), Option.bind_some, h5, l_1]
    show ((fX12_of (nI f) (nI 1) N).bind _) = _
    rw [R.of (by omega) (by omega), Option.bind_some]
    show ((fX12_lays (nI f) (nI 1) _ N).bind _) = _
    rw [X12_lays' (by omega) (by omega), Option.bind_some, l_0, a1, Option.bind_some, l_2, ald_n (by omega) (by omega), Option.bind_some, a2' 2 (by omega), z 2 (fun i _ => by omega) (by omega), h2, l_10, nI_ml', nI_ad]
    have ez : (if nI (t + 10 * w) ≤ (400 : Int32) then ((some (nI t)).bind fun v23 => (some (v23 + nI (10 * w)) : Option Int32)) else (some (400 : Int32))) = some (nI t1) := by
      rw [Option.bind_some, nI_ad, l_400]
      by_cases q : t + 10 * w ≤ 400
      · rw [if_pos (pI_le q (by omega)), show t1 = t + 10 * w by omega]
      · rw [if_neg (pI_nle (by omega) (by omega)), show t1 = 400 by omega]
    rw [ez, Option.bind_some, ast_n (by omega) (by omega), Option.bind_some, l_8, ast_n (by omega) (by omega), Option.bind_some]
    unfold pf
    rw [Option.bind_some, show mput (mput (mput N1 179 2 (nI t1)) 179 8 (nI 0)) 178 10 (nI 0) = N2 from hN2.symm]
    show ((lX12_dayWith_107 (nI f) FUEL N2).bind _) = _
    rw [b1, Option.bind_some, ald_n (by omega) (by omega), Option.bind_some, g2, mI_dv (by omega) (by omega)]
    have ey : (if (20 : Int32) ≤ nI (te / 2) then ((some (nI te)).bind fun v72 => (some (v72 / nI 2) : Option Int32)) else (some (20 : Int32))) = some (nI (max 20 (te / 2))) := by
      rw [Option.bind_some, mI_dv (by omega) (by omega), l_20]
      by_cases q : 20 ≤ te / 2
      · rw [if_pos (pI_le q (by omega)), show max 20 (te / 2) = te / 2 by omega]
      · rw [if_neg (pI_nle (by omega) (by omega)), show max 20 (te / 2) = 20 by omega]
    rw [ey, Option.bind_some, ast_n (by omega) (by omega), Option.bind_some, ← hN5, show N5.1 178 10 = bml (PL ρ h f b t w).1 0 from by rw [c5 _ _ (by omega)]; exact g10]
    rfl
  · rw [c5 _ _ (by omega), c5 _ _ (by omega), c5 _ _ (by omega), c5 _ _ (by omega), c5 _ _ (by omega)]
    exact b3 i hi
  · rw [c5 _ _ (by omega)]
    exact b4 j q1 q2 q3 q4 q5 q6
  · have := aT_sz hf (fun x hx => (htb x hx).1)
    rw [eW] at this
    rw [this]
    exact b6
  · rw [c5 _ _ (by omega), b8.1 q x q1 q2 q3, c2 _ _ (by omega) (by omega), a3 q x q2, mput_at, if_neg (by omega)]
  · rw [c5 _ _ (by omega), b8.2.1 x q1 q2, c2 _ _ (by omega) (by omega), a3 178 x (by omega), mput_at, if_neg (by omega)]
  · rw [hN5, mput_2, b8.2.2, hN2]
    exact a4
