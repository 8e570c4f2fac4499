/-! a day: both sides -/
def Opw (fc fr : Mem → Option (Int32 × Mem)) (M : Mem) (ρ : Nat → Int32) (c : Nat) : Prop := ∃ r M' h' b' g' c', fc M = some (r, M') ∧ c' ≤ c + 240 ∧ Fc M M' ∧ ∀ N, Ro N ρ → ∃ N' ρ', fr N = some (r, N') ∧ Ro N' ρ' ∧ Vi M' ρ' h' b' g' c' ∧ Wr ρ' h' b' c' ∧ Fr N N'
theorem Opp.w {fc fr : Mem → Option (Int32 × Mem)} {M : Mem} {ρ : Nat → Int32} {c : Nat} (H : Opp fc fr M ρ c) : Opw fc fr M ρ c := by
  obtain ⟨r, M', ρ', h', b', g', c', o1, o2, o3, o4, o5, o6⟩ := H
  refine ⟨r, M', h', b', g', c', o1, o4, o5, fun N R => ?_⟩
  obtain ⟨N', p1, p2, p3⟩ := o6 N R
  exact ⟨N', ρ', p1, p2, o2, o3, p3⟩
theorem PB_of {M : Mem} {ρ : Nat → Int32} {h b f : Nat} (hh : h ≤ 8) (hf : f < h) (B : BB M ρ b) (W : RB ρ h b) (H : OR M (Od ρ h f b)) : PB M (Od ρ h f b) (fun p => bqt ρ ((Od ρ h f b).getD p 0)) := by
  have hb := B.1
  have hl := Od_len hh hf W
  refine ⟨H, by omega, fun p hp => ?_⟩
  have hlt := Od_lt hp
  obtain ⟨q1, q2, q3, q4, q5, q6, q7⟩ := bqt_ok hh W hlt
  refine ⟨by omega, ⟨by dsimp only; omega, q5, q6, q7⟩, ?_, ?_, ?_⟩
  · have := B.2.2.2 _ 0 hlt (by omega)
    rw [Nat.add_zero, Nat.add_zero] at this
    exact this.trans q1
  · exact (B.2.2.2 _ 1 hlt (by omega)).trans q2
  · exact (B.2.2.2 _ 2 hlt (by omega)).trans q3
theorem bring_c {M : Mem} {ρ : Nat → Int32} {h f : Nat} (H : HH M ρ h) (W : RH ρ h) (hn : nxt ρ h = some f) (hf : f < h) (w : Nat) : ∃ M', fX4_bringWood 2 (nI w) M = some M' ∧ HH M' (wdz ρ h f w) h ∧ (∀ q x, q ≠ 6 → q ≠ 8 → M'.1 q x = M.1 q x) ∧ M'.2 = M.2 := by
  have hh := H.1
  obtain ⟨M', a1, a2, a3, a4⟩ := xz_c h 0 FUEL _ _ (H.pt (show f < 8 by omega) (show 1 < 4 by omega) (ρ (9 + 4 * f + 1) + nI w)) (by omega) (fuel8 (by omega))
  refine ⟨M', ?_, a2, fun q x h1 h2 => by rw [a3 q x h2, mput_at, if_neg (by omega)], a4⟩
  unfold fX4_bringWood
  rw [H.next W, Option.bind_some, hn]
  show ((fX7_get 3 4 8 (nI f) (nI 1) M).bind _) = _
  rw [H.gt hf (by omega), Option.bind_some]
  show ((fX7_put 3 4 8 (nI f) (nI 1) _ M).bind _) = _
  rw [X7_put (by omega) (by omega) (by omega) (by omega), Option.bind_some]
  show ((lX4_bringWood_27 2 FUEL (nI 0) (mput M (5 + 1) f (ρ (9 + 4 * f + 1) + nI w))).bind _) = _
  rw [a1]; rfl
/-- the class plans: order, wood, loads -/
theorem plan_c {M : Mem} {ρ : Nat → Int32} {h b g c f w t : Nat} (V : Vi M ρ h b g c) (W : Wr ρ h b c) (hn : nxt ρ h = some f) (hf : f < h) (h2 : ρ 2 = nI t) (ht : 20 ≤ t) (ht4 : t ≤ 400) (hw : w ≤ 40) : ∃ M4 M6 M10, fX9_arrangeNextDay 1 M = some M4 ∧ fX4_bringWood (1 + 1) (nI w) M4 = some M6 ∧ fX9_heatWith 1 (nI w) M6 = some (nI (min 400 (t + 10 * w))) ∧ fX3_fire (1 + 8) (nI (min 400 (t + 10 * w))) M6 = some M10 ∧ HH M10 (wdz ρ h f w) h ∧ FS M10 (Od ρ h f b) (fun p => bqt ρ ((Od ρ h f b).getD p 0)) (PL ρ h f b t w).1 (PL ρ h f b t w).2.1 (PL ρ h f b t w).2.2 ∧ (∀ q x, q ≠ 6 → q ≠ 8 → ¬ (33 ≤ q ∧ q < 45) → M10.1 q x = M.1 q x) ∧ M10.2 = M.2 := by
  have hh := V.1.1
  have hb := V.2.1.1
  obtain ⟨M4, a1, a2, a3, a4⟩ := arrange_ok V W (by omega) hn hf
  have H4 : HH M4 ρ h := V.1.cg (fun q x _ _ => a3 q x (by omega) (by omega)) (fun _ _ _ => rfl)
  have B4 : BB M4 ρ b := V.2.1.cg (fun q x _ _ => a3 q x (by omega) (by omega)) (fun _ _ _ => rfl)
  obtain ⟨M6, b1, b2, b3, b4⟩ := bring_c H4 W.1 hn hf w
  have P6 : PB M6 (Od ρ h f b) (fun p => bqt ρ ((Od ρ h f b).getD p 0)) := (PB_of hh hf B4 W.2.1 a2).cg (b3 33 4 (by omega) (by omega)) (fun q x hq => b3 q x (by omega) (by omega))
  have hl := Od_len (f := f) hh hf W.2.1
  obtain ⟨M10, c1, c2, c3, c4, c5⟩ := fire_c (t := min 400 (t + 10 * w)) P6 (by omega) (by omega)
  rw [tb_map (bqt ρ) (Od ρ h f b)] at c2
  refine ⟨M4, M6, M10, a1, b1, ?_, c1, b2.cg (fun q x _ _ => c4 q x (by omega)) (fun _ _ _ => rfl), c2, fun q x q1 q2 q3 => by rw [c4 q x q3, b3 q x q1 q2, a3 q x (by omega) (by omega)], by rw [c5, b4, a4]⟩
  unfold fX9_heatWith
  rw [b3 1 4 (by omega) (by omega), a3 1 4 (by omega) (by omega), V.2.2.2.2.1, h2, l_10, nI_ml', nI_ad, l_400]
  by_cases q : t + 10 * w < 400
  · rw [if_pos (pI_lt q (by omega)), show min 400 (t + 10 * w) = t + 10 * w by omega]
  · rw [if_neg (pI_nlt (by omega) (by omega)), show min 400 (t + 10 * w) = 400 by omega]
theorem copy_l {M : Mem} {g : Nat} (hg : g ≤ 20) (h : M.1 37 1 = nI g) : fX5_copyFrom (1 + 14) 37 M = some (mput (cpT 16 38 5 g M) 15 1 (nI g)) := by
  unfold fX5_copyFrom
  rw [h, show fX7_copyFrom (1 + 14 + 1) 5 20 (37 + 1) 5 20 (nI g) M = some (cpT 16 38 5 g M) from X7_copy (by omega) hg (by omega) (by omega), Option.bind_some]
  unfold pf
  rw [Option.bind_some, show (cpT 16 38 5 g M).1 37 1 = nI g from by
    show (if 16 + 2 ≤ 37 ∧ 37 < 16 + 2 + 5 ∧ 1 < g then M.1 (38 + (37 - 16)) 1 else M.1 37 1) = _
    rw [if_neg (by omega)]; exact h]
theorem op_day {M : Mem} {ρ : Nat → Int32} {h b g c w : Nat} (V : Vi M ρ h b g c) (W : Wr ρ h b c) (hb0 : 0 < b) (hw : w ≤ 40) (hc : c + 7000 < 2 ^ 29) : Opw (fX9_haveDay 1 (nI w)) (fX12_dayWith (nI w)) M ρ c := by
  have hh := V.1.1
  have hb := V.2.1.1
  have hh0 : 0 < h := by obtain ⟨⟨a, ha, -⟩, -⟩ := W.2.1 0 hb0; omega
  obtain ⟨f, hf, hn⟩ := nxt_some W.1 hh0
  obtain ⟨t, ht, ht4, h2⟩ := W.2.2.2.1
  obtain ⟨s, hs, h1⟩ := W.2.2.2.2
  obtain ⟨M4, M6, M10, a1, a2, a3, a4, H10, F10, c10, z10⟩ := plan_c V W hn hf h2 ht ht4 hw
  obtain ⟨P, hP⟩ : ∃ P, P = PL ρ h f b t w := ⟨_, rfl⟩
  rw [← hP] at F10
  obtain ⟨p1, p2⟩ := PL_heat (ρ := ρ) (h := h) (f := f) (b := b) (w := w) ht ht4
  rw [← hP] at p1 p2
  have hl := Od_len (f := f) hh hf W.2.1
  obtain ⟨O, hO⟩ : ∃ O, O = Od ρ h f b := ⟨_, rfl⟩
  obtain ⟨tr, htr⟩ : ∃ tr : Nat → T3, tr = fun p => bqt ρ ((Od ρ h f b).getD p 0) := ⟨_, rfl⟩
  rw [← hO] at hl
  rw [← htr, ← hO] at F10
  obtain ⟨PB10, ⟨f5, f6, f36, f37⟩, fl5, fLC, fW, fL, fP, -⟩ := id F10
  have hPl : P.1.length ≤ 20 := by omega
  obtain ⟨M13, hM13⟩ : ∃ M13, M13 = mput (cpT 16 38 5 P.1.length M10) 15 1 (nI P.1.length) := ⟨_, rfl⟩
  have c13 : ∀ q x, ¬ (q = 15 ∧ x = 1) → (q < 18 ∨ 23 ≤ q) → M13.1 q x = M10.1 q x := fun q x q1 q2 => by
    rw [hM13, mput_at, if_neg q1]
    show (if 16 + 2 ≤ q ∧ q < 16 + 2 + 5 ∧ x < P.1.length then _ else M10.1 q x) = _
    rw [if_neg (by omega)]
  have d13 : ∀ k i, k < 5 → i < P.1.length → M13.1 (18 + k) i = M10.1 (40 + k) i := fun k i hk hi => by
    rw [hM13, mput_at, if_neg (by omega)]
    show (if 16 + 2 ≤ 18 + k ∧ 18 + k < 16 + 2 + 5 ∧ i < P.1.length then M10.1 (38 + (18 + k - 16)) i else _) = _
    rw [if_pos (by omega), show 38 + (18 + k - 16) = 40 + k by omega]
  have htr8 : ∀ p, p < O.length → (tr p).1 < h := fun p hp => by
    rw [htr]
    rw [hO] at hp
    exact (bqt_ok hh W.2.1 (Od_lt hp)).2.2.2.1
  have PB13 : PB M13 O tr := PB10.cg (c13 33 4 (by omega) (by omega)) (fun q x hq => c13 q x (by omega) (by omega))
  have zn : ∀ k, (∀ i, i < h → k ≠ 9 + 4 * i + 3) → k ≠ 9 + 4 * f + 1 → wdz ρ h f w k = ρ k := fun k q1 q2 => wdz_ne q1 q2
  have L13 : LL M13 (wdz ρ h f w) c := V.2.2.2.1.cg (fun q x _ _ => by rw [c13 q x (by omega) (by omega), c10 q x (by omega) (by omega) (by omega)]) (fun k _ hk => zn k (fun i hi => by omega) (by omega))
  have D13 : DV M13 (wdz ρ h f w) h c := by
    refine ⟨H10.cg (fun q x _ _ => c13 q x (by omega) (by omega)) (fun _ _ _ => rfl), L13, ?_, ?_⟩
    · rw [c13 1 5 (by omega) (by omega), c10 1 5 (by omega) (by omega) (by omega), zn 1 (fun i _ => by omega) (by omega)]; exact V.2.2.2.2.2.1
    · rw [c13 1 6 (by omega) (by omega), c10 1 6 (by omega) (by omega) (by omega), zn 3 (fun i _ => by omega) (by omega)]; exact V.2.2.2.2.2.2.1
  have I13 : GI (mkq ρ) h (wdz ρ h f w, c, s) := by
    refine ⟨?_, hs, ?_, fun i hi => ?_⟩
    · dsimp only; rw [zn 1 (fun i _ => by omega) (by omega)]; exact h1
    · dsimp only; rw [zn 5 (fun i _ => by omega) (by omega)]; exact V.2.2.2.1.2.2.1
    · dsimp only; rw [zn _ (fun i' _ => by omega) (by omega)]; exact mkq_ok W.1 hi
  -- pale heats are below the greatest
  have hht : ∀ L, L < P.1.length → (P.1.getD L L0).2.2.2 ≤ 400 := by
    have key : ∀ (n t' : Nat) (W' : List T3), 20 ≤ t' → t' ≤ 400 → ∀ L, L < (dP n t' W').1.length → ((dP n t' W').1.getD L L0).2.2.2 ≤ 400 := by
      intro n
      induction n with
      | zero => intro t' W' _ _ L hL; exact absurd hL (Nat.not_lt_zero _)
      | succ n ih =>
        intro t' W' q1 q2 L hL
        by_cases hW : W'.length = 0
        · rw [dP, if_pos hW] at hL; exact absurd hL (Nat.not_lt_zero _)
        · cases hk : kP t' W' with
          | some k =>
            obtain ⟨r1, r2⟩ := fall_r (k := k) (s := sz (gT (pK k) 24 W')) q2 q1
            rw [dP_load hW hk] at hL ⊢
            cases L with
            | zero => exact Nat.le_trans r2 q2
            | succ L =>
              rw [List.length_cons] at hL
              exact ih _ _ r1 (by omega) L (by omega)
          | none =>
            by_cases hh' : hotP t' W'
            · have := hot_200 hh'
              rw [dP_tick hW hk hh'] at hL ⊢
              exact ih _ _ (by omega) (by omega) L hL
            · rw [dP_end hW hk hh'] at hL; exact absurd hL (Nat.not_lt_zero _)
    intro L hL
    rw [hP] at hL ⊢
    exact key 1000 _ _ (by omega) (by omega) L hL
  obtain ⟨M16, b1, b2, b3, b4, b5, b6, b7, b8⟩ := loads_c (mkf := mkq ρ) (Ls := P.1) hPl htr8 hht P.1.length 0 FUEL 0 M13 (wdz ρ h f w, c, s) PB13 D13 I13 (by rw [hM13, mput_at, if_pos ⟨rfl, rfl⟩]) (fun i hi => by rw [show (22 : Nat) = 18 + 4 from rfl, d13 4 i (by omega) hi]; exact (fLC i hi).2.2.2.2) (fun i hi => by
    rw [← fL i hi]
    exact sl_cg tr O.length 0 fun p _ _ => by rw [c13 35 p (by omega) (by omega)]) (by omega) (fuel8 (by omega)) (by dsimp only; omega)
  have hGF : ldi (mkq ρ) P.1 0 P.1.length (wdz ρ h f w, c, s) = GF ρ h f b c s t w := by rw [ldi_ldl, hP]; rfl
  rw [hGF] at b3 b4 b5 b6
  rw [bmi_bml] at b1
  obtain ⟨G, hG⟩ : ∃ G, G = GF ρ h f b c s t w := ⟨_, rfl⟩
  have RG : RLv G.1 G.2.1 := by
    have hmem : ∀ L, L < P.1.length → ∀ x, x ∈ (P.1.getD L L0).2.1 → x.1 < h := fun L hL x hx => by
      rw [← fL L hL] at hx
      obtain ⟨i, i1, i2, i3⟩ := sl_mem _ _ _ hx
      rw [i3]; exact htr8 i (by omega)
    have := RLv_ldi (mkf := mkq ρ) hh hmem P.1.length 0 (wdz ρ h f w, c, s) (by omega) (W.2.2.1.cg fun k q1 q2 => zn k (fun i hi => by omega) (by omega))
    rw [hGF, ← hG] at this
    exact this
  rw [← hG] at b3 b4 b5 b6
  have hsz : sz ((Od ρ h f b).map (bqt ρ)) ≤ 240 := by
    have e1 := tb_map (bqt ρ) (Od ρ h f b)
    have e2 := sl_all (q := fun _ => true) (fun p => bqt ρ ((Od ρ h f b).getD p 0)) (Od ρ h f b).length 0 (fun _ _ _ => rfl)
    rw [← e1, ← e2]
    have := sl_sz (q := fun _ => true) (tr := fun p => bqt ρ ((Od ρ h f b).getD p 0)) (Od ρ h f b).length 0 (fun i _ hi => (bqt_ok hh W.2.1 (Od_lt (show i < (Od ρ h f b).length by omega))).2.2.2.2.2.2)
    have hl' := Od_len (f := f) hh hf W.2.1
    omega
  -- how many came out: from the reference's side
  obtain ⟨Nx, hNx⟩ : ∃ Nx : Mem, Nx = (fun q x => if q = 179 then ρ x else 0, fun _ _ => 0) := ⟨_, rfl⟩
  have Rx : Ro Nx ρ := fun k _ => by rw [hNx]; rfl
  have hcs : G.2.1 + sz P.2.1 = c + sz ((Od ρ h f b).map (bqt ρ)) := by
    obtain ⟨N5, -, -, -, -, -, n6, -⟩ := day_pre Rx hh hb V.1.2.2.1 V.2.1.2.2.1 V.2.2.2.1.2.2.1 (by omega) h2 ht ht4 h1 hs W hn hf hw
    rw [hG, hP]; exact n6
  obtain ⟨c', hc'⟩ : ∃ c', c' = G.2.1 := ⟨_, rfl⟩
  have hcc : c ≤ c' := by
    have key : ∀ (Ls : List L4) (m L : Nat) (G' : Gs), GI (mkq ρ) h G' → (∀ i, i < Ls.length → ∀ x, x ∈ (Ls.getD i L0).2.1 → x.1 < h) → L + m = Ls.length → G'.2.1 ≤ (ldi (mkq ρ) Ls L m G').2.1 := by
      intro Ls m
      induction m with
      | zero => intro L G' _ _ _; exact Nat.le_refl _
      | succ m ih =>
        intro L G' I' hm hL
        obtain ⟨q1, q2, -⟩ := btl_ok hh (Ls.getD L L0).2.2.2 (Ls.getD L L0).2.1 G' I' (hm L (by omega))
        rw [ldi]
        have := ih (L + 1) _ q1 hm (by omega)
        omega
    have hmem : ∀ L, L < P.1.length → ∀ x, x ∈ (P.1.getD L L0).2.1 → x.1 < h := fun L hL x hx => by
      rw [← fL L hL] at hx
      obtain ⟨i, i1, i2, i3⟩ := sl_mem _ _ _ hx
      rw [i3]; exact htr8 i (by omega)
    have := key P.1 P.1.length 0 (wdz ρ h f w, c, s) I13 hmem (by omega)
    rw [hGF, ← hG, ← hc'] at this
    exact this
  rw [← hc'] at b3 b5 RG hcs
  obtain ⟨st, hst⟩ : ∃ st, st = if c < c' - 200 then c' - 200 else c := ⟨_, rfl⟩
  have hst2 : st ≤ c' := by rw [hst]; split <;> omega
  have hst3 : c' - st ≤ 200 := by rw [hst]; split <;> omega
  obtain ⟨M18, γ', s1, s2, s3, s4, s5, s6, s7⟩ := sort_l (mkf := mkq ρ) (bml P.1 0) (c' - st) st FUEL M16 G.1 b3.1 b3.2.1 b4.2.2.2 (by omega) (fuel8 (by omega))
  have eS : fX6_sortFrom (1 + 22) (nI c) (1 + 1) (bml P.1 0) M16 = some M18 := by
    unfold fX6_sortFrom
    rw [show fX6_firstKept (1 + 22) M16 = some (nI (c' - 200)) from b3.2.1.first, Option.bind_some]
    have : (if nI c < nI (c' - 200) then nI (c' - 200) else nI c) = nI st := by
      rw [hst]
      by_cases q : c < c' - 200
      · rw [if_pos (pI_lt q (by omega)), if_pos q]
      · rw [if_neg (pI_nlt (by omega) (by omega)), if_neg q]
    rw [this]
    show ((lX6_sortFrom_10 23 2 (bml P.1 0) FUEL (nI st) M16).bind _) = _
    rw [s1]; rfl
  have c18 : ∀ q x, ¬ (q = 1 ∧ x = 5) → q ≠ 7 → (q < 23 ∨ 33 ≤ q) → M18.1 q x = M13.1 q x := fun q x q1 q2 q3 => by rw [s5 q x (by omega), b7 q x q1 q2 q3]
  have PB18 : PB M18 O tr := PB13.cg (c18 33 4 (by omega) (by omega) (by omega)) (fun q x hq => c18 q x (by omega) (by omega) (by omega))
  have eD : fX3_dough (1 + 8) M18 = some (nI (sz P.2.1)) := by
    have := dough_l PB18 O.length 0 FUEL 0 (by omega) (fuel8 (by omega))
    have e35 : sl (fun p => decide (M18.1 35 p = NG)) tr 0 O.length = P.2.1 := by
      rw [← fW]
      exact sl_cg tr O.length 0 fun p _ _ => by rw [c18 35 p (by omega) (by omega) (by omega), c13 35 p (by omega) (by omega)]
    rw [e35, Nat.zero_add] at this
    unfold fX3_dough
    show ((lX3_dough_4 9 M18 FUEL (nI 0) (nI 0)).bind _) = _
    rw [this]; rfl
  obtain ⟨te, hte⟩ : ∃ te, te = P.2.2 := ⟨_, rfl⟩
  rw [← hte] at p1 p2 f6
  obtain ⟨M29, hM29⟩ : ∃ M29, M29 = mput (mput (mput (mput M18 1 7 (ρ 4 + nI (sz P.2.1))) 1 4 (nI (max 20 (te / 2)))) 9 1 0) 1 6 (γ' 3 + 1) := ⟨_, rfl⟩
  have c29 : ∀ q x, q ≠ 1 → ¬ (q = 9 ∧ x = 1) → M29.1 q x = M18.1 q x := fun q x q1 q2 => by rw [hM29, mput_at, if_neg (by omega), mput_at, if_neg q2, mput_at, if_neg (by omega), mput_at, if_neg (by omega)]
  have g'3 : ∀ k, k < 201 → γ' k = G.1 k := s4.1
  have e16 : M16.1 1 6 = γ' 3 := by rw [g'3 3 (by omega)]; exact b3.2.2.2
  have e15 : M16.1 1 5 = γ' 1 := by rw [g'3 1 (by omega)]; exact b3.2.2.1
  have eH : fX9_haveDay 1 (nI w) M = some (nI c' - nI c, M29) := by
    unfold fX9_haveDay fX6_cameOut fX3_heat fX1_clear
    rw [Option.bind_some, show M.1 (1 + 22) 1 = nI c from V.2.2.2.1.2.1, a1, Option.bind_some, a2, Option.bind_some, a3, Option.bind_some, a4, Option.bind_some]
    unfold fX3_loads
    rw [Option.bind_some, copy_l hPl f37, Option.bind_some, ← hM13]
    unfold fX9_bakeLoads
    rw [show (0 : Int32) = nI 0 from rfl, show lX9_bakeLoads_4 1 FUEL (nI 0) (nI 0) M13 = some (bml P.1 0, M16) from b1, Option.bind_some]
    simp only [un2]
    rw [Option.bind_some]
    simp only [un2]
    rw [eS, Option.bind_some, eD, Option.bind_some]
    unfold pf
    rw [Option.bind_some, Option.bind_some, Option.bind_some, show (mput M18 1 7 (M18.1 1 7 + nI (sz P.2.1))).1 33 6 = nI te from by rw [mput_at, if_neg (by omega), c18 33 6 (by omega) (by omega) (by omega), c13 33 6 (by omega) (by omega)]; exact f6, show M18.1 1 7 = ρ 4 from by rw [c18 1 7 (by omega) (by omega) (by omega), c13 1 7 (by omega) (by omega), c10 1 7 (by omega) (by omega) (by omega)]; exact V.2.2.2.2.2.2.2]
    have eh : (if (20 : Int32) < nI te / 2 then nI te / 2 else 20) = nI (max 20 (te / 2)) := by
      rw [l_2, mI_dv (by omega) (by omega), l_20]
      by_cases q : 20 < te / 2
      · rw [if_pos (pI_lt q (by omega)), show max 20 (te / 2) = te / 2 by omega]
      · rw [if_neg (pI_nlt (by omega) (by omega)), show max 20 (te / 2) = 20 by omega]
    rw [eh, Option.bind_some, Option.bind_some, Option.bind_some, show (mput (mput (mput M18 1 7 (ρ 4 + nI (sz P.2.1))) 1 4 (nI (max 20 (te / 2)))) (1 + 8) 1 (nI 0)).1 1 6 = γ' 3 from by rw [mput_at, if_neg (by omega), mput_at, if_neg (by omega), mput_at, if_neg (by omega), s5 1 6 (by omega)]; exact e16]
    rw [show mput (mput (mput (mput M18 1 7 (ρ 4 + nI (sz P.2.1))) 1 4 (nI (max 20 (te / 2)))) (1 + 8) 1 (nI 0)) 1 6 (γ' 3 + 1) = M29 from hM29.symm, show M29.1 (1 + 22) 1 = nI c' from by rw [c29 _ _ (by omega) (by omega)]; exact s3.2.1]
    rfl
  refine ⟨nI c' - nI c, M29, h, 0, P.1.length, c', eH, by omega, ⟨fun q x hq => ?_, ?_⟩, fun N R => ?_⟩
  · rw [c29 q x (by omega) (by omega), c18 q x (by omega) (by omega) (by omega), c13 q x (by omega) (by omega), c10 q x (by omega) (by omega) (by omega)]
  · rw [hM29]
    show M18.2 = _
    rw [s6, b8, hM13]
    exact z10
  · obtain ⟨N5, n1, ⟨n20, n22, n27, n28, n24⟩, n3, n4, n5, n6, n7, n8⟩ := day_pre R hh hb V.1.2.2.1 V.2.1.2.2.1 V.2.2.2.1.2.2.1 (by omega) h2 ht ht4 h1 hs W hn hf hw
    rw [← hP] at n1 n22 n28 n24 n3
    rw [← hte] at n22
    rw [← hG] at n4 n5
    obtain ⟨N6, m1, m2, m3, m4⟩ := s7 N5 n4
    have eR : fX12_sorts (nI c) (bml P.1 0) N5 = some N6 := by
      have f5' : ald (N5.1 179) 1601 5 = some (nI c') := by
        have := n4.at (k := 5) (by omega) (by omega) (by omega) (by omega) (by omega) (by omega)
        rw [n5.2.2.1, ← hc'] at this
        exact this
      have ef : fX12_firstKept N5 = some (nI (c' - 200)) := by
        unfold fX12_firstKept
        rw [f5', Option.bind_some, l_200]
        by_cases q : c' ≤ 200
        · rw [if_pos (pI_le q (by omega)), show c' - 200 = 0 by omega]; rfl
        · rw [if_neg (pI_nle (by omega) (by omega)), Option.bind_some, mI_sb (by omega) (by omega)]
      unfold fX12_sorts
      rw [ef, Option.bind_some, Option.bind_some]
      have : (if nI c ≤ nI (c' - 200) then (some (nI (c' - 200)) : Option Int32) else some (nI c)) = some (nI st) := by
        rw [hst]
        by_cases q : c < c' - 200
        · rw [if_pos (pI_le (by omega) (by omega)), if_pos q]
        · rw [if_neg q]
          by_cases q2 : c ≤ c' - 200
          · rw [if_pos (pI_le q2 (by omega)), show c' - 200 = c by omega]
          · rw [if_neg (pI_nle (by omega) (by omega))]
      rw [this, Option.bind_some, m1]; rfl
    obtain ⟨N7, hN7⟩ : ∃ N7, N7 = mput N6 179 3 (γ' 3 + 1) := ⟨_, rfl⟩
    have c7 : ∀ x, x ≠ 3 → x < 201 → N7.1 179 x = N5.1 179 x := fun x q1 q2 => by rw [hN7, mput_at, if_neg (by omega), m3 _ _ (by omega)]
    have g7 : ∀ k, k < 1601 → k ≠ 2 → k ≠ 3 → k ≠ 4 → k ≠ 7 → k ≠ 8 → (k < 41 ∨ 201 ≤ k) → N7.1 179 k = γ' k := fun k q1 q2 q3 q4 q5 q6 q7 => by
      rw [hN7, mput_at, if_neg (by omega)]; exact m2 k q1 q2 q4 q5 q6 q7
    refine ⟨N7, N7.1 179, ?_, fun _ _ => rfl, ⟨s2.cg (fun q x _ _ => c29 q x (by omega) (by omega)) (fun k q1 q2 => g7 k (by omega) (by omega) (by omega) (by omega) (by omega) (by omega) (by omega)), ⟨by omega, by rw [hM29, mput_at, if_neg (by omega), mput_at, if_pos ⟨rfl, rfl⟩]; rfl, by rw [c7 7 (by omega) (by omega)]; exact n27, fun i k hi => absurd hi (Nat.not_lt_zero _)⟩, ⟨hPl, ?_, ?_, fun i k hi hk => ?_⟩, s3.cg (fun q x _ _ => c29 q x (by omega) (by omega)) (fun k q1 q2 => g7 k q1 (by omega) (by omega) (by omega) (by omega) (by omega) (by omega)), ⟨?_, ?_, ?_, ?_⟩⟩, ⟨⟨fun i hi => ?_, fun i j hi hj hij => ?_, fun i hi => ?_⟩, fun i hi => absurd hi (Nat.not_lt_zero _), ?_, ⟨max 20 (te / 2), by omega, by omega, ?_⟩, ⟨G.2.2, b4.2.1, ?_⟩⟩, ⟨fun q x hq => ?_, fun x q1 q2 => ?_, ?_⟩⟩
    · rw [n1, eR, Option.bind_some, l_3, ald_n (by omega) (by omega), Option.bind_some, show N6.1 179 3 = γ' 3 from m2 3 (by omega) (by omega) (by omega) (by omega) (by omega) (by omega), ast_n (by omega) (by omega), Option.bind_some, ← hN7, l_5, ald_n (by omega) (by omega), Option.bind_some, g7 5 (by omega) (by omega) (by omega) (by omega) (by omega) (by omega) (by omega), g'3 5 (by omega), b4.2.2.1, ← hc']
    · rw [c29 _ _ (by omega) (by omega), c18 15 1 (by omega) (by omega) (by omega), hM13, mput_at, if_pos ⟨rfl, rfl⟩]
    · rw [c7 8 (by omega) (by omega)]; exact n28
    · rw [c29 _ _ (by omega) (by omega), c18 (18 + k) i (by omega) (by omega) (by omega), d13 k i hk hi, c7 _ (by omega) (by omega)]
      obtain ⟨x0, x1, x2, x3, x4⟩ := fLC i hi
      obtain ⟨y0, y1, y2, y3, y4⟩ := n3 i hi
      rcases (show k = 0 ∨ k = 1 ∨ k = 2 ∨ k = 3 ∨ k = 4 by omega) with rfl | rfl | rfl | rfl | rfl
      · exact x0.trans y0.symm
      · exact x1.trans y1.symm
      · exact x2.trans y2.symm
      · exact x3.trans y3.symm
      · exact x4.trans y4.symm
    · rw [c7 2 (by omega) (by omega), n22, hM29, mput_at, if_neg (by omega), mput_at, if_neg (by omega), mput_at, if_pos ⟨rfl, rfl⟩]
    · rw [g7 1 (by omega) (by omega) (by omega) (by omega) (by omega) (by omega) (by omega), hM29, mput_at, if_neg (by omega), mput_at, if_neg (by omega), mput_at, if_neg (by omega), mput_at, if_neg (by omega), s5 1 5 (by omega)]; exact e15
    · rw [hM29, mput_at, if_pos ⟨rfl, rfl⟩, hN7, mput_at, if_pos ⟨rfl, rfl⟩]
    · rw [c7 4 (by omega) (by omega), n24, hM29, mput_at, if_neg (by omega), mput_at, if_neg (by omega), mput_at, if_neg (by omega), mput_at, if_pos ⟨rfl, rfl⟩]
    · rw [g7 _ (by omega) (by omega) (by omega) (by omega) (by omega) (by omega) (by omega), g'3 _ (by omega), (b4.2.2.2 i hi).1, ← (mkq_ok W.1 hi).1]; exact W.1.1 i hi
    · rw [g7 _ (by omega) (by omega) (by omega) (by omega) (by omega) (by omega) (by omega), g'3 _ (by omega), (b4.2.2.2 i hi).1, ← (mkq_ok W.1 hi).1, g7 _ (by omega) (by omega) (by omega) (by omega) (by omega) (by omega) (by omega), g'3 _ (by omega), (b4.2.2.2 j hj).1, ← (mkq_ok W.1 hj).1] at hij
      exact W.1.2.1 i j hi hj hij
    · refine ⟨0, by omega, ?_⟩
      rw [g7 _ (by omega) (by omega) (by omega) (by omega) (by omega) (by omega) (by omega), g'3 _ (by omega), b6 _ (by omega) (by omega) (by omega) (by omega) (fun i' _ => by omega)]
      show wdz ρ h f w (9 + 4 * i + 3) = _
      unfold wdz xz
      rw [if_pos (by omega)]
    · exact (s4.2 RG).cg fun k q1 q2 => g7 k q2 (by omega) (by omega) (by omega) (by omega) (by omega) (by omega)
    · rw [c7 2 (by omega) (by omega)]; exact n22
    · rw [g7 1 (by omega) (by omega) (by omega) (by omega) (by omega) (by omega) (by omega), g'3 1 (by omega)]; exact b4.1
    · rw [hN7, mput_at, if_neg (by omega), m3 _ _ (by omega), n8.1 q x (by omega) (by omega) (by omega)]
    · rw [hN7, mput_at, if_neg (by omega), m3 _ _ (by omega), n8.2.1 x q1 q2]
    · rw [hN7, mput_2, m4]; exact n8.2.2
