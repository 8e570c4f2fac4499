/-! the law's loop -/
def Fz (o : Option (Bool × Mem)) : Prop := ∃ M' ρ h b g c past s l, o = some (true, M') ∧ S31 M' ρ h b g c 104 past s l
theorem boF {α : Type} {o : Option α} {f : α → Option (Bool × Mem)} {v : α} (h : o = some v) (h2 : Fz (f v)) : Fz (o.bind f) := by rw [h]; exact h2
theorem unF {α β : Type} {f : α → β → Option (Bool × Mem)} {a : α} {b : β} (h : Fz (f a b)) : Fz (un2 f (a, b)) := h
theorem labU {k : Unit → Option (Bool × Mem)} {C : Prop} [Decidable C] {X : Option Bool} {Y : Bool → Option (Bool × Mem)} (hX : X = some true) (hk : Fz (k ())) : Fz (lab k (fun kl => if C then (X.bind fun b => if b = true then kl () else Y b) else kl ())) := by
  unfold lab
  dsimp only
  by_cases c : C
  · rw [if_pos c, hX, Option.bind_some, if_pos rfl]; exact hk
  · rw [if_neg c]; exact hk
theorem labM {k : Mem → Option (Bool × Mem)} {C : Prop} [Decidable C] {X : Option (Bool × Mem)} {M0 M1 : Mem} {Y : Bool → Mem → Option (Bool × Mem)} (hX : X = some (true, M1)) (h1 : Fz (k M1)) (h0 : Fz (k M0)) : Fz (lab k (fun kl => if C then (X.bind (un2 fun b M => if b = true then kl M else Y b M)) else kl M0)) := by
  unfold lab
  dsimp only
  by_cases c : C
  · rw [if_pos c, hX, Option.bind_some]
    refine unF ?_
    rw [if_pos rfl]; exact h1
  · rw [if_neg c]; exact h0
theorem cell_v {S : Nat × (Nat → Int32)} (hS : S.1 ≤ 260) {i : Nat} (hi : i < 1000) : ∃ v, fL_cell S (nI i) = some v := by
  unfold fL_cell
  by_cases e : S.1 ≤ i
  · exact ⟨_, by rw [if_pos (show Int32.ofNat S.1 ≤ nI i from pI_le e (by omega)), Option.bind_some]⟩
  · exact ⟨_, by rw [if_neg (show ¬ Int32.ofNat S.1 ≤ nI i from pI_nle (by omega) (by omega)), ald_n (by omega) (by omega), Option.bind_some, Option.bind_some]⟩
def Sq (M : Mem) (ρ : Nat → Int32) (h b g c n : Nat) : Prop := ∃ past s l, S31 M ρ h b g c n past s l
set_option maxHeartbeats 4000000 in
theorem law_loop {S : Nat × (Nat → Int32)} (hS : S.1 ≤ 260) : ∀ (m t n : Nat) (M : Mem) (ρ : Nat → Int32) (h b g c : Nat), t + m = 52 → m < n → Sq M ρ h b g c (2 * t) → Fz (lL_law_53 S n true (nI t) M) := by
  intro m
  induction m with
  | zero =>
    intro t n M ρ h b g c h1 h2 H
    obtain ⟨n, rfl⟩ : ∃ n', n = n' + 1 := ⟨n - 1, by omega⟩
    obtain ⟨past, s, l, H⟩ := H
    refine ⟨M, ρ, h, b, g, c, past, s, l, ?_, H.up (by omega)⟩
    rw [lL_law_53, if_pos (show (52 : Int32) ≤ nI t from pI_le (a := 52) (by omega) (by omega))]
  | succ m ih =>
    intro t n M ρ h b g c h1 h2 H
    obtain ⟨n, rfl⟩ : ∃ n', n = n' + 1 := ⟨n - 1, by omega⟩
    obtain ⟨past, s, l, H⟩ := H
    have W := H.2.1.1
    obtain ⟨x, hx⟩ := cell_v hS (i := 2 * t) (by omega)
    obtain ⟨x', hx'⟩ := cell_v hS (i := 2 * t + 1) (by omega)
    obtain ⟨y, hy, ey⟩ := low_v x' (m := 1000000) (by omega) (by omega)
    obtain ⟨M34, p1, q1⟩ := print_v H.1 W
    have H34 := H.pq q1
    obtain ⟨k', hk', ek'⟩ := low_v x (m := 16) (by omega) (by omega)
    obtain ⟨q, hq, eq⟩ := low_v (x >>> ((4 : Int32) &&& 31)) (m := 99999) (by omega) (by omega)
    obtain ⟨k, hk, ek⟩ : ∃ k, k < 16 ∧ (if (5 : Int32) ≤ nI t then (if (12 : Int32) ≤ nI t then (if (nI t - nI t / (8 : Int32) * (8 : Int32)) = (7 : Int32) then (some (11 : Int32)) else ((fL_low x (16 : Int32)).bind fun v39 => some v39)) else (some (4 : Int32))) else (some (0 : Int32))) = some (nI k) := by
      by_cases c1 : (5 : Int32) ≤ nI t
      · by_cases c2 : (12 : Int32) ≤ nI t
        · by_cases c3 : (nI t - nI t / (8 : Int32) * (8 : Int32)) = (7 : Int32)
          · exact ⟨11, by omega, by rw [if_pos c1, if_pos c2, if_pos c3]; rfl⟩
          · exact ⟨k', hk', by rw [if_pos c1, if_pos c2, if_neg c3, show fL_low x (16 : Int32) = some (nI k') from ek']; rfl⟩
        · exact ⟨4, by omega, by rw [if_pos c1, if_neg c2]; rfl⟩
      · exact ⟨0, by omega, by rw [if_neg c1]; rfl⟩
    obtain ⟨its, M45, ea, hA⟩ := acts_v (q := q) (k := k) (y := y) H34 (by omega) hq hk hy
    have e16 : (16 : Int32) * nI q + nI k = nI (16 * q + k) := by rw [show (16 : Int32) = nI 16 from rfl, nI_ml', nI_ad]
    -- after the call
    have ez : (if 0 ≤ its then (some true) else (if its = (-5000002 : Int32) then (some true) else (if its = (-5000003 : Int32) then (some true) else (some false)))) = some true := by
      rcases hA with ⟨q, -⟩ | ⟨q | q, -⟩
      · rw [if_pos q]
      · rw [q]; rfl
      · rw [q]; rfl
    obtain ⟨M62, ρ2, h', b', g', c', e62, H62⟩ : ∃ M62 ρ2 h' b' g' c', (if its < 0 then (some (true, M45)) else (if ((x >>> ((25 : Int32) &&& 31)) &&& (3 : Int32)) = 0 then ((gL_undo M45).bind (un2 fun v54 M55 => if v54 < 0 then (some (false, M55)) else ((fL_print M55).bind (un2 fun v58 M59 => if v58 = Pv ρ h b g c then (some (true, M59)) else (some (false, M59)))))) else (some (true, M45)))) = some (true, M62) ∧ Sq M62 ρ2 h' b' g' c' (2 * t + 1) := by
      rcases hA with ⟨q, ρ', h', b', g', c', past', s', l', H', s1, s2⟩ | ⟨q, rfl⟩
      · by_cases u : ((x >>> ((25 : Int32) &&& 31)) &&& (3 : Int32)) = 0
        · obtain ⟨M55, u1, H55⟩ := undo_s H' s1 s2 H34.1
          obtain ⟨M59, p2, q2⟩ := print_v H55.1 H55.2.1.1
          refine ⟨M59, ρ, h, b, g, c, ?_, _, _, _, H55.pq q2⟩
          rw [if_neg (Int32.not_lt.mpr q), if_pos u]
          refine bo u1 (un2i ?_)
          have hs' := H'.2.2.1.1
          rw [if_neg (show ¬ nI _ < 0 from mI_nn (by omega))]
          refine bo p2 (un2i ?_)
          rw [if_pos rfl]
        · exact ⟨M45, ρ', h', b', g', c', by rw [if_neg (Int32.not_lt.mpr q), if_neg u], _, _, _, H'⟩
      · refine ⟨M45, ρ, h, b, g, c, ?_, _, _, _, H34.up (Nat.le_succ _)⟩
        rcases q with q | q
        · rw [q, if_pos (by decide)]
        · rw [q, if_pos (by decide)]
    obtain ⟨past2, s2, l2, H62⟩ := H62
    have et : nI t + (1 : Int32) = nI (t + 1) := nI_ad t 1
    -- what is left of the round
    have kF : ∀ M101, Sq M101 ρ2 h' b' g' c' (2 * (t + 1)) → Fz (if (nI t - nI t / (9 : Int32) * (9 : Int32)) = (4 : Int32) then ((fL_refused M101).bind (un2 fun b105 M106 => if b105 = true then (lL_law_53 S n true (nI t + 1) M106) else (lL_law_53 S n false (nI t + 1) M106))) else (lL_law_53 S n true (nI t + 1) M101)) := fun M101 H => by
      obtain ⟨pa, sa, la, H⟩ := H
      rw [et]
      by_cases u : (nI t - nI t / (9 : Int32) * (9 : Int32)) = (4 : Int32)
      · rw [if_pos u]
        obtain ⟨M106, r1, r2⟩ := refused_v H.1 H.2.1.1
        refine boF r1 (unF ?_)
        rw [if_pos rfl]
        exact ih (t + 1) n M106 ρ2 h' b' g' c' (by omega) (by omega) ⟨pa, sa, la, H.pq r2⟩
      · rw [if_neg u]
        exact ih (t + 1) n M101 ρ2 h' b' g' c' (by omega) (by omega) ⟨pa, sa, la, H⟩
    rw [lL_law_53, if_neg (show ¬ (52 : Int32) ≤ nI t from pI_nle (a := 52) (by omega) (by omega)), if_pos rfl]
    refine boF (show fL_cell S ((2 : Int32) * nI t) = some x from by rw [show (2 : Int32) = nI 2 from rfl, nI_ml']; exact hx) ?_
    refine boF (show fL_cell S (((2 : Int32) * nI t) + (1 : Int32)) = some x' from by rw [show (2 : Int32) = nI 2 from rfl, nI_ml', show nI (2 * t) + (1 : Int32) = nI (2 * t + 1) from nI_ad _ 1]; exact hx') ?_
    refine boF (show fL_low x' (1000000 : Int32) = some (nI y) from ey) ?_
    refine boF p1 (unF ?_)
    refine boF ek ?_
    refine boF (show fL_low (x >>> ((4 : Int32) &&& 31)) (99999 : Int32) = some (nI q) from eq) ?_
    refine boF (show fL_acts ((16 : Int32) * nI q + nI k) (nI y) M34 = some (its, M45) from by rw [e16]; exact ea) (unF ?_)
    refine boF ez ?_
    refine boF (v := (true, M62)) (by rw [if_pos rfl]; exact e62) (unF ?_)
    rw [if_pos rfl]
    refine labU (areHouses_v H62.1 H62.2.1 (by omega)) ?_
    refine labU (areLoaves_v H62.1 H62.2.1 (by omega)) ?_
    obtain ⟨M77, al1, al2⟩ := areLoads_v H62.1 H62.2.1 (by omega)
    have kC : ∀ M86, Sq M86 ρ2 h' b' g' c' (2 * (t + 1)) → Fz (lab (fun M101 => if (nI t - nI t / (9 : Int32) * (9 : Int32)) = (4 : Int32) then ((fL_refused M101).bind (un2 fun b105 M106 => if b105 = true then (lL_law_53 S n true (nI t + 1) M106) else (lL_law_53 S n false (nI t + 1) M106))) else (lL_law_53 S n true (nI t + 1) M101)) (fun kl102 => if (nI t - nI t / (5 : Int32) * (5 : Int32)) = (4 : Int32) then ((gL_whole (0 : Int32) M86).bind fun v90 => lab (fun M99 => kl102 M99) (fun kl100 => if v90 = 0 then (kl100 M86) else ((gL_whole (0 : Int32) M86).bind fun v93 => if v93 = 0 then none else (fL_areClaims (nI y - nI y / v93 * v93) M86).bind (un2 fun b96 M97 => if b96 = true then (kl100 M97) else (lL_law_53 S n false (nI t + 1) M97))))) else (kl102 M86))) := fun M86 H => by
      obtain ⟨pa, sa, la, H⟩ := H
      have hh := H.1.1.1
      have e0 : gL_whole (0 : Int32) M86 = some (nI h') := gw H.1 H.2.1.1.2.2.1 (k := 0) (by omega)
      generalize hK : (fun M101 => if (nI t - nI t / (9 : Int32) * (9 : Int32)) = (4 : Int32) then ((fL_refused M101).bind (un2 fun b105 M106 => if b105 = true then (lL_law_53 S n true (nI t + 1) M106) else (lL_law_53 S n false (nI t + 1) M106))) else (lL_law_53 S n true (nI t + 1) M101)) = K
      have kK : ∀ M, Sq M ρ2 h' b' g' c' (2 * (t + 1)) → Fz (K M) := fun M H => by rw [← hK]; exact kF M H
      unfold lab
      dsimp only
      by_cases u : (nI t - nI t / (5 : Int32) * (5 : Int32)) = (4 : Int32)
      · rw [if_pos u]
        refine boF e0 ?_
        by_cases h0 : h' = 0
        · rw [if_pos (by rw [h0]; rfl)]; exact kK _ ⟨pa, sa, la, H⟩
        · have hne : ¬ nI h' = (0 : Int32) := pI_ne (b := 0) h0 (by omega) (by omega)
          rw [if_neg hne]
          refine boF e0 ?_
          rw [if_neg hne, mI_md (by omega) (by omega)]
          obtain ⟨M97, pb, sb, lb, r1, r2⟩ := areClaims_v H (i := y % h') (Nat.mod_lt _ (by omega))
          refine boF r1 (unF ?_)
          rw [if_pos rfl]
          exact kK _ ⟨pb, sb, lb, r2⟩
      · rw [if_neg u]; exact kK _ ⟨pa, sa, la, H⟩
    have kP : ∀ M79, (∃ pa sa la, S31 M79 ρ2 h' b' g' c' (2 * t + 1) pa sa la) → Fz (lab (fun M86 => lab (fun M101 => if (nI t - nI t / (9 : Int32) * (9 : Int32)) = (4 : Int32) then ((fL_refused M101).bind (un2 fun b105 M106 => if b105 = true then (lL_law_53 S n true (nI t + 1) M106) else (lL_law_53 S n false (nI t + 1) M106))) else (lL_law_53 S n true (nI t + 1) M101)) (fun kl102 => if (nI t - nI t / (5 : Int32) * (5 : Int32)) = (4 : Int32) then ((gL_whole (0 : Int32) M86).bind fun v90 => lab (fun M99 => kl102 M99) (fun kl100 => if v90 = 0 then (kl100 M86) else ((gL_whole (0 : Int32) M86).bind fun v93 => if v93 = 0 then none else (fL_areClaims (nI y - nI y / v93 * v93) M86).bind (un2 fun b96 M97 => if b96 = true then (kl100 M97) else (lL_law_53 S n false (nI t + 1) M97))))) else (kl102 M86))) (fun kl87 => if (nI t - nI t / (6 : Int32) * (6 : Int32)) = (5 : Int32) then ((fL_isForetold ((1 : Int32) + (nI y - nI y / (40 : Int32) * (40 : Int32))) M79).bind (un2 fun b83 M84 => if b83 = true then (kl87 M84) else (lL_law_53 S n false (nI t + 1) M84))) else (kl87 M79))) := fun M79 H => by
      obtain ⟨pa, sa, la, H⟩ := H
      have eW : ((1 : Int32) + (nI y - nI y / (40 : Int32) * (40 : Int32))) = nI (1 + y % 40) := by
        rw [show (40 : Int32) = nI 40 from rfl, mI_md (by omega) (by omega), show (1 : Int32) = nI 1 from rfl, nI_ad]
      rw [eW]
      obtain ⟨M84, pb, sb, lb, r1, r2⟩ := foretold_v H (w := 1 + y % 40) (by omega) (by omega) (by omega)
      exact labM r1 (kC M84 ⟨pb, sb, lb, r2⟩) (kC M79 ⟨pa, sa, la, H.up (by omega)⟩)
    exact labM al1 (kP M77 ⟨_, _, _, H62.pq al2⟩) (kP M62 ⟨_, _, _, H62⟩)
