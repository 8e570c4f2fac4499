/-! states that are kept, and come back -/
def Cn (ρ : Nat → Int32) (h b g c : Nat) : Prop := (h ≤ 8 ∧ b ≤ 20 ∧ g ≤ 20 ∧ c < 2 ^ 30) ∧ ρ 0 = nI h ∧ ρ 7 = nI b ∧ ρ 8 = nI g ∧ ρ 5 = nI c
theorem Vi.cn {M : Mem} {ρ : Nat → Int32} {h b g c : Nat} (V : Vi M ρ h b g c) : Cn ρ h b g c := ⟨⟨V.1.1, V.2.1.1, V.2.2.1.1, V.2.2.2.1.1⟩, V.1.2.2.1, V.2.1.2.2.1, V.2.2.1.2.2.1, V.2.2.2.1.2.2.1⟩
theorem Cn.eq {ρ : Nat → Int32} {h b g c h' b' g' c' : Nat} (H : Cn ρ h b g c) (H' : Cn ρ h' b' g' c') : h' = h ∧ b' = b ∧ g' = g ∧ c' = c := by
  obtain ⟨⟨a1, a2, a3, a4⟩, e1, e2, e3, e4⟩ := H
  obtain ⟨⟨b1, b2, b3, b4⟩, f1, f2, f3, f4⟩ := H'
  exact ⟨(mI_eq (by omega) (by omega)).mp (f1.symm.trans e1), (mI_eq (by omega) (by omega)).mp (f2.symm.trans e2), (mI_eq (by omega) (by omega)).mp (f3.symm.trans e3), (mI_eq (by omega) (by omega)).mp (f4.symm.trans e4)⟩
def Pg (ρ : Nat → Int32) (n : Nat) : Prop := ∃ h b g c, Cn ρ h b g c ∧ Gd ρ h b g c n
def S31 (M : Mem) (ρ : Nat → Int32) (h b g c n : Nat) (past : Nat → Nat → Int32) (s l : Nat) : Prop := Vi M ρ h b g c ∧ Gd ρ h b g c n ∧ URn M past s l ∧ ∀ i, i < s → Pg (past i) n
theorem Pg.up {ρ : Nat → Int32} {n n' : Nat} (H : Pg ρ n) (hn : n ≤ n') : Pg ρ n' := by
  obtain ⟨h, b, g, c, h1, h2⟩ := H
  exact ⟨h, b, g, c, h1, h2.up hn⟩
theorem S31.up {M : Mem} {ρ : Nat → Int32} {h b g c n n' : Nat} {past : Nat → Nat → Int32} {s l : Nat} (H : S31 M ρ h b g c n past s l) (hn : n ≤ n') : S31 M ρ h b g c n' past s l := ⟨H.1, H.2.1.up hn, H.2.2.1, fun i hi => (H.2.2.2 i hi).up hn⟩
theorem S31.pq {M M' : Mem} {ρ : Nat → Int32} {h b g c n : Nat} {past : Nat → Nat → Int32} {s l : Nat} (H : S31 M ρ h b g c n past s l) (P : Pq M M') : S31 M' ρ h b g c n past s l := ⟨P.vi H.1, H.2.1, P.un H.2.2.1, H.2.2.2⟩
theorem S31.op {M M' : Mem} {ρ ρ' : Nat → Int32} {h b g c n h' b' g' c' n' : Nat} {past : Nat → Nat → Int32} {s l : Nat} (H : S31 M ρ h b g c n past s l) (V : Vi M' ρ' h' b' g' c') (D : Gd ρ' h' b' g' c' n') (hn : n ≤ n') (F : Fc M M') : S31 M' ρ' h' b' g' c' n' past s l := ⟨V, D, H.2.2.1.mem fun q x h1 h2 => F.1 q x (by omega), fun i hi => (H.2.2.2 i hi).up hn⟩
theorem push_s {M : Mem} {ρ : Nat → Int32} {h b g c n : Nat} {past : Nat → Nat → Int32} {s l : Nat} (H : S31 M ρ h b g c n past s l) : ∃ Mp past', fX8_push 1 M = some Mp ∧ S31 Mp ρ h b g c n past' (min 4 (s + 1)) ((l + 1) % 4) ∧ past' (min 4 (s + 1) - 1) = ρ ∧ (1 ≤ s → past' (min 4 (s + 1) - 2) = past (s - 1)) := by
  obtain ⟨V, D, U, P⟩ := H
  have hs : s ≤ 4 := U.1
  obtain ⟨Mp, e, Hp, Hu, hF, h2⟩ := push_eq U V.to
  refine ⟨Mp, _, e, ⟨Vi_of Hp, D, Hu, fun i hi => ?_⟩, ?_, fun h1 => ?_⟩
  · have hi2 : i < 4 := Nat.lt_of_lt_of_le hi (Nat.min_le_left _ _)
    have hi3 : i < s + 1 := Nat.lt_of_lt_of_le hi (Nat.min_le_right _ _)
    by_cases h4 : s = 4
    · rw [if_pos h4]
      by_cases h5 : i = 3
      · rw [if_pos h5]; exact ⟨h, b, g, c, V.cn, D⟩
      · rw [if_neg h5]; exact P (i + 1) (by omega)
    · rw [if_neg h4]
      by_cases h5 : i = s
      · rw [if_pos h5]; exact ⟨h, b, g, c, V.cn, D⟩
      · rw [if_neg h5]; exact P i (by omega)
  · by_cases h4 : s = 4
    · subst h4; rfl
    · rw [if_neg h4, Nat.min_eq_right (by omega), if_pos (by omega)]
  · by_cases h4 : s = 4
    · subst h4; rfl
    · rw [if_neg h4, Nat.min_eq_right (by omega), if_neg (by omega), show s + 1 - 2 = s - 1 by omega]
theorem undo_c {M : Mem} {past : Nat → Nat → Int32} {s l : Nat} (U : URn M past s l) (h0 : 0 < s) : ∃ M1 h b g c, fX11_undo M = some (Sum.inr (nI (s - 1), M1)) ∧ RVn M1 1 (past (s - 1)) h b g c ∧ URn M1 past (s - 1) ((l + 3) % 4) := by
  obtain ⟨hs, hl, hc, hl1, hU⟩ := id U
  obtain ⟨h', b', g', c', HU⟩ := hU 0 (by omega)
  rw [show (l + 4 - 0) % 4 = l by omega] at HU
  obtain ⟨M8, e, HR, hF, h2⟩ := rv_copy (v := 1) (show Apart 1 (47 + 32 * l) by unfold Apart; omega) HU
  have hn0 : ¬ nI s = (0 : Int32) := fun q => (show s ≠ 0 by omega) ((mI_eq (by omega) (by omega)).mp (q.trans (show (0 : Int32) = nI 0 from rfl)))
  have el : M8.1 45 1 = nI l := by rw [hF 45 1 (by omega)]; exact hl1
  have ec : M8.1 45 2 = nI s := by rw [hF 45 2 (by omega)]; exact hc
  have ez : (if M8.1 45 1 ≤ 0 then some (3 : Int32) else some (M8.1 45 1 - 1)) = some (nI ((l + 3) % 4)) := by
    rw [el, show (0 : Int32) = nI 0 from rfl]
    by_cases hl0 : l = 0
    · subst hl0; rw [if_pos (by decide)]; rfl
    · rw [if_neg (fun q => by rw [mI_le (by omega) (by omega)] at q; omega), show nI l - (1 : Int32) = nI (l - 1) from mI_sb (a := l) (b := 1) (by omega) (by omega), show (l + 3) % 4 = l - 1 by omega]
  have c1 : fX11_undo M = some (Sum.inr (nI (s - 1), mput (mput M8 45 1 (nI ((l + 3) % 4))) 45 2 (nI (s - 1)))) := by
    unfold fX11_undo fX8_size
    rw [hc, Option.bind_some, if_neg hn0, Option.bind_some, refuse_0, Option.bind_some]
    show (fX8_popInto 1 M).bind _ = _
    rw [pop_unf hl hl1 hc (by omega) hs, e, Option.bind_some, ez, Option.bind_some]
    unfold pf
    rw [Option.bind_some, Option.bind_some, mput_at, if_pos ⟨rfl, rfl⟩, mput_at, if_neg (by omega), ec, show nI s - (1 : Int32) = nI (s - 1) from mI_sb (a := s) (b := 1) (by omega) (by omega)]
    rfl
  obtain ⟨M1, hM1⟩ : ∃ M1, M1 = mput (mput M8 45 1 (nI ((l + 3) % 4))) 45 2 (nI (s - 1)) := ⟨_, rfl⟩
  rw [← hM1] at c1
  have hM1c : ∀ q x, q ≠ 45 → (q < 1 ∨ 33 ≤ q) → M1.1 q x = M.1 q x := fun q x hq hq2 => by rw [hM1, mput_at, if_neg (by omega), mput_at, if_neg (by omega), hF _ _ (by omega)]
  have hM1v : ∀ a x, a < 32 → M1.1 (1 + a) x = M8.1 (1 + a) x := fun a x ha => by rw [hM1, mput_at, if_neg (by omega), mput_at, if_neg (by omega)]
  refine ⟨M1, h', b', g', c', c1, HR.mem (M' := M1) fun a x ha => hM1v _ _ ha, ⟨by omega, Nat.mod_lt _ (by omega), ?_, ?_, fun i hi => ?_⟩⟩
  · rw [hM1, mput_at, if_pos ⟨rfl, rfl⟩]
  · rw [hM1, mput_at, if_neg (by omega), mput_at, if_pos ⟨rfl, rfl⟩]
  · obtain ⟨h2', b2', g2', c2', HV⟩ := hU (i + 1) (by omega)
    rw [show ((l + 3) % 4 + 4 - i) % 4 = (l + 4 - (i + 1)) % 4 by omega, show s - 1 - 1 - i = s - 1 - (i + 1) by omega]
    have hm : (l + 4 - (i + 1)) % 4 < 4 := Nat.mod_lt _ (by omega)
    exact ⟨h2', b2', g2', c2', HV.mem (M' := M1) fun a x ha => hM1c _ _ (by omega) (by omega)⟩
/-- the latest state comes back -/
theorem undo_s {M M0 : Mem} {ρ ρ0 : Nat → Int32} {h b g c n h0 b0 g0 c0 : Nat} {past : Nat → Nat → Int32} {s l : Nat} (H : S31 M ρ h b g c n past s l) (hs : 0 < s) (e : past (s - 1) = ρ0) (V0 : Vi M0 ρ0 h0 b0 g0 c0) : ∃ M', gL_undo M = some (nI (s - 1), M') ∧ S31 M' ρ0 h0 b0 g0 c0 n past (s - 1) ((l + 3) % 4) := by
  obtain ⟨V, D, U, P⟩ := H
  obtain ⟨M1, h', b', g', c', a1, a2, a3⟩ := undo_c U hs
  rw [e] at a2
  obtain ⟨h2, b2, g2, c2, p1, p2⟩ := P (s - 1) (by omega)
  rw [e] at p1 p2
  obtain ⟨rfl, rfl, rfl, rfl⟩ := V0.cn.eq (Vi_of a2).cn
  obtain ⟨rfl, rfl, rfl, rfl⟩ := V0.cn.eq p1
  exact ⟨M1, rT_r a1, Vi_of a2, p2, a3, fun i hi => P i (by omega)⟩
theorem undo_x {M : Mem} {past : Nat → Nat → Int32} {l : Nat} (U : URn M past 0 l) : fL_undo M = some (-5000002, M) := by
  refine fT_l (k := 3) ?_ rfl
  unfold fX11_undo fX8_size
  rw [U.2.2.1, Option.bind_some, if_pos (show nI 0 = (0 : Int32) from rfl), Option.bind_some, refuse_k.2.2, Option.bind_some]
  rfl
