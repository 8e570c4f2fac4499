/-! the village alone, by its parts; what a row's cells range over; a call's change on both sides -/
def NG : Int32 := -1
def HH (M : Mem) (ρ : Nat → Int32) (h : Nat) : Prop := h ≤ 8 ∧ M.1 2 1 = nI h ∧ ρ 0 = nI h ∧ ∀ i k, i < h → k < 4 → M.1 (5 + k) i = ρ (9 + 4 * i + k)
def BB (M : Mem) (ρ : Nat → Int32) (b : Nat) : Prop := b ≤ 20 ∧ M.1 9 1 = nI b ∧ ρ 7 = nI b ∧ ∀ i k, i < b → k < 3 → M.1 (12 + k) i = ρ (41 + 3 * i + k)
def GG (M : Mem) (ρ : Nat → Int32) (g : Nat) : Prop := g ≤ 20 ∧ M.1 15 1 = nI g ∧ ρ 8 = nI g ∧ ∀ i k, i < g → k < 5 → M.1 (18 + k) i = ρ (101 + 5 * i + k)
def LL (M : Mem) (ρ : Nat → Int32) (c : Nat) : Prop := c < 2 ^ 30 ∧ M.1 23 1 = nI c ∧ ρ 5 = nI c ∧ M.1 23 2 = ρ 6 ∧ ∀ i k, i < c → i < 200 → k < 7 → M.1 (26 + k) i = ρ (201 + 7 * i + k)
def SC (M : Mem) (ρ : Nat → Int32) : Prop := M.1 1 4 = ρ 2 ∧ M.1 1 5 = ρ 1 ∧ M.1 1 6 = ρ 3 ∧ M.1 1 7 = ρ 4
def Vi (M : Mem) (ρ : Nat → Int32) (h b g c : Nat) : Prop := HH M ρ h ∧ BB M ρ b ∧ GG M ρ g ∧ LL M ρ c ∧ SC M ρ
theorem Vi_of {M : Mem} {ρ : Nat → Int32} {h b g c : Nat} (H : RVn M 1 ρ h b g c) : Vi M ρ h b g c := by
  obtain ⟨⟨h1, h2, h3, h4⟩, ⟨a1, a2, a3, a4⟩, ⟨r1, r2, r3, r4⟩, ⟨s1, s2, s3, s4, s5⟩, H5, H6, H7, H8⟩ := H
  exact ⟨⟨h1, a1, r1, fun i k hi hk => by rw [show 5 + k = 1 + (4 + k) by omega]; exact H5 i k hi hk⟩, ⟨h2, a2, r2, fun i k hi hk => by rw [show 12 + k = 1 + (11 + k) by omega]; exact H6 i k hi hk⟩, ⟨h3, a3, r3, fun i k hi hk => by rw [show 18 + k = 1 + (17 + k) by omega]; exact H7 i k hi hk⟩, ⟨h4, a4, r4, s5, fun i k hi hj hk => by rw [show 26 + k = 1 + (25 + k) by omega]; exact H8 i k hi hj hk⟩, ⟨s1, s2, s3, s4⟩⟩
theorem Vi.to {M : Mem} {ρ : Nat → Int32} {h b g c : Nat} (H : Vi M ρ h b g c) : RVn M 1 ρ h b g c := by
  obtain ⟨⟨h1, a1, r1, H5⟩, ⟨h2, a2, r2, H6⟩, ⟨h3, a3, r3, H7⟩, ⟨h4, a4, r4, s5, H8⟩, ⟨s1, s2, s3, s4⟩⟩ := H
  exact ⟨⟨h1, h2, h3, h4⟩, ⟨a1, a2, a3, a4⟩, ⟨r1, r2, r3, r4⟩, ⟨s1, s2, s3, s4, s5⟩, fun i k hi hk => by rw [show 1 + (4 + k) = 5 + k by omega]; exact H5 i k hi hk, fun i k hi hk => by rw [show 1 + (11 + k) = 12 + k by omega]; exact H6 i k hi hk, fun i k hi hk => by rw [show 1 + (17 + k) = 18 + k by omega]; exact H7 i k hi hk, fun i k hi hj hk => by rw [show 1 + (25 + k) = 26 + k by omega]; exact H8 i k hi hj hk⟩
theorem HH.cg {M M' : Mem} {ρ ρ' : Nat → Int32} {h : Nat} (H : HH M ρ h) (hM : ∀ q x, 2 ≤ q → q < 9 → M'.1 q x = M.1 q x) (hr : ∀ k, k < 41 → k = 0 ∨ 9 ≤ k → ρ' k = ρ k) : HH M' ρ' h := by
  obtain ⟨h1, h2, h3, h4⟩ := H
  refine ⟨h1, by rw [hM _ _ (by omega) (by omega)]; exact h2, by rw [hr _ (by omega) (by omega)]; exact h3, fun i k hi hk => by rw [hM _ _ (by omega) (by omega), hr _ (by omega) (by omega)]; exact h4 i k hi hk⟩
theorem BB.cg {M M' : Mem} {ρ ρ' : Nat → Int32} {b : Nat} (H : BB M ρ b) (hM : ∀ q x, 9 ≤ q → q < 15 → M'.1 q x = M.1 q x) (hr : ∀ k, k < 101 → k = 7 ∨ 41 ≤ k → ρ' k = ρ k) : BB M' ρ' b := by
  obtain ⟨h1, h2, h3, h4⟩ := H
  refine ⟨h1, by rw [hM _ _ (by omega) (by omega)]; exact h2, by rw [hr _ (by omega) (by omega)]; exact h3, fun i k hi hk => by rw [hM _ _ (by omega) (by omega), hr _ (by omega) (by omega)]; exact h4 i k hi hk⟩
theorem GG.cg {M M' : Mem} {ρ ρ' : Nat → Int32} {g : Nat} (H : GG M ρ g) (hM : ∀ q x, 15 ≤ q → q < 23 → M'.1 q x = M.1 q x) (hr : ∀ k, k < 201 → k = 8 ∨ 101 ≤ k → ρ' k = ρ k) : GG M' ρ' g := by
  obtain ⟨h1, h2, h3, h4⟩ := H
  refine ⟨h1, by rw [hM _ _ (by omega) (by omega)]; exact h2, by rw [hr _ (by omega) (by omega)]; exact h3, fun i k hi hk => by rw [hM _ _ (by omega) (by omega), hr _ (by omega) (by omega)]; exact h4 i k hi hk⟩
theorem LL.cg {M M' : Mem} {ρ ρ' : Nat → Int32} {c : Nat} (H : LL M ρ c) (hM : ∀ q x, 23 ≤ q → q < 33 → M'.1 q x = M.1 q x) (hr : ∀ k, k < 1601 → k = 5 ∨ k = 6 ∨ 201 ≤ k → ρ' k = ρ k) : LL M' ρ' c := by
  obtain ⟨h1, h2, h3, h4, h5⟩ := H
  refine ⟨h1, by rw [hM _ _ (by omega) (by omega)]; exact h2, by rw [hr _ (by omega) (by omega)]; exact h3, by rw [hM _ _ (by omega) (by omega), hr _ (by omega) (by omega)]; exact h4, fun i k hi hj hk => by rw [hM _ _ (by omega) (by omega), hr _ (by omega) (by omega)]; exact h5 i k hi hj hk⟩
theorem SC.cg {M M' : Mem} {ρ ρ' : Nat → Int32} (H : SC M ρ) (hM : ∀ x, M'.1 1 x = M.1 1 x) (hr : ∀ k, k = 1 ∨ k = 2 ∨ k = 3 ∨ k = 4 → ρ' k = ρ k) : SC M' ρ' := by
  obtain ⟨h1, h2, h3, h4⟩ := H
  refine ⟨?_, ?_, ?_, ?_⟩ <;> rw [hM, hr _ (by omega)] <;> assumption
theorem Vi.cg {M M' : Mem} {ρ ρ' : Nat → Int32} {h b g c : Nat} (H : Vi M ρ h b g c) (hM : ∀ q x, 1 ≤ q → q < 33 → M'.1 q x = M.1 q x) (hr : ∀ k, k < 1601 → ρ' k = ρ k) : Vi M' ρ' h b g c :=
  ⟨H.1.cg (fun q x _ _ => hM q x (by omega) (by omega)) (fun k _ _ => hr k (by omega)), H.2.1.cg (fun q x _ _ => hM q x (by omega) (by omega)) (fun k _ _ => hr k (by omega)), H.2.2.1.cg (fun q x _ _ => hM q x (by omega) (by omega)) (fun k _ _ => hr k (by omega)), H.2.2.2.1.cg (fun q x _ _ => hM q x (by omega) (by omega)) (fun k _ _ => hr k (by omega)), H.2.2.2.2.cg (fun x => hM 1 x (by omega) (by omega)) (fun k _ => hr k (by omega))⟩
/-- marks, excuses -/
def RH (ρ : Nat → Int32) (h : Nat) : Prop := (∀ i, i < h → ∃ m, 1 ≤ m ∧ m < 65536 ∧ ρ (9 + 4 * i) = nI m) ∧ (∀ i j, i < h → j < h → ρ (9 + 4 * i) = ρ (9 + 4 * j) → i = j) ∧ (∀ i, i < h → ∃ e, e < 2 ∧ ρ (9 + 4 * i + 3) = nI e)
/-- batches that wait -/
def RB (ρ : Nat → Int32) (h b : Nat) : Prop := ∀ i, i < b → (∃ a, a < h ∧ ρ (41 + 3 * i) = nI a) ∧ (∃ k, k < 3 ∧ ρ (41 + 3 * i + 1) = nI k) ∧ (∃ z, 1 ≤ z ∧ z ≤ 12 ∧ ρ (41 + 3 * i + 2) = nI z)
/-- holders -/
def RLv (ρ : Nat → Int32) (c : Nat) : Prop := ∀ r, r < c → r < 200 → (ρ (201 + 7 * r + 5) = NG ∨ ∃ x, x ≤ 8 ∧ ρ (201 + 7 * r + 5) = nI x)
/-- heat and s -/
def RS (ρ : Nat → Int32) : Prop := (∃ t, 20 ≤ t ∧ t ≤ 400 ∧ ρ 2 = nI t) ∧ ∃ s, s < 2 ^ 31 ∧ ρ 1 = nI s
def Wr (ρ : Nat → Int32) (h b c : Nat) : Prop := RH ρ h ∧ RB ρ h b ∧ RLv ρ c ∧ RS ρ
theorem RH.cg {ρ ρ' : Nat → Int32} {h : Nat} (hh : h ≤ 8) (H : RH ρ h) (hr : ∀ k, 9 ≤ k → k < 41 → ρ' k = ρ k) : RH ρ' h := by
  obtain ⟨h1, h2, h3⟩ := H
  refine ⟨fun i hi => by rw [hr _ (by omega) (by omega)]; exact h1 i hi, fun i j hi hj => by rw [hr _ (by omega) (by omega), hr _ (by omega) (by omega)]; exact h2 i j hi hj, fun i hi => by rw [hr _ (by omega) (by omega)]; exact h3 i hi⟩
theorem RB.cg {ρ ρ' : Nat → Int32} {h b : Nat} (hb : b ≤ 20) (H : RB ρ h b) (hr : ∀ k, 41 ≤ k → k < 101 → ρ' k = ρ k) : RB ρ' h b := fun i hi => by
  rw [hr _ (by omega) (by omega), hr _ (by omega) (by omega), hr _ (by omega) (by omega)]; exact H i hi
theorem RLv.cg {ρ ρ' : Nat → Int32} {c : Nat} (H : RLv ρ c) (hr : ∀ k, 201 ≤ k → k < 1601 → ρ' k = ρ k) : RLv ρ' c := fun r h1 h2 => by
  rw [hr _ (by omega) (by omega)]; exact H r h1 h2
theorem RS.cg {ρ ρ' : Nat → Int32} (H : RS ρ) (hr : ∀ k, k = 1 ∨ k = 2 → ρ' k = ρ k) : RS ρ' := by
  obtain ⟨h1, h2⟩ := H
  refine ⟨by rw [hr _ (by omega)]; exact h1, by rw [hr _ (by omega)]; exact h2⟩
theorem Wr.cg {ρ ρ' : Nat → Int32} {h b c : Nat} (hh : h ≤ 8) (hb : b ≤ 20) (H : Wr ρ h b c) (hr : ∀ k, k < 1601 → ρ' k = ρ k) : Wr ρ' h b c :=
  ⟨H.1.cg hh fun k _ _ => hr k (by omega), H.2.1.cg hb fun k _ _ => hr k (by omega), H.2.2.1.cg fun k _ _ => hr k (by omega), H.2.2.2.cg fun k _ => hr k (by omega)⟩
/-- the reference's row now -/
def Ro (N : Mem) (ρ : Nat → Int32) : Prop := ∀ k, k < 1601 → N.1 179 k = ρ k
/-- what a call of the class's village leaves alone, what one of the reference's row leaves alone -/
def Fc (M M' : Mem) : Prop := (∀ q x, q = 0 ∨ 45 ≤ q → M'.1 q x = M.1 q x) ∧ M'.2 = M.2
def Fr (N N' : Mem) : Prop := (∀ q x, q < 178 ∨ q = 180 ∨ q = 182 ∨ 184 ≤ q → N'.1 q x = N.1 q x) ∧ (∀ x, x ≠ 9 → x ≠ 10 → N'.1 178 x = N.1 178 x) ∧ N'.2 = N.2
theorem Fc.rf (M : Mem) : Fc M M := ⟨fun _ _ _ => rfl, rfl⟩
theorem Fr.rf (M : Mem) : Fr M M := ⟨fun _ _ _ => rfl, fun _ _ _ => rfl, rfl⟩
theorem Fc.tr {a b c : Mem} (h : Fc a b) (g : Fc b c) : Fc a c := ⟨fun q x hq => (g.1 q x hq).trans (h.1 q x hq), g.2.trans h.2⟩
theorem Fr.tr {a b c : Mem} (h : Fr a b) (g : Fr b c) : Fr a c := ⟨fun q x hq => (g.1 q x hq).trans (h.1 q x hq), fun x h1 h2 => (g.2.1 x h1 h2).trans (h.2.1 x h1 h2), g.2.2.trans h.2.2⟩
theorem Fc.pt (M : Mem) {q k : Nat} (x : Int32) (hq : 1 ≤ q ∧ q < 45) : Fc M (mput M q k x) := ⟨fun a y ha => by rw [mput_at, if_neg (by omega)], rfl⟩
theorem Fr.pt (M : Mem) {k : Nat} (x : Int32) : Fr M (mput M 179 k x) := ⟨fun a y ha => by rw [mput_at, if_neg (by omega)], fun y _ _ => by rw [mput_at, if_neg (by omega)], rfl⟩
def Opp (fc fr : Mem → Option (Int32 × Mem)) (M : Mem) (ρ : Nat → Int32) (c : Nat) : Prop := ∃ r M' ρ' h' b' g' c', fc M = some (r, M') ∧ Vi M' ρ' h' b' g' c' ∧ Wr ρ' h' b' c' ∧ c' ≤ c + 240 ∧ Fc M M' ∧ ∀ N, Ro N ρ → ∃ N', fr N = some (r, N') ∧ Ro N' ρ' ∧ Fr N N'
/-- the past rows' ranges -/
def Pw (M : Mem) (s B : Nat) : Prop := ∀ i, i < s → ∃ h b g c, (h ≤ 8 ∧ b ≤ 20 ∧ g ≤ 20 ∧ c ≤ B) ∧ (pastOf M i 0 = nI h ∧ pastOf M i 7 = nI b ∧ pastOf M i 8 = nI g ∧ pastOf M i 5 = nI c) ∧ Wr (pastOf M i) h b c
theorem Pw.cg {M M' : Mem} {s B B' : Nat} (H : Pw M s B) (hB : B ≤ B') (hM : ∀ x, M'.1 180 x = M.1 180 x) : Pw M' s B' := fun i hi => by
  obtain ⟨h, b, g, c, ⟨h1, h2, h5, h3⟩, ⟨e1, e2, e4, e3⟩, W⟩ := H i hi
  have e : pastOf M' i = pastOf M i := funext fun k => hM _
  rw [e]
  exact ⟨h, b, g, c, ⟨h1, h2, h5, by omega⟩, ⟨e1, e2, e4, e3⟩, W⟩
def Fu (n : Nat) (M : Mem) (h b g c s l t : Nat) : Prop := Rel M h b g c s l ∧ Wr (M.1 179) h b c ∧ c ≤ 36000 * n ∧ Pw M s (36000 * n) ∧ Txt M t
/-- the invariant behind n calls -/
def Iv (n : Nat) (M : Mem) : Prop := ∃ h b g c s l t, Fu n M h b g c s l t
theorem Fu.keep {n : Nat} {M M3 : Mem} {h b g c s l t : Nat} (H : Fu n M h b g c s l t) (hk : ∀ q x, ¬ (33 ≤ q ∧ q < 45) → q ≠ 178 → q ≠ 181 → q ≠ 183 → q ≠ 185 → M3.1 q x = M.1 q x) (h8 : ∀ x, x = 3 ∨ x = 6 ∨ x = 7 → M3.1 178 x = M.1 178 x) : Fu (n + 1) M3 h b g c s l t := by
  obtain ⟨H1, H2, H3, H4, X⟩ := H
  refine ⟨H1.keep (fun q x hq => hk q x (by omega) (by omega) (by omega) (by omega) (by omega)) (h8 3 (by omega)), ?_, by omega, H4.cg (by omega) (fun x => hk _ _ (by omega) (by omega) (by omega) (by omega) (by omega)), ?_⟩
  · rw [show M3.1 179 = M.1 179 from funext fun x => hk _ _ (by omega) (by omega) (by omega) (by omega) (by omega)]; exact H2
  · obtain ⟨x1, x2, x3, x4, x5⟩ := X
    refine ⟨by rw [hk 0 4 (by omega) (by omega) (by omega) (by omega) (by omega), h8 7 (by omega)]; exact x1, x2, by rw [hk 175 3 (by omega) (by omega) (by omega) (by omega) (by omega)]; exact x3, by rw [h8 6 (by omega)]; exact x4, fun i hi => ?_⟩
    rw [hk 176 i (by omega) (by omega) (by omega) (by omega) (by omega), hk 182 i (by omega) (by omega) (by omega) (by omega) (by omega)]
    exact x5 i hi
theorem sv_past {N : Mem} {s : Nat} (hs : s ≤ 4) : ∀ i k, i < min 4 (s + 1) → k < 1601 → pastOf (svM N s) i k = if s = 4 then (if i = 3 then N.1 179 k else pastOf N (i + 1) k) else (if i = s then N.1 179 k else pastOf N i k) := by
  intro i k hi hk
  have hi4 : i < 4 := Nat.lt_of_lt_of_le hi (Nat.min_le_left _ _)
  have his : i < s + 1 := Nat.lt_of_lt_of_le hi (Nat.min_le_right _ _)
  simp only [pastOf, svM]
  rw [if_neg (by omega), if_pos trivial]
  by_cases h4 : s = 4
  · subst h4
    simp only [if_true]
    by_cases h5 : i = 3
    · subst h5
      rw [if_neg (by omega), if_pos (by omega), if_pos rfl, show 1601 * 3 + k - 4803 = k by omega]
    · rw [if_pos (by omega), if_neg h5, show 1601 * i + k + 1601 = 1601 * (i + 1) + k by omega]
  · simp only [if_neg h4]
    by_cases h5 : i = s
    · subst h5
      rw [if_pos (by omega), if_pos rfl, show 1601 * i + k - 1601 * i = k by omega]
    · rw [if_neg (by omega), if_neg h5]
/-- what was pushed and what was saved: the class has pushed, and changed its village; the reference saves, and changes its row -/
theorem und {n : Nat} {M : Mem} {h b g c s l t : Nat} (F : Fu n M h b g c s l t) {fc fr : Mem → Option (Int32 × Mem)} (hop : ∀ M1, Vi M1 (M.1 179) h b g c → Wr (M.1 179) h b c → Opp fc fr M1 (M.1 179) c) :
    ∃ Mp r M1, fX8_push 1 M = some Mp ∧ fc Mp = some (r, M1) ∧ (∀ q x, 175 ≤ q → M1.1 q x = M.1 q x) ∧ ∀ Mx, Mx.1 = M1.1 → ∃ M2 M3, fX12_saves (mput Mx 178 4 0) = some M2 ∧ fr M2 = some (r, M3) ∧ M3.1 178 4 = 0 ∧ M3.2 = Mx.2 ∧ Iv (n + 1) M3 := by
  obtain ⟨⟨H1, H2, H3⟩, W, hc, P, X⟩ := F
  obtain ⟨Mp, e, Hp, Hu, hF, h2⟩ := push_eq H2 H1
  obtain ⟨r, M1, ρ', h', b', g', c', o1, o2, o3, o4, o5, o6⟩ := hop Mp (Vi_of Hp) W
  refine ⟨Mp, r, M1, e, o1, fun q x hq => by rw [o5.1 _ _ (by omega), hF _ _ (by omega)], fun Mx hMx => ?_⟩
  have hx : ∀ q x, 175 ≤ q → Mx.1 q x = M.1 q x := fun q x hq => by rw [hMx, o5.1 _ _ (by omega), hF _ _ (by omega)]
  have hs : s ≤ 4 := H2.1
  have e3 : (mput Mx 178 4 0).1 178 3 = nI s := by rw [mput_at, if_neg (by omega), hx 178 3 (by omega)]; exact H3
  obtain ⟨M2, hM2⟩ : ∃ M2, M2 = svM (mput Mx 178 4 0) s := ⟨_, rfl⟩
  have r2 : fX12_saves (mput Mx 178 4 0) = some M2 := by rw [hM2]; exact saves_eq e3 hs
  have g0 : ∀ q x, q ≠ 178 → q ≠ 180 → M2.1 q x = Mx.1 q x := fun q x h1 h2 => by
    rw [hM2]; simp only [svM]; rw [if_neg (by omega), if_neg (by omega), mput_at, if_neg (by omega)]
  have g1 : ∀ x, x ≠ 3 → x ≠ 4 → M2.1 178 x = M.1 178 x := fun x h1 h2 => by
    rw [hM2]; simp only [svM]; rw [if_neg (by omega), if_neg (by omega), mput_at, if_neg (by omega), hx _ _ (by omega)]
  have g4 : M2.1 178 4 = 0 := by
    rw [hM2]; simp only [svM]; rw [if_neg (by omega), if_neg (by omega), mput_at, if_pos ⟨rfl, rfl⟩]
  have g3 : M2.1 178 3 = nI (min 4 (s + 1)) := by
    rw [hM2]; simp only [svM]; rw [if_pos ⟨trivial, trivial⟩]
    by_cases h4 : s = 4
    · subst h4; rfl
    · rw [if_neg h4, Nat.min_eq_right (by omega)]
  have g9 : ∀ k, M2.1 179 k = M.1 179 k := fun k => by rw [g0 _ _ (by omega) (by omega), hx _ _ (by omega)]
  have gp : ∀ i k, i < min 4 (s + 1) → k < 1601 → pastOf M2 i k = if s = 4 then (if i = 3 then M.1 179 k else pastOf M (i + 1) k) else (if i = s then M.1 179 k else pastOf M i k) := fun i k hi hk => by
    rw [hM2, sv_past hs i k hi hk]
    have e1 : ∀ j, (mput Mx 178 4 0).1 179 j = M.1 179 j := fun j => by rw [mput_at, if_neg (by omega), hx _ _ (by omega)]
    have e2 : ∀ j y, pastOf (mput Mx 178 4 0) j y = pastOf M j y := fun j y => by simp only [pastOf]; rw [mput_at, if_neg (by omega), hx _ _ (by omega)]
    simp only [e1, e2]
  obtain ⟨M3, p1, p2, p3, p4, p5⟩ := o6 M2 (fun k _ => g9 k)
  have q0 : ∀ q x, q < 178 ∨ q = 180 ∨ q = 182 ∨ 184 ≤ q → M3.1 q x = M2.1 q x := p3
  refine ⟨M2, M3, r2, p1, by rw [p4 4 (by omega) (by omega)]; exact g4, by rw [p5, hM2]; rfl, h', b', g', c', min 4 (s + 1), (l + 1) % 4, t, ⟨?_, ?_, ?_⟩, ?_, by omega, ?_, ?_⟩
  · exact (o2.cg (M' := M3) (fun q x h1 h2 => by rw [q0 _ _ (by omega), g0 _ _ (by omega) (by omega), hMx]) p2).to
  · refine (Hu.mem (M' := M3) fun q x h1 h2 => by rw [q0 _ _ (by omega), g0 _ _ (by omega) (by omega), hMx, o5.1 _ _ (by omega)]).row fun i k hi hk => ?_
    have : pastOf M3 i k = pastOf M2 i k := q0 _ _ (by omega)
    rw [this, gp i k hi hk]
    by_cases h4 : s = 4
    · simp only [if_pos h4]; split <;> rfl
    · simp only [if_neg h4]; split <;> rfl
  · rw [p4 3 (by omega) (by omega)]; exact g3
  · exact o3.cg o2.1.1 o2.2.1.1 p2
  · intro i hi
    have hi4 : i < 4 := Nat.lt_of_lt_of_le hi (Nat.min_le_left _ _)
    have his : i < s + 1 := Nat.lt_of_lt_of_le hi (Nat.min_le_right _ _)
    have hp3 : ∀ k, k < 1601 → pastOf M3 i k = if s = 4 then (if i = 3 then M.1 179 k else pastOf M (i + 1) k) else (if i = s then M.1 179 k else pastOf M i k) := fun k hk => by
      rw [← gp i k hi hk]; exact q0 _ _ (by omega)
    by_cases hcur : (s = 4 ∧ i = 3) ∨ (s ≠ 4 ∧ i = s)
    · have hq : ∀ k, k < 1601 → pastOf M3 i k = M.1 179 k := fun k hk => by
        rw [hp3 k hk]
        rcases hcur with ⟨u1, u2⟩ | ⟨u1, u2⟩
        · rw [if_pos u1, if_pos u2]
        · rw [if_neg u1, if_pos u2]
      obtain ⟨⟨z1, z2, z3, z4⟩, -, ⟨z5, z6, z7, z8⟩, -⟩ := H1
      exact ⟨h, b, g, c, ⟨z1, z2, z3, by omega⟩, ⟨by rw [hq 0 (by omega)]; exact z5, by rw [hq 7 (by omega)]; exact z6, by rw [hq 8 (by omega)]; exact z7, by rw [hq 5 (by omega)]; exact z8⟩, W.cg z1 z2 hq⟩
    · obtain ⟨i', hi', hq⟩ : ∃ i', i' < s ∧ ∀ k, k < 1601 → pastOf M3 i k = pastOf M i' k := by
        by_cases h4 : s = 4
        · exact ⟨i + 1, by omega, fun k hk => by rw [hp3 k hk, if_pos h4, if_neg (by omega)]⟩
        · exact ⟨i, by omega, fun k hk => by rw [hp3 k hk, if_neg h4, if_neg (by omega)]⟩
      obtain ⟨h'', b'', g'', c'', ⟨z1, z2, z3, z4⟩, ⟨z5, z6, z7, z8⟩, W2⟩ := P i' hi'
      exact ⟨h'', b'', g'', c'', ⟨z1, z2, z3, by omega⟩, ⟨by rw [hq 0 (by omega)]; exact z5, by rw [hq 7 (by omega)]; exact z6, by rw [hq 8 (by omega)]; exact z7, by rw [hq 5 (by omega)]; exact z8⟩, W2.cg z1 z2 hq⟩
  · obtain ⟨x1, x2, x3, x4, x5⟩ := X
    have k0 : ∀ q x, q = 0 ∨ (175 ≤ q ∧ q < 178) ∨ q = 182 → M3.1 q x = M.1 q x := fun q x hq => by
      rw [q0 _ _ (by omega), g0 _ _ (by omega) (by omega), hMx, o5.1 _ _ (by omega), hF _ _ (by omega)]
    refine ⟨by rw [k0 0 4 (by omega), p4 7 (by omega) (by omega), g1 7 (by omega) (by omega)]; exact x1, x2, by rw [k0 175 3 (by omega)]; exact x3, by rw [p4 6 (by omega) (by omega), g1 6 (by omega) (by omega)]; exact x4, fun i hi => ?_⟩
    rw [k0 176 i (by omega), k0 182 i (by omega)]
    exact x5 i hi
