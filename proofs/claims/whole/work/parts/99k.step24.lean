/-! the last call: a text of commands -/
theorem sv_iv {n : Nat} {M : Mem} {h b g c s l t : Nat} (F : Fu n M h b g c s l t) {Mp M3 : Mem} {ρ' : Nat → Int32} {h' b' g' c' : Nat} (Hu : URn Mp (fun i => if s = 4 then (if i = 3 then M.1 179 else pastOf M (i + 1)) else (if i = s then M.1 179 else pastOf M i)) (min 4 (s + 1)) ((l + 1) % 4)) (hU : ∀ q x, 45 ≤ q → q < 175 → M3.1 q x = Mp.1 q x) (V : Vi M3 ρ' h' b' g' c') (W' : Wr ρ' h' b' c') (R : Ro M3 ρ') (hc' : c' ≤ 36000 * (n + 1)) (h3 : M3.1 178 3 = nI (min 4 (s + 1))) (hp : ∀ i k, i < min 4 (s + 1) → k < 1601 → pastOf M3 i k = if s = 4 then (if i = 3 then M.1 179 k else pastOf M (i + 1) k) else (if i = s then M.1 179 k else pastOf M i k)) (X : Txt M3 t) : Iv (n + 1) M3 := by
  obtain ⟨⟨H1, H2, H3⟩, W, hc, P, X0⟩ := F
  have hs : s ≤ 4 := H2.1
  refine ⟨h', b', g', c', min 4 (s + 1), (l + 1) % 4, t, ⟨?_, ?_, h3⟩, ?_, hc', ?_, X⟩
  · exact (V.cg (M' := M3) (fun q x _ _ => rfl) R).to
  · refine (Hu.mem hU).row fun i k hi hk => ?_
    rw [hp i k hi hk]
    by_cases h4 : s = 4
    · simp only [if_pos h4]; split <;> rfl
    · simp only [if_neg h4]; split <;> rfl
  · exact W'.cg V.1.1 V.2.1.1 R
  · intro i hi
    have hi4 : i < 4 := Nat.lt_of_lt_of_le hi (Nat.min_le_left _ _)
    have his : i < s + 1 := Nat.lt_of_lt_of_le hi (Nat.min_le_right _ _)
    have hp3 := fun k hk => hp i k hi hk
    by_cases hcur : (s = 4 ∧ i = 3) ∨ (s ≠ 4 ∧ i = s)
    · have hq : ∀ k, k < 1601 → pastOf M3 i k = M.1 179 k := fun k hk => by
        rw [hp3 k hk]
        rcases hcur with ⟨u1, u2⟩ | ⟨u1, u2⟩
        · rw [if_pos u1, if_pos u2]
        · rw [if_neg u1, if_pos u2]
      obtain ⟨⟨z1, z2, z3, z4⟩, -, ⟨z5, z6, z7, z8⟩, -⟩ := H1
      exact ⟨h, b, g, c, ⟨z1, z2, z3, by omega⟩, ⟨by rw [hq 0 (by omega)]; exact z5, by rw [hq 7 (by omega)]; exact z6, by rw [hq 8 (by omega)]; exact z7, by rw [hq 5 (by omega)]; exact z8⟩, W.cg z1 z2 hq⟩
    · obtain ⟨i', hi', hq⟩ : ∃ i', i' < s ∧ ∀ k, k < 1601 → pastOf M3 i k = pastOf M i' k := by
        by_cases h4 : s = 4
        · exact ⟨i + 1, by omega, fun k hk => by rw [hp3 k hk, if_pos h4, if_neg (by omega)]⟩
        · exact ⟨i, by omega, fun k hk => by rw [hp3 k hk, if_neg h4, if_neg (by omega)]⟩
      obtain ⟨h'', b'', g'', c'', ⟨z1, z2, z3, z4⟩, ⟨z5, z6, z7, z8⟩, W2⟩ := P i' hi'
      exact ⟨h'', b'', g'', c'', ⟨z1, z2, z3, by omega⟩, ⟨by rw [hq 0 (by omega)]; exact z5, by rw [hq 7 (by omega)]; exact z6, by rw [hq 8 (by omega)]; exact z7, by rw [hq 5 (by omega)]; exact z8⟩, W2.cg z1 z2 hq⟩
theorem Fu.kq {n : Nat} {M M3 : Mem} {h b g c s l t : Nat} (H : Fu n M h b g c s l t) (hk : ∀ q x, q < 175 ∨ q = 176 ∨ q = 179 ∨ q = 180 ∨ q = 182 → M3.1 q x = M.1 q x) (h5 : M3.1 175 3 = M.1 175 3) (h8 : ∀ x, x = 3 ∨ x = 6 ∨ x = 7 → M3.1 178 x = M.1 178 x) : Fu (n + 1) M3 h b g c s l t := by
  obtain ⟨H1, H2, H3, H4, X⟩ := H
  refine ⟨H1.keep (fun q x hq => hk q x (by omega)) (h8 3 (by omega)), ?_, by omega, H4.cg (by omega) (fun x => hk _ _ (by omega)), ?_⟩
  · rw [show M3.1 179 = M.1 179 from funext fun x => hk _ _ (by omega)]; exact H2
  · obtain ⟨x1, x2, x3, x4, x5⟩ := X
    refine ⟨by rw [hk 0 4 (by omega), h8 7 (by omega)]; exact x1, x2, by rw [h5]; exact x3, by rw [h8 6 (by omega)]; exact x4, fun i hi => ?_⟩
    rw [hk 176 i (by omega), hk 182 i (by omega)]
    exact x5 i hi
theorem sum_eq {α : Type} {x y : α} {o : α ⊕ α} (h1 : o = Sum.inl x ∨ o = Sum.inr x) (h2 : o = Sum.inl y ∨ o = Sum.inr y) : x = y := by
  rcases h1 with rfl | rfl <;> rcases h2 with h | h <;> cases h <;> rfl
theorem sum_s {α : Type} {x : Int32 × α} {o : (Int32 × α) ⊕ (Int32 × α)} (h1 : o = Sum.inl x ∨ o = Sum.inr x) : (s0 o (un2 fun a33 M34 => some (a33, M34))) = some x := by
  rcases h1 with rfl | rfl <;> rfl
theorem fp_r {τ : Nat → Int32} {n : Nat} : ∀ (m p e : Nat), p ≤ n → fp τ n m p = some e → e ≤ n := by
  intro m
  induction m with
  | zero => intro p e _ h; cases h
  | succ m ih =>
    intro p e hp h
    obtain ⟨s1, s2, -⟩ := nsp_r (τ := τ) hp
    obtain ⟨q1, q2⟩ := pcmd_r (τ := τ) s2
    rw [fp] at h
    by_cases hs : nsp τ n p < n
    · rw [if_pos hs] at h
      cases hq : pcmd τ n (nsp τ n p) with
      | inl e' => rw [hq] at h; cases h; exact q1 _ hq
      | inr x => obtain ⟨i, vs, q⟩ := x; rw [hq] at h; exact ih q e (q2 _ _ _ hq).2.2.2 h
    · rw [if_neg hs] at h; cases h
/-- the reference, when it has found no fault -/
def tail24 (M17 : Mem) : Option (Int32 × Mem) := (fX12_saves M17).bind fun M19 => (pf M19 178 11 (0 : Int32)).bind fun M20 => (pf M20 178 7 (0 : Int32)).bind fun M22 => (fX12_skips M22).bind (un2 fun b25 M26 => (lX12_runCommands_70 FUEL (0 : Int32) M26).bind (un2 fun a46 M47 => some (a46, M47)))
def bg (A : Mem) (P0 : Nat) : Mem := mput (mput (mput A 178 4 0) 178 11 0) 178 11 (nI P0)
theorem bg_f (A : Mem) (P0 q x : Nat) (h : ¬ (q = 178 ∧ (x = 4 ∨ x = 11))) : (bg A P0).1 q x = A.1 q x := by
  unfold bg; rw [mput_at, if_neg (by omega), mput_at, if_neg (by omega), mput_at, if_neg (by omega)]
theorem stp24 {n : Nat} {M : Mem} {h b g c s l t : Nat} (F : Fu n M h b g c s l t) (hn : n < 512) : ∃ M3, LS24 M M3 ∧ Iv (n + 1) M3 := by
  have F0 := F
  obtain ⟨⟨H1, H2, H3⟩, W, hc, P, x1, x2, x3, x4, x5⟩ := F
  obtain ⟨τ, hτ⟩ : ∃ τ, τ = M.1 176 := ⟨_, rfl⟩
  have hs : s ≤ 4 := H2.1
  obtain ⟨P0, hP0⟩ : ∃ P0, P0 = nsp τ t 0 := ⟨_, rfl⟩
  obtain ⟨s1, s2, -⟩ := nsp_r (τ := τ) (Nat.zero_le t)
  rw [← hP0] at s1 s2
  -- the class looks for a fault
  have C0 : CT M τ t 0 → True := fun _ => trivial
  have rew : ∀ A : Mem, fX2_rewind A = some (mput (mput A 175 4 0) 175 5 (-1)) := fun A => by
    unfold fX2_rewind pf; rfl
  have CR : ∀ A : Mem, A.1 175 3 = nI t → (∀ i, i < t → A.1 176 i = τ i) → CT (mput (mput A 175 4 0) 175 5 (-1)) τ t 0 := fun A e1 e2 => ⟨by rw [mput_at, if_neg (by omega), mput_at, if_neg (by omega)]; exact e1, x2, by rw [mput_at, if_neg (by omega), mput_at, if_pos ⟨rfl, rfl⟩]; rfl, by omega, fun i hi => by rw [mput_at, if_neg (by omega), mput_at, if_neg (by omega)]; exact e2 i hi⟩
  have tR : ∀ A : Mem, Tc A (mput (mput A 175 4 0) 175 5 (-1)) := fun A => (Tc.p4 A (by omega) _).tr (Tc.p4 _ (by omega) _)
  obtain ⟨Mf, f1, f2, f3⟩ := ff_c t 0 0 FUEL _ (CR M x3 (fun i hi => by rw [hτ])) (by omega) (by omega) (by rw [mput_at, if_pos ⟨rfl, rfl⟩]; rfl) (fuel8 (by omega))
  have t0 : Tc M Mf := (tR M).tr f3
  have e1 : fX2_findFault M = some (enc (fp τ t t 0), Mf) := by
    unfold fX2_findFault
    rw [rew, Option.bind_some, show (0 : Int32) = nI 0 from rfl] at *
    rw [f1, Option.bind_some, f2]
  -- the reference's text
  have RTm : ∀ N : Mem, N.1 178 6 = nI t → (∀ i, i < t → N.1 182 i = M.1 182 i) → N.1 178 11 = 0 → RT N τ t 0 := fun N e1 e2 e3 => ⟨e1, x2, e3, by omega, fun i hi => by rw [e2 i hi, hτ]; exact (x5 i hi).1.symm⟩
  have RTb : ∀ A : Mem, A.1 178 6 = nI t → (∀ i, i < t → A.1 182 i = M.1 182 i) → RT (mput (mput A 178 4 0) 178 11 0) τ t 0 ∧ RT (bg A P0) τ t P0 := fun A e1 e2 => by
    have T := RTm (mput (mput A 178 4 0) 178 11 0) (by rw [mput_at, if_neg (by omega), mput_at, if_neg (by omega)]; exact e1) (fun i hi => by rw [mput_at, if_neg (by omega), mput_at, if_neg (by omega)]; exact e2 i hi) (by rw [mput_at, if_pos ⟨rfl, rfl⟩])
    exact ⟨T, T.at s2⟩
  have pre : ∀ A : Mem, A.1 178 6 = nI t → (∀ i, i < t → A.1 182 i = M.1 182 i) → fX12_runCommands A = (lX12_runCommands_15 FUEL (bg A P0)).bind fun o => s0 o tail24 := fun A e1 e2 => by
    unfold fX12_runCommands pf
    rw [Option.bind_some, Option.bind_some, skip_R (RTb A e1 e2).1, Option.bind_some, un2_k, ← hP0]
    rfl
  cases hf : fp τ t t 0 with
  | some e =>
    have he : e ≤ t := fp_r t 0 e (by omega) hf
    have cls : fX11_runCommands M = some ((-10 : Int32) - nI e, Mf) := by
      unfold fX11_runCommands
      rw [e1, Option.bind_some, un2_k, hf, show enc (some e) = nI e from rfl, if_neg (show ¬ nI e = (-1 : Int32) from nI_ng (by omega))]
    have a1 : Mf.1 178 6 = nI t := (t0.1 _ _ (by omega) (by omega)).trans x4
    have a2 : ∀ i, i < t → Mf.1 182 i = M.1 182 i := fun i _ => t0.1 _ _ (by omega) (by omega)
    obtain ⟨N', b1, b2⟩ := (ff_r t 0 FUEL _ (by omega) (by rw [← hP0]; exact (RTb Mf a1 a2).2) (by omega) (fuel8 (by omega))).2 e hf
    refine ⟨N', ⟨_, Mf, cls, ?_⟩, h, b, g, c, s, l, t, F0.kq (fun q x hq => ?_) ?_ (fun x hx => ?_)⟩
    · rw [pre Mf a1 a2, b1]; rfl
    · rw [b2.1 q x (by omega) (by omega), bg_f _ _ _ _ (by omega), t0.1 q x (by omega) (by omega)]
    · rw [b2.1 175 3 (by omega) (by omega), bg_f _ _ _ _ (by omega), t0.2.1]
    · rw [b2.2.1 x (by omega) (by omega), bg_f _ _ _ _ (by omega), t0.1 178 x (by omega) (by omega)]
  | none =>
    obtain ⟨Mp, pe, Hp, Hu, hF, -⟩ := push_eq (H2.mem (M' := Mf) (fun q x h1 h2 => t0.1 _ _ (by omega) (by omega))) (H1.mem (M' := Mf) (fun a x ha => t0.1 _ _ (by omega) (by omega)))
    obtain ⟨Mr, hMr⟩ : ∃ Mr, Mr = mput (mput (mput Mp 0 4 0) 175 4 0) 175 5 (-1) := ⟨_, rfl⟩
    have gr : ∀ q x, ¬ (q = 0 ∧ x = 4) → ¬ (q = 175 ∧ (x = 4 ∨ x = 5)) → Mr.1 q x = Mp.1 q x := fun q x h1 h2 => by
      rw [hMr, mput_at, if_neg (by omega), mput_at, if_neg (by omega), mput_at, if_neg (by omega)]
    have gp : ∀ q x, 175 ≤ q → Mp.1 q x = Mf.1 q x := fun q x hq => hF q x (by omega)
    have CR' : CT Mr τ t 0 := by
      rw [hMr]
      exact CR (mput Mp 0 4 0) (by rw [mput_at, if_neg (by omega), gp _ _ (by omega), t0.2.1]; exact x3) (fun i hi => by rw [mput_at, if_neg (by omega), gp _ _ (by omega), t0.1 _ _ (by omega) (by omega), hτ])
    have VR : Vi Mr (M.1 179) h b g c := (Vi_of Hp).cg (M' := Mr) (fun q x h1 h2 => gr q x (by omega) (by omega)) (fun _ _ => rfl)
    have zr : Mr.1 0 4 = 0 := by rw [hMr, mput_at, if_neg (by omega), mput_at, if_neg (by omega), mput_at, if_pos ⟨rfl, rfl⟩]
    -- the class runs it
    have RTd := (RTb (mput M 178 7 0) (by rw [mput_at, if_neg (by omega)]; exact x4) (fun i hi => by rw [mput_at, if_neg (by omega)])).2
    obtain ⟨o, r, M1, -, -, -, -, -, -, j1, j2, -, -, -, -, -, j8, -, -⟩ := run_j t 0 0 0 FUEL FUEL Mr (bg (mput M 178 7 0) P0) (M.1 179) h b g c CR' (by rw [← hP0]; exact RTd) hf (by omega) (by omega) VR W (fun k _ => by rw [bg_f _ _ _ _ (by omega), mput_at, if_neg (by omega)]) (by omega) zr (by rw [bg_f _ _ _ _ (by omega), mput_at, if_pos ⟨rfl, rfl⟩]) (fuel8 (by omega)) (fuel8 (by omega))
    have cls : fX11_runCommands M = some (r, M1) := by
      unfold fX11_runCommands pf
      rw [e1, Option.bind_some, un2_k, hf, if_pos (show enc none = (-1 : Int32) from rfl), pe, Option.bind_some, Option.bind_some, rew, Option.bind_some, ← hMr]
      show (lX11_runCommands_45 FUEL (nI 0) (nI 0) Mr).bind _ = _
      rw [j1, Option.bind_some]
      exact sum_s j2
    -- the reference, behind it
    have hM : ∀ q x, 176 ≤ q → q ≠ 177 → M1.1 q x = M.1 q x := fun q x h1 h2 => by
      rw [j8.1 q x (by omega) (by omega) (by omega) (by omega), gr q x (by omega) (by omega), gp q x (by omega), t0.1 q x (by omega) (by omega)]
    have hM3 : M1.1 175 3 = nI t := by
      rw [j8.2.1, gr 175 3 (by omega) (by omega), gp 175 3 (by omega), t0.2.1]; exact x3
    have a1 : M1.1 178 6 = nI t := (hM 178 6 (by omega) (by omega)).trans x4
    have a2 : ∀ i, i < t → M1.1 182 i = M.1 182 i := fun i _ => hM 182 i (by omega) (by omega)
    obtain ⟨N2, b1, b2⟩ := (ff_r t 0 FUEL _ (by omega) (by rw [← hP0]; exact (RTb M1 a1 a2).2) (by omega) (fuel8 (by omega))).1 hf
    have g2 : ∀ q x, q ≠ 178 → q ≠ 184 → N2.1 q x = M1.1 q x := fun q x h1 h2 => by rw [b2.1 q x h1 h2, bg_f _ _ _ _ (by omega)]
    have g28 : ∀ x, x = 3 ∨ x = 6 → N2.1 178 x = M.1 178 x := fun x hx => by
      rw [b2.2.1 x (by omega) (by omega), bg_f _ _ _ _ (by omega), hM _ _ (by omega) (by omega)]
    obtain ⟨N3, hN3⟩ : ∃ N3, N3 = svM N2 s := ⟨_, rfl⟩
    have sv : fX12_saves N2 = some N3 := by rw [hN3]; exact saves_eq ((g28 3 (by omega)).trans H3) hs
    have g3 : ∀ q x, q ≠ 178 → q ≠ 180 → N3.1 q x = N2.1 q x := fun q x h1 h2 => by
      rw [hN3]; simp only [svM]; rw [if_neg (by omega), if_neg (by omega)]
    have g36 : N3.1 178 6 = nI t := by
      rw [hN3]; simp only [svM]; rw [if_neg (by omega), if_neg (by omega), g28 6 (by omega)]; exact x4
    have g33 : N3.1 178 3 = nI (min 4 (s + 1)) := by
      rw [hN3]; simp only [svM]; rw [if_pos ⟨trivial, trivial⟩]
      by_cases h4 : s = 4
      · subst h4; rfl
      · rw [if_neg h4, Nat.min_eq_right (by omega)]
    obtain ⟨N4, hN4⟩ : ∃ N4, N4 = mput (mput N3 178 11 0) 178 7 0 := ⟨_, rfl⟩
    have g4 : ∀ q x, ¬ (q = 178 ∧ (x = 7 ∨ x = 11)) → N4.1 q x = N3.1 q x := fun q x h1 => by
      rw [hN4, mput_at, if_neg (by omega), mput_at, if_neg (by omega)]
    have T4 : RT N4 τ t 0 := RTm N4 ((g4 178 6 (by omega)).trans g36) (fun i hi => by rw [g4 _ _ (by omega), g3 _ _ (by omega) (by omega), g2 _ _ (by omega) (by omega), a2 i hi]) (by rw [hN4, mput_at, if_neg (by omega), mput_at, if_pos ⟨rfl, rfl⟩])
    obtain ⟨N5, hN5⟩ : ∃ N5, N5 = mput N4 178 11 (nI P0) := ⟨_, rfl⟩
    have T5 : RT N5 τ t P0 := by rw [hN5]; exact T4.at s2
    have g5 : ∀ q x, ¬ (q = 178 ∧ (x = 7 ∨ x = 11)) → N5.1 q x = N3.1 q x := fun q x h1 => by
      rw [hN5, mput_at, if_neg (by omega), g4 q x h1]
    have z5 : N5.1 178 7 = 0 := by rw [hN5, mput_at, if_neg (by omega), hN4, mput_at, if_pos ⟨rfl, rfl⟩]
    obtain ⟨o', r', M1', M3, ρ', h', b', g', c', k1, k2, k3, k4, k5, k6, k7, k8, k9, k10⟩ := run_j t 0 0 0 FUEL FUEL Mr N5 (M.1 179) h b g c CR' (by rw [← hP0]; exact T5) hf (by omega) (by omega) VR W (fun k _ => by rw [g5 _ _ (by omega), g3 _ _ (by omega) (by omega), g2 _ _ (by omega) (by omega), hM _ _ (by omega) (by omega)]) (by omega) zr z5 (fuel8 (by omega)) (fuel8 (by omega))
    have ho : o' = o := Option.some.inj (k1.symm.trans j1)
    rw [ho] at k2
    cases sum_eq k2 j2
    have tl : tail24 N2 = some (r, M3) := by
      unfold tail24 pf
      rw [sv, Option.bind_some, Option.bind_some, Option.bind_some, ← hN4, skip_R T4, Option.bind_some, un2_k, ← hP0, ← hN5]
      show (lX12_runCommands_70 FUEL (nI 0) N5).bind _ = _
      rw [k3]; rfl
    have hq : ∀ q x, q < 178 ∨ q = 182 → M3.1 q x = M1.1 q x := fun q x hq => by
      rw [k9.1 q x (by omega), g5 _ _ (by omega), g3 _ _ (by omega) (by omega), g2 _ _ (by omega) (by omega)]
    refine ⟨M3, ⟨r, M1, cls, ?_⟩, sv_iv F0 Hu (fun q x h1 h2 => ?_) (k4.cg (M' := M3) (fun q x h1 h2 => hq q x (by omega)) (fun _ _ => rfl)) k5 k6 (by omega) ?_ (fun i k hi hk => ?_) ⟨?_, x2, ?_, ?_, fun i hi => ?_⟩⟩
    · rw [pre M1 a1 a2, b1]; exact tl
    · rw [hq q x (by omega), j8.1 q x (by omega) (by omega) (by omega) (by omega), gr q x (by omega) (by omega)]
    · rw [k9.2.1 3 (by omega), g5 _ _ (by omega)]; exact g33
    · have e0 : pastOf M3 i k = pastOf (svM N2 s) i k := by
        rw [← hN3]
        exact (k9.1 180 _ (by omega)).trans (g5 180 _ (by omega))
      have e2 : N2.1 179 k = M.1 179 k := by rw [g2 _ _ (by omega) (by omega), hM _ _ (by omega) (by omega)]
      have e3 : ∀ j y, pastOf N2 j y = pastOf M j y := fun j y => by
        show N2.1 180 _ = M.1 180 _
        rw [g2 _ _ (by omega) (by omega), hM _ _ (by omega) (by omega)]
      rw [e0, sv_past hs i k hi hk]
      simp only [e2, e3]
    · rw [hq 0 4 (by omega), k10]
    · rw [hq 175 3 (by omega)]; exact hM3
    · rw [k9.2.1 6 (by omega), g5 _ _ (by omega)]; exact g36
    · rw [hq 176 i (by omega), hq 182 i (by omega), hM 176 i (by omega) (by omega), hM 182 i (by omega) (by omega)]
      exact x5 i hi
