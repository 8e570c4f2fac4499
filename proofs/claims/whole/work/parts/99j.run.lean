/-! a text of commands, run on both sides -/
def Cf (M M' : Mem) : Prop := (∀ q x, ¬ (1 ≤ q ∧ q < 45) → ¬ (q = 0 ∧ x = 4) → q ≠ 175 → q ≠ 177 → M'.1 q x = M.1 q x) ∧ M'.1 175 3 = M.1 175 3 ∧ M'.2 = M.2
def Rf (N N' : Mem) : Prop := (∀ q x, q < 178 ∨ q = 180 ∨ q = 182 ∨ 185 ≤ q → N'.1 q x = N.1 q x) ∧ (∀ x, x = 3 ∨ x = 4 ∨ x = 6 → N'.1 178 x = N.1 178 x) ∧ N'.2 = N.2
theorem Cf.rf (M : Mem) : Cf M M := ⟨fun _ _ _ _ _ _ => rfl, rfl, rfl⟩
theorem Rf.rf (M : Mem) : Rf M M := ⟨fun _ _ _ => rfl, fun _ _ => rfl, rfl⟩
theorem Cf.tr {a b c : Mem} (h : Cf a b) (g : Cf b c) : Cf a c := ⟨fun q x h1 h2 h3 h4 => (g.1 q x h1 h2 h3 h4).trans (h.1 q x h1 h2 h3 h4), g.2.1.trans h.2.1, g.2.2.trans h.2.2⟩
theorem Rf.tr {a b c : Mem} (h : Rf a b) (g : Rf b c) : Rf a c := ⟨fun q x h1 => (g.1 q x h1).trans (h.1 q x h1), fun x hx => (g.2.1 x hx).trans (h.2.1 x hx), g.2.2.trans h.2.2⟩
theorem Tc.cf {a b : Mem} (h : Tc a b) : Cf a b := ⟨fun q x _ _ h3 h4 => h.1 q x h3 h4, h.2.1, h.2.2⟩
theorem Fc.cf {a b : Mem} (h : Fc a b) : Cf a b := ⟨fun q x h1 _ _ _ => h.1 q x (by omega), h.1 175 3 (by omega), h.2⟩
theorem Tr.rf' {a b : Mem} (h : Tr a b) : Rf a b := ⟨fun q x h1 => h.1 q x (by omega) (by omega), fun x hx => h.2.1 x (by omega) (by omega), h.2.2⟩
theorem Fr.rf' {a b : Mem} (h : Fr a b) : Rf a b := ⟨fun q x h1 => h.1 q x (by omega), fun x hx => h.2.1 x (by omega) (by omega), h.2.2⟩
theorem Cf.p (M : Mem) (v : Int32) : Cf M (mput M 0 4 v) := ⟨fun q x _ h2 _ _ => by rw [mput_at, if_neg h2], by rw [mput_at, if_neg (by omega)], rfl⟩
theorem Rf.p (N : Mem) (v : Int32) : Rf N (mput N 178 7 v) := ⟨fun q x h => by rw [mput_at, if_neg (by omega)], fun x hx => by rw [mput_at, if_neg (by omega)], rfl⟩
theorem CT.cg {M M' : Mem} {τ : Nat → Int32} {n p : Nat} (H : CT M τ n p) (h1 : ∀ x, M'.1 175 x = M.1 175 x) (h2 : ∀ x, M'.1 176 x = M.1 176 x) : CT M' τ n p := ⟨(h1 3).trans H.1, H.2.1, (h1 4).trans H.2.2.1, H.2.2.2.1, fun i hi => (h2 i).trans (H.2.2.2.2 i hi)⟩
theorem RT.cg {N N' : Mem} {τ : Nat → Int32} {n p : Nat} (H : RT N τ n p) (h1 : ∀ x, x = 6 ∨ x = 11 → N'.1 178 x = N.1 178 x) (h2 : ∀ x, N'.1 182 x = N.1 182 x) : RT N' τ n p := ⟨(h1 6 (by omega)).trans H.1, H.2.1, (h1 11 (by omega)).trans H.2.2.1, H.2.2.2.1, fun i hi => (h2 i).trans (H.2.2.2.2 i hi)⟩
theorem num_k {M : Mem} {k : Nat} (hk : k < 3) : fX2_number (nI k) M = some (M.1 177 k) := by
  unfold fX2_number
  rw [l_0, if_neg (pI_nlt (by omega) (by omega)), l_3, if_neg (pI_nle hk (by omega)), ald_n hk (by omega)]; rfl
theorem num_3 (M : Mem) : fX2_number (0 : Int32) M = some (M.1 177 0) ∧ fX2_number (1 : Int32) M = some (M.1 177 1) ∧ fX2_number (2 : Int32) M = some (M.1 177 2) := ⟨num_k (k := 0) (by omega), num_k (k := 1) (by omega), num_k (k := 2) (by omega)⟩
theorem nI_a1 (a : Nat) : nI a + (1 : Int32) = nI (a + 1) := nI_ad a 1
theorem nI_a0 (a : Nat) : nI a + (0 : Int32) = nI a := nI_ad a 0
theorem un2_k {α β γ : Type} (f : α → β → γ) (a : α) (b : β) : un2 f (a, b) = f a b := rfl
theorem run_s {M M1 M2 : Mem} {i k a fu : Nat} {v : Int32} (hk : k < 150) (a1 : fX2_readCommand M = some (true, M1)) (a3 : wo (M1.1 175 2) = some i) (d1 : fX11_carryOut (some i) (M1.1 177 0) (M1.1 177 1) (M1.1 177 2) M1 = some (v, M2)) : lX11_runCommands_45 (fu + 1) (nI a) (nI k) M = if v = 0 then lX11_runCommands_45 fu (nI (a + 1)) (nI (k + 1)) (mput M2 0 4 v) else some (Sum.inl (nI a, mput M2 0 4 v)) := by
  rw [lX11_runCommands_45, l_150, if_neg (pI_nle hk (by omega)), a1, Option.bind_some]
  rw [un2_k, if_pos rfl]
  unfold fX2_word
  rw [Option.bind_some, a3, (num_3 M1).1, Option.bind_some, (num_3 M1).2.1, Option.bind_some, (num_3 M1).2.2, Option.bind_some, d1, Option.bind_some, un2_k]
  unfold pf
  rw [Option.bind_some, mput_at, if_pos (show (0 : Nat) = 0 ∧ (4 : Nat) = 4 from ⟨rfl, rfl⟩), nI_a1 a, nI_a1 k]
theorem run_j {τ : Nat → Int32} {n : Nat} : ∀ (m p a k fu fu' : Nat) (M N : Mem) (ρ : Nat → Int32) (h b g c : Nat), CT M τ n p → RT N τ n (nsp τ n p) → fp τ n m p = none → n ≤ p + m → k ≤ p → Vi M ρ h b g c → Wr ρ h b c → Ro N ρ → c + 240 * m + 7000 < 2 ^ 29 → M.1 0 4 = 0 → N.1 178 7 = 0 → m < fu → m < fu' → ∃ o r M' N' ρ' h' b' g' c', lX11_runCommands_45 fu (nI a) (nI k) M = some o ∧ (o = Sum.inl (r, M') ∨ o = Sum.inr (r, M')) ∧ lX12_runCommands_70 fu' (nI a) N = some (r, N') ∧ Vi M' ρ' h' b' g' c' ∧ Wr ρ' h' b' c' ∧ Ro N' ρ' ∧ c' ≤ c + 240 * m ∧ Cf M M' ∧ Rf N N' ∧ N'.1 178 7 = M'.1 0 4 := by
  intro m
  -- at the end
  have fin : ∀ (p a k fu fu' : Nat) (M N : Mem) (ρ : Nat → Int32) (h b g c : Nat), CT M τ n p → RT N τ n (nsp τ n p) → ¬ nsp τ n p < n → Vi M ρ h b g c → Wr ρ h b c → Ro N ρ → k ≤ p → M.1 0 4 = 0 → N.1 178 7 = 0 → ∃ o r M' N' ρ' h' b' g' c', lX11_runCommands_45 (fu + 1) (nI a) (nI k) M = some o ∧ (o = Sum.inl (r, M') ∨ o = Sum.inr (r, M')) ∧ lX12_runCommands_70 (fu' + 1) (nI a) N = some (r, N') ∧ Vi M' ρ' h' b' g' c' ∧ Wr ρ' h' b' c' ∧ Ro N' ρ' ∧ c' ≤ c ∧ Cf M M' ∧ Rf N N' ∧ N'.1 178 7 = M'.1 0 4 := by
    intro p a k fu fu' M N ρ h b g c C T hs V W R hk z1 z2
    have hn := C.2.1
    have hp := C.2.2.2.1
    obtain ⟨s1, s2, -⟩ := nsp_r (τ := τ) hp
    have e2 : lX12_runCommands_70 (fu' + 1) (nI a) N = some (nI a, N) := by
      rw [lX12_runCommands_70, T.1, T.2.2.1, if_pos (pI_le (by omega) (by omega))]
    by_cases hc : 150 ≤ k
    · refine ⟨_, nI a, M, N, ρ, h, b, g, c, by rw [lX11_runCommands_45, l_150, if_pos (pI_le hc (by omega))], Or.inr rfl, e2, V, W, R, Nat.le_refl _, Cf.rf M, Rf.rf N, by rw [z1, z2]⟩
    · obtain ⟨M', a1, a2, a3⟩ := (rc_c C).1 (by omega)
      refine ⟨_, nI a, M', N, ρ, h, b, g, c, ?_, Or.inr rfl, e2, V.cg (M' := M') (fun q x h1 h2 => a3.1 _ _ (by omega) (by omega)) (fun _ _ => rfl), W, R, Nat.le_refl _, a3.cf, Rf.rf N, ?_⟩
      · rw [lX11_runCommands_45, l_150, if_neg (pI_nle (by omega) (by omega)), a1]; rfl
      · rw [z2, a3.1 0 4 (by omega) (by omega), z1]
  induction m with
  | zero =>
    intro p a k fu fu' M N ρ h b g c C T hf h1 h2 V W R hc z1 z2 h3 h4
    obtain ⟨fu, rfl⟩ : ∃ n', fu = n' + 1 := ⟨fu - 1, by omega⟩
    obtain ⟨fu', rfl⟩ : ∃ n', fu' = n' + 1 := ⟨fu' - 1, by omega⟩
    obtain ⟨s1, s2, -⟩ := nsp_r (τ := τ) C.2.2.2.1
    exact fin p a k fu fu' M N ρ h b g c C T (by omega) V W R h2 z1 z2
  | succ m ih =>
    intro p a k fu fu' M N ρ h b g c C T hf h1 h2 V W R hc z1 z2 h3 h4
    obtain ⟨fu, rfl⟩ : ∃ n', fu = n' + 1 := ⟨fu - 1, by omega⟩
    obtain ⟨fu', rfl⟩ : ∃ n', fu' = n' + 1 := ⟨fu' - 1, by omega⟩
    have hn := C.2.1
    have hp := C.2.2.2.1
    obtain ⟨s1, s2, -⟩ := nsp_r (τ := τ) hp
    by_cases hs : nsp τ n p < n
    · rw [fp, if_pos hs] at hf
      cases hq : pcmd τ n (nsp τ n p) with
      | inl e => rw [hq] at hf; cases hf
      | inr x =>
        obtain ⟨i, vs, q⟩ := x
        rw [hq] at hf
        obtain ⟨hi, hl, q1, q2⟩ := (pcmd_r s2).2 i vs q hq
        obtain ⟨s3, s4, -⟩ := nsp_r (τ := τ) q2
        obtain ⟨M1, a1, a2, a3, a4, a5, a6⟩ := ((rc_c C).2 hs).2 i vs q hq
        obtain ⟨N1, b1, b2, b3, b4, b5⟩ := (rr_r T).2 i vs q hq
        have V1 : Vi M1 ρ h b g c := V.cg (M' := M1) (fun q x h1 h2 => a6.1 _ _ (by omega) (by omega)) (fun _ _ => rfl)
        have R1 : Ro N1 ρ := fun k hk => (b5.1 _ _ (by omega) (by omega)).trans (R k hk)
        have k0 : i ≠ 6 → N1.1 184 0 = M1.1 177 0 := fun h6 => by
          have : 0 < vs.length := by rw [hl]; unfold wN; split <;> (try split) <;> omega
          exact (b4 0 this).trans (a4 0 this).symm
        have k1 : i = 1 → N1.1 184 1 = M1.1 177 1 ∧ N1.1 184 2 = M1.1 177 2 := fun h6 => by
          have : vs.length = 3 := by rw [hl, h6]; rfl
          exact ⟨(b4 1 (by omega)).trans (a4 1 (by omega)).symm, (b4 2 (by omega)).trans (a4 2 (by omega)).symm⟩
        obtain ⟨v, M2, N2, ρ', h', b', g', c', d1, d2, d3, d4, d5, d6, d7, d8⟩ := do_ok (z := M1.1 177 2) (y := M1.1 177 1) V1 W (by omega) R1 hi b3 k0 k1
        have e1 : lX11_runCommands_45 (fu + 1) (nI a) (nI k) M = if v = 0 then lX11_runCommands_45 fu (nI (a + 1)) (nI (k + 1)) (mput M2 0 4 v) else some (Sum.inl (nI a, mput M2 0 4 v)) := run_s (by omega) a1 a3 d1
        have T2 : RT N2 τ n q := b2.cg (fun x hx => d8.2.1 x (by omega) (by omega)) (fun x => d8.1 _ _ (by omega))
        have T3 : RT (mput N2 178 7 v) τ n q := T2.cg (fun x hx => by rw [mput_at, if_neg (by omega)]) (fun x => by rw [mput_at, if_neg (by omega)])
        have T4 := T3.at s4
        have e2 : lX12_runCommands_70 (fu' + 1) (nI a) N = if v = 0 then lX12_runCommands_70 fu' (nI (a + 1)) (mput (mput N2 178 7 v) 178 11 (nI (nsp τ n q))) else lX12_runCommands_70 fu' (nI a) (mput (mput N2 178 7 v) 178 11 (nI (nsp τ n q))) := by
          rw [lX12_runCommands_70, T.1, T.2.2.1, if_neg (pI_nle hs (by omega)), z2, if_pos rfl, b1, Option.bind_some]
          simp only [un2]
          rw [d2, Option.bind_some]
          unfold pf
          simp only [un2]
          rw [Option.bind_some, skip_R T3, Option.bind_some, Option.bind_some, mput_at, if_pos (show (178 : Nat) = 178 ∧ (7 : Nat) = 7 from ⟨rfl, rfl⟩), nI_a1 a, nI_a0 a]
          rfl
        have cf : Cf M (mput M2 0 4 v) := (a6.cf.tr d6.cf).tr (Cf.p M2 v)
        have rf : Rf N (mput (mput N2 178 7 v) 178 11 (nI (nsp τ n q))) := (b5.rf'.tr d8.rf').tr ((Rf.p N2 v).tr (Tr.p8 _ (by omega) _).rf')
        have V3 : Vi (mput M2 0 4 v) ρ' h' b' g' c' := d3.cg (fun q x h1 h2 => by rw [mput_at, if_neg (by omega)]) (fun _ _ => rfl)
        have R4 : Ro (mput (mput N2 178 7 v) 178 11 (nI (nsp τ n q))) ρ' := fun k hk => by rw [mput_at, if_neg (by omega), mput_at, if_neg (by omega)]; exact d7 k hk
        have C3 : CT (mput M2 0 4 v) τ n q := (a2.cg (M' := M2) (fun x => d6.1 _ _ (by omega)) (fun x => d6.1 _ _ (by omega))).cg (fun x => by rw [mput_at, if_neg (by omega)]) (fun x => by rw [mput_at, if_neg (by omega)])
        have y1 : (mput M2 0 4 v).1 0 4 = v := by rw [mput_at, if_pos ⟨rfl, rfl⟩]
        have y2 : (mput (mput N2 178 7 v) 178 11 (nI (nsp τ n q))).1 178 7 = v := by rw [mput_at, if_neg (by omega), mput_at, if_pos ⟨rfl, rfl⟩]
        by_cases hv : v = 0
        · rw [if_pos hv] at e1 e2
          obtain ⟨o, r, M', N', ρ2, h2', b2', g2', c2', j1, j2, j3, j4, j5, j6, j7, j8, j9, j10⟩ := ih q (a + 1) (k + 1) fu fu' _ _ ρ' h' b' g' c' C3 T4 hf (by omega) (by omega) V3 d4 R4 (by omega) (y1.trans hv) (y2.trans hv) (by omega) (by omega)
          exact ⟨o, r, M', N', ρ2, h2', b2', g2', c2', e1.trans j1, j2, e2.trans j3, j4, j5, j6, by omega, cf.tr j8, rf.tr j9, j10⟩
        · rw [if_neg hv] at e1 e2
          obtain ⟨fu', rfl⟩ : ∃ n', fu' = n' + 1 := ⟨fu' - 1, by omega⟩
          refine ⟨_, nI a, _, _, ρ', h', b', g', c', e1, Or.inl rfl, ?_, V3, d4, R4, by omega, cf, rf, by rw [y1, y2]⟩
          rw [e2, lX12_runCommands_70, y2, if_neg hv, ite_self]
    · obtain ⟨o, r, M', N', ρ2, h2', b2', g2', c2', j1, j2, j3, j4, j5, j6, j7, j8, j9, j10⟩ := fin p a k fu fu' M N ρ h b g c C T hs V W R h2 z1 z2
      exact ⟨o, r, M', N', ρ2, h2', b2', g2', c2', j1, j2, j3, j4, j5, j6, by omega, j8, j9, j10⟩
