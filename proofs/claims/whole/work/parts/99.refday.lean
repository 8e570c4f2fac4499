/-! the reference's day up to the sorting -/
theorem kP_cg {A B : List T3} (t : Nat) (h : ∀ k, cK k A = cK k B) : kP t A = kP t B ∧ (hotP t A ↔ hotP t B) := by
  unfold kP hotP
  rw [h 0, h 1, h 2]
  exact ⟨rfl, Iff.rfl⟩
theorem dl_r {N : Mem} {T : List T3} : ∀ (R P : List T3) (n : Nat) (D : Int32) (N : Mem), TBr N T → N.1 179 4 = D → T = P ++ R → R.length < n → lX12_dayWith_132 n (nI P.length) N = some (mput N 179 4 (D + nI (sz R))) := by
  intro R
  induction R with
  | nil =>
    intro P n D N H h4 hT hn
    obtain ⟨n, rfl⟩ : ∃ n', n = n' + 1 := ⟨n - 1, by omega⟩
    have hl := H.1
    rw [List.append_nil] at hT
    rw [hT] at hl
    rw [lX12_dayWith_132, l_7, ald_n (by omega) (by omega), Option.bind_some, H.2.1, hT, if_pos (pI_le (by omega) (by omega))]
    congr 1
    refine mem_ext (fun a b => ?_) rfl
    rw [mput_at]
    by_cases e : a = 179 ∧ b = 4
    · rw [if_pos e, e.1, e.2, h4, sz, sm_z]
    · rw [if_neg e]
  | cons x R ih =>
    intro P n D N H h4 hT hn
    obtain ⟨n, rfl⟩ : ∃ n', n = n' + 1 := ⟨n - 1, by omega⟩
    have hl := H.1
    have hlen : T.length = P.length + R.length + 1 := by rw [hT, List.length_append, List.length_cons]; omega
    rw [List.length_cons] at hn
    obtain ⟨-, -, c2⟩ := H.2.2.1 P.length (by omega)
    rw [hT, gdR t0 (Nat.le_refl _), Nat.sub_self] at c2
    have c2' : N.1 179 (41 + 3 * P.length + 2) = nI x.2.2 := c2
    have := ih (P ++ [x]) n (D + nI x.2.2) (mput N 179 4 (D + nI x.2.2)) (H.cg (fun y _ => by rw [mput_at, if_neg (by omega)])) (by rw [mput_at, if_pos ⟨rfl, rfl⟩]) (by rw [hT, List.append_assoc]; rfl) (by omega)
    rw [List.length_append] at this
    rw [lX12_dayWith_132, l_7, ald_n (by omega) (by omega), Option.bind_some, H.2.1, if_neg (pI_nle (by omega) (by omega)), l_4, ald_n (by omega) (by omega), Option.bind_some, h4, l_41, l_3, nI_ml', nI_ad, l_2, show nI (41 + 3 * P.length) + nI 2 = nI (41 + 3 * P.length + 2) from nI_ad _ 2, ald_n (by omega) (by omega), Option.bind_some, c2', ast_n (by omega) (by omega), Option.bind_some, l_1, nI_ad]
    refine Eq.trans this ?_
    congr 1
    refine mem_ext (fun a b => ?_) rfl
    simp only [mput_at]
    by_cases e : a = 179 ∧ b = 4
    · rw [if_pos e, if_pos e, sz, Int32.add_assoc, nI_ad]
    · rw [if_neg e, if_neg e, if_neg e]
theorem dw_l {mkf : Nat → Nat} {h f : Nat} (hh : h ≤ 8) (hf : f < h) : ∀ (n fu : Nat) (N : Mem) (T : List T3) (t : Nat) (Ls : List L4) (D a : Int32) (G : Gs), DN mkf N h T t Ls D a G → T.length + t / 5 < n → n + 1 < fu → 20 ≤ t → t ≤ 400 → G.2.1 + sz T + 240 < 2 ^ 30 → ∃ N', lX12_dayWith_107 (nI f) fu N = some N' ∧ (N'.1 179 0 = nI h ∧ N'.1 179 2 = nI (dP n t (aT h f h 0 T)).2.2 ∧ N'.1 179 7 = nI 0 ∧ N'.1 179 8 = nI (Ls ++ (dP n t (aT h f h 0 T)).1).length ∧ N'.1 179 4 = D + nI (sz (dP n t (aT h f h 0 T)).2.1) ∧ N'.1 178 10 = bml (dP n t (aT h f h 0 T)).1 a) ∧ LC N' (Ls ++ (dP n t (aT h f h 0 T)).1) ∧ Lq N' (ldl mkf (dP n t (aT h f h 0 T)).1 G).1 ∧ GI mkf h (ldl mkf (dP n t (aT h f h 0 T)).1 G) ∧ (ldl mkf (dP n t (aT h f h 0 T)).1 G).2.1 + sz (dP n t (aT h f h 0 T)).2.1 = G.2.1 + sz T ∧ (Ls ++ (dP n t (aT h f h 0 T)).1).length ≤ 20 ∧ Fdy N N' := by
  intro n
  induction n with
  | zero => intro fu N T t Ls D a G H h1; omega
  | succ n ih =>
    intro fu N T t Ls D a G H h1 h2 h20 h400 hc
    obtain ⟨fu, rfl⟩ : ∃ n', fu = n' + 1 := ⟨fu - 1, by omega⟩
    obtain ⟨B, hT, ⟨d0, d2, d8, d4, d10⟩, dl, dc, Q, I⟩ := id H
    have hT20 := B.1
    have hWl := aT_len hf hT
    have hWs := aT_sz hf hT
    have hWc := fun k => aT_cK hf hT k
    by_cases hW : T.length = 0
    · have ed : dP (n + 1) t (aT h f h 0 T) = ([], aT h f h 0 T, t) := by rw [dP, if_pos (by omega)]
      rw [ed]
      have hT0 : T = [] := List.length_eq_zero_iff.mp hW
      refine ⟨N, ?_, ⟨d0, d2, by rw [B.2.1, hW], by rw [List.append_nil]; exact d8, ?_, d10⟩, by rw [List.append_nil]; exact dc, Q, I, by rw [hWs]; rfl, by rw [List.append_nil]; omega, fun _ _ _ _ _ => rfl, fun _ _ _ => rfl, rfl⟩
      · rw [lX12_dayWith_107, l_7, ald_n (by omega) (by omega), Option.bind_some, B.2.1, hW, l_0, if_pos (pI_le (by omega) (by omega))]
      · dsimp only
        rw [hWs, hT0, d4, sz, sm_z]
    · obtain ⟨ek, eh⟩ := kP_cg t hWc
      have e0 : ∀ r, fX12_kindNow N = some r → lX12_dayWith_107 (nI f) (fu + 1) N = if r = (-1 : Int32) then ((lX12_dayWith_132 FUEL (0 : Int32) N).bind (fun M63 => (ast M63 179 1601 (7 : Int32) (0 : Int32)).bind fun M64 => lX12_dayWith_107 (nI f) fu M64)) else (if r = (3 : Int32) then ((fX12_falls (5 : Int32) N).bind fun M47 => lX12_dayWith_107 (nI f) fu M47) else ((fX12_bakes r (nI f) N).bind fun M45 => lX12_dayWith_107 (nI f) fu M45)) := fun r hr => by
        rw [lX12_dayWith_107, show ald (N.1 179) 1601 7 = some (N.1 179 7) from ald_n (j := 7) (by omega) (by omega), Option.bind_some, B.2.1, if_neg (show ¬ nI T.length ≤ 0 from pI_nle (b := 0) (by omega) (by omega)), hr, Option.bind_some]
      obtain ⟨r, q1, q2⟩ := kn_r B d2 h400
      rcases q2 with ⟨k, k1, k2⟩ | ⟨k1, k2, k3⟩ | ⟨k1, k2, k3⟩
      · rw [← ek] at k1
        obtain ⟨k3, k4, -⟩ := kP_spec k1
        obtain ⟨N1, T1, a1, a2, a3, a4, a5⟩ := bakes_r hh hf H h20 h400 k1 (by omega)
        obtain ⟨r1, r2⟩ := fall_r (k := k) (s := sz (gT (pK k) 24 (aT h f h 0 T))) h400 h20
        obtain ⟨s1, s2, s3⟩ := g_sum (pK k) (aT h f h 0 T) 24
        have hKm : ∀ x, x ∈ gT (pK k) 24 (aT h f h 0 T) → x.1 < h := fun x hx => by
          have fm := (fa_mem (h := h) (f := f) (k := k) h 0 24 T x).2
          rw [(fa_ok (k := k) hf h 0 24 T (by omega)).1] at fm
          exact hT x (fm hx).1
        obtain ⟨-, g2, -⟩ := btl_ok hh (fallP t k (sz (gT (pK k) 24 (aT h f h 0 T)))) (gT (pK k) 24 (aT h f h 0 T)) G I hKm
        have hs1 : sz T1 + sz (gT (pK k) 24 (aT h f h 0 T)) = sz T := by
          have := aT_sz hf a4.2.1
          rw [a2] at this
          omega
        have hdv : fallP t k (sz (gT (pK k) 24 (aT h f h 0 T))) / 5 ≤ t / 5 := Nat.div_le_div_right r2
        obtain ⟨N2, b1, b2, b3, b4, b5, b6, b7, b8⟩ := ih fu N1 T1 _ _ D _ _ a4 (by omega) (by omega) r1 (by omega) (by omega)
        rw [dP_load (by omega) k1]
        rw [a2] at b2 b3 b4 b5 b6 b7
        rw [List.append_assoc] at b2 b3 b7
        refine ⟨N2, ?_, b2, b3, b4, b5, ?_, b7, a5.tr b8⟩
        · rw [e0 r q1, k2, if_neg (show ¬ nI k = -1 from nI_ng (by omega)), l_3, if_neg (pI_ne (by omega) (by omega) (by omega)), a1, Option.bind_some]
          exact b1
        · dsimp only [ldl] at b6 ⊢
          omega
      · rw [← ek] at k1
        have h200 := hot_200 k2
        have k2' := eh.mpr k2
        have F1 : DN mkf (mput N 179 2 (nI (t - 5))) h T (t - 5) Ls D a G := by
          have hcc : ∀ q x, ¬ (q = 179 ∧ x = 2) → (mput N 179 2 (nI (t - 5))).1 q x = N.1 q x := fun q x hq => by rw [mput_at, if_neg hq]
          refine ⟨B.cg (fun x hx => hcc _ _ (by omega)), hT, ⟨by rw [hcc _ _ (by omega)]; exact d0, by rw [mput_at, if_pos ⟨rfl, rfl⟩], by rw [hcc _ _ (by omega)]; exact d8, by rw [hcc _ _ (by omega)]; exact d4, by rw [hcc _ _ (by omega)]; exact d10⟩, dl, fun i hi => ?_, fun j w1 w2 w3 w4 w5 w6 => ?_, I⟩
          · rw [hcc _ _ (by omega), hcc _ _ (by omega), hcc _ _ (by omega), hcc _ _ (by omega), hcc _ _ (by omega)]; exact dc i hi
          · rw [hcc _ _ (by omega)]; exact Q j w1 w2 w3 w4 w5 w6
        obtain ⟨N2, b1, b2, b3, b4, b5, b6, b7, b8⟩ := ih fu _ T _ _ D _ _ F1 (by omega) (by omega) (by omega) (by omega) hc
        rw [dP_tick (by omega) k1 k2', show max 20 (t - 5) = t - 5 by omega]
        refine ⟨N2, ?_, b2, b3, b4, b5, b6, b7, (Fdy.pt N 2 _).tr b8⟩
        rw [e0 r q1, k3, if_neg (show ¬ nI 3 = -1 from nI_ng (by omega)), if_pos (show nI 3 = 3 from rfl), show (5 : Int32) = nI 5 from rfl, falls_r d2 h400 (by omega) h20, Option.bind_some, show max 20 (t - 5) = t - 5 by omega]
        exact b1
      · rw [← ek] at k1
        have k2' : ¬ hotP t (aT h f h 0 T) := fun q => k2 (eh.mp q)
        rw [dP_end (by omega) k1 k2']
        obtain ⟨fu, rfl⟩ : ∃ n', fu = n' + 1 := ⟨fu - 1, by omega⟩
        have hd := dl_r (N := N) T [] FUEL D N B d4 rfl (fuel8 (by omega))
        obtain ⟨N3, hN3⟩ : ∃ N3, N3 = mput (mput N 179 4 (D + nI (sz T))) 179 7 (nI 0) := ⟨_, rfl⟩
        have c3 : ∀ q x, ¬ (q = 179 ∧ (x = 4 ∨ x = 7)) → N3.1 q x = N.1 q x := fun q x hq => by rw [hN3, mput_at, if_neg (by omega), mput_at, if_neg (by omega)]
        have c37 : N3.1 179 7 = nI 0 := by rw [hN3, mput_at, if_pos ⟨rfl, rfl⟩]
        refine ⟨N3, ?_, ⟨by rw [c3 _ _ (by omega)]; exact d0, by rw [c3 _ _ (by omega)]; exact d2, c37, by rw [List.append_nil, c3 _ _ (by omega)]; exact d8, ?_, by rw [c3 _ _ (by omega)]; exact d10⟩, ?_, fun j w1 w2 w3 w4 w5 w6 => ?_, I, by rw [hWs]; rfl, by rw [List.append_nil]; omega, fun q x w1 w2 w3 => c3 q x (by omega), fun x w1 w2 => c3 _ _ (by omega), by rw [hN3]; rfl⟩
        · rw [e0 r q1, k3, if_pos (show NG = -1 from rfl), show lX12_dayWith_132 FUEL 0 N = some (mput N 179 4 (D + nI (sz T))) from hd, Option.bind_some, l_7, l_0, ast_n (by omega) (by omega), Option.bind_some, ← hN3, lX12_dayWith_107, l_7, ald_n (by omega) (by omega), Option.bind_some, c37, if_pos (show nI 0 ≤ 0 by decide)]
        · dsimp only
          rw [hN3, mput_at, if_neg (by omega), mput_at, if_pos ⟨rfl, rfl⟩, hWs]
        · rw [List.append_nil]
          intro i hi
          rw [c3 _ _ (by omega), c3 _ _ (by omega), c3 _ _ (by omega), c3 _ _ (by omega), c3 _ _ (by omega)]
          exact dc i hi
        · rw [c3 _ _ (by omega)]
          exact Q j w1 w2 w3 w4 w5 w6
/-! wood is brought, excuses are over: both sides -/
def xz (γ : Nat → Int32) (h j : Nat) : Nat → Int32 := fun k => if 9 + 4 * j ≤ k ∧ k < 9 + 4 * h ∧ (k - 9) % 4 = 3 then nI 0 else γ k
theorem xz_c {h : Nat} : ∀ (m j n : Nat) (M : Mem) (γ : Nat → Int32), HH M γ h → j + m = h → m < n → ∃ M', lX4_bringWood_27 2 n (nI j) M = some M' ∧ HH M' (xz γ h j) h ∧ (∀ q x, q ≠ 8 → M'.1 q x = M.1 q x) ∧ M'.2 = M.2 := by
  intro m
  induction m with
  | zero =>
    intro j n M γ H h1 h2
    obtain ⟨n, rfl⟩ : ∃ n', n = n' + 1 := ⟨n - 1, by omega⟩
    have hh := H.1
    refine ⟨M, ?_, H.cg (fun _ _ _ _ => rfl) (fun k _ _ => ?_), fun _ _ _ => rfl, rfl⟩
    · rw [lX4_bringWood_27, H.2.1, if_pos (pI_le (by omega) (by omega))]
    · simp only [xz]; rw [if_neg (by omega)]
  | succ m ih =>
    intro j n M γ H h1 h2
    obtain ⟨n, rfl⟩ : ∃ n', n = n' + 1 := ⟨n - 1, by omega⟩
    have hh := H.1
    obtain ⟨M', a1, a2, a3, a4⟩ := ih (j + 1) n _ _ (H.pt (show j < 8 by omega) (show 3 < 4 by omega) (nI 0)) (by omega) (by omega)
    refine ⟨M', ?_, a2.cg (fun _ _ _ _ => rfl) (fun k hk _ => ?_), fun q x hq => by rw [a3 q x hq, mput_at, if_neg (by omega)], a4⟩
    · rw [lX4_bringWood_27, H.2.1, if_neg (pI_nle (by omega) (by omega)), l_3, l_0]
      show ((fX7_put 3 4 8 _ _ _ M).bind _) = _
      rw [X7_put (by omega) (by omega) (by omega) (by omega), Option.bind_some, l_1, nI_ad]
      exact a1
    · simp only [xz]
      by_cases e : k = 9 + 4 * j + 3
      · subst e; rw [if_pos (by omega), if_neg (by omega), ru_at]
      · rw [ru_ne _ e]
        by_cases e2 : 9 + 4 * j ≤ k ∧ k < 9 + 4 * h ∧ (k - 9) % 4 = 3
        · rw [if_pos e2, if_pos (by omega)]
        · rw [if_neg e2, if_neg (by omega)]
theorem xz_r {h : Nat} (hh : h ≤ 8) : ∀ (m j n : Nat) (N : Mem) (γ : Nat → Int32), Ro N γ → γ 0 = nI h → j + m = h → m < n → ∃ N', lX12_dayWith_29 n (nI j) N = some N' ∧ Ro N' (xz γ h j) ∧ (∀ q x, q ≠ 179 → N'.1 q x = N.1 q x) ∧ N'.2 = N.2 := by
  intro m
  induction m with
  | zero =>
    intro j n N γ R h0 h1 h2
    obtain ⟨n, rfl⟩ : ∃ n', n = n' + 1 := ⟨n - 1, by omega⟩
    refine ⟨N, ?_, fun k hk => ?_, fun _ _ _ => rfl, rfl⟩
    · rw [lX12_dayWith_29, l_0, R.at (by omega), Option.bind_some, h0, if_pos (pI_le (by omega) (by omega))]
    · simp only [xz]; rw [if_neg (by omega)]; exact R k hk
  | succ m ih =>
    intro j n N γ R h0 h1 h2
    obtain ⟨n, rfl⟩ : ∃ n', n = n' + 1 := ⟨n - 1, by omega⟩
    obtain ⟨N', a1, a2, a3, a4⟩ := ih (j + 1) n _ _ (R.pt (9 + 4 * j + 3) (nI 0)) (by rw [ru_ne _ (by omega)]; exact h0) (by omega) (by omega)
    refine ⟨N', ?_, fun k hk => ?_, fun q x hq => by rw [a3 q x hq, mput_at, if_neg (by omega)], a4⟩
    · rw [lX12_dayWith_29, l_0, R.at (by omega), Option.bind_some, h0, if_neg (pI_nle (by omega) (by omega)), l_3, X12_lays' (by omega) (by omega), Option.bind_some, l_1, nI_ad]
      exact a1
    · rw [a2 k hk]
      simp only [xz]
      by_cases e : k = 9 + 4 * j + 3
      · subst e; rw [if_neg (by omega), ru_at, if_pos (by omega)]
      · rw [ru_ne _ e]
        by_cases e2 : 9 + 4 * j ≤ k ∧ k < 9 + 4 * h ∧ (k - 9) % 4 = 3
        · rw [if_pos e2]
          by_cases e3 : 9 + 4 * (j + 1) ≤ k ∧ k < 9 + 4 * h ∧ (k - 9) % 4 = 3
          · rw [if_pos e3]
          · omega
        · rw [if_neg e2, if_neg (by omega)]
/-- the row when the wood has been brought -/
def wdz (ρ : Nat → Int32) (h f w : Nat) : Nat → Int32 := xz (ru ρ (9 + 4 * f + 1) (ρ (9 + 4 * f + 1) + nI w)) h 0
theorem wdz_ne {ρ : Nat → Int32} {h f w k : Nat} (h1 : ∀ i, i < h → k ≠ 9 + 4 * i + 3) (h2 : k ≠ 9 + 4 * f + 1) : wdz ρ h f w k = ρ k := by
  unfold wdz xz
  by_cases e : 9 + 4 * 0 ≤ k ∧ k < 9 + 4 * h ∧ (k - 9) % 4 = 3
  · exact absurd (show k = 9 + 4 * ((k - 9) / 4) + 3 by omega) (h1 _ (by omega))
  · rw [if_neg e, ru_ne _ h2]
def bqt (ρ : Nat → Int32) (i : Nat) : T3 := (hbq ρ i, (ρ (41 + 3 * i + 1)).toNatClampNeg, (ρ (41 + 3 * i + 2)).toNatClampNeg)
theorem bqt_ok {ρ : Nat → Int32} {h b i : Nat} (hh : h ≤ 8) (W : RB ρ h b) (hi : i < b) : ρ (41 + 3 * i) = nI (bqt ρ i).1 ∧ ρ (41 + 3 * i + 1) = nI (bqt ρ i).2.1 ∧ ρ (41 + 3 * i + 2) = nI (bqt ρ i).2.2 ∧ (bqt ρ i).1 < h ∧ (bqt ρ i).2.1 < 3 ∧ 1 ≤ (bqt ρ i).2.2 ∧ (bqt ρ i).2.2 ≤ 12 := by
  obtain ⟨⟨a, ha, e1⟩, ⟨k, hk, e2⟩, ⟨z, hz1, hz2, e3⟩⟩ := W i hi
  unfold bqt hbq
  dsimp only
  rw [e1, e2, e3, mI_tc (by omega), mI_tc (by omega), mI_tc (by omega)]
  exact ⟨rfl, rfl, rfl, ha, hk, hz1, hz2⟩
theorem tb_at (tr : Nat → T3) : ∀ (m j i : Nat), i < m → (tb tr j m).getD i t0 = tr (j + i) := by
  intro m
  induction m with
  | zero => intro j i h; omega
  | succ m ih =>
    intro j i h
    rw [tb]
    cases i with
    | zero => rfl
    | succ i =>
      rw [show j + (i + 1) = j + 1 + i by omega, ← ih (j + 1) i (by omega)]; rfl
def mkq (ρ : Nat → Int32) (i : Nat) : Nat := (ρ (9 + 4 * i)).toNatClampNeg
theorem mkq_ok {ρ : Nat → Int32} {h i : Nat} (W : RH ρ h) (hi : i < h) : ρ (9 + 4 * i) = nI (mkq ρ i) ∧ mkq ρ i < 65536 := by
  obtain ⟨m, m1, m2, e⟩ := W.1 i hi
  unfold mkq
  rw [e, mI_tc (by omega)]
  exact ⟨rfl, m2⟩
