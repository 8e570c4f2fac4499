/-- join's refusal reads the row alone -/
theorem taken_row {M N : Mem} (e : N.1 179 = M.1 179) (x y : Int32) : ∀ (n : Nat) (a : Bool) (j : Int32), lX12_isTaken_5 x y N n a j = lX12_isTaken_5 x y M n a j := by
  intro n
  induction n with
  | zero => intro a j; rfl
  | succ n ih =>
    intro a j
    simp only [lX12_isTaken_5, fX12_of, e, ih]
theorem bad_row {M N : Mem} (e : N.1 179 = M.1 179) (x : Int32) : fX12_badJoin x N = fX12_badJoin x M := by
  simp only [fX12_badJoin, fX12_isTaken, e, taken_row e]
theorem step0 {M : Mem} {h b g c s l : Nat} (H : Rel M h b g c s l) (p : Int32) : ∃ M3 h' s' l', LS0 p M M3 ∧ Rel M3 h' b g c s' l' ∧ (∀ q x, q = 0 ∨ (175 ≤ q ∧ q < 178) ∨ (181 ≤ q ∧ q < 185) → M3.1 q x = M.1 q x) ∧ (∀ x, x ≠ 3 → x ≠ 4 → M3.1 178 x = M.1 178 x) := by
  obtain ⟨H1, H2, H3⟩ := id H
  rcases join_ok H1 p with ⟨w1, w2⟩ | ⟨w1, w2⟩ | ⟨w1, w2, h8⟩
  · have c1 : fX11_join p M = some (Sum.inl 2) := by
      unfold fX11_join
      rw [w1, Option.bind_some, refuse_k.2.1, Option.bind_some]
      rfl
    have c2 : fX12_join p M = some (0, mput M 178 4 (nI 1)) := by
      unfold fX12_join
      rw [w2, Option.bind_some, show (1 : Int32) = nI 1 from rfl, refused_k (by omega) (by omega), Option.bind_some]
      rfl
    obtain ⟨g1, g2, g3⟩ := rel_refused H (nI 1)
    exact ⟨_, h, s, l, Or.inr (Or.inl ⟨_, c1, c2, by show some ((mput M 178 4 (nI 1)).1 178 4) = _; rw [mput_at, if_pos ⟨rfl, rfl⟩]; rfl⟩), g1, fun q x hq => g2 q x (by omega), g3⟩
  · have c1 : fX11_join p M = some (Sum.inl 3) := by
      unfold fX11_join
      rw [w1, Option.bind_some, refuse_k.2.2, Option.bind_some]
      rfl
    have c2 : fX12_join p M = some (0, mput M 178 4 (nI 2)) := by
      unfold fX12_join
      rw [w2, Option.bind_some, show (2 : Int32) = nI 2 from rfl, refused_k (by omega) (by omega), Option.bind_some]
      rfl
    obtain ⟨g1, g2, g3⟩ := rel_refused H (nI 2)
    exact ⟨_, h, s, l, Or.inr (Or.inr ⟨_, c1, c2, by show some ((mput M 178 4 (nI 2)).1 178 4) = _; rw [mput_at, if_pos ⟨rfl, rfl⟩]; rfl⟩), g1, fun q x hq => g2 q x (by omega), g3⟩
  · obtain ⟨Mp, e, Hp, Hu, hF, h2⟩ := push_eq H2 H1
    have hc : Mp.1 2 1 = nI h := Hp.2.1.1
    obtain ⟨M1, hM1⟩ : ∃ M1, M1 = mput (mput (mput (mput (mput Mp 5 h p) 6 h 0) 7 h 0) 8 h 0) 2 1 (nI (h + 1)) := ⟨_, rfl⟩
    have a1 := add_c h8 hc p
    rw [← hM1] at a1
    have hM1c : ∀ q y, ¬ (q = 2 ∧ y = 1) → ¬ (5 ≤ q ∧ q < 9 ∧ y = h) → M1.1 q y = Mp.1 q y := fun q y n1 n2 => by
      rw [hM1, mput_at, if_neg (by omega), mput_at, if_neg (by omega), mput_at, if_neg (by omega), mput_at, if_neg (by omega), mput_at, if_neg (by omega)]
    have c1 : fX11_join p M = some (Sum.inr (nI h, M1)) := by
      unfold fX11_join
      rw [w1, Option.bind_some, refuse_0, Option.bind_some]
      show (fX8_push 1 M).bind _ = _
      rw [e, Option.bind_some, a1]
      rfl
    obtain ⟨Mx, hMx⟩ : ∃ Mx, Mx = mputL M1 185 0 (nI h).toInt64 := ⟨_, rfl⟩
    have hx1 : ∀ q y, Mx.1 q y = M1.1 q y := fun q y => by rw [hMx]; rfl
    obtain ⟨M2, r1, r2, r3, r4, r5, r6, r7, r8, r9, r10⟩ := rel_save (Mx := Mx) H (fun q x hq => by rw [hx1, hM1c _ _ (by omega) (by omega), hF _ _ (by omega)]) (Hu.mem fun q x g1 g2 => by rw [hx1, hM1c _ _ (by omega) (by omega)])
    have b0 : (mput Mx 178 4 0).1 179 0 = nI h := by rw [mput_at, if_neg (by omega), hx1, hM1c _ _ (by omega) (by omega), hF _ _ (by omega)]; exact H1.2.2.1.1
    have c0 : M2.1 179 0 = nI h := by rw [r4]; exact H1.2.2.1.1
    obtain ⟨M3, hM3⟩ : ∃ M3, M3 = mput (mput (mput (mput (mput M2 179 (9 + 4 * h + 0) p) 179 (9 + 4 * h + 1) 0) 179 (9 + 4 * h + 2) 0) 179 (9 + 4 * h + 3) 0) 179 0 (nI (h + 1)) := ⟨_, rfl⟩
    have a2 := joins_m h8 c0 p
    rw [← hM3] at a2
    have hbad : fX12_badJoin p Mx = some 0 := by
      have e0 : ∀ k, Mx.1 179 k = M.1 179 k := fun k => by rw [hx1, hM1c _ _ (by omega) (by omega), hF _ _ (by omega)]
      rw [← w2]
      have e00 : Mx.1 179 = M.1 179 := funext e0
      exact bad_row e00 p
    have c2 : fX12_join p Mx = some (nI h, M3) := by
      unfold fX12_join
      rw [hbad, Option.bind_some, r1, Option.bind_some]
      simp only [un2, Bool.false_eq_true, if_false]
      rw [r2, Option.bind_some, a2]
      rfl
    have h3c : ∀ q y, q ≠ 179 → M3.1 q y = M2.1 q y := fun q y hq => by
      rw [hM3, mput_at, if_neg (by omega), mput_at, if_neg (by omega), mput_at, if_neg (by omega), mput_at, if_neg (by omega), mput_at, if_neg (by omega)]
    rw [hMx] at c2
    refine ⟨M3, h + 1, min 4 (s + 1), (l + 1) % 4, Or.inl ⟨_, _, _, c1, c2, ?_, rfl, ?_⟩, ⟨?_, ?_, ?_⟩, fun q x hq => ?_, fun x g3 g4 => ?_⟩
    · show some (M3.1 178 4) = _
      rw [h3c _ _ (by omega), r6]
    · rw [hM3]
      show M2.2 185 0 = _
      rw [r8, hMx]; simp [mputL]
    · refine Hp.addH h8 (fun k => if k = 0 then p else 0) (fun a y ha n1 n2 => ?_) ?_ (fun k hk => ?_) (fun j hj n1 n2 => ?_) ?_ (fun k hk => ?_)
      · rw [h3c _ _ (by omega), r3 _ _ (by omega), hx1, hM1c _ _ (by omega) (by omega)]
      · rw [h3c _ _ (by omega), r3 _ _ (by omega), hx1, hM1, mput_at, if_pos ⟨rfl, rfl⟩]
      · rw [h3c _ _ (by omega), r3 _ _ (by omega), hx1, hM1]
        rcases (show k = 0 ∨ k = 1 ∨ k = 2 ∨ k = 3 by omega) with rfl | rfl | rfl | rfl <;> simp [mput_at]
      · rw [hM3, mput_at, if_neg (by omega), mput_at, if_neg (by omega), mput_at, if_neg (by omega), mput_at, if_neg (by omega), mput_at, if_neg (by omega), r4]
      · rw [hM3, mput_at, if_pos ⟨rfl, rfl⟩]
      · rw [hM3]
        rcases (show k = 0 ∨ k = 1 ∨ k = 2 ∨ k = 3 by omega) with rfl | rfl | rfl | rfl <;> simp [mput_at]
    · refine (r9.mem (M' := M3) fun q x g1 g2 => h3c _ _ (by omega)).row fun i k hi hk => ?_
      simp only [pastOf]
      rw [h3c _ _ (by omega)]
    · rw [h3c _ _ (by omega)]; exact r10
    · rw [h3c _ _ (by omega)]
      by_cases hq2 : q < 178
      · rw [r3 _ _ hq2, hx1, hM1c _ _ (by omega) (by omega), hF _ _ (by omega)]
      · rw [r5 _ _ (by omega)]
    · rw [h3c _ _ (by omega), r7 x g3 g4]
