/-- what a call leaves alone: stop, the plan, the text, the reference's other cells -/
def Keep (M M3 : Mem) : Prop := (∀ q x, q = 0 ∨ (175 ≤ q ∧ q < 178) ∨ 181 ≤ q → M3.1 q x = M.1 q x) ∧ (∀ x, x ≠ 3 → x ≠ 4 → M3.1 178 x = M.1 178 x)
theorem refuse_0 : fX11_refuse 0 = some (Sum.inr ()) := by
  unfold fX11_refuse; rw [if_neg (by decide), if_neg (by decide), if_neg (by decide)]
theorem refuse_k : fX11_refuse 1 = some (Sum.inl 1) ∧ fX11_refuse 2 = some (Sum.inl 2) ∧ fX11_refuse 3 = some (Sum.inl 3) := by
  refine ⟨rfl, ?_, ?_⟩
  · unfold fX11_refuse; rw [if_neg (by decide), if_pos rfl]
  · unfold fX11_refuse; rw [if_neg (by decide), if_neg (by decide), if_pos rfl]
theorem refused_k {M : Mem} {k : Nat} (h : 0 < k) (hk : k < 1000) : fX12_refused (nI k) M = some (true, mput M 178 4 (nI k)) := by
  unfold fX12_refused pf
  rw [Option.bind_some, if_neg (fun q => by rw [show (0 : Int32) = nI 0 from rfl, mI_le (by omega) (by omega)] at q; omega)]
/-- a refusal moves nothing that counts -/
theorem rel_refused {M : Mem} {h b g c s l : Nat} (H : Rel M h b g c s l) (k : Int32) : Rel (mput M 178 4 k) h b g c s l ∧ Keep M (mput M 178 4 k) := by
  obtain ⟨H1, H2, H3⟩ := H
  refine ⟨⟨(H1.mem (M' := mput M 178 4 k) fun a x ha => by rw [mput_at, if_neg (by omega)]).row fun j hj => by rw [mput_at, if_neg (by omega)], (H2.mem (M' := mput M 178 4 k) fun q x h1 h2 => by rw [mput_at, if_neg (by omega)]).row fun i j hi hj => by simp only [pastOf]; rw [mput_at, if_neg (by omega)], by rw [mput_at, if_neg (by omega)]; exact H3⟩, fun q x hq => by rw [mput_at, if_neg (by omega)], fun x h3 h4 => by rw [mput_at, if_neg (by omega)]⟩
theorem step5 {M : Mem} {h b g c s l : Nat} (H : Rel M h b g c s l) (p : Int32) : ∃ M3 s' l', LS5 p M M3 ∧ Rel M3 h b g c s' l' ∧ (∀ q x, q = 0 ∨ (175 ≤ q ∧ q < 178) ∨ (181 ≤ q ∧ q < 185) → M3.1 q x = M.1 q x) ∧ (∀ x, x ≠ 3 → x ≠ 4 → M3.1 178 x = M.1 178 x) := by
  by_cases hp : 0 ≤ p
  · obtain ⟨H1, H2, H3⟩ := id H
    obtain ⟨Mp, e, Hp, Hu, hF, h2⟩ := push_eq H2 H1
    have hMx : ∀ q x, 178 ≤ q → (mputL (mput Mp 1 5 p) 185 0 (Mp.1 1 5).toInt64).1 q x = M.1 q x := fun q x hq => by
      show (mput Mp 1 5 p).1 q x = _
      rw [mput_at, if_neg (by omega), hF _ _ (by omega)]
    obtain ⟨M2, r1, r2, r3, r4, r5, r6, r7, r8, r9, r10⟩ := rel_save H hMx (Hu.mem fun q x h1 h2 => by
      show (mput Mp 1 5 p).1 q x = _
      rw [mput_at, if_neg (by omega)])
    have er : Mp.1 1 5 = M.1 179 1 := Hp.2.2.2.1.2.1
    have c1 : fX11_setS p M = some (Sum.inr (Mp.1 1 5, mput Mp 1 5 p)) := by
      unfold fX11_setS
      rw [if_pos hp, Option.bind_some, refuse_0, Option.bind_some]
      show (fX8_push 1 M).bind _ = _
      rw [e]
      rfl
    have c2 : fX12_setS p (mputL (mput Mp 1 5 p) 185 0 (Mp.1 1 5).toInt64) = some (M2.1 179 1, mput M2 179 1 p) := by
      unfold fX12_setS
      rw [if_pos hp, Option.bind_some, r1, Option.bind_some]
      simp only [un2, Bool.false_eq_true, if_false]
      rw [r2, Option.bind_some, show (1 : Int32) = nI 1 from rfl, ald_n (by omega) (by omega), Option.bind_some, ast_n (by omega) (by omega)]
      rfl
    refine ⟨mput M2 179 1 p, min 4 (s + 1), (l + 1) % 4, Or.inl ⟨_, _, _, c1, c2, ?_, ?_, ?_⟩, ⟨?_, ?_, ?_⟩, fun q x hq => ?_, fun x h3 h4 => ?_⟩
    · show some ((mput M2 179 1 p).1 178 4) = _
      rw [mput_at, if_neg (by omega), r6]
    · rw [r4, er]
    · show M2.2 185 0 = _
      rw [r8]
      simp [mputL]
    · obtain ⟨a1, a2, a3, a4, a5, a6, a7, a8⟩ := Hp
      have hc : ∀ a x, a < 32 → ¬ (a = 0 ∧ x = 5) → (mput M2 179 1 p).1 (1 + a) x = Mp.1 (1 + a) x := fun a x ha hn => by
        rw [mput_at, if_neg (by omega), r3 _ _ (by omega)]
        show (mput Mp 1 5 p).1 _ _ = _
        rw [mput_at, if_neg (by omega)]
      have hr : ∀ k, k ≠ 1 → (mput M2 179 1 p).1 179 k = M.1 179 k := fun k hk => by rw [mput_at, if_neg (by omega), r4]
      have hr1 : (mput M2 179 1 p).1 179 1 = p := by rw [mput_at, if_pos ⟨rfl, rfl⟩]
      have hc1 : (mput M2 179 1 p).1 (1 + 0) 5 = p := by
        rw [mput_at, if_neg (by omega), r3 _ _ (by omega)]
        show (mput Mp 1 5 p).1 (1 + 0) 5 = p
        rw [mput_at, if_pos ⟨rfl, rfl⟩]
      refine ⟨a1, ?_, ?_, ?_, fun i k hi hk => ?_, fun i k hi hk => ?_, fun i k hi hk => ?_, fun i k hi hj hk => ?_⟩
      · rw [hc 1 1 (by omega) (by omega), hc 8 1 (by omega) (by omega), hc 14 1 (by omega) (by omega), hc 22 1 (by omega) (by omega)]; exact a2
      · rw [hr 0 (by omega), hr 7 (by omega), hr 8 (by omega), hr 5 (by omega)]; exact a3
      · rw [hc 0 4 (by omega) (by omega), hc1, hc 0 6 (by omega) (by omega), hc 0 7 (by omega) (by omega), hc 22 2 (by omega) (by omega), hr 2 (by omega), hr1, hr 3 (by omega), hr 4 (by omega), hr 6 (by omega)]
        exact ⟨a4.1, rfl, a4.2.2.1, a4.2.2.2.1, a4.2.2.2.2⟩
      · rw [hc _ _ (by omega) (by omega), hr _ (by omega)]; exact a5 i k hi hk
      · rw [hc _ _ (by omega) (by omega), hr _ (by omega)]; exact a6 i k hi hk
      · rw [hc _ _ (by omega) (by omega), hr _ (by omega)]; exact a7 i k hi hk
      · rw [hc _ _ (by omega) (by omega), hr _ (by omega)]; exact a8 i k hi hj hk
    · refine (r9.mem (M' := mput M2 179 1 p) fun q x h1 h2 => by rw [mput_at, if_neg (by omega)]).row fun i k hi hk => ?_
      simp only [pastOf]
      rw [mput_at, if_neg (by omega)]
    · rw [mput_at, if_neg (by omega)]; exact r10
    · rw [mput_at, if_neg (by omega)]
      by_cases hq2 : q < 178
      · rw [r3 _ _ hq2]
        show (mput Mp 1 5 p).1 _ _ = _
        rw [mput_at, if_neg (by omega), hF _ _ (by omega)]
      · rw [r5 _ _ (by omega)]
    · rw [mput_at, if_neg (by omega), r7 x h3 h4]
  · have c1 : fX11_setS p M = some (Sum.inl 2) := by
      unfold fX11_setS
      rw [if_neg hp, Option.bind_some, refuse_k.2.1, Option.bind_some]
      rfl
    have c2 : fX12_setS p M = some (0, mput M 178 4 (nI 1)) := by
      unfold fX12_setS
      rw [if_neg hp, Option.bind_some, show (1 : Int32) = nI 1 from rfl, refused_k (by omega) (by omega), Option.bind_some]
      rfl
    obtain ⟨g1, g2, g3⟩ := rel_refused H (nI 1)
    exact ⟨_, s, l, Or.inr ⟨_, c1, c2, by show some ((mput M 178 4 (nI 1)).1 178 4) = _; rw [mput_at, if_pos ⟨rfl, rfl⟩]; rfl⟩, g1, fun q x hq => g2 q x (by omega), g3⟩
