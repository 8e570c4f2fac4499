theorem Rel.keep {M M3 : Mem} {h b g c s l : Nat} (H : Rel M h b g c s l) (hk : ∀ q x, (1 ≤ q ∧ q < 33) ∨ (45 ≤ q ∧ q < 175) ∨ q = 179 ∨ q = 180 → M3.1 q x = M.1 q x) (h3 : M3.1 178 3 = M.1 178 3) : Rel M3 h b g c s l := by
  obtain ⟨H1, H2, H3⟩ := H
  exact ⟨(H1.mem (M' := M3) fun a x ha => hk _ _ (by omega)).row fun j hj => hk _ _ (by omega), (H2.mem (M' := M3) fun q x h1 h2 => hk _ _ (by omega)).row fun i j hi hj => hk _ _ (by omega), h3.trans H3⟩
/-- the text of commands, and where the last run stopped -/
def Txt (M : Mem) (n : Nat) : Prop := M.1 0 4 = M.1 178 7 ∧ n ≤ 150 ∧ M.1 175 3 = nI n ∧ M.1 178 6 = nI n ∧ ∀ i, i < n → M.1 176 i = M.1 182 i ∧ 0 ≤ M.1 182 i ∧ M.1 182 i ≤ 127
theorem Txt.keep {M M3 : Mem} {n : Nat} (H : Txt M n) (hk : ∀ q x, q = 0 ∨ (175 ≤ q ∧ q < 178) ∨ (181 ≤ q ∧ q < 185) → M3.1 q x = M.1 q x) (h8 : ∀ x, x ≠ 3 → x ≠ 4 → M3.1 178 x = M.1 178 x) : Txt M3 n := by
  obtain ⟨h1, h2, h3, h4, h5⟩ := H
  refine ⟨by rw [hk 0 4 (by omega), h8 7 (by omega) (by omega)]; exact h1, h2, by rw [hk 175 3 (by omega)]; exact h3, by rw [h8 6 (by omega) (by omega)]; exact h4, fun i hi => ?_⟩
  rw [hk 176 i (by omega), hk 182 i (by omega)]
  exact h5 i hi
theorem step25 {M : Mem} {h b g c s l n : Nat} (H : Rel M h b g c s l) (X : Txt M n) : ∃ M3, LS25 M M3 ∧ Rel M3 h b g c s l ∧ Txt M3 n := by
  refine ⟨mput M 178 4 0, ⟨M.1 0 4, rfl, ?_⟩, (rel_refused H 0).1, X.keep (fun q x hq => by rw [mput_at, if_neg (by omega)]) (fun x h3 h4 => by rw [mput_at, if_neg (by omega)])⟩
  unfold fX12_stop pf
  rw [Option.bind_some, mput_at, if_neg (by omega), X.1]
theorem step23 {M : Mem} {h b g c s l n : Nat} (H : Rel M h b g c s l) (X : Txt M n) : ∃ M3, LS23 M M3 ∧ Rel M3 h b g c s l ∧ Txt M3 0 := by
  have e1 : fX11_clearCommands M = some (nI n, mput M 175 3 0) := by
    unfold fX11_clearCommands fX2_empty pf
    simp only [Option.bind_some, un2]
    rw [X.2.2.1]
  refine ⟨mput (mput (mput M 175 3 0) 178 4 0) 178 6 0, ⟨nI n, mput M 175 3 0, e1, ?_⟩, H.keep (fun q x hq => by rw [mput_at, if_neg (by omega), mput_at, if_neg (by omega), mput_at, if_neg (by omega)]) (by rw [mput_at, if_neg (by omega), mput_at, if_neg (by omega), mput_at, if_neg (by omega)]), ?_⟩
  · unfold fX12_clearCommands pf
    rw [Option.bind_some, Option.bind_some, mput_at, if_neg (by omega), mput_at, if_neg (by omega), X.2.2.2.1]
  · refine ⟨?_, by omega, ?_, ?_, fun i hi => absurd hi (by omega)⟩
    · rw [mput_at, if_neg (by omega), mput_at, if_neg (by omega), mput_at, if_neg (by omega), mput_at, if_neg (by omega), mput_at, if_neg (by omega), mput_at, if_neg (by omega)]; exact X.1
    · rw [mput_at, if_neg (by omega), mput_at, if_neg (by omega), mput_at, if_pos ⟨rfl, rfl⟩]; rfl
    · rw [mput_at, if_pos ⟨rfl, rfl⟩]; rfl
