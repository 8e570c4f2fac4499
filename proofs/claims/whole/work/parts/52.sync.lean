def pastOf (M : Mem) : Nat → Nat → Int32 := fun i k => M.1 180 (1601 * i + k)
theorem URn.row {M : Mem} {past past' : Nat → Nat → Int32} {s l : Nat} (U : URn M past s l) (hp : ∀ i k, i < s → k < 1601 → past' i k = past i k) : URn M past' s l := by
  obtain ⟨hs, hl, hc, hl1, hU⟩ := U
  refine ⟨hs, hl, hc, hl1, fun i hi => ?_⟩
  obtain ⟨h, b, g, c, H⟩ := hU i hi
  exact ⟨h, b, g, c, H.row fun k hk => hp _ k (by omega) hk⟩
theorem URn.mem {M M' : Mem} {past : Nat → Nat → Int32} {s l : Nat} (U : URn M past s l) (hM : ∀ q x, 45 ≤ q → q < 175 → M'.1 q x = M.1 q x) : URn M' past s l := by
  obtain ⟨hs, hl, hc, hl1, hU⟩ := U
  have hl2 : ∀ i, (l + 4 - i) % 4 < 4 := fun i => Nat.mod_lt _ (by omega)
  refine ⟨hs, hl, by rw [hM 45 2 (by omega) (by omega)]; exact hc, by rw [hM 45 1 (by omega) (by omega)]; exact hl1, fun i hi => ?_⟩
  obtain ⟨h, b, g, c, H⟩ := hU i hi
  exact ⟨h, b, g, c, H.mem fun a x ha => hM _ _ (by omega) (by have := hl2 i; omega)⟩
/-- both sides hold the same: the village and the row now, the undo stack and the past -/
def Rel (M : Mem) (h b g c s l : Nat) : Prop := RVn M 1 (M.1 179) h b g c ∧ URn M (pastOf M) s l ∧ M.1 178 3 = nI s
/-- the class has pushed (and then changed nothing but its village), the reference saves: the same again, but for the village and the row now -/
theorem rel_save {M Mx : Mem} {h b g c s l : Nat} (H : Rel M h b g c s l) (hx : ∀ q x, 178 ≤ q → Mx.1 q x = M.1 q x)
    (hU : URn Mx (fun i => if s = 4 then (if i = 3 then M.1 179 else pastOf M (i + 1)) else (if i = s then M.1 179 else pastOf M i)) (min 4 (s + 1)) ((l + 1) % 4)) :
    ∃ M2, fX12_refused 0 Mx = some (false, mput Mx 178 4 0) ∧ fX12_saves (mput Mx 178 4 0) = some M2 ∧ (∀ q x, q < 178 → M2.1 q x = Mx.1 q x) ∧ (∀ k, M2.1 179 k = M.1 179 k) ∧ (∀ q x, 181 ≤ q → M2.1 q x = M.1 q x) ∧ M2.1 178 4 = 0 ∧ (∀ x, x ≠ 3 → x ≠ 4 → M2.1 178 x = M.1 178 x) ∧ M2.2 = Mx.2 ∧ URn M2 (pastOf M2) (min 4 (s + 1)) ((l + 1) % 4) ∧ M2.1 178 3 = nI (min 4 (s + 1)) := by
  obtain ⟨H1, ⟨hs, -⟩, H3⟩ := H
  have e3 : (mput Mx 178 4 0).1 178 3 = nI s := by rw [mput_at, if_neg (by omega), hx 178 3 (by omega)]; exact H3
  refine ⟨_, rfl, saves_eq e3 hs, fun q x hq => ?_, fun k => ?_, fun q x hq => ?_, ?_, fun x h3 h4 => ?_, rfl, ?_, ?_⟩
  · simp only [svM]
    rw [if_neg (by omega), if_neg (by omega), mput_at, if_neg (by omega)]
  · simp only [svM]
    rw [if_neg (by omega), if_neg (by omega), mput_at, if_neg (by omega), hx 179 k (by omega)]
  · simp only [svM]
    rw [if_neg (by omega), if_neg (by omega), mput_at, if_neg (by omega), hx q x (by omega)]
  · simp only [svM]
    rw [if_neg (by omega), if_neg (by omega), mput_at, if_pos ⟨rfl, rfl⟩]
  · simp only [svM]
    rw [if_neg (by omega), if_neg (by omega), mput_at, if_neg (by omega), hx 178 x (by omega)]
  · refine (hU.mem (M' := svM (mput Mx 178 4 0) s) fun q x h1 h2 => ?_).row fun i k hi hk => ?_
    · simp only [svM]
      rw [if_neg (by omega), if_neg (by omega), mput_at, if_neg (by omega)]
    · have hi4 : i < 4 := Nat.lt_of_lt_of_le hi (Nat.min_le_left _ _)
      have his : i < s + 1 := Nat.lt_of_lt_of_le hi (Nat.min_le_right _ _)
      simp only [pastOf, svM]
      rw [if_neg (by omega), if_pos trivial]
      by_cases h4 : s = 4
      · subst h4
        simp only [if_true]
        by_cases h5 : i = 3
        · subst h5
          rw [if_neg (by omega), if_pos (by omega), if_pos rfl, mput_at, if_neg (by omega), hx 179 _ (by omega), show 1601 * 3 + k - 4803 = k by omega]
        · rw [if_pos (by omega), if_neg h5, mput_at, if_neg (by omega), hx 180 _ (by omega), show 1601 * i + k + 1601 = 1601 * (i + 1) + k by omega]
          rfl
      · simp only [if_neg h4]
        by_cases h5 : i = s
        · subst h5
          rw [if_pos (by omega), if_pos rfl, mput_at, if_neg (by omega), hx 179 _ (by omega), show 1601 * i + k - 1601 * i = k by omega]
        · rw [if_neg (by omega), if_neg h5, mput_at, if_neg (by omega), hx 180 _ (by omega)]
          rfl
  · simp only [svM]
    rw [if_pos ⟨trivial, trivial⟩]
    by_cases h4 : s = 4
    · subst h4; rfl
    · rw [if_neg h4, Nat.min_eq_right (by omega)]
