/-! to whom a loaf goes: the class alone -/
def Tc (a1 a2 : Int32) (h : Nat) : Prop := (a1 = nI 8 ∧ a2 = nI 17) ∨ ∃ v, v ≤ 16 ∧ a2 = nI v ∧ (a1 = nI 8 ∨ ∃ p, p < h ∧ a1 = nI p)
theorem taker_lc {mkf : Nat → Nat} {M : Mem} {γ : Nat → Int32} {h : Nat} (H : HH M γ h) (hmk : ∀ i, i < h → γ (9 + 4 * i) = nI (mkf i) ∧ mkf i < 65536) (x y : Int32) : ∀ (m j n : Nat) (a1 a2 : Int32), Tc a1 a2 h → j + m = h → m < n → ∃ r, (r = 8 ∨ r < h) ∧ lX4_takerOf_10 2 x y M n a1 a2 (nI j) = some (nI r) := by
  intro m
  have hh := H.1
  induction m with
  | zero =>
    intro j n a1 a2 T h1 h2
    obtain ⟨n, rfl⟩ : ∃ n', n = n' + 1 := ⟨n - 1, by omega⟩
    obtain ⟨r, hr, ea⟩ : ∃ r, (r = 8 ∨ r < h) ∧ a1 = nI r := by
      rcases T with ⟨t1, t2⟩ | ⟨v, t1, t2, t3 | ⟨p, t3, t4⟩⟩
      · exact ⟨8, Or.inl rfl, t1⟩
      · exact ⟨8, Or.inl rfl, t3⟩
      · exact ⟨p, Or.inr t3, t4⟩
    exact ⟨r, hr, by rw [lX4_takerOf_10, H.2.1, if_pos (pI_le (by omega) (by omega)), ea]⟩
  | succ m ih =>
    intro j n a1 a2 T h1 h2
    obtain ⟨n, rfl⟩ : ∃ n', n = n' + 1 := ⟨n - 1, by omega⟩
    obtain ⟨m1, m2⟩ := hmk j (by omega)
    obtain ⟨yn, hyn⟩ := any_nI (x ^^^ (-1 : Int32))
    obtain ⟨d, hd⟩ : ∃ d, d = pc (mkf j &&& yn) := ⟨_, rfl⟩
    have hle : mkf j &&& yn ≤ mkf j := Nat.and_le_left
    have hd16 : d ≤ 16 := by rw [hd]; exact pc_16 (by omega)
    have ef : nI (mkf j) &&& (x ^^^ (-1 : Int32)) = nI (mkf j &&& yn) := by rw [hyn, nA]
    have ec : lX4_takerOf_10 2 x y M (n + 1) a1 a2 (nI j) = if ((y >>> (nI j &&& 31)) &&& (1 : Int32)) = (1 : Int32) then (if x &&& (nI (mkf j) ^^^ (-1 : Int32)) = 0 then (if a2 ≤ nI d then (if nI d = a2 then lX4_takerOf_10 2 x y M n 8 a2 (nI (j + 1)) else lX4_takerOf_10 2 x y M n a1 a2 (nI (j + 1))) else lX4_takerOf_10 2 x y M n (nI j) (nI d) (nI (j + 1))) else lX4_takerOf_10 2 x y M n a1 a2 (nI (j + 1))) else lX4_takerOf_10 2 x y M n a1 a2 (nI (j + 1)) := by
      rw [lX4_takerOf_10, H.2.1, if_neg (pI_nle (by omega) (by omega)), show fX7_get (2 + 1) 4 8 (nI j) 0 M = some (γ (9 + 4 * j + 0)) from H.gt (k := 0) (by omega) (by omega), Option.bind_some, Nat.add_zero, m1, ef, count_n (by omega), Option.bind_some, ← hd, show nI j + (1 : Int32) = nI (j + 1) from nI_ad j 1]
      unfold fX11_contains
      by_cases e : x &&& (nI (mkf j) ^^^ (-1 : Int32)) = 0
      · rw [if_pos e, if_pos e, Option.bind_some, if_pos (show true = true from rfl)]
      · rw [if_neg e, if_neg e, Option.bind_some, if_neg (show ¬ false = true by decide)]
    have T8 : ∀ v, v ≤ 16 → a2 = nI v → Tc 8 a2 h := fun v hv e => Or.inr ⟨v, hv, e, Or.inl rfl⟩
    have Td : Tc (nI j) (nI d) h := Or.inr ⟨d, hd16, rfl, Or.inr ⟨j, by omega, rfl⟩⟩
    rw [ec]
    by_cases c1 : ((y >>> (nI j &&& 31)) &&& (1 : Int32)) = (1 : Int32)
    · rw [if_pos c1]
      by_cases c2 : x &&& (nI (mkf j) ^^^ (-1 : Int32)) = 0
      · rw [if_pos c2]
        by_cases c3 : a2 ≤ nI d
        · rw [if_pos c3]
          by_cases c4 : nI d = a2
          · rw [if_pos c4]; exact ih (j + 1) n _ _ (T8 d hd16 c4.symm) (by omega) (by omega)
          · rw [if_neg c4]; exact ih (j + 1) n _ _ T (by omega) (by omega)
        · rw [if_neg c3]; exact ih (j + 1) n _ _ Td (by omega) (by omega)
      · rw [if_neg c2]; exact ih (j + 1) n _ _ T (by omega) (by omega)
    · rw [if_neg c1]; exact ih (j + 1) n _ _ T (by omega) (by omega)
theorem taker_c {mkf : Nat → Nat} {M : Mem} {γ : Nat → Int32} {h : Nat} (H : HH M γ h) (hmk : ∀ i, i < h → γ (9 + 4 * i) = nI (mkf i) ∧ mkf i < 65536) (x y : Int32) : ∃ r, (r = 8 ∨ r < h) ∧ fX4_takerOf 2 x y M = some (nI r) := by
  obtain ⟨r, hr, q1⟩ := taker_lc H hmk x y h 0 FUEL 8 17 (Or.inl ⟨rfl, rfl⟩) (by omega) (fuel8 (by have := H.1; omega))
  refine ⟨r, hr, ?_⟩
  unfold fX4_takerOf
  rw [l_0, q1]; rfl
/-- only holders differ -/
def Hold (γ γ' : Nat → Int32) (h : Nat) : Prop := ∀ k, γ' k = γ k ∨ (201 ≤ k ∧ (k - 201) % 7 = 5 ∧ (γ' k = nI 8 ∨ ∃ x, x < h ∧ γ' k = nI x))
theorem Hold.tr {α β γ : Nat → Int32} {h : Nat} (A : Hold α β h) (B : Hold β γ h) : Hold α γ h := fun k => by
  rcases B k with e | e
  · rcases A k with q | ⟨q1, q2, q3⟩
    · exact Or.inl (e.trans q)
    · refine Or.inr ⟨q1, q2, ?_⟩
      rw [e]; exact q3
  · exact Or.inr e
theorem Hold.ne {γ γ' : Nat → Int32} {h k : Nat} (A : Hold γ γ' h) (hk : k < 201 ∨ (k - 201) % 7 ≠ 5) : γ' k = γ k := by
  rcases A k with e | ⟨e1, e2, -⟩
  · exact e
  · omega
theorem sort_c {mkf : Nat → Nat} {h c : Nat} (y : Int32) : ∀ (m j n : Nat) (M : Mem) (γ : Nat → Int32), HH M γ h → LL M γ c → (∀ i, i < h → γ (9 + 4 * i) = nI (mkf i) ∧ mkf i < 65536) → j + m = c → m < n → ∃ M' γ', lX6_sortFrom_10 23 2 y n (nI j) M = some M' ∧ HH M' γ' h ∧ LL M' γ' c ∧ Hold γ γ' h ∧ (∀ q x, q ≠ 31 → M'.1 q x = M.1 q x) ∧ M'.2 = M.2 := by
  intro m
  induction m with
  | zero =>
    intro j n M γ H L hmk h1 h2
    obtain ⟨n, rfl⟩ : ∃ n', n = n' + 1 := ⟨n - 1, by omega⟩
    have hc := L.1
    refine ⟨M, γ, ?_, H, L, fun k => Or.inl rfl, fun _ _ _ => rfl, rfl⟩
    rw [lX6_sortFrom_10, L.2.1, if_pos (pI_le (by omega) (by omega))]
  | succ m ih =>
    intro j n M γ H L hmk h1 h2
    obtain ⟨n, rfl⟩ : ∃ n', n = n' + 1 := ⟨n - 1, by omega⟩
    have hc := L.1
    have hj : j % 200 < 200 := Nat.mod_lt _ (by omega)
    obtain ⟨r, hr, q1⟩ := taker_c H hmk (γ (201 + 7 * (j % 200) + 4)) y
    obtain ⟨M', γ', a1, a2, a3, a4, a5, a6⟩ := ih (j + 1) n (mput M (26 + 5) (j % 200) (nI r)) (ru γ (201 + 7 * (j % 200) + 5) (nI r)) (H.cg (fun q x _ _ => by rw [mput_at, if_neg (by omega)]) (fun k _ _ => ru_ne _ (by omega))) (L.pt (by omega) _) (fun i hi => by rw [ru_ne _ (by have := H.1; omega)]; exact hmk i hi) (by omega) (by omega)
    refine ⟨M', γ', ?_, a2, a3, Hold.tr (fun k => ?_) a4, fun q x hq => by rw [a5 q x hq, mput_at, if_neg (by omega)], a6⟩
    · rw [lX6_sortFrom_10, L.2.1, if_neg (pI_nle (by omega) (by omega)), show fX6_value 23 (nI j) 4 M = some _ from L.val (k := 4) (by omega) (by omega), Option.bind_some, q1, Option.bind_some, give_c (by omega), Option.bind_some, l_1, nI_ad]
      exact a1
    · by_cases e : k = 201 + 7 * (j % 200) + 5
      · right
        subst e
        refine ⟨by omega, by omega, ?_⟩
        rw [ru_at]
        rcases hr with rfl | hr
        · exact Or.inl rfl
        · exact Or.inr ⟨r, hr, rfl⟩
      · left; exact ru_ne _ e
theorem Hold.rl {γ γ' : Nat → Int32} {h c : Nat} (A : Hold γ γ' h) (hh : h ≤ 8) (R : RLv γ c) : RLv γ' c := fun r h1 h2 => by
  rcases A (201 + 7 * r + 5) with e | ⟨-, -, e | ⟨x, x1, x2⟩⟩
  · rw [e]; exact R r h1 h2
  · exact Or.inr ⟨8, by omega, e⟩
  · exact Or.inr ⟨x, by omega, x2⟩
theorem Hold.gl {γ γ' : Nat → Int32} {h d r : Nat} (A : Hold γ γ' h) (G : Gl γ h d r) : Gl γ' h d r := by
  obtain ⟨g0, g1, g2, g3, g4, g5⟩ := G
  unfold Gl
  rw [A.ne (k := 201 + 7 * r + 0) (by omega), A.ne (k := 201 + 7 * r + 1) (by omega), A.ne (k := 201 + 7 * r + 2) (by omega), A.ne (k := 201 + 7 * r + 3) (by omega), A.ne (k := 201 + 7 * r + 4) (by omega), A.ne (k := 201 + 7 * r + 6) (by omega)]
  refine ⟨g0, g1, g2, g3, g4, ?_⟩
  rcases A (201 + 7 * r + 5) with e | ⟨-, -, e⟩
  · rw [e]; exact g5
  · exact Or.inr e
theorem Hold.gk {γ γ' : Nat → Int32} {h c d : Nat} (A : Hold γ γ' h) (G : Gk γ h c d) : Gk γ' h c d := by
  obtain ⟨g1, g2, q, q1, q2, q3⟩ := G
  refine ⟨fun r hr => A.gl (g1 r hr), fun i i1 i2 => ?_, q, (A.ne (by omega)).trans q1, q2, ?_⟩
  · rw [A.ne (by omega), A.ne (by omega)]; exact g2 i i1 i2
  · rw [sN_cg (g := fun r => nn (γ (201 + 7 * r + 3))) _ _ fun i _ _ => by rw [A.ne (by omega)]]
    exact q3
