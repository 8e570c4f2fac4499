/-! one call of the law's choice -/
def Ac (o : Option (Int32 × Mem)) (M : Mem) (ρ : Nat → Int32) (n : Nat) : Prop := ∃ its M', o = some (its, M') ∧ ((0 ≤ its ∧ ∃ ρ' h' b' g' c' past' s' l', S31 M' ρ' h' b' g' c' (n + 1) past' s' l' ∧ 0 < s' ∧ past' (s' - 1) = ρ) ∨ ((its = -5000002 ∨ its = -5000003) ∧ M' = M))
theorem un2_id {α β : Type} (o : Option (α × β)) : o.bind (un2 fun a b => some (a, b)) = o := by
  cases o with
  | none => rfl
  | some x => rfl
theorem low_n {x m : Nat} (hx : x < 2 ^ 31) (hm : 0 < m) (hm2 : m < 2 ^ 31) : fL_low (nI x) (nI m) = some (nI (x % m)) := by
  have e : nI x &&& (2147483647 : Int32) = nI x := by
    rw [show (2147483647 : Int32) = nI (2 ^ 31 - 1) from rfl, nA, Nat.and_two_pow_sub_one_eq_mod, Nat.mod_eq_of_lt hx]
  unfold fL_low
  rw [if_neg (show ¬ nI m = 0 from pI_ne (b := 0) (by omega) (by omega) (by omega)), e, mI_md (by omega) (by omega)]
theorem low_v (x : Int32) {m : Nat} (hm : 0 < m) (hm2 : m < 2 ^ 31) : ∃ k, k < m ∧ fL_low x (nI m) = some (nI k) := by
  obtain ⟨n, rfl⟩ := any_nI x
  have e : nI n &&& (2147483647 : Int32) = nI (n % 2 ^ 31) := by
    rw [show (2147483647 : Int32) = nI (2 ^ 31 - 1) from rfl, nA, Nat.and_two_pow_sub_one_eq_mod]
  have hn : n % 2 ^ 31 < 2 ^ 31 := Nat.mod_lt _ (by omega)
  refine ⟨n % 2 ^ 31 % m, Nat.mod_lt _ hm, ?_⟩
  unfold fL_low
  rw [if_neg (show ¬ nI m = 0 from pI_ne (b := 0) (by omega) (by omega) (by omega)), e, mI_md hn (by omega)]
section AC
variable {M : Mem} {ρ : Nat → Int32} {h b g c n : Nat} {past : Nat → Nat → Int32} {s l : Nat}
theorem Ac.ok {o : Option (Nat ⊕ (Int32 × Mem))} {e : Nat → Option (Int32 × Mem)} (H : S31 M ρ h b g c n past s l) {fc : Mem → Option (Int32 × Mem)} (ho : ∀ Mp, fX8_push 1 M = some Mp → o = (fc Mp).bind (un2 fun v M9 => some (Sum.inr (v, M9)))) (hf : ∀ Mp, Vi Mp ρ h b g c → Od1 fc Mp ρ h b g c n) : Ac (fT o e) M ρ n := by
  obtain ⟨Mp, past', e1, H1, e2, e3⟩ := push_s H
  obtain ⟨r, M', ρ', h', b', g', c', a1, a2, a3, a4, a5⟩ := hf Mp H1.1
  refine ⟨nI r, M', fT_r ?_, Or.inl ⟨pI_le (a := 0) (by omega) (by omega), ρ', h', b', g', c', past', _, _, (H1.op a3 a4 (Nat.le_refl _) a5).up (Nat.le_succ _), by omega, e2⟩⟩
  rw [ho Mp e1, a1, Option.bind_some]
  exact un2i rfl
theorem Ac.no {o : Option (Nat ⊕ (Int32 × Mem))} {e : Nat → Option (Int32 × Mem)} {k : Nat} {its : Int32} (ho : o = some (Sum.inl k)) (he : e k = some (its, M)) (hi : its = -5000002 ∨ its = -5000003) : Ac (fT o e) M ρ n := ⟨its, M, fT_l ho he, Or.inr ⟨hi, rfl⟩⟩
theorem ac_join (H : S31 M ρ h b g c n past s l) {m : Nat} (hm : 1 ≤ m) (hm2 : m < 65536) : Ac (fL_join (nI m) M) M ρ n := by
  rcases join_w H.1.1 (nI m) with ⟨q, -⟩ | ⟨-, -, e⟩ | ⟨e, q1, q2, q3⟩
  · exact absurd ⟨pI_le (a := 1) hm (by omega), pI_le (b := 65535) (by omega) (by omega)⟩ q
  · exact Ac.no (k := 3) (X_join (k := 3) e (by omega)) rfl (Or.inl rfl)
  · refine Ac.ok H (fc := fX4_add 2 (nI m)) (fun Mp ep => ?_) fun Mp V => ov_join V H.2.1 q1 q2 q3
    unfold fX11_join
    rw [e, Option.bind_some, refuse_0, Option.bind_some]
    show (fX8_push 1 M).bind _ = _
    rw [ep, Option.bind_some]
theorem ac_remark (H : S31 M ρ h b g c n past s l) {z : Int32} (hz : (h = 0 ∧ z = 0) ∨ ∃ i, i < h ∧ z = nI i) {m : Nat} (hm : 1 ≤ m) (hm2 : m < 65536) : Ac (fL_remark z (nI m) M) M ρ n := by
  have hx : (1 : Int32) ≤ nI m ∧ nI m ≤ 65535 := ⟨pI_le (a := 1) hm (by omega), pI_le (b := 65535) (by omega) (by omega)⟩
  rcases hz with ⟨h0, rfl⟩ | ⟨i, hi, rfl⟩
  · subst h0
    exact Ac.no (k := 1) (X_remark (k := 1) (remark_x1 H.1.1 (by decide) _) (by omega)) rfl (Or.inr rfl)
  · rcases remark_w H.1.1 H.2.1.1.1 hi (nI m) hx with e | ⟨e, q⟩
    · exact Ac.no (k := 3) (X_remark (k := 3) e (by omega)) rfl (Or.inl rfl)
    · refine Ac.ok H (fc := fX4_changeMark 2 (nI i) (nI m)) (fun Mp ep => ?_) fun Mp V => ov_remark V H.2.1 hi ⟨m, hm, hm2, rfl⟩ q
      unfold fX11_remark
      rw [e, Option.bind_some, refuse_0, Option.bind_some]
      show (fX8_push 1 M).bind _ = _
      rw [ep, Option.bind_some]
theorem no_who (H : S31 M ρ 0 b g c n past s l) : ¬ ((0 : Int32) ≤ 0 ∧ (0 : Int32) < nI 0) := by decide
theorem ac_excuse (H : S31 M ρ h b g c n past s l) {z : Int32} (hz : (h = 0 ∧ z = 0) ∨ ∃ i, i < h ∧ z = nI i) : Ac (fL_excuse z M) M ρ n := by
  rcases hz with ⟨h0, rfl⟩ | ⟨i, hi, rfl⟩
  · subst h0
    exact Ac.no (k := 1) (X_excuse H.1 (no_who H)) rfl (Or.inr rfl)
  · refine Ac.ok H (fc := fX4_excuseOne 2 (nI i)) (fun Mp ep => ?_) fun Mp V => ov_excuse V H.2.1 hi
    unfold fX11_excuse
    rw [who1 H.1.1, if_pos (who_i hi H.1.1.1), Option.bind_some, refuse_0, Option.bind_some]
    show (fX8_push 1 M).bind _ = _
    rw [ep, Option.bind_some]
theorem ac_bring (H : S31 M ρ h b g c n past s l) {z : Int32} (hz : (h = 0 ∧ z = 0) ∨ ∃ i, i < h ∧ z = nI i) {k w : Nat} (hk : k < 3) (hw : 1 ≤ w) (hw2 : w ≤ 12) : Ac (fL_bring z (nI k) (nI w) M) M ρ n := by
  rcases bring_w H.1.1 H.1.2.1 z (nI k) (nI w) with ⟨-, e⟩ | ⟨-, q, -⟩ | e | ⟨e, q1, q2, q3, q4⟩
  · exact Ac.no (k := 1) (X_bring (k := 1) e (by omega)) rfl (Or.inr rfl)
  · exact absurd ⟨⟨pI_le (a := 0) (by omega) (by omega), pI_le (b := 2) (by omega) (by omega)⟩, pI_le (a := 1) hw (by omega), pI_le (b := 12) hw2 (by omega)⟩ q
  · exact Ac.no (k := 3) (X_bring (k := 3) e (by omega)) rfl (Or.inl rfl)
  · refine Ac.ok H (fc := fX1_add 9 z (nI k) (nI w)) (fun Mp ep => ?_) fun Mp V => ov_bring V H.2.1 q1 q2 q3 q4
    unfold fX11_bring
    rw [e, Option.bind_some, refuse_0, Option.bind_some]
    show (fX8_push 1 M).bind _ = _
    rw [ep, Option.bind_some]
theorem ac_take (H : S31 M ρ h b g c n past s l) {i : Nat} (hi : i < b) : Ac (fL_takeBack (nI i) M) M ρ n := by
  have hb := H.1.2.1.1
  refine Ac.ok H (fc := fX1_remove 9 (nI i)) (fun Mp ep => ?_) fun Mp V => ov_take V H.2.1 hi
  unfold fX11_takeBack
  rw [has_b H.1 (by omega), decide_eq_true hi, Option.bind_some, if_pos rfl, Option.bind_some, refuse_0, Option.bind_some]
  show (fX8_push 1 M).bind _ = _
  rw [ep, Option.bind_some]
theorem ac_setS (H : S31 M ρ h b g c n past s l) {x : Nat} (hx : x < 2 ^ 31) : Ac (fL_setS (nI x) M) M ρ n := by
  have h0 : (0 : Int32) ≤ nI x := pI_le (a := 0) (by omega) (by omega)
  refine Ac.ok H (fc := fX9_changeS 1 (nI x)) (fun Mp ep => ?_) fun Mp V => ov_setS V H.2.1 h0
  unfold fX11_setS
  rw [if_pos h0, Option.bind_some, refuse_0, Option.bind_some]
  show (fX8_push 1 M).bind _ = _
  rw [ep, Option.bind_some]
theorem ac_bake (H : S31 M ρ h b g c n past s l) {w : Nat} (hw : 1 ≤ w) (hw2 : w ≤ 40) (hn : n < 1000) : Ac (fL_bake (nI w) M) M ρ n := by
  by_cases hb0 : b = 0
  · rcases day_w H.1.2.1 (nI w) with ⟨q, -⟩ | ⟨-, -, e⟩ | ⟨-, q, -⟩
    · exact absurd ⟨pI_le (a := 1) hw (by omega), pI_le (b := 40) hw2 (by omega)⟩ q
    · exact Ac.no (k := 3) (X_bake (k := 3) e (by omega)) rfl (Or.inl rfl)
    · omega
  · obtain ⟨M', ρ', g', c', f, past', k1, H', k3, -, k5, -⟩ := bake_x H (by omega) hw hw2 (by omega)
    have hc' := H'.1.2.2.2.1.1
    refine ⟨nI c' - nI c, M', fT_r k1, Or.inl ⟨?_, ρ', h, 0, g', c', past', _, _, H', by omega, k3⟩⟩
    rw [mI_sb k5 (by omega)]
    exact pI_le (a := 0) (by omega) (by omega)
theorem ac_claim (H : S31 M ρ h b g c n past s l) {z : Int32} (hz : (h = 0 ∧ z = 0) ∨ ∃ i, i < h ∧ z = nI i) : Ac (fL_claim z M) M ρ n := by
  rcases hz with ⟨h0, rfl⟩ | ⟨i, hi, rfl⟩
  · subst h0
    exact Ac.no (k := 1) (X_claim H.1 (no_who H)) rfl (Or.inr rfl)
  · obtain ⟨T, S, M', ρ', past', k1, H', k3, -, k5, -⟩ := claim_x H hi
    have := k5.2.2.1
    have hS : S ≤ 200 := Nat.le_trans (show S ≤ cH ρ c 8 by omega) (Nat.le_trans (cH_k ρ c 8) (Nat.min_le_right _ _))
    exact ⟨nI S, M', fT_r k1, Or.inl ⟨pI_le (a := 0) (by omega) (by omega), ρ', h, b, g, c, past', _, _, H'.up (Nat.le_succ _), by omega, k3⟩⟩
theorem ac_return (H : S31 M ρ h b g c n past s l) {z : Int32} (hz : (h = 0 ∧ z = 0) ∨ ∃ i, i < h ∧ z = nI i) : Ac (fL_returnLoaves z M) M ρ n := by
  rcases hz with ⟨h0, rfl⟩ | ⟨i, hi, rfl⟩
  · subst h0
    exact Ac.no (k := 1) (X_return H.1 (no_who H)) rfl (Or.inr rfl)
  · obtain ⟨T, S, M', ρ', past', k1, H', k3, -, k5, -⟩ := return_x H hi
    have := k5.2.2.1
    have hS : S ≤ 200 := Nat.le_trans (show S ≤ cH ρ' c 8 by omega) (Nat.le_trans (cH_k ρ' c 8) (Nat.min_le_right _ _))
    exact ⟨nI S, M', fT_r k1, Or.inl ⟨pI_le (a := 0) (by omega) (by omega), ρ', h, b, g, c, past', _, _, H'.up (Nat.le_succ _), by omega, k3⟩⟩
theorem ac_give (H : S31 M ρ h b g c n past s l) : Ac (fX11_giveAway M) M ρ n := by
  obtain ⟨Mp, past', e1, H1, e2, e3⟩ := push_s H
  obtain ⟨r, M', ρ', h', b', g', c', a1, a2, a3, a4, a5⟩ := ov_give H1.1 H1.2.1
  refine ⟨nI r, M', ?_, Or.inl ⟨pI_le (a := 0) (by omega) (by omega), ρ', h', b', g', c', past', _, _, (H1.op a3 a4 (Nat.le_refl _) a5).up (Nat.le_succ _), by omega, e2⟩⟩
  unfold fX11_giveAway
  rw [e1, Option.bind_some, un2_id, a1]
end AC
theorem mk_or {a b : Nat} (ha : a < 16) (hb : b < 16) : 1 ≤ 2 ^ a ||| 2 ^ b ∧ 2 ^ a ||| 2 ^ b < 65536 := by
  have h1 : 2 ^ a < 2 ^ 16 := Nat.pow_lt_pow_right (by omega) ha
  have h2 : 2 ^ b < 2 ^ 16 := Nat.pow_lt_pow_right (by omega) hb
  have h3 : 2 ^ a ≤ 2 ^ a ||| 2 ^ b := Nat.left_le_or
  have h4 : 0 < 2 ^ a := Nat.two_pow_pos a
  exact ⟨by omega, Nat.or_lt_two_pow (n := 16) h1 h2⟩
theorem mk_or3 {a b d : Nat} (ha : a < 16) (hb : b < 16) (hd : d < 16) : 1 ≤ 2 ^ a ||| 2 ^ b ||| 2 ^ d ∧ 2 ^ a ||| 2 ^ b ||| 2 ^ d < 65536 := by
  obtain ⟨h1, h2⟩ := mk_or ha hb
  have h3 : 2 ^ d < 2 ^ 16 := Nat.pow_lt_pow_right (by omega) hd
  have h4 : 2 ^ a ||| 2 ^ b ≤ 2 ^ a ||| 2 ^ b ||| 2 ^ d := Nat.left_le_or
  exact ⟨by omega, Nat.or_lt_two_pow (n := 16) h2 h3⟩
set_option maxHeartbeats 4000000 in
theorem acts_v {M : Mem} {ρ : Nat → Int32} {h b g c n q k y : Nat} {past : Nat → Nat → Int32} {s l : Nat} (H : S31 M ρ h b g c n past s l) (hn : n < 1000) (hq : q < 99999) (hk : k < 16) (hy : y < 1000000) : Ac (fL_acts (nI (16 * q + k)) (nI y) M) M ρ n := by
  have W := H.2.1.1
  have hh := H.1.1.1
  have hb := H.1.2.1.1
  obtain ⟨z, ez, hz⟩ : ∃ z, (if nI h = 0 then (some (0 : Int32)) else (if nI h = 0 then none else some (nI y - nI y / nI h * nI h))) = some z ∧ ((h = 0 ∧ z = 0) ∨ ∃ i, i < h ∧ z = nI i) := by
    by_cases h0 : h = 0
    · subst h0; exact ⟨0, rfl, Or.inl ⟨rfl, rfl⟩⟩
    · have hne : ¬ nI h = (0 : Int32) := pI_ne (b := 0) h0 (by omega) (by omega)
      exact ⟨nI (y % h), by rw [if_neg hne, if_neg hne, mI_md (by omega) (by omega)], Or.inr ⟨y % h, Nat.mod_lt _ (by omega), rfl⟩⟩
  have e0 : gL_whole (0 : Int32) M = some (nI h) := gw H.1 W.2.2.1 (k := 0) (by omega)
  have e3 : gL_whole (3 : Int32) M = some (nI b) := gw H.1 W.2.2.1 (k := 3) (by omega)
  have el : fL_low (nI (16 * q + k)) (16 : Int32) = some (nI k) := by
    have := low_n (x := 16 * q + k) (m := 16) (by omega) (by omega) (by omega)
    rw [show (16 * q + k) % 16 = k by omega] at this
    exact this
  have dv : ∀ m, 0 < m → m < 1000 → nI y / nI m = nI (y / m) := fun m h1 h2 => mI_dv (by omega) (by omega)
  have md : ∀ a m, a < 2 ^ 31 → 0 < m → m < 2000000 → nI a - nI a / nI m * nI m = nI (a % m) := fun a m h0 h1 h2 => mI_md (by omega) (by omega)
  have hdv : ∀ m, y / m < 2 ^ 31 := fun m => Nat.lt_of_le_of_lt (Nat.div_le_self _ _) (by omega)
  have eM : ((((1 : Int32) <<< ((nI y - nI y / (6 : Int32) * (6 : Int32)) &&& 31)) ||| ((1 : Int32) <<< (((nI y / (6 : Int32)) - (nI y / (6 : Int32)) / (6 : Int32) * (6 : Int32)) &&& 31))) ||| ((1 : Int32) <<< (((nI y / (36 : Int32)) - (nI y / (36 : Int32)) / (16 : Int32) * (16 : Int32)) &&& 31))) = nI (2 ^ (y % 6) ||| 2 ^ (y / 6 % 6) ||| 2 ^ (y / 36 % 16)) := by
    rw [show (6 : Int32) = nI 6 from rfl, show (36 : Int32) = nI 36 from rfl, show (16 : Int32) = nI 16 from rfl, dv 6 (by omega) (by omega), dv 36 (by omega) (by omega), md (y / 6) 6 (hdv 6) (by omega) (by omega), md (y / 36) 16 (hdv 36) (by omega) (by omega), ← dv 6 (by omega) (by omega), md y 6 (by omega) (by omega) (by omega), shl1 _ (by omega), shl1 _ (by omega), shl1 _ (by omega), nO, nO]
  have eR : (((1 : Int32) <<< ((nI y - nI y / (7 : Int32) * (7 : Int32)) &&& 31)) ||| ((1 : Int32) <<< (((nI y / (7 : Int32)) - (nI y / (7 : Int32)) / (16 : Int32) * (16 : Int32)) &&& 31))) = nI (2 ^ (y % 7) ||| 2 ^ (y / 7 % 16)) := by
    rw [show (7 : Int32) = nI 7 from rfl, show (16 : Int32) = nI 16 from rfl, dv 7 (by omega) (by omega), md (y / 7) 16 (hdv 7) (by omega) (by omega), ← dv 7 (by omega) (by omega), md y 7 (by omega) (by omega) (by omega), shl1 _ (by omega), shl1 _ (by omega), nO]
  have eK : ((nI y / (8 : Int32)) - (nI y / (8 : Int32)) / (3 : Int32) * (3 : Int32)) = nI (y / 8 % 3) := by
    rw [show (8 : Int32) = nI 8 from rfl, show (3 : Int32) = nI 3 from rfl, dv 8 (by omega) (by omega), md (y / 8) 3 (hdv 8) (by omega) (by omega)]
  have eZ : ((1 : Int32) + ((nI y / (24 : Int32)) - (nI y / (24 : Int32)) / (12 : Int32) * (12 : Int32))) = nI (1 + y / 24 % 12) := by
    rw [show (24 : Int32) = nI 24 from rfl, show (12 : Int32) = nI 12 from rfl, dv 24 (by omega) (by omega), md (y / 24) 12 (hdv 24) (by omega) (by omega), show (1 : Int32) = nI 1 from rfl, nI_ad]
  have eW : ((1 : Int32) + (nI y - nI y / (40 : Int32) * (40 : Int32))) = nI (1 + y % 40) := by
    rw [show (40 : Int32) = nI 40 from rfl, md y 40 (by omega) (by omega) (by omega), show (1 : Int32) = nI 1 from rfl, nI_ad]
  have eS : (((2000 : Int32) * (nI y - nI y / (1000000 : Int32) * (1000000 : Int32))) + (nI (16 * q + k) - nI (16 * q + k) / (1000 : Int32) * (1000 : Int32))) = nI (2000 * (y % 1000000) + (16 * q + k) % 1000) := by
    rw [show (1000000 : Int32) = nI 1000000 from rfl, show (1000 : Int32) = nI 1000 from rfl, md y 1000000 (by omega) (by omega) (by omega), md (16 * q + k) 1000 (by omega) (by omega) (by omega), show (2000 : Int32) = nI 2000 from rfl, nI_ml', nI_ad]
  have m3 := mk_or3 (a := y % 6) (b := y / 6 % 6) (d := y / 36 % 16) (by omega) (by omega) (by omega)
  have m2 := mk_or (a := y % 7) (b := y / 7 % 16) (by omega) (by omega)
  have aJ := ac_join H m3.1 m3.2
  have aR := ac_remark H hz m2.1 m2.2
  have aB := ac_bring H hz (k := y / 8 % 3) (w := 1 + y / 24 % 12) (by omega) (by omega) (by omega)
  have aD := ac_bake H (w := 1 + y % 40) (by omega) (by omega) hn
  have aC := ac_claim H hz
  have hmod : y % 1000000 = y := Nat.mod_eq_of_lt hy
  have aS := ac_setS H (x := 2000 * (y % 1000000) + (16 * q + k) % 1000) (by omega)
  have aT : Ac (if nI b = (0 : Int32) then ((fL_takeBack (0 : Int32) M).bind (un2 fun v45 M46 => some (v45, M46))) else ((gL_whole (3 : Int32) M).bind fun v39 => if v39 = 0 then none else (fL_takeBack (nI y - nI y / v39 * v39) M).bind (un2 fun v42 M43 => some (v42, M43)))) M ρ n := by
    by_cases b0 : b = 0
    · subst b0
      rw [if_pos (show nI 0 = (0 : Int32) from rfl), un2_id]
      exact Ac.no (k := 1) (X_take H.1 (i := 0) (by omega) (by omega)) rfl (Or.inr rfl)
    · have hne : ¬ nI b = (0 : Int32) := pI_ne (b := 0) b0 (by omega) (by omega)
      rw [if_neg hne, e3, Option.bind_some, if_neg hne, un2_id, mI_md (by omega) (by omega)]
      exact ac_take H (Nat.mod_lt _ (by omega))
  unfold fL_acts
  rw [e0, Option.bind_some, ez, Option.bind_some, el, Option.bind_some, e3, Option.bind_some]
  rw [eM, eR, eK, eZ, eW, eS]
  rw [e3, Option.bind_some] at aT
  clear eM eR eK eZ eW eS ez e0 e3 el
  rcases (show k = 0 ∨ k = 1 ∨ k = 2 ∨ k = 3 ∨ k = 4 ∨ k = 5 ∨ k = 6 ∨ k = 7 ∨ k = 8 ∨ k = 9 ∨ k = 10 ∨ k = 11 ∨ k = 12 ∨ k = 13 ∨ k = 14 ∨ k = 15 by omega) with rfl | rfl | rfl | rfl | rfl | rfl | rfl | rfl | rfl | rfl | rfl | rfl | rfl | rfl | rfl | rfl
  · rw [if_pos (show nI 0 = (0 : Int32) from rfl), un2_id]; exact aJ
  · rw [if_neg (show ¬ nI 1 = (0 : Int32) by decide), if_pos (show nI 1 = (1 : Int32) from rfl), un2_id]; exact aJ
  · rw [if_neg (show ¬ nI 2 = (0 : Int32) by decide), if_neg (show ¬ nI 2 = (1 : Int32) by decide), if_pos (show nI 2 = (2 : Int32) from rfl), un2_id]; exact aR
  · rw [if_neg (show ¬ nI 3 = (0 : Int32) by decide), if_neg (show ¬ nI 3 = (1 : Int32) by decide), if_neg (show ¬ nI 3 = (2 : Int32) by decide), if_pos (show nI 3 = (3 : Int32) from rfl), un2_id]; exact ac_excuse H hz
  · rw [if_neg (show ¬ nI 4 = (0 : Int32) by decide), if_neg (show ¬ nI 4 = (1 : Int32) by decide), if_neg (show ¬ nI 4 = (2 : Int32) by decide), if_neg (show ¬ nI 4 = (3 : Int32) by decide), if_pos (show nI 4 = (4 : Int32) from rfl), un2_id]; exact aB
  · rw [if_neg (show ¬ nI 5 = (0 : Int32) by decide), if_neg (show ¬ nI 5 = (1 : Int32) by decide), if_neg (show ¬ nI 5 = (2 : Int32) by decide), if_neg (show ¬ nI 5 = (3 : Int32) by decide), if_neg (show ¬ nI 5 = (4 : Int32) by decide), if_pos (show nI 5 = (5 : Int32) from rfl), un2_id]; exact aB
  · rw [if_neg (show ¬ nI 6 = (0 : Int32) by decide), if_neg (show ¬ nI 6 = (1 : Int32) by decide), if_neg (show ¬ nI 6 = (2 : Int32) by decide), if_neg (show ¬ nI 6 = (3 : Int32) by decide), if_neg (show ¬ nI 6 = (4 : Int32) by decide), if_neg (show ¬ nI 6 = (5 : Int32) by decide), if_pos (show nI 6 = (6 : Int32) from rfl), un2_id]; exact aB
  · rw [if_neg (show ¬ nI 7 = (0 : Int32) by decide), if_neg (show ¬ nI 7 = (1 : Int32) by decide), if_neg (show ¬ nI 7 = (2 : Int32) by decide), if_neg (show ¬ nI 7 = (3 : Int32) by decide), if_neg (show ¬ nI 7 = (4 : Int32) by decide), if_neg (show ¬ nI 7 = (5 : Int32) by decide), if_neg (show ¬ nI 7 = (6 : Int32) by decide), if_pos (show nI 7 = (7 : Int32) from rfl), un2_id]; exact aB
  · rw [if_neg (show ¬ nI 8 = (0 : Int32) by decide), if_neg (show ¬ nI 8 = (1 : Int32) by decide), if_neg (show ¬ nI 8 = (2 : Int32) by decide), if_neg (show ¬ nI 8 = (3 : Int32) by decide), if_neg (show ¬ nI 8 = (4 : Int32) by decide), if_neg (show ¬ nI 8 = (5 : Int32) by decide), if_neg (show ¬ nI 8 = (6 : Int32) by decide), if_neg (show ¬ nI 8 = (7 : Int32) by decide), if_pos (show nI 8 = (8 : Int32) from rfl), un2_id]; exact aB
  · rw [if_neg (show ¬ nI 9 = (0 : Int32) by decide), if_neg (show ¬ nI 9 = (1 : Int32) by decide), if_neg (show ¬ nI 9 = (2 : Int32) by decide), if_neg (show ¬ nI 9 = (3 : Int32) by decide), if_neg (show ¬ nI 9 = (4 : Int32) by decide), if_neg (show ¬ nI 9 = (5 : Int32) by decide), if_neg (show ¬ nI 9 = (6 : Int32) by decide), if_neg (show ¬ nI 9 = (7 : Int32) by decide), if_neg (show ¬ nI 9 = (8 : Int32) by decide), if_pos (show nI 9 = (9 : Int32) from rfl)]; exact aT
  · rw [if_neg (show ¬ nI 10 = (0 : Int32) by decide), if_neg (show ¬ nI 10 = (1 : Int32) by decide), if_neg (show ¬ nI 10 = (2 : Int32) by decide), if_neg (show ¬ nI 10 = (3 : Int32) by decide), if_neg (show ¬ nI 10 = (4 : Int32) by decide), if_neg (show ¬ nI 10 = (5 : Int32) by decide), if_neg (show ¬ nI 10 = (6 : Int32) by decide), if_neg (show ¬ nI 10 = (7 : Int32) by decide), if_neg (show ¬ nI 10 = (8 : Int32) by decide), if_neg (show ¬ nI 10 = (9 : Int32) by decide), if_pos (show nI 10 = (10 : Int32) from rfl), un2_id]; exact aS
  · rw [if_neg (show ¬ nI 11 = (0 : Int32) by decide), if_neg (show ¬ nI 11 = (1 : Int32) by decide), if_neg (show ¬ nI 11 = (2 : Int32) by decide), if_neg (show ¬ nI 11 = (3 : Int32) by decide), if_neg (show ¬ nI 11 = (4 : Int32) by decide), if_neg (show ¬ nI 11 = (5 : Int32) by decide), if_neg (show ¬ nI 11 = (6 : Int32) by decide), if_neg (show ¬ nI 11 = (7 : Int32) by decide), if_neg (show ¬ nI 11 = (8 : Int32) by decide), if_neg (show ¬ nI 11 = (9 : Int32) by decide), if_neg (show ¬ nI 11 = (10 : Int32) by decide), if_pos (show nI 11 = (11 : Int32) from rfl), un2_id]; exact aD
  · rw [if_neg (show ¬ nI 12 = (0 : Int32) by decide), if_neg (show ¬ nI 12 = (1 : Int32) by decide), if_neg (show ¬ nI 12 = (2 : Int32) by decide), if_neg (show ¬ nI 12 = (3 : Int32) by decide), if_neg (show ¬ nI 12 = (4 : Int32) by decide), if_neg (show ¬ nI 12 = (5 : Int32) by decide), if_neg (show ¬ nI 12 = (6 : Int32) by decide), if_neg (show ¬ nI 12 = (7 : Int32) by decide), if_neg (show ¬ nI 12 = (8 : Int32) by decide), if_neg (show ¬ nI 12 = (9 : Int32) by decide), if_neg (show ¬ nI 12 = (10 : Int32) by decide), if_neg (show ¬ nI 12 = (11 : Int32) by decide), if_pos (show nI 12 = (12 : Int32) from rfl), un2_id]; exact aD
  · rw [if_neg (show ¬ nI 13 = (0 : Int32) by decide), if_neg (show ¬ nI 13 = (1 : Int32) by decide), if_neg (show ¬ nI 13 = (2 : Int32) by decide), if_neg (show ¬ nI 13 = (3 : Int32) by decide), if_neg (show ¬ nI 13 = (4 : Int32) by decide), if_neg (show ¬ nI 13 = (5 : Int32) by decide), if_neg (show ¬ nI 13 = (6 : Int32) by decide), if_neg (show ¬ nI 13 = (7 : Int32) by decide), if_neg (show ¬ nI 13 = (8 : Int32) by decide), if_neg (show ¬ nI 13 = (9 : Int32) by decide), if_neg (show ¬ nI 13 = (10 : Int32) by decide), if_neg (show ¬ nI 13 = (11 : Int32) by decide), if_neg (show ¬ nI 13 = (12 : Int32) by decide), if_pos (show nI 13 = (13 : Int32) from rfl), un2_id]; exact aC
  · rw [if_neg (show ¬ nI 14 = (0 : Int32) by decide), if_neg (show ¬ nI 14 = (1 : Int32) by decide), if_neg (show ¬ nI 14 = (2 : Int32) by decide), if_neg (show ¬ nI 14 = (3 : Int32) by decide), if_neg (show ¬ nI 14 = (4 : Int32) by decide), if_neg (show ¬ nI 14 = (5 : Int32) by decide), if_neg (show ¬ nI 14 = (6 : Int32) by decide), if_neg (show ¬ nI 14 = (7 : Int32) by decide), if_neg (show ¬ nI 14 = (8 : Int32) by decide), if_neg (show ¬ nI 14 = (9 : Int32) by decide), if_neg (show ¬ nI 14 = (10 : Int32) by decide), if_neg (show ¬ nI 14 = (11 : Int32) by decide), if_neg (show ¬ nI 14 = (12 : Int32) by decide), if_neg (show ¬ nI 14 = (13 : Int32) by decide), if_pos (show nI 14 = (14 : Int32) from rfl), un2_id]; exact ac_return H hz
  · rw [if_neg (show ¬ nI 15 = (0 : Int32) by decide), if_neg (show ¬ nI 15 = (1 : Int32) by decide), if_neg (show ¬ nI 15 = (2 : Int32) by decide), if_neg (show ¬ nI 15 = (3 : Int32) by decide), if_neg (show ¬ nI 15 = (4 : Int32) by decide), if_neg (show ¬ nI 15 = (5 : Int32) by decide), if_neg (show ¬ nI 15 = (6 : Int32) by decide), if_neg (show ¬ nI 15 = (7 : Int32) by decide), if_neg (show ¬ nI 15 = (8 : Int32) by decide), if_neg (show ¬ nI 15 = (9 : Int32) by decide), if_neg (show ¬ nI 15 = (10 : Int32) by decide), if_neg (show ¬ nI 15 = (11 : Int32) by decide), if_neg (show ¬ nI 15 = (12 : Int32) by decide), if_neg (show ¬ nI 15 = (13 : Int32) by decide), if_neg (show ¬ nI 15 = (14 : Int32) by decide), un2_id, un2_id]
    split
    · exact ac_give H
    · exact aC
