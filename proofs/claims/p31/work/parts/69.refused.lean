/-! what is refused changes nothing -/
section RX
variable {M : Mem} {ρ : Nat → Int32} {h b g c : Nat}
theorem X_join {x : Int32} {k : Nat} (e : fX9_whyNoJoining 1 x M = some (nI k)) (hk : k = 1 ∨ k = 2 ∨ k = 3) : fX11_join x M = some (Sum.inl k) := by
  unfold fX11_join
  rw [e, Option.bind_some]
  rcases hk with rfl | rfl | rfl
  · rw [show fX11_refuse (nI 1) = _ from refuse_k.1]; rfl
  · rw [show fX11_refuse (nI 2) = _ from refuse_k.2.1]; rfl
  · rw [show fX11_refuse (nI 3) = _ from refuse_k.2.2]; rfl
theorem X_remark {x y : Int32} {k : Nat} (e : fX9_whyNoOtherMark 1 x y M = some (nI k)) (hk : k = 1 ∨ k = 2 ∨ k = 3) : fX11_remark x y M = some (Sum.inl k) := by
  unfold fX11_remark
  rw [e, Option.bind_some]
  rcases hk with rfl | rfl | rfl
  · rw [show fX11_refuse (nI 1) = _ from refuse_k.1]; rfl
  · rw [show fX11_refuse (nI 2) = _ from refuse_k.2.1]; rfl
  · rw [show fX11_refuse (nI 3) = _ from refuse_k.2.2]; rfl
theorem X_bring {x y z : Int32} {k : Nat} (e : fX9_whyNoBatch 1 x y z M = some (nI k)) (hk : k = 1 ∨ k = 2 ∨ k = 3) : fX11_bring x y z M = some (Sum.inl k) := by
  unfold fX11_bring
  rw [e, Option.bind_some]
  rcases hk with rfl | rfl | rfl
  · rw [show fX11_refuse (nI 1) = _ from refuse_k.1]; rfl
  · rw [show fX11_refuse (nI 2) = _ from refuse_k.2.1]; rfl
  · rw [show fX11_refuse (nI 3) = _ from refuse_k.2.2]; rfl
theorem X_bake {x : Int32} {k : Nat} (e : fX9_whyNoDay 1 x M = some (nI k)) (hk : k = 1 ∨ k = 2 ∨ k = 3) : fX11_bake x M = some (Sum.inl k) := by
  unfold fX11_bake
  rw [e, Option.bind_some]
  rcases hk with rfl | rfl | rfl
  · rw [show fX11_refuse (nI 1) = _ from refuse_k.1]; rfl
  · rw [show fX11_refuse (nI 2) = _ from refuse_k.2.1]; rfl
  · rw [show fX11_refuse (nI 3) = _ from refuse_k.2.2]; rfl
theorem X_excuse (V : Vi M ρ h b g c) {x : Int32} (hx : ¬ (0 ≤ x ∧ x < nI h)) : fX11_excuse x M = some (Sum.inl 1) := by
  unfold fX11_excuse
  rw [who1 V.1, if_neg hx, Option.bind_some, refuse_k.1]; rfl
theorem X_claim (V : Vi M ρ h b g c) {x : Int32} (hx : ¬ (0 ≤ x ∧ x < nI h)) : fX11_claim x M = some (Sum.inl 1) := by
  unfold fX11_claim
  rw [who1 V.1, if_neg hx, Option.bind_some, refuse_k.1]; rfl
theorem X_return (V : Vi M ρ h b g c) {x : Int32} (hx : ¬ (0 ≤ x ∧ x < nI h)) : fX11_returnLoaves x M = some (Sum.inl 1) := by
  unfold fX11_returnLoaves
  rw [who1 V.1, if_neg hx, Option.bind_some, refuse_k.1]; rfl
theorem has_b (V : Vi M ρ h b g c) {i : Nat} (hi : i < 2 ^ 31) : fX1_has 9 (nI i) M = some (decide (i < b)) := by
  have hb := V.2.1.1
  unfold fX1_has
  rw [V.2.1.2.1, if_neg (show ¬ nI i < 0 from mI_nn (by omega))]
  by_cases e : i < b
  · rw [if_neg (pI_nle e (by omega)), decide_eq_true e]
  · rw [if_pos (pI_le (by omega) (by omega)), decide_eq_false e]
theorem X_take (V : Vi M ρ h b g c) {i : Nat} (hi : b ≤ i) (hi2 : i < 2 ^ 31) : fX11_takeBack (nI i) M = some (Sum.inl 1) := by
  unfold fX11_takeBack
  rw [has_b V hi2, decide_eq_false (by omega), Option.bind_some, if_neg (by decide), Option.bind_some, refuse_k.1]; rfl
theorem X_setS : fX11_setS (-5) M = some (Sum.inl 2) := by
  unfold fX11_setS
  rw [if_neg (by decide), Option.bind_some, refuse_k.2.1]; rfl
theorem X_free : fX11_freeMark 17 M = some (Sum.inl 2) := by
  unfold fX11_freeMark
  rw [wn, if_neg (by decide), Option.bind_some, refuse_k.2.1]; rfl
theorem X_type : fX11_type 128 M = some (Sum.inl 2) := by
  unfold fX11_type
  rw [wn, if_neg (by decide), Option.bind_some, refuse_k.2.1]; rfl
end RX
theorem refused_a {M : Mem} {ρ : Nat → Int32} {h b g c : Nat} (V : Vi M ρ h b g c) (W : Wr ρ h b c) : fL_join (-1) M = some (-5000001, M) ∧ fL_remark (nI h) 0 M = some (-5000003, M) ∧ fL_excuse (-1) M = some (-5000003, M) ∧ fL_bring (nI h) 0 1 M = some (-5000003, M) ∧ fL_takeBack 20 M = some (-5000003, M) ∧ fL_setS (-5) M = some (-5000001, M) ∧ fL_bake 41 M = some (-5000001, M) ∧ fL_claim (nI h) M = some (-5000003, M) ∧ fL_returnLoaves (nI h) M = some (-5000003, M) := by
  have hh := V.1.1
  have hb := V.2.1.1
  have nh : ¬ ((0 : Int32) ≤ nI h ∧ nI h < nI h) := fun q => Int32.lt_irrefl q.2
  refine ⟨fT_l (X_join (k := 2) ?_ (by omega)) rfl, fT_l (X_remark (k := 1) (remark_x1 V.1 nh 0) (by omega)) rfl, fT_l (X_excuse V (fun q => absurd q.1 (by decide))) rfl, fT_l (X_bring (k := 1) ?_ (by omega)) rfl, fT_l (X_take V (i := 20) hb (by omega)) rfl, fT_l X_setS rfl, fT_l (X_bake (k := 2) ?_ (by omega)) rfl, fT_l (X_claim V nh) rfl, fT_l (X_return V nh) rfl⟩
  · rcases join_w V.1 (-1) with q | q | q
    · exact q.2
    · exact absurd q.1 (by decide)
    · obtain ⟨-, -, ⟨m, m1, m2, m3⟩, -⟩ := q
      exact absurd m3.symm (nI_ng (by omega))
  · rcases bring_w V.1 V.2.1 (nI h) 0 1 with q | q | q | q
    · exact q.2
    · exact absurd q.1 nh
    · exfalso
      have : fX9_whyNoBatch 1 (nI h) 0 1 M = some 1 := by
        unfold fX9_whyNoBatch
        rw [show fX4_has (1 + 1) (nI h) M = some _ from has_c V.1 (nI h), decide_eq_false nh, Option.bind_some, if_neg (by decide)]
      rw [this] at q
      exact absurd (Option.some.inj q) (by decide)
    · obtain ⟨-, -, ⟨a, a1, a2⟩, -⟩ := q
      have := (mI_eq (by omega) (by omega)).mp a2
      omega
  · rcases day_w V.2.1 41 with q | q | q
    · exact q.2
    · exact absurd q.1 (by decide)
    · obtain ⟨-, -, ⟨w, w1, w2, w3⟩⟩ := q
      have := (mI_eq (a := 41) (by omega) (by omega)).mp w3
      omega
theorem refused_b {M : Mem} {ρ : Nat → Int32} {h b g c : Nat} (V : Vi M ρ h b g c) (W : Wr ρ h b c) : fL_household (nI h) 0 M = some (-5000003) ∧ fL_due (nI h) M = some (-5000003) ∧ fL_balance (nI h) 0 M = some (-5000003) ∧ fL_batch (-1) 0 M = some (-5000001, M) ∧ fL_whole 7 M = some (nI c) ∧ fL_loaf (nI c) 0 M = some (-5000003) ∧ fL_load 0 (-1) M = some (-5000001) ∧ fL_whole (-1) M = some (-5000001) ∧ fL_doughWith 0 M = some (-5000001, M) ∧ fL_freeMark 17 M = some (-5000001) ∧ fL_type 128 M = some (-5000001, M) ∧ fL_whole 3 M = some (nI b) ∧ fL_whole 0 M = some (nI h) := by
  have nh : ¬ ((0 : Int32) ≤ nI h ∧ nI h < nI h) := fun q => Int32.lt_irrefl q.2
  exact ⟨fT_l (house_x V nh 0) rfl, fT_l (due_x V nh) rfl, fT_l (bal_x V nh 0) rfl, fT_l (batch_x M) rfl, fT_r (whole_v V W.2.2.1 (k := 7) (by omega)), fT_l (loaf_x V (fun q => Int32.lt_irrefl q.2) 0) rfl, fT_l (load_x M) rfl, fT_l (whole_x M) rfl, fT_l (dough_x M) rfl, fT_l X_free rfl, fT_l X_type rfl, fT_r (whole_v V W.2.2.1 (k := 3) (by omega)), fT_r (whole_v V W.2.2.1 (k := 0) (by omega))⟩
theorem refused_c {M : Mem} {ρ : Nat → Int32} {h b g c : Nat} (V : Vi M ρ h b g c) (W : Wr ρ h b c) (h0 : 0 < h) : fL_household 0 0 M = some (ρ 9) ∧ fL_join (ρ 9) M = some (-5000002, M) ∧ fL_remark 0 0 M = some (-5000001, M) ∧ fL_bring 0 3 1 M = some (-5000001, M) ∧ fL_balance 0 3 M = some (-5000001) := by
  have hh := V.1.1
  refine ⟨fT_r (house_v V (i := 0) (k := 0) h0 (by omega)), fT_l (X_join (k := 3) ?_ (by omega)) rfl, fT_l (X_remark (k := 2) (remark_x2 V.1 h0) (by omega)) rfl, fT_l (X_bring (k := 2) ?_ (by omega)) rfl, fT_l (bal_x2 V h0) rfl⟩
  · obtain ⟨m, m1, m2, m3⟩ := W.1.1 0 h0
    have m3' : ρ 9 = nI m := m3
    rcases join_w V.1 (ρ 9) with q | q | q
    · exact absurd (show (1 : Int32) ≤ ρ 9 ∧ ρ 9 ≤ 65535 from by rw [m3']; exact ⟨pI_le (a := 1) m1 (by omega), pI_le (b := 65535) (by omega) (by omega)⟩) q.1
    · exact q.2.2
    · exact absurd rfl (q.2.2.2 0 h0)
  · have hz : (0 : Int32) ≤ nI 0 ∧ nI 0 < nI h := who_i h0 hh
    rcases bring_w V.1 V.2.1 0 3 1 with q | q | q | q
    · exact absurd hz q.1
    · exact q.2.2
    · exfalso
      have : fX9_whyNoBatch 1 (nI 0) 3 1 M = some 2 := by
        unfold fX9_whyNoBatch
        rw [show fX4_has (1 + 1) (nI 0) M = some _ from has_c V.1 (nI 0), decide_eq_true hz, Option.bind_some, if_pos rfl, wb 3 3 2 rfl, if_neg (by decide), Option.bind_some, if_neg (by decide)]
      rw [show fX9_whyNoBatch 1 0 3 1 M = _ from this] at q
      exact absurd (Option.some.inj q) (by decide)
    · obtain ⟨-, -, -, ⟨k, k1, k2⟩, -⟩ := q
      have := (mI_eq (a := 3) (by omega) (by omega)).mp k2
      omega
theorem refused_v {M : Mem} {ρ : Nat → Int32} {h b g c : Nat} (V : Vi M ρ h b g c) (W : Wr ρ h b c) : ∃ M', fL_refused M = some (true, M') ∧ Pq M M' := by
  have hh := V.1.1
  have hb := V.2.1.1
  obtain ⟨M1, p1, q1⟩ := print_v V W
  have V1 := q1.vi V
  obtain ⟨a1, a2, a3, a4, a5, a6, a7, a8, a9⟩ := refused_a V1 W
  obtain ⟨b1, b2, b3, b4, b5, b6, b7, b8, b9, b10, b11, b12, b13⟩ := refused_b V1 W
  -- the middle: either batches wait, or none does
  have mid : ∃ M2, (fL_whole (3 : Int32) M1).bind (fun v81 => if 0 < v81 then (if 0 < nI h then (some (true, M1)) else ((fX11_nextForWood M1).bind fun v85 => if v85 = (-1 : Int32) then (some (true, M1)) else (some (false, M1)))) else ((fL_bake (1 : Int32) M1).bind (un2 fun v88 M89 => if v88 = (-5000002 : Int32) then ((fX11_bestWood M89).bind (un2 fun v92 M93 => if v92 = (-1 : Int32) then ((fL_doughWith (40 : Int32) M93).bind (un2 fun v96 M97 => if v96 = 0 then (if 0 < nI h then (some (true, M97)) else ((fX11_nextForWood M97).bind fun v101 => if v101 = (-1 : Int32) then (some (true, M97)) else (some (false, M97)))) else (some (false, M97)))) else (some (false, M93)))) else (some (false, M89))))) = some (true, M2) ∧ Pq M1 M2 := by
    rw [b12, Option.bind_some]
    by_cases hb0 : b = 0
    · subst hb0
      rw [if_neg (show ¬ (0 : Int32) < nI 0 by decide)]
      have c1 : fL_bake 1 M1 = some (-5000002, M1) := by
        refine fT_l (X_bake (k := 3) ?_ (by omega)) rfl
        rcases day_w V1.2.1 1 with q | q | q
        · exact absurd (show (1 : Int32) ≤ 1 ∧ (1 : Int32) ≤ 40 by decide) q.1
        · exact q.2.2
        · exact absurd q.2.1 (by omega)
      obtain ⟨M2, d1, d2⟩ := dough_v V1 W (w := 40) (by omega) (by omega)
      have d3 : fL_doughWith 40 M1 = some (nI (dgh ρ h 0 40), M2) := fT_r d1
      have V2 := d2.vi V1
      refine ⟨M2, ?_, d2⟩
      refine bo c1 (un2i ?_)
      rw [if_pos rfl]
      refine bo (best_x V1) (un2i ?_)
      rw [if_pos (show NG = -1 from rfl)]
      refine bo d3 (un2i ?_)
      rw [if_pos (show nI (dgh ρ h 0 40) = 0 from by unfold dgh; rw [if_pos rfl]; rfl)]
      by_cases h0 : 0 < nI h
      · rw [if_pos h0]
      · rw [if_neg h0]
        have hz : h = 0 := by
          rcases Nat.eq_zero_or_pos h with q | q
          · exact q
          · exact absurd (show (0 : Int32) < nI h from pI_lt (a := 0) q (by omega)) h0
        subst hz
        rw [next_v V2 W.1, Option.bind_some, if_pos (show enc (nxt ρ 0) = -1 from by unfold nxt nx; rfl)]
    · have h0 : 0 < h := by obtain ⟨⟨a, ha, -⟩, -⟩ := W.2.1 0 (by omega); omega
      refine ⟨M1, ?_, Pq.rf M1⟩
      rw [if_pos (show (0 : Int32) < nI b from pI_lt (a := 0) (by omega) (by omega)), if_pos (show (0 : Int32) < nI h from pI_lt (a := 0) h0 (by omega))]
  obtain ⟨M2, m1, m2⟩ := mid
  have V2 := m2.vi V1
  obtain ⟨M3, p3, q3⟩ := print_v V2 W
  refine ⟨M3, ?_, (q1.tr m2).tr q3⟩
  unfold fL_refused
  refine bo p1 (un2i ?_)
  refine bo b13 ?_
  refine bo a1 (un2i ?_)
  refine bo (v := (true, M1)) ?_ (un2i ?_)
  · rw [if_pos rfl]
    refine bo a2 (un2i ?_)
    rw [if_pos rfl]
    refine bo a3 (un2i ?_)
    rw [if_pos rfl]
    refine bo a4 (un2i ?_)
    rw [if_pos rfl]
    refine bo a5 (un2i ?_)
    rw [if_pos rfl]
    refine bo a6 (un2i ?_)
    rw [if_pos rfl]
    refine bo a7 (un2i ?_)
    rw [if_pos rfl]
    refine bo a8 (un2i ?_)
    rw [if_pos rfl]
    refine bo a9 (un2i ?_)
    rw [if_pos rfl]
    refine bo b1 ?_
    rw [if_pos rfl]
    refine bo b2 ?_
    rw [if_pos rfl]
    refine bo b3 ?_
    rw [if_pos rfl]
    refine bo b4 (un2i ?_)
    rw [if_pos rfl]
    refine bo b5 ?_
    refine bo b6 ?_
    rw [if_pos rfl]
    refine bo b7 ?_
    rw [if_pos rfl]
    refine bo b8 ?_
    rw [if_pos rfl]
  refine bo (v := (true, M2)) ?_ (un2i ?_)
  · rw [if_pos rfl]
    refine bo b9 (un2i ?_)
    rw [if_pos rfl]
    refine bo b10 ?_
    rw [if_pos rfl]
    refine bo b11 (un2i ?_)
    rw [if_pos rfl]
    exact m1
  rw [if_pos rfl]
  by_cases h0 : nI h = 0
  · rw [if_pos h0]
    refine bo p3 (un2i ?_)
    rw [if_pos rfl]
  · rw [if_neg h0]
    have hp : 0 < h := by
      rcases Nat.eq_zero_or_pos h with q | q
      · exact absurd (by rw [q]; rfl) h0
      · exact q
    obtain ⟨c1, c2, c3, c4, c5⟩ := refused_c V2 W hp
    refine bo c1 ?_
    refine bo c2 (un2i ?_)
    rw [if_pos rfl]
    refine bo c3 (un2i ?_)
    rw [if_pos rfl]
    refine bo c4 (un2i ?_)
    rw [if_pos rfl]
    refine bo c5 ?_
    rw [if_pos rfl]
    refine bo p3 (un2i ?_)
    rw [if_pos rfl]
