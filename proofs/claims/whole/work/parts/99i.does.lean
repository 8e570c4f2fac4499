/-! what a command does, on both sides -/
theorem bd_id {α : Type} (o : Option α) : (o.bind fun v => some v) = o := by cases o <;> rfl
theorem oc_s {α β : Type} (v : α) (a : Option β) (f : α → Option β) : oc (some v) a f = f v := rfl
theorem sw_i {i : Nat} (hi : i < 7) : ald sSWMAP 7 (nI i) = some (nI (i + 1)) := ald_n hi (by omega)
theorem why_0 (x y z : Int32) (M : Mem) : fX11_whyNoCommand (some 0) x y z M = fX9_whyNoJoining 1 x M := by
  unfold fX11_whyNoCommand
  rw [oc_s, if_neg (by omega), sw_i (by omega), Option.bind_some, if_pos (by decide), bd_id]
theorem why_1 (x y z : Int32) (M : Mem) : fX11_whyNoCommand (some 1) x y z M = fX9_whyNoBatch 1 x y z M := by
  unfold fX11_whyNoCommand
  rw [oc_s, if_neg (by omega), sw_i (by omega), Option.bind_some, if_neg (by decide), if_pos (by decide), bd_id]
theorem why_2 (x y z : Int32) (M : Mem) : fX11_whyNoCommand (some 2) x y z M = fX9_whyNoDay 1 x M := by
  unfold fX11_whyNoCommand
  rw [oc_s, if_neg (by omega), sw_i (by omega), Option.bind_some, if_neg (by decide), if_neg (by decide), if_pos (by decide), bd_id]
theorem why_3 (x y z : Int32) (M : Mem) : fX11_whyNoCommand (some 3) x y z M = fX9_whyNoHousehold 1 x M := by
  unfold fX11_whyNoCommand
  rw [oc_s, if_neg (by omega), sw_i (by omega), Option.bind_some, if_neg (by decide), if_neg (by decide), if_neg (by decide), if_pos (by decide), bd_id]
theorem why_4 (x y z : Int32) (M : Mem) : fX11_whyNoCommand (some 4) x y z M = fX9_whyNoHousehold 1 x M := by
  unfold fX11_whyNoCommand
  rw [oc_s, if_neg (by omega), sw_i (by omega), Option.bind_some, if_neg (by decide), if_neg (by decide), if_neg (by decide), if_neg (by decide), if_pos (by decide), bd_id]
theorem why_5 (x y z : Int32) (M : Mem) : fX11_whyNoCommand (some 5) x y z M = fX9_whyNoHousehold 1 x M := by
  unfold fX11_whyNoCommand
  rw [oc_s, if_neg (by omega), sw_i (by omega), Option.bind_some, if_neg (by decide), if_neg (by decide), if_neg (by decide), if_neg (by decide), if_neg (by decide), if_pos (by decide), bd_id]
theorem why_6 (x y z : Int32) (M : Mem) : fX11_whyNoCommand (some 6) x y z M = some 0 := by
  unfold fX11_whyNoCommand
  rw [oc_s, if_neg (by omega), sw_i (by omega), Option.bind_some, if_neg (by decide), if_neg (by decide), if_neg (by decide), if_neg (by decide), if_neg (by decide), if_neg (by decide)]
theorem car_no {i : Nat} {x y z v : Int32} {M : Mem} (h : fX11_whyNoCommand (some i) x y z M = some v) (hv : v ≠ 0) : fX11_carryOut (some i) x y z M = some (v, M) := by
  unfold fX11_carryOut
  rw [h, Option.bind_some, oc_s, if_neg hv]
/-- what it does when nothing speaks against it -/
def act (i : Nat) (x y z : Int32) (M : Mem) : Option (Int32 × Mem) := if i = 0 then fX4_add 2 x M else if i = 1 then fX1_add 9 x y z M else if i = 2 then fX9_haveDay 1 x M else if i = 3 then fX9_letClaim 1 x M else if i = 4 then fX6_moveToShelf 23 x M else if i = 5 then fX4_excuseOne 2 x M else fX6_emptyShelf 23 M
theorem car_do {i : Nat} (hi : i < 7) {x y z : Int32} {M : Mem} (h : fX11_whyNoCommand (some i) x y z M = some 0) : fX11_carryOut (some i) x y z M = (act i x y z M).bind (un2 fun _ M' => some ((0 : Int32), M')) := by
  unfold fX11_carryOut
  rw [h, Option.bind_some, oc_s, if_pos rfl, if_neg (by omega), sw_i hi, Option.bind_some]
  unfold act
  obtain rfl | rfl | rfl | rfl | rfl | rfl | rfl : i = 0 ∨ i = 1 ∨ i = 2 ∨ i = 3 ∨ i = 4 ∨ i = 5 ∨ i = 6 := by omega
  · rw [if_pos (by decide), if_pos (by decide)]
  · rw [if_neg (by decide), if_pos (by decide), if_neg (by decide), if_pos (by decide)]
  · rw [if_neg (by decide), if_neg (by decide), if_pos (by decide), if_neg (by decide), if_neg (by decide), if_pos (by decide)]
  · rw [if_neg (by decide), if_neg (by decide), if_neg (by decide), if_pos (by decide), if_neg (by decide), if_neg (by decide), if_neg (by decide), if_pos (by decide)]
  · rw [if_neg (by decide), if_neg (by decide), if_neg (by decide), if_neg (by decide), if_pos (by decide), if_neg (by decide), if_neg (by decide), if_neg (by decide), if_neg (by decide), if_pos (by decide)]
  · rw [if_neg (by decide), if_neg (by decide), if_neg (by decide), if_neg (by decide), if_neg (by decide), if_pos (by decide), if_neg (by decide), if_neg (by decide), if_neg (by decide), if_neg (by decide), if_neg (by decide), if_pos (by decide)]
  · rw [if_neg (by decide), if_neg (by decide), if_neg (by decide), if_neg (by decide), if_neg (by decide), if_neg (by decide), if_pos (by decide), if_neg (by decide), if_neg (by decide), if_neg (by decide), if_neg (by decide), if_neg (by decide), if_neg (by decide)]
theorem a184 {N : Mem} {k : Nat} (hk : k < 3) : ald (N.1 184) 3 (nI k) = some (N.1 184 k) := ald_n hk (by omega)
theorem does_0 {N : Mem} {x : Int32} (h : N.1 178 12 = nI 0) (k0 : N.1 184 0 = x) : fX12_does N = (fX12_badJoin x N).bind fun v5 => (if v5 = 0 then ((fX12_joins x N).bind (un2 fun v8 M9 => some (v8, M9))) else (some ((0 : Int32), N))).bind (un2 fun z10 M11 => if v5 = 0 then (some ((0 : Int32), M11)) else (some ((v5 + (1 : Int32)), M11))) := by
  unfold fX12_does
  rw [show ald (N.1 184) 3 (0 : Int32) = some (N.1 184 0) from a184 (k := 0) (by omega), Option.bind_some, h, if_pos (by decide), k0]
theorem does_1 {N : Mem} {x y z : Int32} (h : N.1 178 12 = nI 1) (k0 : N.1 184 0 = x) (k1 : N.1 184 1 = y) (k2 : N.1 184 2 = z) : fX12_does N = (fX12_badBatch x y z N).bind fun v20 => if v20 = 0 then ((fX12_brings x y z N).bind (un2 fun v29 M30 => some (v20, M30))) else (some (v20, N)) := by
  unfold fX12_does
  rw [show ald (N.1 184) 3 (0 : Int32) = some (N.1 184 0) from a184 (k := 0) (by omega), Option.bind_some, h, if_neg (by decide), if_pos (by decide), show ald (N.1 184) 3 (1 : Int32) = some (N.1 184 1) from a184 (k := 1) (by omega), show ald (N.1 184) 3 (2 : Int32) = some (N.1 184 2) from a184 (k := 2) (by omega), k0, k1, k2]
  simp only [Option.bind_some]
theorem does_2 {N : Mem} {x : Int32} (h : N.1 178 12 = nI 2) (k0 : N.1 184 0 = x) : fX12_does N = (fX12_badDay x N).bind fun v32 => (if v32 = 0 then ((fX12_dayWith x N).bind (un2 fun v35 M36 => some (v35, M36))) else (some ((0 : Int32), N))).bind (un2 fun z37 M38 => if v32 = 0 then (some ((0 : Int32), M38)) else (some ((v32 + (1 : Int32)), M38))) := by
  unfold fX12_does
  rw [show ald (N.1 184) 3 (0 : Int32) = some (N.1 184 0) from a184 (k := 0) (by omega), Option.bind_some, h, if_neg (by decide), if_neg (by decide), if_pos (by decide), k0]
theorem does_3 {N : Mem} {x : Int32} (h : N.1 178 12 = nI 3) (k0 : N.1 184 0 = x) : fX12_does N = (fX12_isHouse x N).bind fun b41 => if b41 = true then ((fX12_claims x N).bind (un2 fun v51 M52 => some ((0 : Int32), M52))) else (some ((1 : Int32), N)) := by
  unfold fX12_does
  rw [show ald (N.1 184) 3 (0 : Int32) = some (N.1 184 0) from a184 (k := 0) (by omega), Option.bind_some, h, if_neg (by decide), if_neg (by decide), if_neg (by decide), if_pos (by decide), if_pos (show nI 3 = 3 by decide), k0]
theorem does_4 {N : Mem} {x : Int32} (h : N.1 178 12 = nI 4) (k0 : N.1 184 0 = x) : fX12_does N = (fX12_isHouse x N).bind fun b41 => if b41 = true then ((fX12_returns x N).bind (un2 fun v51 M52 => some ((0 : Int32), M52))) else (some ((1 : Int32), N)) := by
  unfold fX12_does
  rw [show ald (N.1 184) 3 (0 : Int32) = some (N.1 184 0) from a184 (k := 0) (by omega), Option.bind_some, h, if_neg (by decide), if_neg (by decide), if_neg (by decide), if_neg (by decide), if_pos (by decide), if_neg (show ¬ nI 4 = 3 by decide), if_pos (show nI 4 = 4 by decide), k0]
theorem does_5 {N : Mem} {x : Int32} (h : N.1 178 12 = nI 5) (k0 : N.1 184 0 = x) : fX12_does N = (fX12_isHouse x N).bind fun b41 => if b41 = true then ((fX12_lays x (3 : Int32) (1 : Int32) N).bind fun M46 => some ((0 : Int32), M46)) else (some ((1 : Int32), N)) := by
  unfold fX12_does
  rw [show ald (N.1 184) 3 (0 : Int32) = some (N.1 184 0) from a184 (k := 0) (by omega), Option.bind_some, h, if_neg (by decide), if_neg (by decide), if_neg (by decide), if_neg (by decide), if_neg (by decide), if_pos (by decide), if_neg (show ¬ nI 5 = 3 by decide), if_neg (show ¬ nI 5 = 4 by decide), k0]
theorem does_6 {N : Mem} (h : N.1 178 12 = nI 6) : fX12_does N = (fX12_gives N).bind (un2 fun v80 M81 => some ((0 : Int32), M81)) := by
  unfold fX12_does
  rw [show ald (N.1 184) 3 (0 : Int32) = some (N.1 184 0) from a184 (k := 0) (by omega), Option.bind_some, h, if_neg (by decide), if_neg (by decide), if_neg (by decide), if_neg (by decide), if_neg (by decide), if_neg (by decide), if_pos (by decide)]
def Dv (M N : Mem) (c : Nat) (X Y : Option (Int32 × Mem)) : Prop := ∃ v M' N' ρ' h' b' g' c', X = some (v, M') ∧ Y = some (v, N') ∧ Vi M' ρ' h' b' g' c' ∧ Wr ρ' h' b' c' ∧ c' ≤ c + 240 ∧ Fc M M' ∧ Ro N' ρ' ∧ Fr N N'
theorem Dv.op {fc fr : Mem → Option (Int32 × Mem)} {M N : Mem} {ρ : Nat → Int32} {c : Nat} (H : Opw fc fr M ρ c) (R : Ro N ρ) : Dv M N c ((fc M).bind (un2 fun _ M' => some ((0 : Int32), M'))) ((fr N).bind (un2 fun _ N' => some ((0 : Int32), N'))) := by
  obtain ⟨r, M', h', b', g', c', o1, o4, o5, o6⟩ := H
  obtain ⟨N', ρ', p1, p2, p3, p4, p5⟩ := o6 N R
  exact ⟨0, M', N', ρ', h', b', g', c', by rw [o1]; rfl, by rw [p1]; rfl, p3, p4, o4, o5, p2, p5⟩
theorem Dv.no {M N : Mem} {ρ : Nat → Int32} {h b g c : Nat} (V : Vi M ρ h b g c) (W : Wr ρ h b c) (R : Ro N ρ) (v : Int32) : Dv M N c (some (v, M)) (some (v, N)) := ⟨v, M, N, ρ, h, b, g, c, rfl, rfl, V, W, by omega, Fc.rf M, R, Fr.rf N⟩
theorem un_id (o : Option (Int32 × Mem)) (f : Int32 × Mem → Option (Int32 × Mem)) : ((o.bind (un2 fun v M => some (v, M))).bind f) = o.bind f := by
  cases o <;> rfl
theorem do_ok {M N : Mem} {ρ : Nat → Int32} {h b g c i : Nat} {x y z : Int32} (V : Vi M ρ h b g c) (W : Wr ρ h b c) (hc : c + 7000 < 2 ^ 29) (R : Ro N ρ) (hi : i < 7) (h12 : N.1 178 12 = nI i) (k0 : i ≠ 6 → N.1 184 0 = x) (k1 : i = 1 → N.1 184 1 = y ∧ N.1 184 2 = z) : Dv M N c (fX11_carryOut (some i) x y z M) (fX12_does N) := by
  have H := V.1
  have hh := H.1
  have house : ∀ (r : Int32 → Option (Int32 × Mem)), fX11_whyNoCommand (some i) x y z M = fX9_whyNoHousehold 1 x M → (fX12_does N = (fX12_isHouse x N).bind fun b41 => if b41 = true then r x else (some ((1 : Int32), N))) → (∀ a, a < h → Dv M N c ((act i (nI a) y z M).bind (un2 fun _ M' => some ((0 : Int32), M'))) (r (nI a))) → Dv M N c (fX11_carryOut (some i) x y z M) (fX12_does N) := fun r e1 e3 e4 => by
    rw [who1 H] at e1
    rw [who2 R H.2.2.1 hh, Option.bind_some] at e3
    by_cases q : 0 ≤ x ∧ x < nI h
    · rw [if_pos q] at e1
      rw [if_pos (decide_eq_true q)] at e3
      obtain ⟨a, ha, rfl⟩ : ∃ a, a < h ∧ x = nI a := by
        obtain ⟨u1, u2⟩ := mI_of (Int32.not_lt.mpr q.1)
        refine ⟨_, ?_, u1⟩
        have := q.2
        rw [u1] at this
        exact (mI_lt u2 (by omega)).mp this
      rw [car_do hi e1, e3]
      exact e4 a ha
    · rw [if_neg q] at e1
      rw [if_neg (by rw [decide_eq_true_eq]; exact q)] at e3
      rw [car_no e1 (by decide), e3]
      exact Dv.no V W R 1
  obtain rfl | rfl | rfl | rfl | rfl | rfl | rfl : i = 0 ∨ i = 1 ∨ i = 2 ∨ i = 3 ∨ i = 4 ∨ i = 5 ∨ i = 6 := by omega
  · rw [does_0 h12 (k0 (by omega))]
    rcases join_tri H x with ⟨w1, w2⟩ | ⟨w1, w2⟩ | ⟨w1, w2, h8, hx, hd⟩
    · rw [car_no (by rw [why_0]; exact w1) (by decide), w2 N R, Option.bind_some, if_neg (by decide), Option.bind_some]
      exact Dv.no V W R 2
    · rw [car_no (by rw [why_0]; exact w1) (by decide), w2 N R, Option.bind_some, if_neg (by decide), Option.bind_some]
      exact Dv.no V W R 3
    · rw [car_do hi (by rw [why_0]; exact w1), w2 N R, Option.bind_some, if_pos rfl, un_id]
      exact Dv.op (op_join V W h8 hx hd).w R
  · rw [does_1 h12 (k0 (by omega)) (k1 rfl).1 (k1 rfl).2]
    rcases bring_tri V x y z with ⟨w1, w2⟩ | ⟨w1, w2⟩ | ⟨w1, w2⟩ | ⟨w1, w2, hb, hx, hy, hz⟩
    · rw [car_no (by rw [why_1]; exact w1) (by decide), w2 N R, Option.bind_some, if_neg (by decide)]
      exact Dv.no V W R 1
    · rw [car_no (by rw [why_1]; exact w1) (by decide), w2 N R, Option.bind_some, if_neg (by decide)]
      exact Dv.no V W R 2
    · rw [car_no (by rw [why_1]; exact w1) (by decide), w2 N R, Option.bind_some, if_neg (by decide)]
      exact Dv.no V W R 3
    · rw [car_do hi (by rw [why_1]; exact w1), w2 N R, Option.bind_some, if_pos rfl]
      exact Dv.op (op_bring V W hb hx hy hz).w R
  · rw [does_2 h12 (k0 (by omega))]
    rcases day_tri V x with ⟨w1, w2⟩ | ⟨w1, w2⟩ | ⟨w1, w2, hb, w, hw1, hw2, rfl⟩
    · rw [car_no (by rw [why_2]; exact w1) (by decide), w2 N R, Option.bind_some, if_neg (by decide), Option.bind_some]
      exact Dv.no V W R 2
    · rw [car_no (by rw [why_2]; exact w1) (by decide), w2 N R, Option.bind_some, if_neg (by decide), Option.bind_some]
      exact Dv.no V W R 3
    · rw [car_do hi (by rw [why_2]; exact w1), w2 N R, Option.bind_some, if_pos rfl, un_id]
      exact Dv.op (op_day V W hb hw2 hc) R
  · exact house (fun x => (fX12_claims x N).bind (un2 fun v51 M52 => some ((0 : Int32), M52))) (why_3 x y z M) (does_3 h12 (k0 (by omega))) (fun a ha => Dv.op (op_claim V W ha).w R)
  · exact house (fun x => (fX12_returns x N).bind (un2 fun v51 M52 => some ((0 : Int32), M52))) (why_4 x y z M) (does_4 h12 (k0 (by omega))) (fun a ha => Dv.op (op_return V W ha).w R)
  · refine house (fun x => (fX12_lays x (3 : Int32) (1 : Int32) N).bind fun M46 => some ((0 : Int32), M46)) (why_5 x y z M) (does_5 h12 (k0 (by omega))) (fun a ha => ?_)
    obtain ⟨r, M', o1, o2, o3, o4, o5⟩ := op_excuse V W ha
    obtain ⟨N', p1, p2, p3, p4⟩ := o5 N R
    refine ⟨0, M', N', _, h, b, g, c, ?_, ?_, o2, o3, by omega, o4, p2, p3⟩
    · show ((fX4_excuseOne 2 (nI a) M).bind _) = _
      rw [o1]; rfl
    · show ((fX12_lays (nI a) 3 1 N).bind _) = _
      rw [p1]; rfl
  · rw [does_6 h12, car_do hi (why_6 x y z M)]
    exact Dv.op (op_give V W).w R
