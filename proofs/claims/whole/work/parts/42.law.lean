def SX (K : Kx) (b N : Nat) (xs : Nat → Int32) : Prop := match K with
  | (p, l, e, R, s, m, args, below, meth, c, Q, G, n0, nL, _, _) => va_X b N xs s s.heap ∧ b < s.heap.size ∧ b < n0
theorem SX.up {K : Kx} {b N : Nat} {xs : Nat → Int32} (h : SX K b N xs) (x y : Nat) : SX (kup K x y) b N xs := by
  obtain ⟨p, l', e, R', s, m, args, below, meth, c, Q, G', n0', nL', cells, slots⟩ := K
  exact h
theorem GWm {own : String} {idx n : Nat} {y : MethodName} {cc : ByteArray} {r : Option FieldType} {hh : List (Nat × Nat × Nat × Nat)} (h1 : Cond.methodLink own idx y ∈ TB) (h2 : Cond.static y ∈ TB) (h3 : Cond.initialized y.cls ∈ TB) (h4 : Cond.codeWith y cc n r hh ∈ TB) : GoodIn TB (va_wsS own idx y (wsW y cc n r hh)) := by
  refine good_mem fun w hw => ?_
  rcases List.mem_append.mp hw with hw | hw
  · simp only [List.mem_cons, List.not_mem_nil, or_false] at hw
    rcases hw with rfl | rfl | rfl
    · exact h1
    · exact h2
    · exact h3
  · rcases List.mem_cons.mp hw with rfl | hw
    · exact h4
    · exact hw
section JL
variable {K : Kx} {l : Launch} {R : Room} {cc : ByteArray} {own : String} {G : Gx} {n0 nL : Nat} {M M' : Mem} {pc index b N : Nat} {xs : Nat → Int32} {L : List (Nat × Value)} {st st0 : List Value}
theorem j_scr (C : Ok K l R cc own G n0 nL) (X : SX K b N xs) {i : Int32} (hin : vp_in i N) (hdg : decode cc pc = .ok (.iaload, 1)) (kk : J K M (pc + 1) L (.int (xs i.toNatClampNeg) :: st)) : J K M pc L (.int i :: .ref b :: st) := by
  obtain ⟨p, l', e, R', s, m, args, below, meth, c, Q, G', n0', nL', cells, slots⟩ := K
  obtain ⟨rfl, rfl, rfl, rfl, rfl, hx, hb, hown, hts, hK, hml, hSt, hce, hsl⟩ := C
  intro H locs ls hP hS hl
  exact va_sld hx hb X.1 X.2.1 (Nat.not_le.mpr X.2.2) hS hin hdg (kk H locs ls hP hS hl)
theorem j_slen (C : Ok K l R cc own G n0 nL) (X : SX K b N xs) (hdg : decode cc pc = .ok (.arraylength, 1)) (kk : J K M (pc + 1) L (.int (Int32.ofNat N) :: st)) : J K M pc L (.ref b :: st) := by
  obtain ⟨p, l', e, R', s, m, args, below, meth, c, Q, G', n0', nL', cells, slots⟩ := K
  obtain ⟨rfl, rfl, rfl, rfl, rfl, hx, hb, hown, hts, hK, hml, hSt, hce, hsl⟩ := C
  intro H locs ls hP hS hl
  exact va_slen hx hb X.1 X.2.1 (Nat.not_le.mpr X.2.2) hS hdg (kk H locs ls hP hS hl)
theorem j_callW {y : MethodName} {rm : Room} {bytes : ByteArray} {maxL : Nat} {hh : List (Nat × Nat × Nat × Nat)} {v : Int32} {As : List Value} (C : Ok K l R cc own G n0 nL) (n : Nat) (h : CtW l y bytes maxL hh rm G n0 As M v M') (h1 : Cond.methodLink own index y ∈ TB) (h2 : Cond.static y ∈ TB) (h3 : Cond.initialized y.cls ∈ TB) (h4 : Cond.codeWith y bytes maxL (some .int) hh ∈ TB) (hrm : rm.cells = 1 ∧ rm.slots = 6)
    (hd : y.cls ≠ "java/lang/invoke/MethodHandle" ∧ y.cls ≠ "java/lang/invoke/VarHandle" ∧ (parseMethodDescriptor y.desc).map (fun d => d.parameters.length) = some n) (hR : rm.frames + 1 ≤ R.frames ∧ 8 + (maxL + 11) + rm.locals ≤ R.locals) (hC2 : Ok (kup K 1 6) l R cc own G n0 nL) (hn : As.length = n) (hst : st0 = As.reverse ++ st) (hW : (st.map fun v => v.category).sum ≤ 8) (hdg : decode cc pc = .ok (.invokestatic index, 3))
    (kk : J (kup K 1 6) M' (pc + 3) L (.int v :: st)) : J K M pc L st0 := by
  obtain ⟨p, l', e, R', s, m, args, below, meth, c, Q, G', n0', nL', cells, slots⟩ := K
  obtain ⟨rfl, rfl, rfl, rfl, rfl, hx, hb, hown, hts, hK, hml, hSt, hce, hsl⟩ := C
  obtain ⟨-, -, -, -, -, -, -, -, -, -, -, -, hce2, hsl2⟩ := hC2
  subst hst
  intro H locs ls hP hS hl T hT0 X
  obtain ⟨v', st₀, t, T', L', h0, X', hL, e1, e2, ⟨hv, ⟨hP1, hK1, hSt1⟩, hz, hk⟩, stp⟩ := vx_runSW (p := p) (e := e) (below := below) (meth := meth) (hh := hh) (locs := locs) (H := H) (As := As) (rest := st) ⟨hx, hb, hml, hown, hts⟩ h (vx_cwSW n hts (GWm h1 h2 h3 h4) rfl hrm.1 hrm.2 hd hR) ⟨Rl_blind, fun U hU hW => ⟨rfl, by rw [hU]; exact hP, va_K.moved hW.alike hK, hSt.step hW (hS.F hU)⟩⟩ (g := F0 m pc ls (As.reverse ++ st)) rfl hn hl.1 rfl (lv_room hW) hdg ⟨hce2, hsl2⟩ T hT0 X
  cases hv
  rw [h0] at hz hk
  obtain ⟨t2, a1, b1⟩ := kk T'.heap (locs ++ L') ls (by rw [e1]; exact hP1)
    ⟨Nat.le_trans hS.1 (by rw [e1]; exact hz), fun q h1 h2 => by rw [e1, hk q (Nat.lt_of_lt_of_le h1 hS.1) h2]; exact hS.2.1 q h1 h2, fun q hq => by
      rcases List.mem_append.mp hq with h | h
      · exact hS.2.2 q h
      · exact hL q h⟩ hl T' rfl X'
  exact ⟨t2, stp t2 a1, b1⟩
end JL
def LS0 (p0 : Int32) (M M3 : Mem) : Prop := (∃ r M1 z, fX11_join p0 M = some (Sum.inr (r, M1)) ∧ fX12_join p0 (mputL M1 185 0 r.toInt64) = some (z, M3) ∧ fX12_thrown M3 = some 0 ∧ r.toInt64 = z.toInt64 ∧ M3.2 185 0 = r.toInt64) ∨ (∃ z, fX11_join p0 M = some (Sum.inl 2) ∧ fX12_join p0 M = some (z, M3) ∧ fX12_thrown M3 = some 1) ∨ (∃ z, fX11_join p0 M = some (Sum.inl 3) ∧ fX12_join p0 M = some (z, M3) ∧ fX12_thrown M3 = some 2)
def LS1 (p0 : Int32) (p1 : Int32) (M M3 : Mem) : Prop := (∃ r M1 z, fX11_remark p0 p1 M = some (Sum.inr (r, M1)) ∧ fX12_remark p0 p1 (mputL M1 185 0 r.toInt64) = some (z, M3) ∧ fX12_thrown M3 = some 0 ∧ r.toInt64 = z.toInt64 ∧ M3.2 185 0 = r.toInt64) ∨ (∃ z, fX11_remark p0 p1 M = some (Sum.inl 1) ∧ fX12_remark p0 p1 M = some (z, M3) ∧ fX12_thrown M3 = some 1) ∨ (∃ z, fX11_remark p0 p1 M = some (Sum.inl 2) ∧ fX12_remark p0 p1 M = some (z, M3) ∧ fX12_thrown M3 = some 2) ∨ (∃ z, fX11_remark p0 p1 M = some (Sum.inl 3) ∧ fX12_remark p0 p1 M = some (z, M3) ∧ fX12_thrown M3 = some 3)
def LS2 (p0 : Int32) (M M3 : Mem) : Prop := (∃ r M1 z, fX11_excuse p0 M = some (Sum.inr (r, M1)) ∧ fX12_excuse p0 (mputL M1 185 0 r.toInt64) = some (z, M3) ∧ fX12_thrown M3 = some 0 ∧ r.toInt64 = z.toInt64 ∧ M3.2 185 0 = r.toInt64) ∨ (∃ z, fX11_excuse p0 M = some (Sum.inl 1) ∧ fX12_excuse p0 M = some (z, M3) ∧ fX12_thrown M3 = some 1)
def LS3 (p0 : Int32) (p1 : Int32) (p2 : Int32) (M M3 : Mem) : Prop := (∃ r M1 z, fX11_bring p0 p1 p2 M = some (Sum.inr (r, M1)) ∧ fX12_bring p0 p1 p2 (mputL M1 185 0 r.toInt64) = some (z, M3) ∧ fX12_thrown M3 = some 0 ∧ r.toInt64 = z.toInt64 ∧ M3.2 185 0 = r.toInt64) ∨ (∃ z, fX11_bring p0 p1 p2 M = some (Sum.inl 1) ∧ fX12_bring p0 p1 p2 M = some (z, M3) ∧ fX12_thrown M3 = some 1) ∨ (∃ z, fX11_bring p0 p1 p2 M = some (Sum.inl 2) ∧ fX12_bring p0 p1 p2 M = some (z, M3) ∧ fX12_thrown M3 = some 2) ∨ (∃ z, fX11_bring p0 p1 p2 M = some (Sum.inl 3) ∧ fX12_bring p0 p1 p2 M = some (z, M3) ∧ fX12_thrown M3 = some 3)
def LS4 (p0 : Int32) (M M3 : Mem) : Prop := (∃ r M1 z, fX11_takeBack p0 M = some (Sum.inr (r, M1)) ∧ fX12_takeBack p0 (mputL M1 185 0 r.toInt64) = some (z, M3) ∧ fX12_thrown M3 = some 0 ∧ r.toInt64 = z.toInt64 ∧ M3.2 185 0 = r.toInt64) ∨ (∃ z, fX11_takeBack p0 M = some (Sum.inl 1) ∧ fX12_takeBack p0 M = some (z, M3) ∧ fX12_thrown M3 = some 1)
def LS5 (p0 : Int32) (M M3 : Mem) : Prop := (∃ r M1 z, fX11_setS p0 M = some (Sum.inr (r, M1)) ∧ fX12_setS p0 (mputL M1 185 0 r.toInt64) = some (z, M3) ∧ fX12_thrown M3 = some 0 ∧ r.toInt64 = z.toInt64 ∧ M3.2 185 0 = r.toInt64) ∨ (∃ z, fX11_setS p0 M = some (Sum.inl 2) ∧ fX12_setS p0 M = some (z, M3) ∧ fX12_thrown M3 = some 1)
def LS6 (p0 : Int32) (M M3 : Mem) : Prop := (∃ r M1 z, fX11_bake p0 M = some (Sum.inr (r, M1)) ∧ fX12_bake p0 (mputL M1 185 0 r.toInt64) = some (z, M3) ∧ fX12_thrown M3 = some 0 ∧ r.toInt64 = z.toInt64 ∧ M3.2 185 0 = r.toInt64) ∨ (∃ z, fX11_bake p0 M = some (Sum.inl 2) ∧ fX12_bake p0 M = some (z, M3) ∧ fX12_thrown M3 = some 1) ∨ (∃ z, fX11_bake p0 M = some (Sum.inl 3) ∧ fX12_bake p0 M = some (z, M3) ∧ fX12_thrown M3 = some 2)
def LS7 (p0 : Int32) (M M3 : Mem) : Prop := (∃ r M1 z, fX11_claim p0 M = some (Sum.inr (r, M1)) ∧ fX12_claim p0 (mputL M1 185 0 r.toInt64) = some (z, M3) ∧ fX12_thrown M3 = some 0 ∧ r.toInt64 = z.toInt64 ∧ M3.2 185 0 = r.toInt64) ∨ (∃ z, fX11_claim p0 M = some (Sum.inl 1) ∧ fX12_claim p0 M = some (z, M3) ∧ fX12_thrown M3 = some 1)
def LS8 (p0 : Int32) (M M3 : Mem) : Prop := (∃ r M1 z, fX11_returnLoaves p0 M = some (Sum.inr (r, M1)) ∧ fX12_returnLoaves p0 (mputL M1 185 0 r.toInt64) = some (z, M3) ∧ fX12_thrown M3 = some 0 ∧ r.toInt64 = z.toInt64 ∧ M3.2 185 0 = r.toInt64) ∨ (∃ z, fX11_returnLoaves p0 M = some (Sum.inl 1) ∧ fX12_returnLoaves p0 M = some (z, M3) ∧ fX12_thrown M3 = some 1)
def LS9 (M M3 : Mem) : Prop := ∃ r M1, fX11_giveAway M = some (r, M1) ∧ fX12_giveAway M1 = some (r, M3)
def LS10 (p0 : Int32) (p1 : Int32) (M M3 : Mem) : Prop := (∃ r z, fX11_household p0 p1 M = some (Sum.inr r) ∧ fX12_household p0 p1 (mputL M 185 0 r.toInt64) = some (z, M3) ∧ fX12_thrown M3 = some 0 ∧ r.toInt64 = z.toInt64 ∧ M3.2 185 0 = r.toInt64) ∨ (∃ z, fX11_household p0 p1 M = some (Sum.inl 1) ∧ fX12_household p0 p1 M = some (z, M3) ∧ fX12_thrown M3 = some 1) ∨ (∃ z, fX11_household p0 p1 M = some (Sum.inl 2) ∧ fX12_household p0 p1 M = some (z, M3) ∧ fX12_thrown M3 = some 2)
def LS11 (p0 : Int32) (M M3 : Mem) : Prop := (∃ r z, fX11_due p0 M = some (Sum.inr r) ∧ fX12_due p0 (mputL M 185 0 r) = some (z, M3) ∧ fX12_thrown M3 = some 0 ∧ r = z ∧ M3.2 185 0 = r) ∨ (∃ z, fX11_due p0 M = some (Sum.inl 1) ∧ fX12_due p0 M = some (z, M3) ∧ fX12_thrown M3 = some 1)
def LS12 (M M3 : Mem) : Prop := ∃ r, fX11_nextForWood M = some r ∧ fX12_nextForWood M = some (r, M3)
def LS13 (p0 : Int32) (p1 : Int32) (M M3 : Mem) : Prop := (∃ r z, fX11_balance p0 p1 M = some (Sum.inr r) ∧ fX12_balance p0 p1 (mputL M 185 0 r.toInt64) = some (z, M3) ∧ fX12_thrown M3 = some 0 ∧ r.toInt64 = z.toInt64 ∧ M3.2 185 0 = r.toInt64) ∨ (∃ z, fX11_balance p0 p1 M = some (Sum.inl 1) ∧ fX12_balance p0 p1 M = some (z, M3) ∧ fX12_thrown M3 = some 1) ∨ (∃ z, fX11_balance p0 p1 M = some (Sum.inl 2) ∧ fX12_balance p0 p1 M = some (z, M3) ∧ fX12_thrown M3 = some 2)
def LS14 (p0 : Int32) (p1 : Int32) (M M3 : Mem) : Prop := (∃ r M1 z, fX11_batch p0 p1 M = some (Sum.inr (r, M1)) ∧ fX12_batch p0 p1 (mputL M1 185 0 r.toInt64) = some (z, M3) ∧ fX12_thrown M3 = some 0 ∧ r.toInt64 = z.toInt64 ∧ M3.2 185 0 = r.toInt64) ∨ (∃ z, fX11_batch p0 p1 M = some (Sum.inl 2) ∧ fX12_batch p0 p1 M = some (z, M3) ∧ fX12_thrown M3 = some 1)
def LS15 (p0 : Int32) (p1 : Int32) (M M3 : Mem) : Prop := (∃ r z, fX11_loaf p0 p1 M = some (Sum.inr r) ∧ fX12_loaf p0 p1 (mputL M 185 0 r.toInt64) = some (z, M3) ∧ fX12_thrown M3 = some 0 ∧ r.toInt64 = z.toInt64 ∧ M3.2 185 0 = r.toInt64) ∨ (∃ z, fX11_loaf p0 p1 M = some (Sum.inl 1) ∧ fX12_loaf p0 p1 M = some (z, M3) ∧ fX12_thrown M3 = some 1) ∨ (∃ z, fX11_loaf p0 p1 M = some (Sum.inl 2) ∧ fX12_loaf p0 p1 M = some (z, M3) ∧ fX12_thrown M3 = some 2)
def LS16 (p0 : Int32) (p1 : Int32) (M M3 : Mem) : Prop := (∃ r z, fX11_load p0 p1 M = some (Sum.inr r) ∧ fX12_load p0 p1 (mputL M 185 0 r.toInt64) = some (z, M3) ∧ fX12_thrown M3 = some 0 ∧ r.toInt64 = z.toInt64 ∧ M3.2 185 0 = r.toInt64) ∨ (∃ z, fX11_load p0 p1 M = some (Sum.inl 2) ∧ fX12_load p0 p1 M = some (z, M3) ∧ fX12_thrown M3 = some 1)
def LS17 (p0 : Int32) (M M3 : Mem) : Prop := (∃ r z, fX11_whole p0 M = some (Sum.inr r) ∧ fX12_whole p0 (mputL M 185 0 r.toInt64) = some (z, M3) ∧ fX12_thrown M3 = some 0 ∧ r.toInt64 = z.toInt64 ∧ M3.2 185 0 = r.toInt64) ∨ (∃ z, fX11_whole p0 M = some (Sum.inl 2) ∧ fX12_whole p0 M = some (z, M3) ∧ fX12_thrown M3 = some 1)
def LS18 (p0 : Int32) (M M3 : Mem) : Prop := (∃ r M1 z, fX11_doughWith p0 M = some (Sum.inr (r, M1)) ∧ fX12_doughWith p0 (mputL M1 185 0 r.toInt64) = some (z, M3) ∧ fX12_thrown M3 = some 0 ∧ r.toInt64 = z.toInt64 ∧ M3.2 185 0 = r.toInt64) ∨ (∃ z, fX11_doughWith p0 M = some (Sum.inl 2) ∧ fX12_doughWith p0 M = some (z, M3) ∧ fX12_thrown M3 = some 1)
def LS19 (M M3 : Mem) : Prop := ∃ r M1, fX11_bestWood M = some (r, M1) ∧ fX12_bestWood M1 = some (r, M3)
def LS20 (M M3 : Mem) : Prop := ∃ r, fX11_likeMarks M = some r ∧ fX12_likeMarks M = some (r, M3)
def LS21 (p0 : Int32) (M M3 : Mem) : Prop := (∃ r z, fX11_freeMark p0 M = some (Sum.inr r) ∧ fX12_freeMark p0 (mputL M 185 0 r.toInt64) = some (z, M3) ∧ fX12_thrown M3 = some 0 ∧ r.toInt64 = z.toInt64 ∧ M3.2 185 0 = r.toInt64) ∨ (∃ z, fX11_freeMark p0 M = some (Sum.inl 2) ∧ fX12_freeMark p0 M = some (z, M3) ∧ fX12_thrown M3 = some 1)
def LS22 (p0 : Int32) (M M3 : Mem) : Prop := (∃ r M1 z, fX11_type p0 M = some (Sum.inr (r, M1)) ∧ fX12_type p0 (mputL M1 185 0 r.toInt64) = some (z, M3) ∧ fX12_thrown M3 = some 0 ∧ r.toInt64 = z.toInt64 ∧ M3.2 185 0 = r.toInt64) ∨ (∃ z, fX11_type p0 M = some (Sum.inl 2) ∧ fX12_type p0 M = some (z, M3) ∧ fX12_thrown M3 = some 1) ∨ (∃ z, fX11_type p0 M = some (Sum.inl 3) ∧ fX12_type p0 M = some (z, M3) ∧ fX12_thrown M3 = some 2)
def LS23 (M M3 : Mem) : Prop := ∃ r M1, fX11_clearCommands M = some (r, M1) ∧ fX12_clearCommands M1 = some (r, M3)
def LS24 (M M3 : Mem) : Prop := ∃ r M1, fX11_runCommands M = some (r, M1) ∧ fX12_runCommands M1 = some (r, M3)
def LS25 (M M3 : Mem) : Prop := ∃ r, fX11_stop M = some r ∧ fX12_stop M = some (r, M3)
def LS26 (M M3 : Mem) : Prop := (∃ r M1 z, fX11_undo M = some (Sum.inr (r, M1)) ∧ fX12_undo (mputL M1 185 0 r.toInt64) = some (z, M3) ∧ fX12_thrown M3 = some 0 ∧ r.toInt64 = z.toInt64 ∧ M3.2 185 0 = r.toInt64) ∨ (∃ z, fX11_undo M = some (Sum.inl 3) ∧ fX12_undo M = some (z, M3) ∧ fX12_thrown M3 = some 1)
def LS27 (M M3 : Mem) : Prop := ∃ r M1, fX11_digest M = some (Sum.inr (r, M1)) ∧ fX12_digest M1 = some (r, M3)
set_option maxRecDepth 100000 in
set_option maxHeartbeats 2000000 in
theorem lc_0 {K : Kx} {l : Launch} (hfl : l.stackTraces = false) {G : Gx} {n0 b N : Nat} {xs : Nat → Int32} {i : Int32} {M M3 : Mem} (C : Ok K l room_1 cL_law RL G n0 8) (C2 : Ok (kup K 1 6) l room_1 cL_law RL G n0 8) (X : SX K b N xs) (h1 : vp_in (i + 1) N) (h : LS0 (xs (i + 1).toNatClampNeg) M M3) (k1 : J K M3 1472 [(4, .int i), (3, .ref (n0 + 185)), (2, .ref (n0 + 178)), (1, .ref (n0 + 0)), (0, .ref b)] []) (k2 : J (kup K 1 6) M3 1472 [(4, .int i), (3, .ref (n0 + 185)), (2, .ref (n0 + 178)), (1, .ref (n0 + 0)), (0, .ref b)] []) : J K M 164 [(4, .int i), (3, .ref (n0 + 185)), (2, .ref (n0 + 178)), (1, .ref (n0 + 0)), (0, .ref b)] [] := by
  rcases h with ⟨r, M1, z, e1, e2, e3, e4, e5⟩ | ⟨z, e1, e2, e3⟩ | ⟨z, e1, e2, e3⟩
  · refine j_aload_n C 3 dL_law_164 rfl rfl ?_
    refine j_aload_n C 4 dL_law_165 rfl rfl ?_
    refine j_iload C 0 dL_law_166 rfl ?_
    refine j_iconst C (1 : Int32) rfl dL_law_168 ?_
    refine j_iadd C dL_law_169 ?_
    refine j_scr C X h1 dL_law_170 ?_
    refine j_aload_n C 1 dL_law_171 rfl rfl ?_
    refine j_callW C 3 (cr_L_join l G n0 e1 rfl) tw5_12 tw5_13 tw1_0 cwL_join ⟨rfl, rfl⟩ (by decide +kernel) ⟨Nat.le_of_ble_eq_true rfl, Nat.le_of_ble_eq_true rfl⟩ C2 rfl rfl (Nat.le_of_ble_eq_true rfl) dL_law_172 ?_
    refine j_istore C2 [(5, .int 0), (4, .int i), (3, .ref (n0 + 185)), (2, .ref (n0 + 178)), (1, .ref (n0 + 0)), (0, .ref b)] dL_law_175 (by decide) rfl ?_
    refine j_aload_n C2 3 dL_law_177 rfl rfl ?_
    refine j_aload_n C2 5 dL_law_178 rfl rfl ?_
    refine j_iload C2 1 dL_law_179 rfl ?_
    refine j_iconst C2 (1 : Int32) rfl dL_law_181 ?_
    refine j_iadd C2 dL_law_182 ?_
    refine j_scr C2 (X.up 1 6) h1 dL_law_183 ?_
    refine j_callV C2 1 lc178 (ent_K _ _ _ _ _ _) rfl (c_X12_join l G n0 e2) gv_RL_89 ⟨rfl, rfl⟩ (by decide +kernel) ⟨Nat.le_of_ble_eq_true rfl, Nat.le_of_ble_eq_true rfl⟩ rfl rfl (Nat.le_of_ble_eq_true rfl) dL_law_184 ?_
    refine j_istore C2 [(6, .int z), (5, .int 0), (4, .int i), (3, .ref (n0 + 185)), (2, .ref (n0 + 178)), (1, .ref (n0 + 0)), (0, .ref b)] dL_law_187 (by decide) rfl ?_
    refine j_aload_n C2 4 dL_law_189 rfl rfl ?_
    refine j_callV C2 0 lc178 (ent_K _ _ _ _ _ _) rfl (c_X12_thrown l G n0 e3) gv_RL_90 ⟨rfl, rfl⟩ (by decide +kernel) ⟨Nat.le_of_ble_eq_true rfl, Nat.le_of_ble_eq_true rfl⟩ rfl rfl (Nat.le_of_ble_eq_true rfl) dL_law_190 ?_
    refine j_iload C2 1 dL_law_193 rfl ?_
    refine j_icmp_eq C2 200 dL_law_195 (by decide) (fun _ => ?_) (fun c => absurd rfl c)
    refine j_iload C2 1 dL_law_200 rfl ?_
    refine j_if_ne C2 217 dL_law_202 (by decide) (fun c => absurd rfl c) (fun _ => ?_)
    refine j_aload_n C2 3 dL_law_205 rfl rfl ?_
    refine j_iconst C2 (0 : Int32) rfl dL_law_206 ?_
    refine j_lald C2 dL_law_207 ?_
    refine j_iload C2 0 dL_law_208 rfl ?_
    refine j_i2l C2 dL_law_210 ?_
    refine j_lcmp C2 dL_law_211 ?_
    refine j_iflc_eq C2 217 dL_law_212 (by decide) (fun _ => ?_) (fun c => absurd (e5.trans e4) c)
    refine j_goto C2 1472 dL_law_217 (by decide) ?_
    exact j_sub [2, 3, 4, 5, 6] rfl k2
  · refine j_aload_n C 3 dL_law_164 rfl rfl ?_
    refine j_aload_n C 4 dL_law_165 rfl rfl ?_
    refine j_iload C 0 dL_law_166 rfl ?_
    refine j_iconst C (1 : Int32) rfl dL_law_168 ?_
    refine j_iadd C dL_law_169 ?_
    refine j_scr C X h1 dL_law_170 ?_
    refine j_aload_n C 1 dL_law_171 rfl rfl ?_
    refine j_callW C 3 (ct_L_join_2 l hfl G n0 e1) tw5_12 tw5_13 tw1_0 cwL_join ⟨rfl, rfl⟩ (by decide +kernel) ⟨Nat.le_of_ble_eq_true rfl, Nat.le_of_ble_eq_true rfl⟩ C2 rfl rfl (Nat.le_of_ble_eq_true rfl) dL_law_172 ?_
    refine j_istore C2 [(5, .int 1), (4, .int i), (3, .ref (n0 + 185)), (2, .ref (n0 + 178)), (1, .ref (n0 + 0)), (0, .ref b)] dL_law_175 (by decide) rfl ?_
    refine j_aload_n C2 3 dL_law_177 rfl rfl ?_
    refine j_aload_n C2 5 dL_law_178 rfl rfl ?_
    refine j_iload C2 1 dL_law_179 rfl ?_
    refine j_iconst C2 (1 : Int32) rfl dL_law_181 ?_
    refine j_iadd C2 dL_law_182 ?_
    refine j_scr C2 (X.up 1 6) h1 dL_law_183 ?_
    refine j_callV C2 1 lc178 (ent_K _ _ _ _ _ _) rfl (c_X12_join l G n0 e2) gv_RL_89 ⟨rfl, rfl⟩ (by decide +kernel) ⟨Nat.le_of_ble_eq_true rfl, Nat.le_of_ble_eq_true rfl⟩ rfl rfl (Nat.le_of_ble_eq_true rfl) dL_law_184 ?_
    refine j_istore C2 [(6, .int z), (5, .int 1), (4, .int i), (3, .ref (n0 + 185)), (2, .ref (n0 + 178)), (1, .ref (n0 + 0)), (0, .ref b)] dL_law_187 (by decide) rfl ?_
    refine j_aload_n C2 4 dL_law_189 rfl rfl ?_
    refine j_callV C2 0 lc178 (ent_K _ _ _ _ _ _) rfl (c_X12_thrown l G n0 e3) gv_RL_90 ⟨rfl, rfl⟩ (by decide +kernel) ⟨Nat.le_of_ble_eq_true rfl, Nat.le_of_ble_eq_true rfl⟩ rfl rfl (Nat.le_of_ble_eq_true rfl) dL_law_190 ?_
    refine j_iload C2 1 dL_law_193 rfl ?_
    refine j_icmp_eq C2 200 dL_law_195 (by decide) (fun _ => ?_) (fun c => absurd rfl c)
    refine j_iload C2 1 dL_law_200 rfl ?_
    refine j_if_ne C2 217 dL_law_202 (by decide) (fun _ => ?_) (fun c => absurd c (by decide))
    refine j_goto C2 1472 dL_law_217 (by decide) ?_
    exact j_sub [2, 3, 4, 5, 6] rfl k2
  · refine j_aload_n C 3 dL_law_164 rfl rfl ?_
    refine j_aload_n C 4 dL_law_165 rfl rfl ?_
    refine j_iload C 0 dL_law_166 rfl ?_
    refine j_iconst C (1 : Int32) rfl dL_law_168 ?_
    refine j_iadd C dL_law_169 ?_
    refine j_scr C X h1 dL_law_170 ?_
    refine j_aload_n C 1 dL_law_171 rfl rfl ?_
    refine j_callW C 3 (ct_L_join_3 l hfl G n0 e1) tw5_12 tw5_13 tw1_0 cwL_join ⟨rfl, rfl⟩ (by decide +kernel) ⟨Nat.le_of_ble_eq_true rfl, Nat.le_of_ble_eq_true rfl⟩ C2 rfl rfl (Nat.le_of_ble_eq_true rfl) dL_law_172 ?_
    refine j_istore C2 [(5, .int 2), (4, .int i), (3, .ref (n0 + 185)), (2, .ref (n0 + 178)), (1, .ref (n0 + 0)), (0, .ref b)] dL_law_175 (by decide) rfl ?_
    refine j_aload_n C2 3 dL_law_177 rfl rfl ?_
    refine j_aload_n C2 5 dL_law_178 rfl rfl ?_
    refine j_iload C2 1 dL_law_179 rfl ?_
    refine j_iconst C2 (1 : Int32) rfl dL_law_181 ?_
    refine j_iadd C2 dL_law_182 ?_
    refine j_scr C2 (X.up 1 6) h1 dL_law_183 ?_
    refine j_callV C2 1 lc178 (ent_K _ _ _ _ _ _) rfl (c_X12_join l G n0 e2) gv_RL_89 ⟨rfl, rfl⟩ (by decide +kernel) ⟨Nat.le_of_ble_eq_true rfl, Nat.le_of_ble_eq_true rfl⟩ rfl rfl (Nat.le_of_ble_eq_true rfl) dL_law_184 ?_
    refine j_istore C2 [(6, .int z), (5, .int 2), (4, .int i), (3, .ref (n0 + 185)), (2, .ref (n0 + 178)), (1, .ref (n0 + 0)), (0, .ref b)] dL_law_187 (by decide) rfl ?_
    refine j_aload_n C2 4 dL_law_189 rfl rfl ?_
    refine j_callV C2 0 lc178 (ent_K _ _ _ _ _ _) rfl (c_X12_thrown l G n0 e3) gv_RL_90 ⟨rfl, rfl⟩ (by decide +kernel) ⟨Nat.le_of_ble_eq_true rfl, Nat.le_of_ble_eq_true rfl⟩ rfl rfl (Nat.le_of_ble_eq_true rfl) dL_law_190 ?_
    refine j_iload C2 1 dL_law_193 rfl ?_
    refine j_icmp_eq C2 200 dL_law_195 (by decide) (fun _ => ?_) (fun c => absurd rfl c)
    refine j_iload C2 1 dL_law_200 rfl ?_
    refine j_if_ne C2 217 dL_law_202 (by decide) (fun _ => ?_) (fun c => absurd c (by decide))
    refine j_goto C2 1472 dL_law_217 (by decide) ?_
    exact j_sub [2, 3, 4, 5, 6] rfl k2
set_option maxRecDepth 100000 in
set_option maxHeartbeats 2000000 in
theorem lc_1 {K : Kx} {l : Launch} (hfl : l.stackTraces = false) {G : Gx} {n0 b N : Nat} {xs : Nat → Int32} {i : Int32} {M M3 : Mem} (C : Ok K l room_1 cL_law RL G n0 8) (C2 : Ok (kup K 1 6) l room_1 cL_law RL G n0 8) (X : SX K b N xs) (h1 : vp_in (i + 1) N) (h2 : vp_in (i + 2) N) (h : LS1 (xs (i + 1).toNatClampNeg) (xs (i + 2).toNatClampNeg) M M3) (k1 : J K M3 1472 [(4, .int i), (3, .ref (n0 + 185)), (2, .ref (n0 + 178)), (1, .ref (n0 + 0)), (0, .ref b)] []) (k2 : J (kup K 1 6) M3 1472 [(4, .int i), (3, .ref (n0 + 185)), (2, .ref (n0 + 178)), (1, .ref (n0 + 0)), (0, .ref b)] []) : J K M 220 [(4, .int i), (3, .ref (n0 + 185)), (2, .ref (n0 + 178)), (1, .ref (n0 + 0)), (0, .ref b)] [] := by
  rcases h with ⟨r, M1, z, e1, e2, e3, e4, e5⟩ | ⟨z, e1, e2, e3⟩ | ⟨z, e1, e2, e3⟩ | ⟨z, e1, e2, e3⟩
  · refine j_aload_n C 3 dL_law_220 rfl rfl ?_
    refine j_aload_n C 4 dL_law_221 rfl rfl ?_
    refine j_iload C 0 dL_law_222 rfl ?_
    refine j_iconst C (1 : Int32) rfl dL_law_224 ?_
    refine j_iadd C dL_law_225 ?_
    refine j_scr C X h1 dL_law_226 ?_
    refine j_aload_n C 4 dL_law_227 rfl rfl ?_
    refine j_iload C 0 dL_law_228 rfl ?_
    refine j_iconst C (2 : Int32) rfl dL_law_230 ?_
    refine j_iadd C dL_law_231 ?_
    refine j_scr C X h2 dL_law_232 ?_
    refine j_aload_n C 1 dL_law_233 rfl rfl ?_
    refine j_callW C 4 (cr_L_remark l G n0 e1 rfl) tw5_21 tw5_22 tw1_0 cwL_remark ⟨rfl, rfl⟩ (by decide +kernel) ⟨Nat.le_of_ble_eq_true rfl, Nat.le_of_ble_eq_true rfl⟩ C2 rfl rfl (Nat.le_of_ble_eq_true rfl) dL_law_234 ?_
    refine j_istore C2 [(5, .int 0), (4, .int i), (3, .ref (n0 + 185)), (2, .ref (n0 + 178)), (1, .ref (n0 + 0)), (0, .ref b)] dL_law_237 (by decide) rfl ?_
    refine j_aload_n C2 3 dL_law_239 rfl rfl ?_
    refine j_aload_n C2 5 dL_law_240 rfl rfl ?_
    refine j_iload C2 1 dL_law_241 rfl ?_
    refine j_iconst C2 (1 : Int32) rfl dL_law_243 ?_
    refine j_iadd C2 dL_law_244 ?_
    refine j_scr C2 (X.up 1 6) h1 dL_law_245 ?_
    refine j_aload_n C2 5 dL_law_246 rfl rfl ?_
    refine j_iload C2 1 dL_law_247 rfl ?_
    refine j_iconst C2 (2 : Int32) rfl dL_law_249 ?_
    refine j_iadd C2 dL_law_250 ?_
    refine j_scr C2 (X.up 1 6) h2 dL_law_251 ?_
    refine j_callV C2 2 lc178 (ent_K _ _ _ _ _ _) rfl (c_X12_remark l G n0 e2) gv_RL_96 ⟨rfl, rfl⟩ (by decide +kernel) ⟨Nat.le_of_ble_eq_true rfl, Nat.le_of_ble_eq_true rfl⟩ rfl rfl (Nat.le_of_ble_eq_true rfl) dL_law_252 ?_
    refine j_istore C2 [(6, .int z), (5, .int 0), (4, .int i), (3, .ref (n0 + 185)), (2, .ref (n0 + 178)), (1, .ref (n0 + 0)), (0, .ref b)] dL_law_255 (by decide) rfl ?_
    refine j_aload_n C2 4 dL_law_257 rfl rfl ?_
    refine j_callV C2 0 lc178 (ent_K _ _ _ _ _ _) rfl (c_X12_thrown l G n0 e3) gv_RL_90 ⟨rfl, rfl⟩ (by decide +kernel) ⟨Nat.le_of_ble_eq_true rfl, Nat.le_of_ble_eq_true rfl⟩ rfl rfl (Nat.le_of_ble_eq_true rfl) dL_law_258 ?_
    refine j_iload C2 1 dL_law_261 rfl ?_
    refine j_icmp_eq C2 268 dL_law_263 (by decide) (fun _ => ?_) (fun c => absurd rfl c)
    refine j_iload C2 1 dL_law_268 rfl ?_
    refine j_if_ne C2 285 dL_law_270 (by decide) (fun c => absurd rfl c) (fun _ => ?_)
    refine j_aload_n C2 3 dL_law_273 rfl rfl ?_
    refine j_iconst C2 (0 : Int32) rfl dL_law_274 ?_
    refine j_lald C2 dL_law_275 ?_
    refine j_iload C2 0 dL_law_276 rfl ?_
    refine j_i2l C2 dL_law_278 ?_
    refine j_lcmp C2 dL_law_279 ?_
    refine j_iflc_eq C2 285 dL_law_280 (by decide) (fun _ => ?_) (fun c => absurd (e5.trans e4) c)
    refine j_goto C2 1472 dL_law_285 (by decide) ?_
    exact j_sub [2, 3, 4, 5, 6] rfl k2
  · refine j_aload_n C 3 dL_law_220 rfl rfl ?_
    refine j_aload_n C 4 dL_law_221 rfl rfl ?_
    refine j_iload C 0 dL_law_222 rfl ?_
    refine j_iconst C (1 : Int32) rfl dL_law_224 ?_
    refine j_iadd C dL_law_225 ?_
    refine j_scr C X h1 dL_law_226 ?_
    refine j_aload_n C 4 dL_law_227 rfl rfl ?_
    refine j_iload C 0 dL_law_228 rfl ?_
    refine j_iconst C (2 : Int32) rfl dL_law_230 ?_
    refine j_iadd C dL_law_231 ?_
    refine j_scr C X h2 dL_law_232 ?_
    refine j_aload_n C 1 dL_law_233 rfl rfl ?_
    refine j_callW C 4 (ct_L_remark_1 l hfl G n0 e1) tw5_21 tw5_22 tw1_0 cwL_remark ⟨rfl, rfl⟩ (by decide +kernel) ⟨Nat.le_of_ble_eq_true rfl, Nat.le_of_ble_eq_true rfl⟩ C2 rfl rfl (Nat.le_of_ble_eq_true rfl) dL_law_234 ?_
    refine j_istore C2 [(5, .int 1), (4, .int i), (3, .ref (n0 + 185)), (2, .ref (n0 + 178)), (1, .ref (n0 + 0)), (0, .ref b)] dL_law_237 (by decide) rfl ?_
    refine j_aload_n C2 3 dL_law_239 rfl rfl ?_
    refine j_aload_n C2 5 dL_law_240 rfl rfl ?_
    refine j_iload C2 1 dL_law_241 rfl ?_
    refine j_iconst C2 (1 : Int32) rfl dL_law_243 ?_
    refine j_iadd C2 dL_law_244 ?_
    refine j_scr C2 (X.up 1 6) h1 dL_law_245 ?_
    refine j_aload_n C2 5 dL_law_246 rfl rfl ?_
    refine j_iload C2 1 dL_law_247 rfl ?_
    refine j_iconst C2 (2 : Int32) rfl dL_law_249 ?_
    refine j_iadd C2 dL_law_250 ?_
    refine j_scr C2 (X.up 1 6) h2 dL_law_251 ?_
    refine j_callV C2 2 lc178 (ent_K _ _ _ _ _ _) rfl (c_X12_remark l G n0 e2) gv_RL_96 ⟨rfl, rfl⟩ (by decide +kernel) ⟨Nat.le_of_ble_eq_true rfl, Nat.le_of_ble_eq_true rfl⟩ rfl rfl (Nat.le_of_ble_eq_true rfl) dL_law_252 ?_
    refine j_istore C2 [(6, .int z), (5, .int 1), (4, .int i), (3, .ref (n0 + 185)), (2, .ref (n0 + 178)), (1, .ref (n0 + 0)), (0, .ref b)] dL_law_255 (by decide) rfl ?_
    refine j_aload_n C2 4 dL_law_257 rfl rfl ?_
    refine j_callV C2 0 lc178 (ent_K _ _ _ _ _ _) rfl (c_X12_thrown l G n0 e3) gv_RL_90 ⟨rfl, rfl⟩ (by decide +kernel) ⟨Nat.le_of_ble_eq_true rfl, Nat.le_of_ble_eq_true rfl⟩ rfl rfl (Nat.le_of_ble_eq_true rfl) dL_law_258 ?_
    refine j_iload C2 1 dL_law_261 rfl ?_
    refine j_icmp_eq C2 268 dL_law_263 (by decide) (fun _ => ?_) (fun c => absurd rfl c)
    refine j_iload C2 1 dL_law_268 rfl ?_
    refine j_if_ne C2 285 dL_law_270 (by decide) (fun _ => ?_) (fun c => absurd c (by decide))
    refine j_goto C2 1472 dL_law_285 (by decide) ?_
    exact j_sub [2, 3, 4, 5, 6] rfl k2
  · refine j_aload_n C 3 dL_law_220 rfl rfl ?_
    refine j_aload_n C 4 dL_law_221 rfl rfl ?_
    refine j_iload C 0 dL_law_222 rfl ?_
    refine j_iconst C (1 : Int32) rfl dL_law_224 ?_
    refine j_iadd C dL_law_225 ?_
    refine j_scr C X h1 dL_law_226 ?_
    refine j_aload_n C 4 dL_law_227 rfl rfl ?_
    refine j_iload C 0 dL_law_228 rfl ?_
    refine j_iconst C (2 : Int32) rfl dL_law_230 ?_
    refine j_iadd C dL_law_231 ?_
    refine j_scr C X h2 dL_law_232 ?_
    refine j_aload_n C 1 dL_law_233 rfl rfl ?_
    refine j_callW C 4 (ct_L_remark_2 l hfl G n0 e1) tw5_21 tw5_22 tw1_0 cwL_remark ⟨rfl, rfl⟩ (by decide +kernel) ⟨Nat.le_of_ble_eq_true rfl, Nat.le_of_ble_eq_true rfl⟩ C2 rfl rfl (Nat.le_of_ble_eq_true rfl) dL_law_234 ?_
    refine j_istore C2 [(5, .int 2), (4, .int i), (3, .ref (n0 + 185)), (2, .ref (n0 + 178)), (1, .ref (n0 + 0)), (0, .ref b)] dL_law_237 (by decide) rfl ?_
    refine j_aload_n C2 3 dL_law_239 rfl rfl ?_
    refine j_aload_n C2 5 dL_law_240 rfl rfl ?_
    refine j_iload C2 1 dL_law_241 rfl ?_
    refine j_iconst C2 (1 : Int32) rfl dL_law_243 ?_
    refine j_iadd C2 dL_law_244 ?_
    refine j_scr C2 (X.up 1 6) h1 dL_law_245 ?_
    refine j_aload_n C2 5 dL_law_246 rfl rfl ?_
    refine j_iload C2 1 dL_law_247 rfl ?_
    refine j_iconst C2 (2 : Int32) rfl dL_law_249 ?_
    refine j_iadd C2 dL_law_250 ?_
    refine j_scr C2 (X.up 1 6) h2 dL_law_251 ?_
    refine j_callV C2 2 lc178 (ent_K _ _ _ _ _ _) rfl (c_X12_remark l G n0 e2) gv_RL_96 ⟨rfl, rfl⟩ (by decide +kernel) ⟨Nat.le_of_ble_eq_true rfl, Nat.le_of_ble_eq_true rfl⟩ rfl rfl (Nat.le_of_ble_eq_true rfl) dL_law_252 ?_
    refine j_istore C2 [(6, .int z), (5, .int 2), (4, .int i), (3, .ref (n0 + 185)), (2, .ref (n0 + 178)), (1, .ref (n0 + 0)), (0, .ref b)] dL_law_255 (by decide) rfl ?_
    refine j_aload_n C2 4 dL_law_257 rfl rfl ?_
    refine j_callV C2 0 lc178 (ent_K _ _ _ _ _ _) rfl (c_X12_thrown l G n0 e3) gv_RL_90 ⟨rfl, rfl⟩ (by decide +kernel) ⟨Nat.le_of_ble_eq_true rfl, Nat.le_of_ble_eq_true rfl⟩ rfl rfl (Nat.le_of_ble_eq_true rfl) dL_law_258 ?_
    refine j_iload C2 1 dL_law_261 rfl ?_
    refine j_icmp_eq C2 268 dL_law_263 (by decide) (fun _ => ?_) (fun c => absurd rfl c)
    refine j_iload C2 1 dL_law_268 rfl ?_
    refine j_if_ne C2 285 dL_law_270 (by decide) (fun _ => ?_) (fun c => absurd c (by decide))
    refine j_goto C2 1472 dL_law_285 (by decide) ?_
    exact j_sub [2, 3, 4, 5, 6] rfl k2
  · refine j_aload_n C 3 dL_law_220 rfl rfl ?_
    refine j_aload_n C 4 dL_law_221 rfl rfl ?_
    refine j_iload C 0 dL_law_222 rfl ?_
    refine j_iconst C (1 : Int32) rfl dL_law_224 ?_
    refine j_iadd C dL_law_225 ?_
    refine j_scr C X h1 dL_law_226 ?_
    refine j_aload_n C 4 dL_law_227 rfl rfl ?_
    refine j_iload C 0 dL_law_228 rfl ?_
    refine j_iconst C (2 : Int32) rfl dL_law_230 ?_
    refine j_iadd C dL_law_231 ?_
    refine j_scr C X h2 dL_law_232 ?_
    refine j_aload_n C 1 dL_law_233 rfl rfl ?_
    refine j_callW C 4 (ct_L_remark_3 l hfl G n0 e1) tw5_21 tw5_22 tw1_0 cwL_remark ⟨rfl, rfl⟩ (by decide +kernel) ⟨Nat.le_of_ble_eq_true rfl, Nat.le_of_ble_eq_true rfl⟩ C2 rfl rfl (Nat.le_of_ble_eq_true rfl) dL_law_234 ?_
    refine j_istore C2 [(5, .int 3), (4, .int i), (3, .ref (n0 + 185)), (2, .ref (n0 + 178)), (1, .ref (n0 + 0)), (0, .ref b)] dL_law_237 (by decide) rfl ?_
    refine j_aload_n C2 3 dL_law_239 rfl rfl ?_
    refine j_aload_n C2 5 dL_law_240 rfl rfl ?_
    refine j_iload C2 1 dL_law_241 rfl ?_
    refine j_iconst C2 (1 : Int32) rfl dL_law_243 ?_
    refine j_iadd C2 dL_law_244 ?_
    refine j_scr C2 (X.up 1 6) h1 dL_law_245 ?_
    refine j_aload_n C2 5 dL_law_246 rfl rfl ?_
    refine j_iload C2 1 dL_law_247 rfl ?_
    refine j_iconst C2 (2 : Int32) rfl dL_law_249 ?_
    refine j_iadd C2 dL_law_250 ?_
    refine j_scr C2 (X.up 1 6) h2 dL_law_251 ?_
    refine j_callV C2 2 lc178 (ent_K _ _ _ _ _ _) rfl (c_X12_remark l G n0 e2) gv_RL_96 ⟨rfl, rfl⟩ (by decide +kernel) ⟨Nat.le_of_ble_eq_true rfl, Nat.le_of_ble_eq_true rfl⟩ rfl rfl (Nat.le_of_ble_eq_true rfl) dL_law_252 ?_
    refine j_istore C2 [(6, .int z), (5, .int 3), (4, .int i), (3, .ref (n0 + 185)), (2, .ref (n0 + 178)), (1, .ref (n0 + 0)), (0, .ref b)] dL_law_255 (by decide) rfl ?_
    refine j_aload_n C2 4 dL_law_257 rfl rfl ?_
    refine j_callV C2 0 lc178 (ent_K _ _ _ _ _ _) rfl (c_X12_thrown l G n0 e3) gv_RL_90 ⟨rfl, rfl⟩ (by decide +kernel) ⟨Nat.le_of_ble_eq_true rfl, Nat.le_of_ble_eq_true rfl⟩ rfl rfl (Nat.le_of_ble_eq_true rfl) dL_law_258 ?_
    refine j_iload C2 1 dL_law_261 rfl ?_
    refine j_icmp_eq C2 268 dL_law_263 (by decide) (fun _ => ?_) (fun c => absurd rfl c)
    refine j_iload C2 1 dL_law_268 rfl ?_
    refine j_if_ne C2 285 dL_law_270 (by decide) (fun _ => ?_) (fun c => absurd c (by decide))
    refine j_goto C2 1472 dL_law_285 (by decide) ?_
    exact j_sub [2, 3, 4, 5, 6] rfl k2
set_option maxRecDepth 100000 in
set_option maxHeartbeats 2000000 in
theorem lc_2 {K : Kx} {l : Launch} (hfl : l.stackTraces = false) {G : Gx} {n0 b N : Nat} {xs : Nat → Int32} {i : Int32} {M M3 : Mem} (C : Ok K l room_1 cL_law RL G n0 8) (C2 : Ok (kup K 1 6) l room_1 cL_law RL G n0 8) (X : SX K b N xs) (h1 : vp_in (i + 1) N) (h : LS2 (xs (i + 1).toNatClampNeg) M M3) (k1 : J K M3 1472 [(4, .int i), (3, .ref (n0 + 185)), (2, .ref (n0 + 178)), (1, .ref (n0 + 0)), (0, .ref b)] []) (k2 : J (kup K 1 6) M3 1472 [(4, .int i), (3, .ref (n0 + 185)), (2, .ref (n0 + 178)), (1, .ref (n0 + 0)), (0, .ref b)] []) : J K M 288 [(4, .int i), (3, .ref (n0 + 185)), (2, .ref (n0 + 178)), (1, .ref (n0 + 0)), (0, .ref b)] [] := by
  rcases h with ⟨r, M1, z, e1, e2, e3, e4, e5⟩ | ⟨z, e1, e2, e3⟩
  · refine j_aload_n C 3 dL_law_288 rfl rfl ?_
    refine j_aload_n C 4 dL_law_289 rfl rfl ?_
    refine j_iload C 0 dL_law_290 rfl ?_
    refine j_iconst C (1 : Int32) rfl dL_law_292 ?_
    refine j_iadd C dL_law_293 ?_
    refine j_scr C X h1 dL_law_294 ?_
    refine j_aload_n C 1 dL_law_295 rfl rfl ?_
    refine j_callW C 3 (cr_L_excuse l G n0 e1 rfl) tw5_37 tw5_38 tw1_0 cwL_excuse ⟨rfl, rfl⟩ (by decide +kernel) ⟨Nat.le_of_ble_eq_true rfl, Nat.le_of_ble_eq_true rfl⟩ C2 rfl rfl (Nat.le_of_ble_eq_true rfl) dL_law_296 ?_
    refine j_istore C2 [(5, .int 0), (4, .int i), (3, .ref (n0 + 185)), (2, .ref (n0 + 178)), (1, .ref (n0 + 0)), (0, .ref b)] dL_law_299 (by decide) rfl ?_
    refine j_aload_n C2 3 dL_law_301 rfl rfl ?_
    refine j_aload_n C2 5 dL_law_302 rfl rfl ?_
    refine j_iload C2 1 dL_law_303 rfl ?_
    refine j_iconst C2 (1 : Int32) rfl dL_law_305 ?_
    refine j_iadd C2 dL_law_306 ?_
    refine j_scr C2 (X.up 1 6) h1 dL_law_307 ?_
    refine j_callV C2 1 lc178 (ent_K _ _ _ _ _ _) rfl (c_X12_excuse l G n0 e2) gv_RL_99 ⟨rfl, rfl⟩ (by decide +kernel) ⟨Nat.le_of_ble_eq_true rfl, Nat.le_of_ble_eq_true rfl⟩ rfl rfl (Nat.le_of_ble_eq_true rfl) dL_law_308 ?_
    refine j_istore C2 [(6, .int z), (5, .int 0), (4, .int i), (3, .ref (n0 + 185)), (2, .ref (n0 + 178)), (1, .ref (n0 + 0)), (0, .ref b)] dL_law_311 (by decide) rfl ?_
    refine j_aload_n C2 4 dL_law_313 rfl rfl ?_
    refine j_callV C2 0 lc178 (ent_K _ _ _ _ _ _) rfl (c_X12_thrown l G n0 e3) gv_RL_90 ⟨rfl, rfl⟩ (by decide +kernel) ⟨Nat.le_of_ble_eq_true rfl, Nat.le_of_ble_eq_true rfl⟩ rfl rfl (Nat.le_of_ble_eq_true rfl) dL_law_314 ?_
    refine j_iload C2 1 dL_law_317 rfl ?_
    refine j_icmp_eq C2 324 dL_law_319 (by decide) (fun _ => ?_) (fun c => absurd rfl c)
    refine j_iload C2 1 dL_law_324 rfl ?_
    refine j_if_ne C2 341 dL_law_326 (by decide) (fun c => absurd rfl c) (fun _ => ?_)
    refine j_aload_n C2 3 dL_law_329 rfl rfl ?_
    refine j_iconst C2 (0 : Int32) rfl dL_law_330 ?_
    refine j_lald C2 dL_law_331 ?_
    refine j_iload C2 0 dL_law_332 rfl ?_
    refine j_i2l C2 dL_law_334 ?_
    refine j_lcmp C2 dL_law_335 ?_
    refine j_iflc_eq C2 341 dL_law_336 (by decide) (fun _ => ?_) (fun c => absurd (e5.trans e4) c)
    refine j_goto C2 1472 dL_law_341 (by decide) ?_
    exact j_sub [2, 3, 4, 5, 6] rfl k2
  · refine j_aload_n C 3 dL_law_288 rfl rfl ?_
    refine j_aload_n C 4 dL_law_289 rfl rfl ?_
    refine j_iload C 0 dL_law_290 rfl ?_
    refine j_iconst C (1 : Int32) rfl dL_law_292 ?_
    refine j_iadd C dL_law_293 ?_
    refine j_scr C X h1 dL_law_294 ?_
    refine j_aload_n C 1 dL_law_295 rfl rfl ?_
    refine j_callW C 3 (ct_L_excuse_1 l hfl G n0 e1) tw5_37 tw5_38 tw1_0 cwL_excuse ⟨rfl, rfl⟩ (by decide +kernel) ⟨Nat.le_of_ble_eq_true rfl, Nat.le_of_ble_eq_true rfl⟩ C2 rfl rfl (Nat.le_of_ble_eq_true rfl) dL_law_296 ?_
    refine j_istore C2 [(5, .int 1), (4, .int i), (3, .ref (n0 + 185)), (2, .ref (n0 + 178)), (1, .ref (n0 + 0)), (0, .ref b)] dL_law_299 (by decide) rfl ?_
    refine j_aload_n C2 3 dL_law_301 rfl rfl ?_
    refine j_aload_n C2 5 dL_law_302 rfl rfl ?_
    refine j_iload C2 1 dL_law_303 rfl ?_
    refine j_iconst C2 (1 : Int32) rfl dL_law_305 ?_
    refine j_iadd C2 dL_law_306 ?_
    refine j_scr C2 (X.up 1 6) h1 dL_law_307 ?_
    refine j_callV C2 1 lc178 (ent_K _ _ _ _ _ _) rfl (c_X12_excuse l G n0 e2) gv_RL_99 ⟨rfl, rfl⟩ (by decide +kernel) ⟨Nat.le_of_ble_eq_true rfl, Nat.le_of_ble_eq_true rfl⟩ rfl rfl (Nat.le_of_ble_eq_true rfl) dL_law_308 ?_
    refine j_istore C2 [(6, .int z), (5, .int 1), (4, .int i), (3, .ref (n0 + 185)), (2, .ref (n0 + 178)), (1, .ref (n0 + 0)), (0, .ref b)] dL_law_311 (by decide) rfl ?_
    refine j_aload_n C2 4 dL_law_313 rfl rfl ?_
    refine j_callV C2 0 lc178 (ent_K _ _ _ _ _ _) rfl (c_X12_thrown l G n0 e3) gv_RL_90 ⟨rfl, rfl⟩ (by decide +kernel) ⟨Nat.le_of_ble_eq_true rfl, Nat.le_of_ble_eq_true rfl⟩ rfl rfl (Nat.le_of_ble_eq_true rfl) dL_law_314 ?_
    refine j_iload C2 1 dL_law_317 rfl ?_
    refine j_icmp_eq C2 324 dL_law_319 (by decide) (fun _ => ?_) (fun c => absurd rfl c)
    refine j_iload C2 1 dL_law_324 rfl ?_
    refine j_if_ne C2 341 dL_law_326 (by decide) (fun _ => ?_) (fun c => absurd c (by decide))
    refine j_goto C2 1472 dL_law_341 (by decide) ?_
    exact j_sub [2, 3, 4, 5, 6] rfl k2
set_option maxRecDepth 100000 in
set_option maxHeartbeats 2000000 in
theorem lc_3 {K : Kx} {l : Launch} (hfl : l.stackTraces = false) {G : Gx} {n0 b N : Nat} {xs : Nat → Int32} {i : Int32} {M M3 : Mem} (C : Ok K l room_1 cL_law RL G n0 8) (C2 : Ok (kup K 1 6) l room_1 cL_law RL G n0 8) (X : SX K b N xs) (h1 : vp_in (i + 1) N) (h2 : vp_in (i + 2) N) (h3 : vp_in (i + 3) N) (h : LS3 (xs (i + 1).toNatClampNeg) (xs (i + 2).toNatClampNeg) (xs (i + 3).toNatClampNeg) M M3) (k1 : J K M3 1472 [(4, .int i), (3, .ref (n0 + 185)), (2, .ref (n0 + 178)), (1, .ref (n0 + 0)), (0, .ref b)] []) (k2 : J (kup K 1 6) M3 1472 [(4, .int i), (3, .ref (n0 + 185)), (2, .ref (n0 + 178)), (1, .ref (n0 + 0)), (0, .ref b)] []) : J K M 344 [(4, .int i), (3, .ref (n0 + 185)), (2, .ref (n0 + 178)), (1, .ref (n0 + 0)), (0, .ref b)] [] := by
  rcases h with ⟨r, M1, z, e1, e2, e3, e4, e5⟩ | ⟨z, e1, e2, e3⟩ | ⟨z, e1, e2, e3⟩ | ⟨z, e1, e2, e3⟩
  · refine j_aload_n C 3 dL_law_344 rfl rfl ?_
    refine j_aload_n C 4 dL_law_345 rfl rfl ?_
    refine j_iload C 0 dL_law_346 rfl ?_
    refine j_iconst C (1 : Int32) rfl dL_law_348 ?_
    refine j_iadd C dL_law_349 ?_
    refine j_scr C X h1 dL_law_350 ?_
    refine j_aload_n C 4 dL_law_351 rfl rfl ?_
    refine j_iload C 0 dL_law_352 rfl ?_
    refine j_iconst C (2 : Int32) rfl dL_law_354 ?_
    refine j_iadd C dL_law_355 ?_
    refine j_scr C X h2 dL_law_356 ?_
    refine j_aload_n C 4 dL_law_357 rfl rfl ?_
    refine j_iload C 0 dL_law_358 rfl ?_
    refine j_iconst C (3 : Int32) rfl dL_law_360 ?_
    refine j_iadd C dL_law_361 ?_
    refine j_scr C X h3 dL_law_362 ?_
    refine j_aload_n C 1 dL_law_363 rfl rfl ?_
    refine j_callW C 5 (cr_L_bring l G n0 e1 rfl) tw5_44 tw5_45 tw1_0 cwL_bring ⟨rfl, rfl⟩ (by decide +kernel) ⟨Nat.le_of_ble_eq_true rfl, Nat.le_of_ble_eq_true rfl⟩ C2 rfl rfl (Nat.le_of_ble_eq_true rfl) dL_law_364 ?_
    refine j_istore C2 [(5, .int 0), (4, .int i), (3, .ref (n0 + 185)), (2, .ref (n0 + 178)), (1, .ref (n0 + 0)), (0, .ref b)] dL_law_367 (by decide) rfl ?_
    refine j_aload_n C2 3 dL_law_369 rfl rfl ?_
    refine j_aload_n C2 5 dL_law_370 rfl rfl ?_
    refine j_iload C2 1 dL_law_371 rfl ?_
    refine j_iconst C2 (1 : Int32) rfl dL_law_373 ?_
    refine j_iadd C2 dL_law_374 ?_
    refine j_scr C2 (X.up 1 6) h1 dL_law_375 ?_
    refine j_aload_n C2 5 dL_law_376 rfl rfl ?_
    refine j_iload C2 1 dL_law_377 rfl ?_
    refine j_iconst C2 (2 : Int32) rfl dL_law_379 ?_
    refine j_iadd C2 dL_law_380 ?_
    refine j_scr C2 (X.up 1 6) h2 dL_law_381 ?_
    refine j_aload_n C2 5 dL_law_382 rfl rfl ?_
    refine j_iload C2 1 dL_law_383 rfl ?_
    refine j_iconst C2 (3 : Int32) rfl dL_law_385 ?_
    refine j_iadd C2 dL_law_386 ?_
    refine j_scr C2 (X.up 1 6) h3 dL_law_387 ?_
    refine j_callV C2 3 lc178 (ent_K _ _ _ _ _ _) rfl (c_X12_bring l G n0 e2) gv_RL_103 ⟨rfl, rfl⟩ (by decide +kernel) ⟨Nat.le_of_ble_eq_true rfl, Nat.le_of_ble_eq_true rfl⟩ rfl rfl (Nat.le_of_ble_eq_true rfl) dL_law_388 ?_
    refine j_istore C2 [(6, .int z), (5, .int 0), (4, .int i), (3, .ref (n0 + 185)), (2, .ref (n0 + 178)), (1, .ref (n0 + 0)), (0, .ref b)] dL_law_391 (by decide) rfl ?_
    refine j_aload_n C2 4 dL_law_393 rfl rfl ?_
    refine j_callV C2 0 lc178 (ent_K _ _ _ _ _ _) rfl (c_X12_thrown l G n0 e3) gv_RL_90 ⟨rfl, rfl⟩ (by decide +kernel) ⟨Nat.le_of_ble_eq_true rfl, Nat.le_of_ble_eq_true rfl⟩ rfl rfl (Nat.le_of_ble_eq_true rfl) dL_law_394 ?_
    refine j_iload C2 1 dL_law_397 rfl ?_
    refine j_icmp_eq C2 404 dL_law_399 (by decide) (fun _ => ?_) (fun c => absurd rfl c)
    refine j_iload C2 1 dL_law_404 rfl ?_
    refine j_if_ne C2 421 dL_law_406 (by decide) (fun c => absurd rfl c) (fun _ => ?_)
    refine j_aload_n C2 3 dL_law_409 rfl rfl ?_
    refine j_iconst C2 (0 : Int32) rfl dL_law_410 ?_
    refine j_lald C2 dL_law_411 ?_
    refine j_iload C2 0 dL_law_412 rfl ?_
    refine j_i2l C2 dL_law_414 ?_
    refine j_lcmp C2 dL_law_415 ?_
    refine j_iflc_eq C2 421 dL_law_416 (by decide) (fun _ => ?_) (fun c => absurd (e5.trans e4) c)
    refine j_goto C2 1472 dL_law_421 (by decide) ?_
    exact j_sub [2, 3, 4, 5, 6] rfl k2
  · refine j_aload_n C 3 dL_law_344 rfl rfl ?_
    refine j_aload_n C 4 dL_law_345 rfl rfl ?_
    refine j_iload C 0 dL_law_346 rfl ?_
    refine j_iconst C (1 : Int32) rfl dL_law_348 ?_
    refine j_iadd C dL_law_349 ?_
    refine j_scr C X h1 dL_law_350 ?_
    refine j_aload_n C 4 dL_law_351 rfl rfl ?_
    refine j_iload C 0 dL_law_352 rfl ?_
    refine j_iconst C (2 : Int32) rfl dL_law_354 ?_
    refine j_iadd C dL_law_355 ?_
    refine j_scr C X h2 dL_law_356 ?_
    refine j_aload_n C 4 dL_law_357 rfl rfl ?_
    refine j_iload C 0 dL_law_358 rfl ?_
    refine j_iconst C (3 : Int32) rfl dL_law_360 ?_
    refine j_iadd C dL_law_361 ?_
    refine j_scr C X h3 dL_law_362 ?_
    refine j_aload_n C 1 dL_law_363 rfl rfl ?_
    refine j_callW C 5 (ct_L_bring_1 l hfl G n0 e1) tw5_44 tw5_45 tw1_0 cwL_bring ⟨rfl, rfl⟩ (by decide +kernel) ⟨Nat.le_of_ble_eq_true rfl, Nat.le_of_ble_eq_true rfl⟩ C2 rfl rfl (Nat.le_of_ble_eq_true rfl) dL_law_364 ?_
    refine j_istore C2 [(5, .int 1), (4, .int i), (3, .ref (n0 + 185)), (2, .ref (n0 + 178)), (1, .ref (n0 + 0)), (0, .ref b)] dL_law_367 (by decide) rfl ?_
    refine j_aload_n C2 3 dL_law_369 rfl rfl ?_
    refine j_aload_n C2 5 dL_law_370 rfl rfl ?_
    refine j_iload C2 1 dL_law_371 rfl ?_
    refine j_iconst C2 (1 : Int32) rfl dL_law_373 ?_
    refine j_iadd C2 dL_law_374 ?_
    refine j_scr C2 (X.up 1 6) h1 dL_law_375 ?_
    refine j_aload_n C2 5 dL_law_376 rfl rfl ?_
    refine j_iload C2 1 dL_law_377 rfl ?_
    refine j_iconst C2 (2 : Int32) rfl dL_law_379 ?_
    refine j_iadd C2 dL_law_380 ?_
    refine j_scr C2 (X.up 1 6) h2 dL_law_381 ?_
    refine j_aload_n C2 5 dL_law_382 rfl rfl ?_
    refine j_iload C2 1 dL_law_383 rfl ?_
    refine j_iconst C2 (3 : Int32) rfl dL_law_385 ?_
    refine j_iadd C2 dL_law_386 ?_
    refine j_scr C2 (X.up 1 6) h3 dL_law_387 ?_
    refine j_callV C2 3 lc178 (ent_K _ _ _ _ _ _) rfl (c_X12_bring l G n0 e2) gv_RL_103 ⟨rfl, rfl⟩ (by decide +kernel) ⟨Nat.le_of_ble_eq_true rfl, Nat.le_of_ble_eq_true rfl⟩ rfl rfl (Nat.le_of_ble_eq_true rfl) dL_law_388 ?_
    refine j_istore C2 [(6, .int z), (5, .int 1), (4, .int i), (3, .ref (n0 + 185)), (2, .ref (n0 + 178)), (1, .ref (n0 + 0)), (0, .ref b)] dL_law_391 (by decide) rfl ?_
    refine j_aload_n C2 4 dL_law_393 rfl rfl ?_
    refine j_callV C2 0 lc178 (ent_K _ _ _ _ _ _) rfl (c_X12_thrown l G n0 e3) gv_RL_90 ⟨rfl, rfl⟩ (by decide +kernel) ⟨Nat.le_of_ble_eq_true rfl, Nat.le_of_ble_eq_true rfl⟩ rfl rfl (Nat.le_of_ble_eq_true rfl) dL_law_394 ?_
    refine j_iload C2 1 dL_law_397 rfl ?_
    refine j_icmp_eq C2 404 dL_law_399 (by decide) (fun _ => ?_) (fun c => absurd rfl c)
    refine j_iload C2 1 dL_law_404 rfl ?_
    refine j_if_ne C2 421 dL_law_406 (by decide) (fun _ => ?_) (fun c => absurd c (by decide))
    refine j_goto C2 1472 dL_law_421 (by decide) ?_
    exact j_sub [2, 3, 4, 5, 6] rfl k2
  · refine j_aload_n C 3 dL_law_344 rfl rfl ?_
    refine j_aload_n C 4 dL_law_345 rfl rfl ?_
    refine j_iload C 0 dL_law_346 rfl ?_
    refine j_iconst C (1 : Int32) rfl dL_law_348 ?_
    refine j_iadd C dL_law_349 ?_
    refine j_scr C X h1 dL_law_350 ?_
    refine j_aload_n C 4 dL_law_351 rfl rfl ?_
    refine j_iload C 0 dL_law_352 rfl ?_
    refine j_iconst C (2 : Int32) rfl dL_law_354 ?_
    refine j_iadd C dL_law_355 ?_
    refine j_scr C X h2 dL_law_356 ?_
    refine j_aload_n C 4 dL_law_357 rfl rfl ?_
    refine j_iload C 0 dL_law_358 rfl ?_
    refine j_iconst C (3 : Int32) rfl dL_law_360 ?_
    refine j_iadd C dL_law_361 ?_
    refine j_scr C X h3 dL_law_362 ?_
    refine j_aload_n C 1 dL_law_363 rfl rfl ?_
    refine j_callW C 5 (ct_L_bring_2 l hfl G n0 e1) tw5_44 tw5_45 tw1_0 cwL_bring ⟨rfl, rfl⟩ (by decide +kernel) ⟨Nat.le_of_ble_eq_true rfl, Nat.le_of_ble_eq_true rfl⟩ C2 rfl rfl (Nat.le_of_ble_eq_true rfl) dL_law_364 ?_
    refine j_istore C2 [(5, .int 2), (4, .int i), (3, .ref (n0 + 185)), (2, .ref (n0 + 178)), (1, .ref (n0 + 0)), (0, .ref b)] dL_law_367 (by decide) rfl ?_
    refine j_aload_n C2 3 dL_law_369 rfl rfl ?_
    refine j_aload_n C2 5 dL_law_370 rfl rfl ?_
    refine j_iload C2 1 dL_law_371 rfl ?_
    refine j_iconst C2 (1 : Int32) rfl dL_law_373 ?_
    refine j_iadd C2 dL_law_374 ?_
    refine j_scr C2 (X.up 1 6) h1 dL_law_375 ?_
    refine j_aload_n C2 5 dL_law_376 rfl rfl ?_
    refine j_iload C2 1 dL_law_377 rfl ?_
    refine j_iconst C2 (2 : Int32) rfl dL_law_379 ?_
    refine j_iadd C2 dL_law_380 ?_
    refine j_scr C2 (X.up 1 6) h2 dL_law_381 ?_
    refine j_aload_n C2 5 dL_law_382 rfl rfl ?_
    refine j_iload C2 1 dL_law_383 rfl ?_
    refine j_iconst C2 (3 : Int32) rfl dL_law_385 ?_
    refine j_iadd C2 dL_law_386 ?_
    refine j_scr C2 (X.up 1 6) h3 dL_law_387 ?_
    refine j_callV C2 3 lc178 (ent_K _ _ _ _ _ _) rfl (c_X12_bring l G n0 e2) gv_RL_103 ⟨rfl, rfl⟩ (by decide +kernel) ⟨Nat.le_of_ble_eq_true rfl, Nat.le_of_ble_eq_true rfl⟩ rfl rfl (Nat.le_of_ble_eq_true rfl) dL_law_388 ?_
    refine j_istore C2 [(6, .int z), (5, .int 2), (4, .int i), (3, .ref (n0 + 185)), (2, .ref (n0 + 178)), (1, .ref (n0 + 0)), (0, .ref b)] dL_law_391 (by decide) rfl ?_
    refine j_aload_n C2 4 dL_law_393 rfl rfl ?_
    refine j_callV C2 0 lc178 (ent_K _ _ _ _ _ _) rfl (c_X12_thrown l G n0 e3) gv_RL_90 ⟨rfl, rfl⟩ (by decide +kernel) ⟨Nat.le_of_ble_eq_true rfl, Nat.le_of_ble_eq_true rfl⟩ rfl rfl (Nat.le_of_ble_eq_true rfl) dL_law_394 ?_
    refine j_iload C2 1 dL_law_397 rfl ?_
    refine j_icmp_eq C2 404 dL_law_399 (by decide) (fun _ => ?_) (fun c => absurd rfl c)
    refine j_iload C2 1 dL_law_404 rfl ?_
    refine j_if_ne C2 421 dL_law_406 (by decide) (fun _ => ?_) (fun c => absurd c (by decide))
    refine j_goto C2 1472 dL_law_421 (by decide) ?_
    exact j_sub [2, 3, 4, 5, 6] rfl k2
  · refine j_aload_n C 3 dL_law_344 rfl rfl ?_
    refine j_aload_n C 4 dL_law_345 rfl rfl ?_
    refine j_iload C 0 dL_law_346 rfl ?_
    refine j_iconst C (1 : Int32) rfl dL_law_348 ?_
    refine j_iadd C dL_law_349 ?_
    refine j_scr C X h1 dL_law_350 ?_
    refine j_aload_n C 4 dL_law_351 rfl rfl ?_
    refine j_iload C 0 dL_law_352 rfl ?_
    refine j_iconst C (2 : Int32) rfl dL_law_354 ?_
    refine j_iadd C dL_law_355 ?_
    refine j_scr C X h2 dL_law_356 ?_
    refine j_aload_n C 4 dL_law_357 rfl rfl ?_
    refine j_iload C 0 dL_law_358 rfl ?_
    refine j_iconst C (3 : Int32) rfl dL_law_360 ?_
    refine j_iadd C dL_law_361 ?_
    refine j_scr C X h3 dL_law_362 ?_
    refine j_aload_n C 1 dL_law_363 rfl rfl ?_
    refine j_callW C 5 (ct_L_bring_3 l hfl G n0 e1) tw5_44 tw5_45 tw1_0 cwL_bring ⟨rfl, rfl⟩ (by decide +kernel) ⟨Nat.le_of_ble_eq_true rfl, Nat.le_of_ble_eq_true rfl⟩ C2 rfl rfl (Nat.le_of_ble_eq_true rfl) dL_law_364 ?_
    refine j_istore C2 [(5, .int 3), (4, .int i), (3, .ref (n0 + 185)), (2, .ref (n0 + 178)), (1, .ref (n0 + 0)), (0, .ref b)] dL_law_367 (by decide) rfl ?_
    refine j_aload_n C2 3 dL_law_369 rfl rfl ?_
    refine j_aload_n C2 5 dL_law_370 rfl rfl ?_
    refine j_iload C2 1 dL_law_371 rfl ?_
    refine j_iconst C2 (1 : Int32) rfl dL_law_373 ?_
    refine j_iadd C2 dL_law_374 ?_
    refine j_scr C2 (X.up 1 6) h1 dL_law_375 ?_
    refine j_aload_n C2 5 dL_law_376 rfl rfl ?_
    refine j_iload C2 1 dL_law_377 rfl ?_
    refine j_iconst C2 (2 : Int32) rfl dL_law_379 ?_
    refine j_iadd C2 dL_law_380 ?_
    refine j_scr C2 (X.up 1 6) h2 dL_law_381 ?_
    refine j_aload_n C2 5 dL_law_382 rfl rfl ?_
    refine j_iload C2 1 dL_law_383 rfl ?_
    refine j_iconst C2 (3 : Int32) rfl dL_law_385 ?_
    refine j_iadd C2 dL_law_386 ?_
    refine j_scr C2 (X.up 1 6) h3 dL_law_387 ?_
    refine j_callV C2 3 lc178 (ent_K _ _ _ _ _ _) rfl (c_X12_bring l G n0 e2) gv_RL_103 ⟨rfl, rfl⟩ (by decide +kernel) ⟨Nat.le_of_ble_eq_true rfl, Nat.le_of_ble_eq_true rfl⟩ rfl rfl (Nat.le_of_ble_eq_true rfl) dL_law_388 ?_
    refine j_istore C2 [(6, .int z), (5, .int 3), (4, .int i), (3, .ref (n0 + 185)), (2, .ref (n0 + 178)), (1, .ref (n0 + 0)), (0, .ref b)] dL_law_391 (by decide) rfl ?_
    refine j_aload_n C2 4 dL_law_393 rfl rfl ?_
    refine j_callV C2 0 lc178 (ent_K _ _ _ _ _ _) rfl (c_X12_thrown l G n0 e3) gv_RL_90 ⟨rfl, rfl⟩ (by decide +kernel) ⟨Nat.le_of_ble_eq_true rfl, Nat.le_of_ble_eq_true rfl⟩ rfl rfl (Nat.le_of_ble_eq_true rfl) dL_law_394 ?_
    refine j_iload C2 1 dL_law_397 rfl ?_
    refine j_icmp_eq C2 404 dL_law_399 (by decide) (fun _ => ?_) (fun c => absurd rfl c)
    refine j_iload C2 1 dL_law_404 rfl ?_
    refine j_if_ne C2 421 dL_law_406 (by decide) (fun _ => ?_) (fun c => absurd c (by decide))
    refine j_goto C2 1472 dL_law_421 (by decide) ?_
    exact j_sub [2, 3, 4, 5, 6] rfl k2
set_option maxRecDepth 100000 in
set_option maxHeartbeats 2000000 in
theorem lc_4 {K : Kx} {l : Launch} (hfl : l.stackTraces = false) {G : Gx} {n0 b N : Nat} {xs : Nat → Int32} {i : Int32} {M M3 : Mem} (C : Ok K l room_1 cL_law RL G n0 8) (C2 : Ok (kup K 1 6) l room_1 cL_law RL G n0 8) (X : SX K b N xs) (h1 : vp_in (i + 1) N) (h : LS4 (xs (i + 1).toNatClampNeg) M M3) (k1 : J K M3 1472 [(4, .int i), (3, .ref (n0 + 185)), (2, .ref (n0 + 178)), (1, .ref (n0 + 0)), (0, .ref b)] []) (k2 : J (kup K 1 6) M3 1472 [(4, .int i), (3, .ref (n0 + 185)), (2, .ref (n0 + 178)), (1, .ref (n0 + 0)), (0, .ref b)] []) : J K M 424 [(4, .int i), (3, .ref (n0 + 185)), (2, .ref (n0 + 178)), (1, .ref (n0 + 0)), (0, .ref b)] [] := by
  rcases h with ⟨r, M1, z, e1, e2, e3, e4, e5⟩ | ⟨z, e1, e2, e3⟩
  · refine j_aload_n C 3 dL_law_424 rfl rfl ?_
    refine j_aload_n C 4 dL_law_425 rfl rfl ?_
    refine j_iload C 0 dL_law_426 rfl ?_
    refine j_iconst C (1 : Int32) rfl dL_law_428 ?_
    refine j_iadd C dL_law_429 ?_
    refine j_scr C X h1 dL_law_430 ?_
    refine j_aload_n C 1 dL_law_431 rfl rfl ?_
    refine j_callW C 3 (cr_L_takeBack l G n0 e1 rfl) tw5_51 tw5_52 tw1_0 cwL_takeBack ⟨rfl, rfl⟩ (by decide +kernel) ⟨Nat.le_of_ble_eq_true rfl, Nat.le_of_ble_eq_true rfl⟩ C2 rfl rfl (Nat.le_of_ble_eq_true rfl) dL_law_432 ?_
    refine j_istore C2 [(5, .int 0), (4, .int i), (3, .ref (n0 + 185)), (2, .ref (n0 + 178)), (1, .ref (n0 + 0)), (0, .ref b)] dL_law_435 (by decide) rfl ?_
    refine j_aload_n C2 3 dL_law_437 rfl rfl ?_
    refine j_aload_n C2 5 dL_law_438 rfl rfl ?_
    refine j_iload C2 1 dL_law_439 rfl ?_
    refine j_iconst C2 (1 : Int32) rfl dL_law_441 ?_
    refine j_iadd C2 dL_law_442 ?_
    refine j_scr C2 (X.up 1 6) h1 dL_law_443 ?_
    refine j_callV C2 1 lc178 (ent_K _ _ _ _ _ _) rfl (c_X12_takeBack l G n0 e2) gv_RL_106 ⟨rfl, rfl⟩ (by decide +kernel) ⟨Nat.le_of_ble_eq_true rfl, Nat.le_of_ble_eq_true rfl⟩ rfl rfl (Nat.le_of_ble_eq_true rfl) dL_law_444 ?_
    refine j_istore C2 [(6, .int z), (5, .int 0), (4, .int i), (3, .ref (n0 + 185)), (2, .ref (n0 + 178)), (1, .ref (n0 + 0)), (0, .ref b)] dL_law_447 (by decide) rfl ?_
    refine j_aload_n C2 4 dL_law_449 rfl rfl ?_
    refine j_callV C2 0 lc178 (ent_K _ _ _ _ _ _) rfl (c_X12_thrown l G n0 e3) gv_RL_90 ⟨rfl, rfl⟩ (by decide +kernel) ⟨Nat.le_of_ble_eq_true rfl, Nat.le_of_ble_eq_true rfl⟩ rfl rfl (Nat.le_of_ble_eq_true rfl) dL_law_450 ?_
    refine j_iload C2 1 dL_law_453 rfl ?_
    refine j_icmp_eq C2 460 dL_law_455 (by decide) (fun _ => ?_) (fun c => absurd rfl c)
    refine j_iload C2 1 dL_law_460 rfl ?_
    refine j_if_ne C2 477 dL_law_462 (by decide) (fun c => absurd rfl c) (fun _ => ?_)
    refine j_aload_n C2 3 dL_law_465 rfl rfl ?_
    refine j_iconst C2 (0 : Int32) rfl dL_law_466 ?_
    refine j_lald C2 dL_law_467 ?_
    refine j_iload C2 0 dL_law_468 rfl ?_
    refine j_i2l C2 dL_law_470 ?_
    refine j_lcmp C2 dL_law_471 ?_
    refine j_iflc_eq C2 477 dL_law_472 (by decide) (fun _ => ?_) (fun c => absurd (e5.trans e4) c)
    refine j_goto C2 1472 dL_law_477 (by decide) ?_
    exact j_sub [2, 3, 4, 5, 6] rfl k2
  · refine j_aload_n C 3 dL_law_424 rfl rfl ?_
    refine j_aload_n C 4 dL_law_425 rfl rfl ?_
    refine j_iload C 0 dL_law_426 rfl ?_
    refine j_iconst C (1 : Int32) rfl dL_law_428 ?_
    refine j_iadd C dL_law_429 ?_
    refine j_scr C X h1 dL_law_430 ?_
    refine j_aload_n C 1 dL_law_431 rfl rfl ?_
    refine j_callW C 3 (ct_L_takeBack_1 l hfl G n0 e1) tw5_51 tw5_52 tw1_0 cwL_takeBack ⟨rfl, rfl⟩ (by decide +kernel) ⟨Nat.le_of_ble_eq_true rfl, Nat.le_of_ble_eq_true rfl⟩ C2 rfl rfl (Nat.le_of_ble_eq_true rfl) dL_law_432 ?_
    refine j_istore C2 [(5, .int 1), (4, .int i), (3, .ref (n0 + 185)), (2, .ref (n0 + 178)), (1, .ref (n0 + 0)), (0, .ref b)] dL_law_435 (by decide) rfl ?_
    refine j_aload_n C2 3 dL_law_437 rfl rfl ?_
    refine j_aload_n C2 5 dL_law_438 rfl rfl ?_
    refine j_iload C2 1 dL_law_439 rfl ?_
    refine j_iconst C2 (1 : Int32) rfl dL_law_441 ?_
    refine j_iadd C2 dL_law_442 ?_
    refine j_scr C2 (X.up 1 6) h1 dL_law_443 ?_
    refine j_callV C2 1 lc178 (ent_K _ _ _ _ _ _) rfl (c_X12_takeBack l G n0 e2) gv_RL_106 ⟨rfl, rfl⟩ (by decide +kernel) ⟨Nat.le_of_ble_eq_true rfl, Nat.le_of_ble_eq_true rfl⟩ rfl rfl (Nat.le_of_ble_eq_true rfl) dL_law_444 ?_
    refine j_istore C2 [(6, .int z), (5, .int 1), (4, .int i), (3, .ref (n0 + 185)), (2, .ref (n0 + 178)), (1, .ref (n0 + 0)), (0, .ref b)] dL_law_447 (by decide) rfl ?_
    refine j_aload_n C2 4 dL_law_449 rfl rfl ?_
    refine j_callV C2 0 lc178 (ent_K _ _ _ _ _ _) rfl (c_X12_thrown l G n0 e3) gv_RL_90 ⟨rfl, rfl⟩ (by decide +kernel) ⟨Nat.le_of_ble_eq_true rfl, Nat.le_of_ble_eq_true rfl⟩ rfl rfl (Nat.le_of_ble_eq_true rfl) dL_law_450 ?_
    refine j_iload C2 1 dL_law_453 rfl ?_
    refine j_icmp_eq C2 460 dL_law_455 (by decide) (fun _ => ?_) (fun c => absurd rfl c)
    refine j_iload C2 1 dL_law_460 rfl ?_
    refine j_if_ne C2 477 dL_law_462 (by decide) (fun _ => ?_) (fun c => absurd c (by decide))
    refine j_goto C2 1472 dL_law_477 (by decide) ?_
    exact j_sub [2, 3, 4, 5, 6] rfl k2
set_option maxRecDepth 100000 in
set_option maxHeartbeats 2000000 in
theorem lc_5 {K : Kx} {l : Launch} (hfl : l.stackTraces = false) {G : Gx} {n0 b N : Nat} {xs : Nat → Int32} {i : Int32} {M M3 : Mem} (C : Ok K l room_1 cL_law RL G n0 8) (C2 : Ok (kup K 1 6) l room_1 cL_law RL G n0 8) (X : SX K b N xs) (h1 : vp_in (i + 1) N) (h : LS5 (xs (i + 1).toNatClampNeg) M M3) (k1 : J K M3 1472 [(4, .int i), (3, .ref (n0 + 185)), (2, .ref (n0 + 178)), (1, .ref (n0 + 0)), (0, .ref b)] []) (k2 : J (kup K 1 6) M3 1472 [(4, .int i), (3, .ref (n0 + 185)), (2, .ref (n0 + 178)), (1, .ref (n0 + 0)), (0, .ref b)] []) : J K M 480 [(4, .int i), (3, .ref (n0 + 185)), (2, .ref (n0 + 178)), (1, .ref (n0 + 0)), (0, .ref b)] [] := by
  rcases h with ⟨r, M1, z, e1, e2, e3, e4, e5⟩ | ⟨z, e1, e2, e3⟩
  · refine j_aload_n C 3 dL_law_480 rfl rfl ?_
    refine j_aload_n C 4 dL_law_481 rfl rfl ?_
    refine j_iload C 0 dL_law_482 rfl ?_
    refine j_iconst C (1 : Int32) rfl dL_law_484 ?_
    refine j_iadd C dL_law_485 ?_
    refine j_scr C X h1 dL_law_486 ?_
    refine j_aload_n C 1 dL_law_487 rfl rfl ?_
    refine j_callW C 3 (cr_L_setS l G n0 e1 rfl) tw5_66 tw5_67 tw1_0 cwL_setS ⟨rfl, rfl⟩ (by decide +kernel) ⟨Nat.le_of_ble_eq_true rfl, Nat.le_of_ble_eq_true rfl⟩ C2 rfl rfl (Nat.le_of_ble_eq_true rfl) dL_law_488 ?_
    refine j_istore C2 [(5, .int 0), (4, .int i), (3, .ref (n0 + 185)), (2, .ref (n0 + 178)), (1, .ref (n0 + 0)), (0, .ref b)] dL_law_491 (by decide) rfl ?_
    refine j_aload_n C2 3 dL_law_493 rfl rfl ?_
    refine j_aload_n C2 5 dL_law_494 rfl rfl ?_
    refine j_iload C2 1 dL_law_495 rfl ?_
    refine j_iconst C2 (1 : Int32) rfl dL_law_497 ?_
    refine j_iadd C2 dL_law_498 ?_
    refine j_scr C2 (X.up 1 6) h1 dL_law_499 ?_
    refine j_callV C2 1 lc178 (ent_K _ _ _ _ _ _) rfl (c_X12_setS l G n0 e2) gv_RL_109 ⟨rfl, rfl⟩ (by decide +kernel) ⟨Nat.le_of_ble_eq_true rfl, Nat.le_of_ble_eq_true rfl⟩ rfl rfl (Nat.le_of_ble_eq_true rfl) dL_law_500 ?_
    refine j_istore C2 [(6, .int z), (5, .int 0), (4, .int i), (3, .ref (n0 + 185)), (2, .ref (n0 + 178)), (1, .ref (n0 + 0)), (0, .ref b)] dL_law_503 (by decide) rfl ?_
    refine j_aload_n C2 4 dL_law_505 rfl rfl ?_
    refine j_callV C2 0 lc178 (ent_K _ _ _ _ _ _) rfl (c_X12_thrown l G n0 e3) gv_RL_90 ⟨rfl, rfl⟩ (by decide +kernel) ⟨Nat.le_of_ble_eq_true rfl, Nat.le_of_ble_eq_true rfl⟩ rfl rfl (Nat.le_of_ble_eq_true rfl) dL_law_506 ?_
    refine j_iload C2 1 dL_law_509 rfl ?_
    refine j_icmp_eq C2 516 dL_law_511 (by decide) (fun _ => ?_) (fun c => absurd rfl c)
    refine j_iload C2 1 dL_law_516 rfl ?_
    refine j_if_ne C2 533 dL_law_518 (by decide) (fun c => absurd rfl c) (fun _ => ?_)
    refine j_aload_n C2 3 dL_law_521 rfl rfl ?_
    refine j_iconst C2 (0 : Int32) rfl dL_law_522 ?_
    refine j_lald C2 dL_law_523 ?_
    refine j_iload C2 0 dL_law_524 rfl ?_
    refine j_i2l C2 dL_law_526 ?_
    refine j_lcmp C2 dL_law_527 ?_
    refine j_iflc_eq C2 533 dL_law_528 (by decide) (fun _ => ?_) (fun c => absurd (e5.trans e4) c)
    refine j_goto C2 1472 dL_law_533 (by decide) ?_
    exact j_sub [2, 3, 4, 5, 6] rfl k2
  · refine j_aload_n C 3 dL_law_480 rfl rfl ?_
    refine j_aload_n C 4 dL_law_481 rfl rfl ?_
    refine j_iload C 0 dL_law_482 rfl ?_
    refine j_iconst C (1 : Int32) rfl dL_law_484 ?_
    refine j_iadd C dL_law_485 ?_
    refine j_scr C X h1 dL_law_486 ?_
    refine j_aload_n C 1 dL_law_487 rfl rfl ?_
    refine j_callW C 3 (ct_L_setS_2 l hfl G n0 e1) tw5_66 tw5_67 tw1_0 cwL_setS ⟨rfl, rfl⟩ (by decide +kernel) ⟨Nat.le_of_ble_eq_true rfl, Nat.le_of_ble_eq_true rfl⟩ C2 rfl rfl (Nat.le_of_ble_eq_true rfl) dL_law_488 ?_
    refine j_istore C2 [(5, .int 1), (4, .int i), (3, .ref (n0 + 185)), (2, .ref (n0 + 178)), (1, .ref (n0 + 0)), (0, .ref b)] dL_law_491 (by decide) rfl ?_
    refine j_aload_n C2 3 dL_law_493 rfl rfl ?_
    refine j_aload_n C2 5 dL_law_494 rfl rfl ?_
    refine j_iload C2 1 dL_law_495 rfl ?_
    refine j_iconst C2 (1 : Int32) rfl dL_law_497 ?_
    refine j_iadd C2 dL_law_498 ?_
    refine j_scr C2 (X.up 1 6) h1 dL_law_499 ?_
    refine j_callV C2 1 lc178 (ent_K _ _ _ _ _ _) rfl (c_X12_setS l G n0 e2) gv_RL_109 ⟨rfl, rfl⟩ (by decide +kernel) ⟨Nat.le_of_ble_eq_true rfl, Nat.le_of_ble_eq_true rfl⟩ rfl rfl (Nat.le_of_ble_eq_true rfl) dL_law_500 ?_
    refine j_istore C2 [(6, .int z), (5, .int 1), (4, .int i), (3, .ref (n0 + 185)), (2, .ref (n0 + 178)), (1, .ref (n0 + 0)), (0, .ref b)] dL_law_503 (by decide) rfl ?_
    refine j_aload_n C2 4 dL_law_505 rfl rfl ?_
    refine j_callV C2 0 lc178 (ent_K _ _ _ _ _ _) rfl (c_X12_thrown l G n0 e3) gv_RL_90 ⟨rfl, rfl⟩ (by decide +kernel) ⟨Nat.le_of_ble_eq_true rfl, Nat.le_of_ble_eq_true rfl⟩ rfl rfl (Nat.le_of_ble_eq_true rfl) dL_law_506 ?_
    refine j_iload C2 1 dL_law_509 rfl ?_
    refine j_icmp_eq C2 516 dL_law_511 (by decide) (fun _ => ?_) (fun c => absurd rfl c)
    refine j_iload C2 1 dL_law_516 rfl ?_
    refine j_if_ne C2 533 dL_law_518 (by decide) (fun _ => ?_) (fun c => absurd c (by decide))
    refine j_goto C2 1472 dL_law_533 (by decide) ?_
    exact j_sub [2, 3, 4, 5, 6] rfl k2
set_option maxRecDepth 100000 in
set_option maxHeartbeats 2000000 in
theorem lc_6 {K : Kx} {l : Launch} (hfl : l.stackTraces = false) {G : Gx} {n0 b N : Nat} {xs : Nat → Int32} {i : Int32} {M M3 : Mem} (C : Ok K l room_1 cL_law RL G n0 8) (C2 : Ok (kup K 1 6) l room_1 cL_law RL G n0 8) (X : SX K b N xs) (h1 : vp_in (i + 1) N) (h : LS6 (xs (i + 1).toNatClampNeg) M M3) (k1 : J K M3 1472 [(4, .int i), (3, .ref (n0 + 185)), (2, .ref (n0 + 178)), (1, .ref (n0 + 0)), (0, .ref b)] []) (k2 : J (kup K 1 6) M3 1472 [(4, .int i), (3, .ref (n0 + 185)), (2, .ref (n0 + 178)), (1, .ref (n0 + 0)), (0, .ref b)] []) : J K M 536 [(4, .int i), (3, .ref (n0 + 185)), (2, .ref (n0 + 178)), (1, .ref (n0 + 0)), (0, .ref b)] [] := by
  rcases h with ⟨r, M1, z, e1, e2, e3, e4, e5⟩ | ⟨z, e1, e2, e3⟩ | ⟨z, e1, e2, e3⟩
  · refine j_aload_n C 3 dL_law_536 rfl rfl ?_
    refine j_aload_n C 4 dL_law_537 rfl rfl ?_
    refine j_iload C 0 dL_law_538 rfl ?_
    refine j_iconst C (1 : Int32) rfl dL_law_540 ?_
    refine j_iadd C dL_law_541 ?_
    refine j_scr C X h1 dL_law_542 ?_
    refine j_aload_n C 1 dL_law_543 rfl rfl ?_
    refine j_callW C 3 (cr_L_bake l G n0 e1 rfl) tw5_77 tw5_78 tw1_0 cwL_bake ⟨rfl, rfl⟩ (by decide +kernel) ⟨Nat.le_of_ble_eq_true rfl, Nat.le_of_ble_eq_true rfl⟩ C2 rfl rfl (Nat.le_of_ble_eq_true rfl) dL_law_544 ?_
    refine j_istore C2 [(5, .int 0), (4, .int i), (3, .ref (n0 + 185)), (2, .ref (n0 + 178)), (1, .ref (n0 + 0)), (0, .ref b)] dL_law_547 (by decide) rfl ?_
    refine j_aload_n C2 3 dL_law_549 rfl rfl ?_
    refine j_aload_n C2 5 dL_law_550 rfl rfl ?_
    refine j_iload C2 1 dL_law_551 rfl ?_
    refine j_iconst C2 (1 : Int32) rfl dL_law_553 ?_
    refine j_iadd C2 dL_law_554 ?_
    refine j_scr C2 (X.up 1 6) h1 dL_law_555 ?_
    refine j_callV C2 1 lc178 (ent_K _ _ _ _ _ _) rfl (c_X12_bake l G n0 e2) gv_RL_112 ⟨rfl, rfl⟩ (by decide +kernel) ⟨Nat.le_of_ble_eq_true rfl, Nat.le_of_ble_eq_true rfl⟩ rfl rfl (Nat.le_of_ble_eq_true rfl) dL_law_556 ?_
    refine j_istore C2 [(6, .int z), (5, .int 0), (4, .int i), (3, .ref (n0 + 185)), (2, .ref (n0 + 178)), (1, .ref (n0 + 0)), (0, .ref b)] dL_law_559 (by decide) rfl ?_
    refine j_aload_n C2 4 dL_law_561 rfl rfl ?_
    refine j_callV C2 0 lc178 (ent_K _ _ _ _ _ _) rfl (c_X12_thrown l G n0 e3) gv_RL_90 ⟨rfl, rfl⟩ (by decide +kernel) ⟨Nat.le_of_ble_eq_true rfl, Nat.le_of_ble_eq_true rfl⟩ rfl rfl (Nat.le_of_ble_eq_true rfl) dL_law_562 ?_
    refine j_iload C2 1 dL_law_565 rfl ?_
    refine j_icmp_eq C2 572 dL_law_567 (by decide) (fun _ => ?_) (fun c => absurd rfl c)
    refine j_iload C2 1 dL_law_572 rfl ?_
    refine j_if_ne C2 589 dL_law_574 (by decide) (fun c => absurd rfl c) (fun _ => ?_)
    refine j_aload_n C2 3 dL_law_577 rfl rfl ?_
    refine j_iconst C2 (0 : Int32) rfl dL_law_578 ?_
    refine j_lald C2 dL_law_579 ?_
    refine j_iload C2 0 dL_law_580 rfl ?_
    refine j_i2l C2 dL_law_582 ?_
    refine j_lcmp C2 dL_law_583 ?_
    refine j_iflc_eq C2 589 dL_law_584 (by decide) (fun _ => ?_) (fun c => absurd (e5.trans e4) c)
    refine j_goto C2 1472 dL_law_589 (by decide) ?_
    exact j_sub [2, 3, 4, 5, 6] rfl k2
  · refine j_aload_n C 3 dL_law_536 rfl rfl ?_
    refine j_aload_n C 4 dL_law_537 rfl rfl ?_
    refine j_iload C 0 dL_law_538 rfl ?_
    refine j_iconst C (1 : Int32) rfl dL_law_540 ?_
    refine j_iadd C dL_law_541 ?_
    refine j_scr C X h1 dL_law_542 ?_
    refine j_aload_n C 1 dL_law_543 rfl rfl ?_
    refine j_callW C 3 (ct_L_bake_2 l hfl G n0 e1) tw5_77 tw5_78 tw1_0 cwL_bake ⟨rfl, rfl⟩ (by decide +kernel) ⟨Nat.le_of_ble_eq_true rfl, Nat.le_of_ble_eq_true rfl⟩ C2 rfl rfl (Nat.le_of_ble_eq_true rfl) dL_law_544 ?_
    refine j_istore C2 [(5, .int 1), (4, .int i), (3, .ref (n0 + 185)), (2, .ref (n0 + 178)), (1, .ref (n0 + 0)), (0, .ref b)] dL_law_547 (by decide) rfl ?_
    refine j_aload_n C2 3 dL_law_549 rfl rfl ?_
    refine j_aload_n C2 5 dL_law_550 rfl rfl ?_
    refine j_iload C2 1 dL_law_551 rfl ?_
    refine j_iconst C2 (1 : Int32) rfl dL_law_553 ?_
    refine j_iadd C2 dL_law_554 ?_
    refine j_scr C2 (X.up 1 6) h1 dL_law_555 ?_
    refine j_callV C2 1 lc178 (ent_K _ _ _ _ _ _) rfl (c_X12_bake l G n0 e2) gv_RL_112 ⟨rfl, rfl⟩ (by decide +kernel) ⟨Nat.le_of_ble_eq_true rfl, Nat.le_of_ble_eq_true rfl⟩ rfl rfl (Nat.le_of_ble_eq_true rfl) dL_law_556 ?_
    refine j_istore C2 [(6, .int z), (5, .int 1), (4, .int i), (3, .ref (n0 + 185)), (2, .ref (n0 + 178)), (1, .ref (n0 + 0)), (0, .ref b)] dL_law_559 (by decide) rfl ?_
    refine j_aload_n C2 4 dL_law_561 rfl rfl ?_
    refine j_callV C2 0 lc178 (ent_K _ _ _ _ _ _) rfl (c_X12_thrown l G n0 e3) gv_RL_90 ⟨rfl, rfl⟩ (by decide +kernel) ⟨Nat.le_of_ble_eq_true rfl, Nat.le_of_ble_eq_true rfl⟩ rfl rfl (Nat.le_of_ble_eq_true rfl) dL_law_562 ?_
    refine j_iload C2 1 dL_law_565 rfl ?_
    refine j_icmp_eq C2 572 dL_law_567 (by decide) (fun _ => ?_) (fun c => absurd rfl c)
    refine j_iload C2 1 dL_law_572 rfl ?_
    refine j_if_ne C2 589 dL_law_574 (by decide) (fun _ => ?_) (fun c => absurd c (by decide))
    refine j_goto C2 1472 dL_law_589 (by decide) ?_
    exact j_sub [2, 3, 4, 5, 6] rfl k2
  · refine j_aload_n C 3 dL_law_536 rfl rfl ?_
    refine j_aload_n C 4 dL_law_537 rfl rfl ?_
    refine j_iload C 0 dL_law_538 rfl ?_
    refine j_iconst C (1 : Int32) rfl dL_law_540 ?_
    refine j_iadd C dL_law_541 ?_
    refine j_scr C X h1 dL_law_542 ?_
    refine j_aload_n C 1 dL_law_543 rfl rfl ?_
    refine j_callW C 3 (ct_L_bake_3 l hfl G n0 e1) tw5_77 tw5_78 tw1_0 cwL_bake ⟨rfl, rfl⟩ (by decide +kernel) ⟨Nat.le_of_ble_eq_true rfl, Nat.le_of_ble_eq_true rfl⟩ C2 rfl rfl (Nat.le_of_ble_eq_true rfl) dL_law_544 ?_
    refine j_istore C2 [(5, .int 2), (4, .int i), (3, .ref (n0 + 185)), (2, .ref (n0 + 178)), (1, .ref (n0 + 0)), (0, .ref b)] dL_law_547 (by decide) rfl ?_
    refine j_aload_n C2 3 dL_law_549 rfl rfl ?_
    refine j_aload_n C2 5 dL_law_550 rfl rfl ?_
    refine j_iload C2 1 dL_law_551 rfl ?_
    refine j_iconst C2 (1 : Int32) rfl dL_law_553 ?_
    refine j_iadd C2 dL_law_554 ?_
    refine j_scr C2 (X.up 1 6) h1 dL_law_555 ?_
    refine j_callV C2 1 lc178 (ent_K _ _ _ _ _ _) rfl (c_X12_bake l G n0 e2) gv_RL_112 ⟨rfl, rfl⟩ (by decide +kernel) ⟨Nat.le_of_ble_eq_true rfl, Nat.le_of_ble_eq_true rfl⟩ rfl rfl (Nat.le_of_ble_eq_true rfl) dL_law_556 ?_
    refine j_istore C2 [(6, .int z), (5, .int 2), (4, .int i), (3, .ref (n0 + 185)), (2, .ref (n0 + 178)), (1, .ref (n0 + 0)), (0, .ref b)] dL_law_559 (by decide) rfl ?_
    refine j_aload_n C2 4 dL_law_561 rfl rfl ?_
    refine j_callV C2 0 lc178 (ent_K _ _ _ _ _ _) rfl (c_X12_thrown l G n0 e3) gv_RL_90 ⟨rfl, rfl⟩ (by decide +kernel) ⟨Nat.le_of_ble_eq_true rfl, Nat.le_of_ble_eq_true rfl⟩ rfl rfl (Nat.le_of_ble_eq_true rfl) dL_law_562 ?_
    refine j_iload C2 1 dL_law_565 rfl ?_
    refine j_icmp_eq C2 572 dL_law_567 (by decide) (fun _ => ?_) (fun c => absurd rfl c)
    refine j_iload C2 1 dL_law_572 rfl ?_
    refine j_if_ne C2 589 dL_law_574 (by decide) (fun _ => ?_) (fun c => absurd c (by decide))
    refine j_goto C2 1472 dL_law_589 (by decide) ?_
    exact j_sub [2, 3, 4, 5, 6] rfl k2
set_option maxRecDepth 100000 in
set_option maxHeartbeats 2000000 in
theorem lc_7 {K : Kx} {l : Launch} (hfl : l.stackTraces = false) {G : Gx} {n0 b N : Nat} {xs : Nat → Int32} {i : Int32} {M M3 : Mem} (C : Ok K l room_1 cL_law RL G n0 8) (C2 : Ok (kup K 1 6) l room_1 cL_law RL G n0 8) (X : SX K b N xs) (h1 : vp_in (i + 1) N) (h : LS7 (xs (i + 1).toNatClampNeg) M M3) (k1 : J K M3 1472 [(4, .int i), (3, .ref (n0 + 185)), (2, .ref (n0 + 178)), (1, .ref (n0 + 0)), (0, .ref b)] []) (k2 : J (kup K 1 6) M3 1472 [(4, .int i), (3, .ref (n0 + 185)), (2, .ref (n0 + 178)), (1, .ref (n0 + 0)), (0, .ref b)] []) : J K M 592 [(4, .int i), (3, .ref (n0 + 185)), (2, .ref (n0 + 178)), (1, .ref (n0 + 0)), (0, .ref b)] [] := by
  rcases h with ⟨r, M1, z, e1, e2, e3, e4, e5⟩ | ⟨z, e1, e2, e3⟩
  · refine j_aload_n C 3 dL_law_592 rfl rfl ?_
    refine j_aload_n C 4 dL_law_593 rfl rfl ?_
    refine j_iload C 0 dL_law_594 rfl ?_
    refine j_iconst C (1 : Int32) rfl dL_law_596 ?_
    refine j_iadd C dL_law_597 ?_
    refine j_scr C X h1 dL_law_598 ?_
    refine j_aload_n C 1 dL_law_599 rfl rfl ?_
    refine j_callW C 3 (cr_L_claim l G n0 e1 rfl) tw5_84 tw5_85 tw1_0 cwL_claim ⟨rfl, rfl⟩ (by decide +kernel) ⟨Nat.le_of_ble_eq_true rfl, Nat.le_of_ble_eq_true rfl⟩ C2 rfl rfl (Nat.le_of_ble_eq_true rfl) dL_law_600 ?_
    refine j_istore C2 [(5, .int 0), (4, .int i), (3, .ref (n0 + 185)), (2, .ref (n0 + 178)), (1, .ref (n0 + 0)), (0, .ref b)] dL_law_603 (by decide) rfl ?_
    refine j_aload_n C2 3 dL_law_605 rfl rfl ?_
    refine j_aload_n C2 5 dL_law_606 rfl rfl ?_
    refine j_iload C2 1 dL_law_607 rfl ?_
    refine j_iconst C2 (1 : Int32) rfl dL_law_609 ?_
    refine j_iadd C2 dL_law_610 ?_
    refine j_scr C2 (X.up 1 6) h1 dL_law_611 ?_
    refine j_callV C2 1 lc178 (ent_K _ _ _ _ _ _) rfl (c_X12_claim l G n0 e2) gv_RL_115 ⟨rfl, rfl⟩ (by decide +kernel) ⟨Nat.le_of_ble_eq_true rfl, Nat.le_of_ble_eq_true rfl⟩ rfl rfl (Nat.le_of_ble_eq_true rfl) dL_law_612 ?_
    refine j_istore C2 [(6, .int z), (5, .int 0), (4, .int i), (3, .ref (n0 + 185)), (2, .ref (n0 + 178)), (1, .ref (n0 + 0)), (0, .ref b)] dL_law_615 (by decide) rfl ?_
    refine j_aload_n C2 4 dL_law_617 rfl rfl ?_
    refine j_callV C2 0 lc178 (ent_K _ _ _ _ _ _) rfl (c_X12_thrown l G n0 e3) gv_RL_90 ⟨rfl, rfl⟩ (by decide +kernel) ⟨Nat.le_of_ble_eq_true rfl, Nat.le_of_ble_eq_true rfl⟩ rfl rfl (Nat.le_of_ble_eq_true rfl) dL_law_618 ?_
    refine j_iload C2 1 dL_law_621 rfl ?_
    refine j_icmp_eq C2 628 dL_law_623 (by decide) (fun _ => ?_) (fun c => absurd rfl c)
    refine j_iload C2 1 dL_law_628 rfl ?_
    refine j_if_ne C2 645 dL_law_630 (by decide) (fun c => absurd rfl c) (fun _ => ?_)
    refine j_aload_n C2 3 dL_law_633 rfl rfl ?_
    refine j_iconst C2 (0 : Int32) rfl dL_law_634 ?_
    refine j_lald C2 dL_law_635 ?_
    refine j_iload C2 0 dL_law_636 rfl ?_
    refine j_i2l C2 dL_law_638 ?_
    refine j_lcmp C2 dL_law_639 ?_
    refine j_iflc_eq C2 645 dL_law_640 (by decide) (fun _ => ?_) (fun c => absurd (e5.trans e4) c)
    refine j_goto C2 1472 dL_law_645 (by decide) ?_
    exact j_sub [2, 3, 4, 5, 6] rfl k2
  · refine j_aload_n C 3 dL_law_592 rfl rfl ?_
    refine j_aload_n C 4 dL_law_593 rfl rfl ?_
    refine j_iload C 0 dL_law_594 rfl ?_
    refine j_iconst C (1 : Int32) rfl dL_law_596 ?_
    refine j_iadd C dL_law_597 ?_
    refine j_scr C X h1 dL_law_598 ?_
    refine j_aload_n C 1 dL_law_599 rfl rfl ?_
    refine j_callW C 3 (ct_L_claim_1 l hfl G n0 e1) tw5_84 tw5_85 tw1_0 cwL_claim ⟨rfl, rfl⟩ (by decide +kernel) ⟨Nat.le_of_ble_eq_true rfl, Nat.le_of_ble_eq_true rfl⟩ C2 rfl rfl (Nat.le_of_ble_eq_true rfl) dL_law_600 ?_
    refine j_istore C2 [(5, .int 1), (4, .int i), (3, .ref (n0 + 185)), (2, .ref (n0 + 178)), (1, .ref (n0 + 0)), (0, .ref b)] dL_law_603 (by decide) rfl ?_
    refine j_aload_n C2 3 dL_law_605 rfl rfl ?_
    refine j_aload_n C2 5 dL_law_606 rfl rfl ?_
    refine j_iload C2 1 dL_law_607 rfl ?_
    refine j_iconst C2 (1 : Int32) rfl dL_law_609 ?_
    refine j_iadd C2 dL_law_610 ?_
    refine j_scr C2 (X.up 1 6) h1 dL_law_611 ?_
    refine j_callV C2 1 lc178 (ent_K _ _ _ _ _ _) rfl (c_X12_claim l G n0 e2) gv_RL_115 ⟨rfl, rfl⟩ (by decide +kernel) ⟨Nat.le_of_ble_eq_true rfl, Nat.le_of_ble_eq_true rfl⟩ rfl rfl (Nat.le_of_ble_eq_true rfl) dL_law_612 ?_
    refine j_istore C2 [(6, .int z), (5, .int 1), (4, .int i), (3, .ref (n0 + 185)), (2, .ref (n0 + 178)), (1, .ref (n0 + 0)), (0, .ref b)] dL_law_615 (by decide) rfl ?_
    refine j_aload_n C2 4 dL_law_617 rfl rfl ?_
    refine j_callV C2 0 lc178 (ent_K _ _ _ _ _ _) rfl (c_X12_thrown l G n0 e3) gv_RL_90 ⟨rfl, rfl⟩ (by decide +kernel) ⟨Nat.le_of_ble_eq_true rfl, Nat.le_of_ble_eq_true rfl⟩ rfl rfl (Nat.le_of_ble_eq_true rfl) dL_law_618 ?_
    refine j_iload C2 1 dL_law_621 rfl ?_
    refine j_icmp_eq C2 628 dL_law_623 (by decide) (fun _ => ?_) (fun c => absurd rfl c)
    refine j_iload C2 1 dL_law_628 rfl ?_
    refine j_if_ne C2 645 dL_law_630 (by decide) (fun _ => ?_) (fun c => absurd c (by decide))
    refine j_goto C2 1472 dL_law_645 (by decide) ?_
    exact j_sub [2, 3, 4, 5, 6] rfl k2
set_option maxRecDepth 100000 in
set_option maxHeartbeats 2000000 in
theorem lc_8 {K : Kx} {l : Launch} (hfl : l.stackTraces = false) {G : Gx} {n0 b N : Nat} {xs : Nat → Int32} {i : Int32} {M M3 : Mem} (C : Ok K l room_1 cL_law RL G n0 8) (C2 : Ok (kup K 1 6) l room_1 cL_law RL G n0 8) (X : SX K b N xs) (h1 : vp_in (i + 1) N) (h : LS8 (xs (i + 1).toNatClampNeg) M M3) (k1 : J K M3 1472 [(4, .int i), (3, .ref (n0 + 185)), (2, .ref (n0 + 178)), (1, .ref (n0 + 0)), (0, .ref b)] []) (k2 : J (kup K 1 6) M3 1472 [(4, .int i), (3, .ref (n0 + 185)), (2, .ref (n0 + 178)), (1, .ref (n0 + 0)), (0, .ref b)] []) : J K M 648 [(4, .int i), (3, .ref (n0 + 185)), (2, .ref (n0 + 178)), (1, .ref (n0 + 0)), (0, .ref b)] [] := by
  rcases h with ⟨r, M1, z, e1, e2, e3, e4, e5⟩ | ⟨z, e1, e2, e3⟩
  · refine j_aload_n C 3 dL_law_648 rfl rfl ?_
    refine j_aload_n C 4 dL_law_649 rfl rfl ?_
    refine j_iload C 0 dL_law_650 rfl ?_
    refine j_iconst C (1 : Int32) rfl dL_law_652 ?_
    refine j_iadd C dL_law_653 ?_
    refine j_scr C X h1 dL_law_654 ?_
    refine j_aload_n C 1 dL_law_655 rfl rfl ?_
    refine j_callW C 3 (cr_L_returnLoaves l G n0 e1 rfl) tw5_91 tw5_92 tw1_0 cwL_returnLoaves ⟨rfl, rfl⟩ (by decide +kernel) ⟨Nat.le_of_ble_eq_true rfl, Nat.le_of_ble_eq_true rfl⟩ C2 rfl rfl (Nat.le_of_ble_eq_true rfl) dL_law_656 ?_
    refine j_istore C2 [(5, .int 0), (4, .int i), (3, .ref (n0 + 185)), (2, .ref (n0 + 178)), (1, .ref (n0 + 0)), (0, .ref b)] dL_law_659 (by decide) rfl ?_
    refine j_aload_n C2 3 dL_law_661 rfl rfl ?_
    refine j_aload_n C2 5 dL_law_662 rfl rfl ?_
    refine j_iload C2 1 dL_law_663 rfl ?_
    refine j_iconst C2 (1 : Int32) rfl dL_law_665 ?_
    refine j_iadd C2 dL_law_666 ?_
    refine j_scr C2 (X.up 1 6) h1 dL_law_667 ?_
    refine j_callV C2 1 lc178 (ent_K _ _ _ _ _ _) rfl (c_X12_returnLoaves l G n0 e2) gv_RL_118 ⟨rfl, rfl⟩ (by decide +kernel) ⟨Nat.le_of_ble_eq_true rfl, Nat.le_of_ble_eq_true rfl⟩ rfl rfl (Nat.le_of_ble_eq_true rfl) dL_law_668 ?_
    refine j_istore C2 [(6, .int z), (5, .int 0), (4, .int i), (3, .ref (n0 + 185)), (2, .ref (n0 + 178)), (1, .ref (n0 + 0)), (0, .ref b)] dL_law_671 (by decide) rfl ?_
    refine j_aload_n C2 4 dL_law_673 rfl rfl ?_
    refine j_callV C2 0 lc178 (ent_K _ _ _ _ _ _) rfl (c_X12_thrown l G n0 e3) gv_RL_90 ⟨rfl, rfl⟩ (by decide +kernel) ⟨Nat.le_of_ble_eq_true rfl, Nat.le_of_ble_eq_true rfl⟩ rfl rfl (Nat.le_of_ble_eq_true rfl) dL_law_674 ?_
    refine j_iload C2 1 dL_law_677 rfl ?_
    refine j_icmp_eq C2 684 dL_law_679 (by decide) (fun _ => ?_) (fun c => absurd rfl c)
    refine j_iload C2 1 dL_law_684 rfl ?_
    refine j_if_ne C2 701 dL_law_686 (by decide) (fun c => absurd rfl c) (fun _ => ?_)
    refine j_aload_n C2 3 dL_law_689 rfl rfl ?_
    refine j_iconst C2 (0 : Int32) rfl dL_law_690 ?_
    refine j_lald C2 dL_law_691 ?_
    refine j_iload C2 0 dL_law_692 rfl ?_
    refine j_i2l C2 dL_law_694 ?_
    refine j_lcmp C2 dL_law_695 ?_
    refine j_iflc_eq C2 701 dL_law_696 (by decide) (fun _ => ?_) (fun c => absurd (e5.trans e4) c)
    refine j_goto C2 1472 dL_law_701 (by decide) ?_
    exact j_sub [2, 3, 4, 5, 6] rfl k2
  · refine j_aload_n C 3 dL_law_648 rfl rfl ?_
    refine j_aload_n C 4 dL_law_649 rfl rfl ?_
    refine j_iload C 0 dL_law_650 rfl ?_
    refine j_iconst C (1 : Int32) rfl dL_law_652 ?_
    refine j_iadd C dL_law_653 ?_
    refine j_scr C X h1 dL_law_654 ?_
    refine j_aload_n C 1 dL_law_655 rfl rfl ?_
    refine j_callW C 3 (ct_L_returnLoaves_1 l hfl G n0 e1) tw5_91 tw5_92 tw1_0 cwL_returnLoaves ⟨rfl, rfl⟩ (by decide +kernel) ⟨Nat.le_of_ble_eq_true rfl, Nat.le_of_ble_eq_true rfl⟩ C2 rfl rfl (Nat.le_of_ble_eq_true rfl) dL_law_656 ?_
    refine j_istore C2 [(5, .int 1), (4, .int i), (3, .ref (n0 + 185)), (2, .ref (n0 + 178)), (1, .ref (n0 + 0)), (0, .ref b)] dL_law_659 (by decide) rfl ?_
    refine j_aload_n C2 3 dL_law_661 rfl rfl ?_
    refine j_aload_n C2 5 dL_law_662 rfl rfl ?_
    refine j_iload C2 1 dL_law_663 rfl ?_
    refine j_iconst C2 (1 : Int32) rfl dL_law_665 ?_
    refine j_iadd C2 dL_law_666 ?_
    refine j_scr C2 (X.up 1 6) h1 dL_law_667 ?_
    refine j_callV C2 1 lc178 (ent_K _ _ _ _ _ _) rfl (c_X12_returnLoaves l G n0 e2) gv_RL_118 ⟨rfl, rfl⟩ (by decide +kernel) ⟨Nat.le_of_ble_eq_true rfl, Nat.le_of_ble_eq_true rfl⟩ rfl rfl (Nat.le_of_ble_eq_true rfl) dL_law_668 ?_
    refine j_istore C2 [(6, .int z), (5, .int 1), (4, .int i), (3, .ref (n0 + 185)), (2, .ref (n0 + 178)), (1, .ref (n0 + 0)), (0, .ref b)] dL_law_671 (by decide) rfl ?_
    refine j_aload_n C2 4 dL_law_673 rfl rfl ?_
    refine j_callV C2 0 lc178 (ent_K _ _ _ _ _ _) rfl (c_X12_thrown l G n0 e3) gv_RL_90 ⟨rfl, rfl⟩ (by decide +kernel) ⟨Nat.le_of_ble_eq_true rfl, Nat.le_of_ble_eq_true rfl⟩ rfl rfl (Nat.le_of_ble_eq_true rfl) dL_law_674 ?_
    refine j_iload C2 1 dL_law_677 rfl ?_
    refine j_icmp_eq C2 684 dL_law_679 (by decide) (fun _ => ?_) (fun c => absurd rfl c)
    refine j_iload C2 1 dL_law_684 rfl ?_
    refine j_if_ne C2 701 dL_law_686 (by decide) (fun _ => ?_) (fun c => absurd c (by decide))
    refine j_goto C2 1472 dL_law_701 (by decide) ?_
    exact j_sub [2, 3, 4, 5, 6] rfl k2
set_option maxRecDepth 100000 in
set_option maxHeartbeats 2000000 in
theorem lc_9 {K : Kx} {l : Launch} (hfl : l.stackTraces = false) {G : Gx} {n0 b N : Nat} {xs : Nat → Int32} {i : Int32} {M M3 : Mem} (C : Ok K l room_1 cL_law RL G n0 8) (C2 : Ok (kup K 1 6) l room_1 cL_law RL G n0 8) (X : SX K b N xs) (h : LS9 M M3) (k1 : J K M3 1472 [(4, .int i), (3, .ref (n0 + 185)), (2, .ref (n0 + 178)), (1, .ref (n0 + 0)), (0, .ref b)] []) (k2 : J (kup K 1 6) M3 1472 [(4, .int i), (3, .ref (n0 + 185)), (2, .ref (n0 + 178)), (1, .ref (n0 + 0)), (0, .ref b)] []) : J K M 704 [(4, .int i), (3, .ref (n0 + 185)), (2, .ref (n0 + 178)), (1, .ref (n0 + 0)), (0, .ref b)] [] := by
  obtain ⟨r, M1, e1, e2⟩ := h
  refine j_aload_n C 3 dL_law_704 rfl rfl ?_
  refine j_callV C 0 lc0 (ent_K _ _ _ _ _ _) rfl (c_X11_giveAway l G n0 e1) gv_RL_119 ⟨rfl, rfl⟩ (by decide +kernel) ⟨Nat.le_of_ble_eq_true rfl, Nat.le_of_ble_eq_true rfl⟩ rfl rfl (Nat.le_of_ble_eq_true rfl) dL_law_705 ?_
  refine j_aload_n C 2 dL_law_708 rfl rfl ?_
  refine j_callV C 0 lc178 (ent_K _ _ _ _ _ _) rfl (c_X12_giveAway l G n0 e2) gv_RL_122 ⟨rfl, rfl⟩ (by decide +kernel) ⟨Nat.le_of_ble_eq_true rfl, Nat.le_of_ble_eq_true rfl⟩ rfl rfl (Nat.le_of_ble_eq_true rfl) dL_law_709 ?_
  refine j_icmp_eq C 1472 dL_law_712 (by decide) (fun _ => ?_) (fun c => absurd rfl c)
  exact k1
set_option maxRecDepth 100000 in
set_option maxHeartbeats 2000000 in
theorem lc_10 {K : Kx} {l : Launch} (hfl : l.stackTraces = false) {G : Gx} {n0 b N : Nat} {xs : Nat → Int32} {i : Int32} {M M3 : Mem} (C : Ok K l room_1 cL_law RL G n0 8) (C2 : Ok (kup K 1 6) l room_1 cL_law RL G n0 8) (X : SX K b N xs) (h1 : vp_in (i + 1) N) (h2 : vp_in (i + 2) N) (h : LS10 (xs (i + 1).toNatClampNeg) (xs (i + 2).toNatClampNeg) M M3) (k1 : J K M3 1472 [(4, .int i), (3, .ref (n0 + 185)), (2, .ref (n0 + 178)), (1, .ref (n0 + 0)), (0, .ref b)] []) (k2 : J (kup K 1 6) M3 1472 [(4, .int i), (3, .ref (n0 + 185)), (2, .ref (n0 + 178)), (1, .ref (n0 + 0)), (0, .ref b)] []) : J K M 717 [(4, .int i), (3, .ref (n0 + 185)), (2, .ref (n0 + 178)), (1, .ref (n0 + 0)), (0, .ref b)] [] := by
  rcases h with ⟨r, z, e1, e2, e3, e4, e5⟩ | ⟨z, e1, e2, e3⟩ | ⟨z, e1, e2, e3⟩
  · refine j_aload_n C 3 dL_law_717 rfl rfl ?_
    refine j_aload_n C 4 dL_law_718 rfl rfl ?_
    refine j_iload C 0 dL_law_719 rfl ?_
    refine j_iconst C (1 : Int32) rfl dL_law_721 ?_
    refine j_iadd C dL_law_722 ?_
    refine j_scr C X h1 dL_law_723 ?_
    refine j_aload_n C 4 dL_law_724 rfl rfl ?_
    refine j_iload C 0 dL_law_725 rfl ?_
    refine j_iconst C (2 : Int32) rfl dL_law_727 ?_
    refine j_iadd C dL_law_728 ?_
    refine j_scr C X h2 dL_law_729 ?_
    refine j_aload_n C 1 dL_law_730 rfl rfl ?_
    refine j_callW C 4 (cr_L_household l G n0 e1 rfl) tw5_98 tw5_99 tw1_0 cwL_household ⟨rfl, rfl⟩ (by decide +kernel) ⟨Nat.le_of_ble_eq_true rfl, Nat.le_of_ble_eq_true rfl⟩ C2 rfl rfl (Nat.le_of_ble_eq_true rfl) dL_law_731 ?_
    refine j_istore C2 [(5, .int 0), (4, .int i), (3, .ref (n0 + 185)), (2, .ref (n0 + 178)), (1, .ref (n0 + 0)), (0, .ref b)] dL_law_734 (by decide) rfl ?_
    refine j_aload_n C2 3 dL_law_736 rfl rfl ?_
    refine j_aload_n C2 5 dL_law_737 rfl rfl ?_
    refine j_iload C2 1 dL_law_738 rfl ?_
    refine j_iconst C2 (1 : Int32) rfl dL_law_740 ?_
    refine j_iadd C2 dL_law_741 ?_
    refine j_scr C2 (X.up 1 6) h1 dL_law_742 ?_
    refine j_aload_n C2 5 dL_law_743 rfl rfl ?_
    refine j_iload C2 1 dL_law_744 rfl ?_
    refine j_iconst C2 (2 : Int32) rfl dL_law_746 ?_
    refine j_iadd C2 dL_law_747 ?_
    refine j_scr C2 (X.up 1 6) h2 dL_law_748 ?_
    refine j_callV C2 2 lc178 (ent_K _ _ _ _ _ _) rfl (c_X12_household l G n0 e2) gv_RL_125 ⟨rfl, rfl⟩ (by decide +kernel) ⟨Nat.le_of_ble_eq_true rfl, Nat.le_of_ble_eq_true rfl⟩ rfl rfl (Nat.le_of_ble_eq_true rfl) dL_law_749 ?_
    refine j_istore C2 [(6, .int z), (5, .int 0), (4, .int i), (3, .ref (n0 + 185)), (2, .ref (n0 + 178)), (1, .ref (n0 + 0)), (0, .ref b)] dL_law_752 (by decide) rfl ?_
    refine j_aload_n C2 4 dL_law_754 rfl rfl ?_
    refine j_callV C2 0 lc178 (ent_K _ _ _ _ _ _) rfl (c_X12_thrown l G n0 e3) gv_RL_90 ⟨rfl, rfl⟩ (by decide +kernel) ⟨Nat.le_of_ble_eq_true rfl, Nat.le_of_ble_eq_true rfl⟩ rfl rfl (Nat.le_of_ble_eq_true rfl) dL_law_755 ?_
    refine j_iload C2 1 dL_law_758 rfl ?_
    refine j_icmp_eq C2 765 dL_law_760 (by decide) (fun _ => ?_) (fun c => absurd rfl c)
    refine j_iload C2 1 dL_law_765 rfl ?_
    refine j_if_ne C2 782 dL_law_767 (by decide) (fun c => absurd rfl c) (fun _ => ?_)
    refine j_aload_n C2 3 dL_law_770 rfl rfl ?_
    refine j_iconst C2 (0 : Int32) rfl dL_law_771 ?_
    refine j_lald C2 dL_law_772 ?_
    refine j_iload C2 0 dL_law_773 rfl ?_
    refine j_i2l C2 dL_law_775 ?_
    refine j_lcmp C2 dL_law_776 ?_
    refine j_iflc_eq C2 782 dL_law_777 (by decide) (fun _ => ?_) (fun c => absurd (e5.trans e4) c)
    refine j_goto C2 1472 dL_law_782 (by decide) ?_
    exact j_sub [2, 3, 4, 5, 6] rfl k2
  · refine j_aload_n C 3 dL_law_717 rfl rfl ?_
    refine j_aload_n C 4 dL_law_718 rfl rfl ?_
    refine j_iload C 0 dL_law_719 rfl ?_
    refine j_iconst C (1 : Int32) rfl dL_law_721 ?_
    refine j_iadd C dL_law_722 ?_
    refine j_scr C X h1 dL_law_723 ?_
    refine j_aload_n C 4 dL_law_724 rfl rfl ?_
    refine j_iload C 0 dL_law_725 rfl ?_
    refine j_iconst C (2 : Int32) rfl dL_law_727 ?_
    refine j_iadd C dL_law_728 ?_
    refine j_scr C X h2 dL_law_729 ?_
    refine j_aload_n C 1 dL_law_730 rfl rfl ?_
    refine j_callW C 4 (ct_L_household_1 l hfl G n0 e1) tw5_98 tw5_99 tw1_0 cwL_household ⟨rfl, rfl⟩ (by decide +kernel) ⟨Nat.le_of_ble_eq_true rfl, Nat.le_of_ble_eq_true rfl⟩ C2 rfl rfl (Nat.le_of_ble_eq_true rfl) dL_law_731 ?_
    refine j_istore C2 [(5, .int 1), (4, .int i), (3, .ref (n0 + 185)), (2, .ref (n0 + 178)), (1, .ref (n0 + 0)), (0, .ref b)] dL_law_734 (by decide) rfl ?_
    refine j_aload_n C2 3 dL_law_736 rfl rfl ?_
    refine j_aload_n C2 5 dL_law_737 rfl rfl ?_
    refine j_iload C2 1 dL_law_738 rfl ?_
    refine j_iconst C2 (1 : Int32) rfl dL_law_740 ?_
    refine j_iadd C2 dL_law_741 ?_
    refine j_scr C2 (X.up 1 6) h1 dL_law_742 ?_
    refine j_aload_n C2 5 dL_law_743 rfl rfl ?_
    refine j_iload C2 1 dL_law_744 rfl ?_
    refine j_iconst C2 (2 : Int32) rfl dL_law_746 ?_
    refine j_iadd C2 dL_law_747 ?_
    refine j_scr C2 (X.up 1 6) h2 dL_law_748 ?_
    refine j_callV C2 2 lc178 (ent_K _ _ _ _ _ _) rfl (c_X12_household l G n0 e2) gv_RL_125 ⟨rfl, rfl⟩ (by decide +kernel) ⟨Nat.le_of_ble_eq_true rfl, Nat.le_of_ble_eq_true rfl⟩ rfl rfl (Nat.le_of_ble_eq_true rfl) dL_law_749 ?_
    refine j_istore C2 [(6, .int z), (5, .int 1), (4, .int i), (3, .ref (n0 + 185)), (2, .ref (n0 + 178)), (1, .ref (n0 + 0)), (0, .ref b)] dL_law_752 (by decide) rfl ?_
    refine j_aload_n C2 4 dL_law_754 rfl rfl ?_
    refine j_callV C2 0 lc178 (ent_K _ _ _ _ _ _) rfl (c_X12_thrown l G n0 e3) gv_RL_90 ⟨rfl, rfl⟩ (by decide +kernel) ⟨Nat.le_of_ble_eq_true rfl, Nat.le_of_ble_eq_true rfl⟩ rfl rfl (Nat.le_of_ble_eq_true rfl) dL_law_755 ?_
    refine j_iload C2 1 dL_law_758 rfl ?_
    refine j_icmp_eq C2 765 dL_law_760 (by decide) (fun _ => ?_) (fun c => absurd rfl c)
    refine j_iload C2 1 dL_law_765 rfl ?_
    refine j_if_ne C2 782 dL_law_767 (by decide) (fun _ => ?_) (fun c => absurd c (by decide))
    refine j_goto C2 1472 dL_law_782 (by decide) ?_
    exact j_sub [2, 3, 4, 5, 6] rfl k2
  · refine j_aload_n C 3 dL_law_717 rfl rfl ?_
    refine j_aload_n C 4 dL_law_718 rfl rfl ?_
    refine j_iload C 0 dL_law_719 rfl ?_
    refine j_iconst C (1 : Int32) rfl dL_law_721 ?_
    refine j_iadd C dL_law_722 ?_
    refine j_scr C X h1 dL_law_723 ?_
    refine j_aload_n C 4 dL_law_724 rfl rfl ?_
    refine j_iload C 0 dL_law_725 rfl ?_
    refine j_iconst C (2 : Int32) rfl dL_law_727 ?_
    refine j_iadd C dL_law_728 ?_
    refine j_scr C X h2 dL_law_729 ?_
    refine j_aload_n C 1 dL_law_730 rfl rfl ?_
    refine j_callW C 4 (ct_L_household_2 l hfl G n0 e1) tw5_98 tw5_99 tw1_0 cwL_household ⟨rfl, rfl⟩ (by decide +kernel) ⟨Nat.le_of_ble_eq_true rfl, Nat.le_of_ble_eq_true rfl⟩ C2 rfl rfl (Nat.le_of_ble_eq_true rfl) dL_law_731 ?_
    refine j_istore C2 [(5, .int 2), (4, .int i), (3, .ref (n0 + 185)), (2, .ref (n0 + 178)), (1, .ref (n0 + 0)), (0, .ref b)] dL_law_734 (by decide) rfl ?_
    refine j_aload_n C2 3 dL_law_736 rfl rfl ?_
    refine j_aload_n C2 5 dL_law_737 rfl rfl ?_
    refine j_iload C2 1 dL_law_738 rfl ?_
    refine j_iconst C2 (1 : Int32) rfl dL_law_740 ?_
    refine j_iadd C2 dL_law_741 ?_
    refine j_scr C2 (X.up 1 6) h1 dL_law_742 ?_
    refine j_aload_n C2 5 dL_law_743 rfl rfl ?_
    refine j_iload C2 1 dL_law_744 rfl ?_
    refine j_iconst C2 (2 : Int32) rfl dL_law_746 ?_
    refine j_iadd C2 dL_law_747 ?_
    refine j_scr C2 (X.up 1 6) h2 dL_law_748 ?_
    refine j_callV C2 2 lc178 (ent_K _ _ _ _ _ _) rfl (c_X12_household l G n0 e2) gv_RL_125 ⟨rfl, rfl⟩ (by decide +kernel) ⟨Nat.le_of_ble_eq_true rfl, Nat.le_of_ble_eq_true rfl⟩ rfl rfl (Nat.le_of_ble_eq_true rfl) dL_law_749 ?_
    refine j_istore C2 [(6, .int z), (5, .int 2), (4, .int i), (3, .ref (n0 + 185)), (2, .ref (n0 + 178)), (1, .ref (n0 + 0)), (0, .ref b)] dL_law_752 (by decide) rfl ?_
    refine j_aload_n C2 4 dL_law_754 rfl rfl ?_
    refine j_callV C2 0 lc178 (ent_K _ _ _ _ _ _) rfl (c_X12_thrown l G n0 e3) gv_RL_90 ⟨rfl, rfl⟩ (by decide +kernel) ⟨Nat.le_of_ble_eq_true rfl, Nat.le_of_ble_eq_true rfl⟩ rfl rfl (Nat.le_of_ble_eq_true rfl) dL_law_755 ?_
    refine j_iload C2 1 dL_law_758 rfl ?_
    refine j_icmp_eq C2 765 dL_law_760 (by decide) (fun _ => ?_) (fun c => absurd rfl c)
    refine j_iload C2 1 dL_law_765 rfl ?_
    refine j_if_ne C2 782 dL_law_767 (by decide) (fun _ => ?_) (fun c => absurd c (by decide))
    refine j_goto C2 1472 dL_law_782 (by decide) ?_
    exact j_sub [2, 3, 4, 5, 6] rfl k2
set_option maxRecDepth 100000 in
set_option maxHeartbeats 2000000 in
theorem lc_11 {K : Kx} {l : Launch} (hfl : l.stackTraces = false) {G : Gx} {n0 b N : Nat} {xs : Nat → Int32} {i : Int32} {M M3 : Mem} (C : Ok K l room_1 cL_law RL G n0 8) (C2 : Ok (kup K 1 6) l room_1 cL_law RL G n0 8) (X : SX K b N xs) (h1 : vp_in (i + 1) N) (h : LS11 (xs (i + 1).toNatClampNeg) M M3) (k1 : J K M3 1472 [(4, .int i), (3, .ref (n0 + 185)), (2, .ref (n0 + 178)), (1, .ref (n0 + 0)), (0, .ref b)] []) (k2 : J (kup K 1 6) M3 1472 [(4, .int i), (3, .ref (n0 + 185)), (2, .ref (n0 + 178)), (1, .ref (n0 + 0)), (0, .ref b)] []) : J K M 785 [(4, .int i), (3, .ref (n0 + 185)), (2, .ref (n0 + 178)), (1, .ref (n0 + 0)), (0, .ref b)] [] := by
  rcases h with ⟨r, z, e1, e2, e3, e4, e5⟩ | ⟨z, e1, e2, e3⟩
  · refine j_aload_n C 3 dL_law_785 rfl rfl ?_
    refine j_aload_n C 4 dL_law_786 rfl rfl ?_
    refine j_iload C 0 dL_law_787 rfl ?_
    refine j_iconst C (1 : Int32) rfl dL_law_789 ?_
    refine j_iadd C dL_law_790 ?_
    refine j_scr C X h1 dL_law_791 ?_
    refine j_aload_n C 1 dL_law_792 rfl rfl ?_
    refine j_callW C 3 (cr_L_due l G n0 e1 rfl) tw5_102 tw5_103 tw1_0 cwL_due ⟨rfl, rfl⟩ (by decide +kernel) ⟨Nat.le_of_ble_eq_true rfl, Nat.le_of_ble_eq_true rfl⟩ C2 rfl rfl (Nat.le_of_ble_eq_true rfl) dL_law_793 ?_
    refine j_istore C2 [(5, .int 0), (4, .int i), (3, .ref (n0 + 185)), (2, .ref (n0 + 178)), (1, .ref (n0 + 0)), (0, .ref b)] dL_law_796 (by decide) rfl ?_
    refine j_aload_n C2 3 dL_law_798 rfl rfl ?_
    refine j_aload_n C2 5 dL_law_799 rfl rfl ?_
    refine j_iload C2 1 dL_law_800 rfl ?_
    refine j_iconst C2 (1 : Int32) rfl dL_law_802 ?_
    refine j_iadd C2 dL_law_803 ?_
    refine j_scr C2 (X.up 1 6) h1 dL_law_804 ?_
    refine j_callV C2 1 lc178 (ent_K _ _ _ _ _ _) rfl (c_X12_due l G n0 e2) gv_RL_128 ⟨rfl, rfl⟩ (by decide +kernel) ⟨Nat.le_of_ble_eq_true rfl, Nat.le_of_ble_eq_true rfl⟩ rfl rfl (Nat.le_of_ble_eq_true rfl) dL_law_805 ?_
    refine j_lstore C2 [(6, .long z), (5, .int 0), (4, .int i), (3, .ref (n0 + 185)), (2, .ref (n0 + 178)), (1, .ref (n0 + 0)), (0, .ref b)] dL_law_808 (by decide) rfl ?_
    refine j_aload_n C2 4 dL_law_810 rfl rfl ?_
    refine j_callV C2 0 lc178 (ent_K _ _ _ _ _ _) rfl (c_X12_thrown l G n0 e3) gv_RL_90 ⟨rfl, rfl⟩ (by decide +kernel) ⟨Nat.le_of_ble_eq_true rfl, Nat.le_of_ble_eq_true rfl⟩ rfl rfl (Nat.le_of_ble_eq_true rfl) dL_law_811 ?_
    refine j_iload C2 1 dL_law_814 rfl ?_
    refine j_icmp_eq C2 821 dL_law_816 (by decide) (fun _ => ?_) (fun c => absurd rfl c)
    refine j_iload C2 1 dL_law_821 rfl ?_
    refine j_if_ne C2 837 dL_law_823 (by decide) (fun c => absurd rfl c) (fun _ => ?_)
    refine j_aload_n C2 3 dL_law_826 rfl rfl ?_
    refine j_iconst C2 (0 : Int32) rfl dL_law_827 ?_
    refine j_lald C2 dL_law_828 ?_
    refine j_lload C2 0 dL_law_829 rfl ?_
    refine j_lcmp C2 dL_law_831 ?_
    refine j_iflc_eq C2 837 dL_law_832 (by decide) (fun _ => ?_) (fun c => absurd (e5.trans e4) c)
    refine j_goto C2 1472 dL_law_837 (by decide) ?_
    exact j_sub [2, 3, 4, 5, 6] rfl k2
  · refine j_aload_n C 3 dL_law_785 rfl rfl ?_
    refine j_aload_n C 4 dL_law_786 rfl rfl ?_
    refine j_iload C 0 dL_law_787 rfl ?_
    refine j_iconst C (1 : Int32) rfl dL_law_789 ?_
    refine j_iadd C dL_law_790 ?_
    refine j_scr C X h1 dL_law_791 ?_
    refine j_aload_n C 1 dL_law_792 rfl rfl ?_
    refine j_callW C 3 (ct_L_due_1 l hfl G n0 e1) tw5_102 tw5_103 tw1_0 cwL_due ⟨rfl, rfl⟩ (by decide +kernel) ⟨Nat.le_of_ble_eq_true rfl, Nat.le_of_ble_eq_true rfl⟩ C2 rfl rfl (Nat.le_of_ble_eq_true rfl) dL_law_793 ?_
    refine j_istore C2 [(5, .int 1), (4, .int i), (3, .ref (n0 + 185)), (2, .ref (n0 + 178)), (1, .ref (n0 + 0)), (0, .ref b)] dL_law_796 (by decide) rfl ?_
    refine j_aload_n C2 3 dL_law_798 rfl rfl ?_
    refine j_aload_n C2 5 dL_law_799 rfl rfl ?_
    refine j_iload C2 1 dL_law_800 rfl ?_
    refine j_iconst C2 (1 : Int32) rfl dL_law_802 ?_
    refine j_iadd C2 dL_law_803 ?_
    refine j_scr C2 (X.up 1 6) h1 dL_law_804 ?_
    refine j_callV C2 1 lc178 (ent_K _ _ _ _ _ _) rfl (c_X12_due l G n0 e2) gv_RL_128 ⟨rfl, rfl⟩ (by decide +kernel) ⟨Nat.le_of_ble_eq_true rfl, Nat.le_of_ble_eq_true rfl⟩ rfl rfl (Nat.le_of_ble_eq_true rfl) dL_law_805 ?_
    refine j_lstore C2 [(6, .long z), (5, .int 1), (4, .int i), (3, .ref (n0 + 185)), (2, .ref (n0 + 178)), (1, .ref (n0 + 0)), (0, .ref b)] dL_law_808 (by decide) rfl ?_
    refine j_aload_n C2 4 dL_law_810 rfl rfl ?_
    refine j_callV C2 0 lc178 (ent_K _ _ _ _ _ _) rfl (c_X12_thrown l G n0 e3) gv_RL_90 ⟨rfl, rfl⟩ (by decide +kernel) ⟨Nat.le_of_ble_eq_true rfl, Nat.le_of_ble_eq_true rfl⟩ rfl rfl (Nat.le_of_ble_eq_true rfl) dL_law_811 ?_
    refine j_iload C2 1 dL_law_814 rfl ?_
    refine j_icmp_eq C2 821 dL_law_816 (by decide) (fun _ => ?_) (fun c => absurd rfl c)
    refine j_iload C2 1 dL_law_821 rfl ?_
    refine j_if_ne C2 837 dL_law_823 (by decide) (fun _ => ?_) (fun c => absurd c (by decide))
    refine j_goto C2 1472 dL_law_837 (by decide) ?_
    exact j_sub [2, 3, 4, 5, 6] rfl k2
set_option maxRecDepth 100000 in
set_option maxHeartbeats 2000000 in
theorem lc_12 {K : Kx} {l : Launch} (hfl : l.stackTraces = false) {G : Gx} {n0 b N : Nat} {xs : Nat → Int32} {i : Int32} {M M3 : Mem} (C : Ok K l room_1 cL_law RL G n0 8) (C2 : Ok (kup K 1 6) l room_1 cL_law RL G n0 8) (X : SX K b N xs) (h : LS12 M M3) (k1 : J K M3 1472 [(4, .int i), (3, .ref (n0 + 185)), (2, .ref (n0 + 178)), (1, .ref (n0 + 0)), (0, .ref b)] []) (k2 : J (kup K 1 6) M3 1472 [(4, .int i), (3, .ref (n0 + 185)), (2, .ref (n0 + 178)), (1, .ref (n0 + 0)), (0, .ref b)] []) : J K M 840 [(4, .int i), (3, .ref (n0 + 185)), (2, .ref (n0 + 178)), (1, .ref (n0 + 0)), (0, .ref b)] [] := by
  obtain ⟨r, e1, e2⟩ := h
  refine j_aload_n C 3 dL_law_840 rfl rfl ?_
  refine j_callV C 0 lc0 (ent_K _ _ _ _ _ _) rfl (c_X11_nextForWood l G n0 e1) gv_RL_129 ⟨rfl, rfl⟩ (by decide +kernel) ⟨Nat.le_of_ble_eq_true rfl, Nat.le_of_ble_eq_true rfl⟩ rfl rfl (Nat.le_of_ble_eq_true rfl) dL_law_841 ?_
  refine j_aload_n C 2 dL_law_844 rfl rfl ?_
  refine j_callV C 0 lc178 (ent_K _ _ _ _ _ _) rfl (c_X12_nextForWood l G n0 e2) gv_RL_132 ⟨rfl, rfl⟩ (by decide +kernel) ⟨Nat.le_of_ble_eq_true rfl, Nat.le_of_ble_eq_true rfl⟩ rfl rfl (Nat.le_of_ble_eq_true rfl) dL_law_845 ?_
  refine j_icmp_eq C 1472 dL_law_848 (by decide) (fun _ => ?_) (fun c => absurd rfl c)
  exact k1
set_option maxRecDepth 100000 in
set_option maxHeartbeats 2000000 in
theorem lc_13 {K : Kx} {l : Launch} (hfl : l.stackTraces = false) {G : Gx} {n0 b N : Nat} {xs : Nat → Int32} {i : Int32} {M M3 : Mem} (C : Ok K l room_1 cL_law RL G n0 8) (C2 : Ok (kup K 1 6) l room_1 cL_law RL G n0 8) (X : SX K b N xs) (h1 : vp_in (i + 1) N) (h2 : vp_in (i + 2) N) (h : LS13 (xs (i + 1).toNatClampNeg) (xs (i + 2).toNatClampNeg) M M3) (k1 : J K M3 1472 [(4, .int i), (3, .ref (n0 + 185)), (2, .ref (n0 + 178)), (1, .ref (n0 + 0)), (0, .ref b)] []) (k2 : J (kup K 1 6) M3 1472 [(4, .int i), (3, .ref (n0 + 185)), (2, .ref (n0 + 178)), (1, .ref (n0 + 0)), (0, .ref b)] []) : J K M 853 [(4, .int i), (3, .ref (n0 + 185)), (2, .ref (n0 + 178)), (1, .ref (n0 + 0)), (0, .ref b)] [] := by
  rcases h with ⟨r, z, e1, e2, e3, e4, e5⟩ | ⟨z, e1, e2, e3⟩ | ⟨z, e1, e2, e3⟩
  · refine j_aload_n C 3 dL_law_853 rfl rfl ?_
    refine j_aload_n C 4 dL_law_854 rfl rfl ?_
    refine j_iload C 0 dL_law_855 rfl ?_
    refine j_iconst C (1 : Int32) rfl dL_law_857 ?_
    refine j_iadd C dL_law_858 ?_
    refine j_scr C X h1 dL_law_859 ?_
    refine j_aload_n C 4 dL_law_860 rfl rfl ?_
    refine j_iload C 0 dL_law_861 rfl ?_
    refine j_iconst C (2 : Int32) rfl dL_law_863 ?_
    refine j_iadd C dL_law_864 ?_
    refine j_scr C X h2 dL_law_865 ?_
    refine j_aload_n C 1 dL_law_866 rfl rfl ?_
    refine j_callW C 4 (cr_L_balance l G n0 e1 rfl) tw5_106 tw5_107 tw1_0 cwL_balance ⟨rfl, rfl⟩ (by decide +kernel) ⟨Nat.le_of_ble_eq_true rfl, Nat.le_of_ble_eq_true rfl⟩ C2 rfl rfl (Nat.le_of_ble_eq_true rfl) dL_law_867 ?_
    refine j_istore C2 [(5, .int 0), (4, .int i), (3, .ref (n0 + 185)), (2, .ref (n0 + 178)), (1, .ref (n0 + 0)), (0, .ref b)] dL_law_870 (by decide) rfl ?_
    refine j_aload_n C2 3 dL_law_872 rfl rfl ?_
    refine j_aload_n C2 5 dL_law_873 rfl rfl ?_
    refine j_iload C2 1 dL_law_874 rfl ?_
    refine j_iconst C2 (1 : Int32) rfl dL_law_876 ?_
    refine j_iadd C2 dL_law_877 ?_
    refine j_scr C2 (X.up 1 6) h1 dL_law_878 ?_
    refine j_aload_n C2 5 dL_law_879 rfl rfl ?_
    refine j_iload C2 1 dL_law_880 rfl ?_
    refine j_iconst C2 (2 : Int32) rfl dL_law_882 ?_
    refine j_iadd C2 dL_law_883 ?_
    refine j_scr C2 (X.up 1 6) h2 dL_law_884 ?_
    refine j_callV C2 2 lc178 (ent_K _ _ _ _ _ _) rfl (c_X12_balance l G n0 e2) gv_RL_135 ⟨rfl, rfl⟩ (by decide +kernel) ⟨Nat.le_of_ble_eq_true rfl, Nat.le_of_ble_eq_true rfl⟩ rfl rfl (Nat.le_of_ble_eq_true rfl) dL_law_885 ?_
    refine j_istore C2 [(6, .int z), (5, .int 0), (4, .int i), (3, .ref (n0 + 185)), (2, .ref (n0 + 178)), (1, .ref (n0 + 0)), (0, .ref b)] dL_law_888 (by decide) rfl ?_
    refine j_aload_n C2 4 dL_law_890 rfl rfl ?_
    refine j_callV C2 0 lc178 (ent_K _ _ _ _ _ _) rfl (c_X12_thrown l G n0 e3) gv_RL_90 ⟨rfl, rfl⟩ (by decide +kernel) ⟨Nat.le_of_ble_eq_true rfl, Nat.le_of_ble_eq_true rfl⟩ rfl rfl (Nat.le_of_ble_eq_true rfl) dL_law_891 ?_
    refine j_iload C2 1 dL_law_894 rfl ?_
    refine j_icmp_eq C2 901 dL_law_896 (by decide) (fun _ => ?_) (fun c => absurd rfl c)
    refine j_iload C2 1 dL_law_901 rfl ?_
    refine j_if_ne C2 918 dL_law_903 (by decide) (fun c => absurd rfl c) (fun _ => ?_)
    refine j_aload_n C2 3 dL_law_906 rfl rfl ?_
    refine j_iconst C2 (0 : Int32) rfl dL_law_907 ?_
    refine j_lald C2 dL_law_908 ?_
    refine j_iload C2 0 dL_law_909 rfl ?_
    refine j_i2l C2 dL_law_911 ?_
    refine j_lcmp C2 dL_law_912 ?_
    refine j_iflc_eq C2 918 dL_law_913 (by decide) (fun _ => ?_) (fun c => absurd (e5.trans e4) c)
    refine j_goto C2 1472 dL_law_918 (by decide) ?_
    exact j_sub [2, 3, 4, 5, 6] rfl k2
  · refine j_aload_n C 3 dL_law_853 rfl rfl ?_
    refine j_aload_n C 4 dL_law_854 rfl rfl ?_
    refine j_iload C 0 dL_law_855 rfl ?_
    refine j_iconst C (1 : Int32) rfl dL_law_857 ?_
    refine j_iadd C dL_law_858 ?_
    refine j_scr C X h1 dL_law_859 ?_
    refine j_aload_n C 4 dL_law_860 rfl rfl ?_
    refine j_iload C 0 dL_law_861 rfl ?_
    refine j_iconst C (2 : Int32) rfl dL_law_863 ?_
    refine j_iadd C dL_law_864 ?_
    refine j_scr C X h2 dL_law_865 ?_
    refine j_aload_n C 1 dL_law_866 rfl rfl ?_
    refine j_callW C 4 (ct_L_balance_1 l hfl G n0 e1) tw5_106 tw5_107 tw1_0 cwL_balance ⟨rfl, rfl⟩ (by decide +kernel) ⟨Nat.le_of_ble_eq_true rfl, Nat.le_of_ble_eq_true rfl⟩ C2 rfl rfl (Nat.le_of_ble_eq_true rfl) dL_law_867 ?_
    refine j_istore C2 [(5, .int 1), (4, .int i), (3, .ref (n0 + 185)), (2, .ref (n0 + 178)), (1, .ref (n0 + 0)), (0, .ref b)] dL_law_870 (by decide) rfl ?_
    refine j_aload_n C2 3 dL_law_872 rfl rfl ?_
    refine j_aload_n C2 5 dL_law_873 rfl rfl ?_
    refine j_iload C2 1 dL_law_874 rfl ?_
    refine j_iconst C2 (1 : Int32) rfl dL_law_876 ?_
    refine j_iadd C2 dL_law_877 ?_
    refine j_scr C2 (X.up 1 6) h1 dL_law_878 ?_
    refine j_aload_n C2 5 dL_law_879 rfl rfl ?_
    refine j_iload C2 1 dL_law_880 rfl ?_
    refine j_iconst C2 (2 : Int32) rfl dL_law_882 ?_
    refine j_iadd C2 dL_law_883 ?_
    refine j_scr C2 (X.up 1 6) h2 dL_law_884 ?_
    refine j_callV C2 2 lc178 (ent_K _ _ _ _ _ _) rfl (c_X12_balance l G n0 e2) gv_RL_135 ⟨rfl, rfl⟩ (by decide +kernel) ⟨Nat.le_of_ble_eq_true rfl, Nat.le_of_ble_eq_true rfl⟩ rfl rfl (Nat.le_of_ble_eq_true rfl) dL_law_885 ?_
    refine j_istore C2 [(6, .int z), (5, .int 1), (4, .int i), (3, .ref (n0 + 185)), (2, .ref (n0 + 178)), (1, .ref (n0 + 0)), (0, .ref b)] dL_law_888 (by decide) rfl ?_
    refine j_aload_n C2 4 dL_law_890 rfl rfl ?_
    refine j_callV C2 0 lc178 (ent_K _ _ _ _ _ _) rfl (c_X12_thrown l G n0 e3) gv_RL_90 ⟨rfl, rfl⟩ (by decide +kernel) ⟨Nat.le_of_ble_eq_true rfl, Nat.le_of_ble_eq_true rfl⟩ rfl rfl (Nat.le_of_ble_eq_true rfl) dL_law_891 ?_
    refine j_iload C2 1 dL_law_894 rfl ?_
    refine j_icmp_eq C2 901 dL_law_896 (by decide) (fun _ => ?_) (fun c => absurd rfl c)
    refine j_iload C2 1 dL_law_901 rfl ?_
    refine j_if_ne C2 918 dL_law_903 (by decide) (fun _ => ?_) (fun c => absurd c (by decide))
    refine j_goto C2 1472 dL_law_918 (by decide) ?_
    exact j_sub [2, 3, 4, 5, 6] rfl k2
  · refine j_aload_n C 3 dL_law_853 rfl rfl ?_
    refine j_aload_n C 4 dL_law_854 rfl rfl ?_
    refine j_iload C 0 dL_law_855 rfl ?_
    refine j_iconst C (1 : Int32) rfl dL_law_857 ?_
    refine j_iadd C dL_law_858 ?_
    refine j_scr C X h1 dL_law_859 ?_
    refine j_aload_n C 4 dL_law_860 rfl rfl ?_
    refine j_iload C 0 dL_law_861 rfl ?_
    refine j_iconst C (2 : Int32) rfl dL_law_863 ?_
    refine j_iadd C dL_law_864 ?_
    refine j_scr C X h2 dL_law_865 ?_
    refine j_aload_n C 1 dL_law_866 rfl rfl ?_
    refine j_callW C 4 (ct_L_balance_2 l hfl G n0 e1) tw5_106 tw5_107 tw1_0 cwL_balance ⟨rfl, rfl⟩ (by decide +kernel) ⟨Nat.le_of_ble_eq_true rfl, Nat.le_of_ble_eq_true rfl⟩ C2 rfl rfl (Nat.le_of_ble_eq_true rfl) dL_law_867 ?_
    refine j_istore C2 [(5, .int 2), (4, .int i), (3, .ref (n0 + 185)), (2, .ref (n0 + 178)), (1, .ref (n0 + 0)), (0, .ref b)] dL_law_870 (by decide) rfl ?_
    refine j_aload_n C2 3 dL_law_872 rfl rfl ?_
    refine j_aload_n C2 5 dL_law_873 rfl rfl ?_
    refine j_iload C2 1 dL_law_874 rfl ?_
    refine j_iconst C2 (1 : Int32) rfl dL_law_876 ?_
    refine j_iadd C2 dL_law_877 ?_
    refine j_scr C2 (X.up 1 6) h1 dL_law_878 ?_
    refine j_aload_n C2 5 dL_law_879 rfl rfl ?_
    refine j_iload C2 1 dL_law_880 rfl ?_
    refine j_iconst C2 (2 : Int32) rfl dL_law_882 ?_
    refine j_iadd C2 dL_law_883 ?_
    refine j_scr C2 (X.up 1 6) h2 dL_law_884 ?_
    refine j_callV C2 2 lc178 (ent_K _ _ _ _ _ _) rfl (c_X12_balance l G n0 e2) gv_RL_135 ⟨rfl, rfl⟩ (by decide +kernel) ⟨Nat.le_of_ble_eq_true rfl, Nat.le_of_ble_eq_true rfl⟩ rfl rfl (Nat.le_of_ble_eq_true rfl) dL_law_885 ?_
    refine j_istore C2 [(6, .int z), (5, .int 2), (4, .int i), (3, .ref (n0 + 185)), (2, .ref (n0 + 178)), (1, .ref (n0 + 0)), (0, .ref b)] dL_law_888 (by decide) rfl ?_
    refine j_aload_n C2 4 dL_law_890 rfl rfl ?_
    refine j_callV C2 0 lc178 (ent_K _ _ _ _ _ _) rfl (c_X12_thrown l G n0 e3) gv_RL_90 ⟨rfl, rfl⟩ (by decide +kernel) ⟨Nat.le_of_ble_eq_true rfl, Nat.le_of_ble_eq_true rfl⟩ rfl rfl (Nat.le_of_ble_eq_true rfl) dL_law_891 ?_
    refine j_iload C2 1 dL_law_894 rfl ?_
    refine j_icmp_eq C2 901 dL_law_896 (by decide) (fun _ => ?_) (fun c => absurd rfl c)
    refine j_iload C2 1 dL_law_901 rfl ?_
    refine j_if_ne C2 918 dL_law_903 (by decide) (fun _ => ?_) (fun c => absurd c (by decide))
    refine j_goto C2 1472 dL_law_918 (by decide) ?_
    exact j_sub [2, 3, 4, 5, 6] rfl k2
set_option maxRecDepth 100000 in
set_option maxHeartbeats 2000000 in
theorem lc_14 {K : Kx} {l : Launch} (hfl : l.stackTraces = false) {G : Gx} {n0 b N : Nat} {xs : Nat → Int32} {i : Int32} {M M3 : Mem} (C : Ok K l room_1 cL_law RL G n0 8) (C2 : Ok (kup K 1 6) l room_1 cL_law RL G n0 8) (X : SX K b N xs) (h1 : vp_in (i + 1) N) (h2 : vp_in (i + 2) N) (h : LS14 (xs (i + 1).toNatClampNeg) (xs (i + 2).toNatClampNeg) M M3) (k1 : J K M3 1472 [(4, .int i), (3, .ref (n0 + 185)), (2, .ref (n0 + 178)), (1, .ref (n0 + 0)), (0, .ref b)] []) (k2 : J (kup K 1 6) M3 1472 [(4, .int i), (3, .ref (n0 + 185)), (2, .ref (n0 + 178)), (1, .ref (n0 + 0)), (0, .ref b)] []) : J K M 921 [(4, .int i), (3, .ref (n0 + 185)), (2, .ref (n0 + 178)), (1, .ref (n0 + 0)), (0, .ref b)] [] := by
  rcases h with ⟨r, M1, z, e1, e2, e3, e4, e5⟩ | ⟨z, e1, e2, e3⟩
  · refine j_aload_n C 3 dL_law_921 rfl rfl ?_
    refine j_aload_n C 4 dL_law_922 rfl rfl ?_
    refine j_iload C 0 dL_law_923 rfl ?_
    refine j_iconst C (1 : Int32) rfl dL_law_925 ?_
    refine j_iadd C dL_law_926 ?_
    refine j_scr C X h1 dL_law_927 ?_
    refine j_aload_n C 4 dL_law_928 rfl rfl ?_
    refine j_iload C 0 dL_law_929 rfl ?_
    refine j_iconst C (2 : Int32) rfl dL_law_931 ?_
    refine j_iadd C dL_law_932 ?_
    refine j_scr C X h2 dL_law_933 ?_
    refine j_aload_n C 1 dL_law_934 rfl rfl ?_
    refine j_callW C 4 (cr_L_batch l G n0 e1 rfl) tw5_110 tw5_111 tw1_0 cwL_batch ⟨rfl, rfl⟩ (by decide +kernel) ⟨Nat.le_of_ble_eq_true rfl, Nat.le_of_ble_eq_true rfl⟩ C2 rfl rfl (Nat.le_of_ble_eq_true rfl) dL_law_935 ?_
    refine j_istore C2 [(5, .int 0), (4, .int i), (3, .ref (n0 + 185)), (2, .ref (n0 + 178)), (1, .ref (n0 + 0)), (0, .ref b)] dL_law_938 (by decide) rfl ?_
    refine j_aload_n C2 3 dL_law_940 rfl rfl ?_
    refine j_aload_n C2 5 dL_law_941 rfl rfl ?_
    refine j_iload C2 1 dL_law_942 rfl ?_
    refine j_iconst C2 (1 : Int32) rfl dL_law_944 ?_
    refine j_iadd C2 dL_law_945 ?_
    refine j_scr C2 (X.up 1 6) h1 dL_law_946 ?_
    refine j_aload_n C2 5 dL_law_947 rfl rfl ?_
    refine j_iload C2 1 dL_law_948 rfl ?_
    refine j_iconst C2 (2 : Int32) rfl dL_law_950 ?_
    refine j_iadd C2 dL_law_951 ?_
    refine j_scr C2 (X.up 1 6) h2 dL_law_952 ?_
    refine j_callV C2 2 lc178 (ent_K _ _ _ _ _ _) rfl (c_X12_batch l G n0 e2) gv_RL_138 ⟨rfl, rfl⟩ (by decide +kernel) ⟨Nat.le_of_ble_eq_true rfl, Nat.le_of_ble_eq_true rfl⟩ rfl rfl (Nat.le_of_ble_eq_true rfl) dL_law_953 ?_
    refine j_istore C2 [(6, .int z), (5, .int 0), (4, .int i), (3, .ref (n0 + 185)), (2, .ref (n0 + 178)), (1, .ref (n0 + 0)), (0, .ref b)] dL_law_956 (by decide) rfl ?_
    refine j_aload_n C2 4 dL_law_958 rfl rfl ?_
    refine j_callV C2 0 lc178 (ent_K _ _ _ _ _ _) rfl (c_X12_thrown l G n0 e3) gv_RL_90 ⟨rfl, rfl⟩ (by decide +kernel) ⟨Nat.le_of_ble_eq_true rfl, Nat.le_of_ble_eq_true rfl⟩ rfl rfl (Nat.le_of_ble_eq_true rfl) dL_law_959 ?_
    refine j_iload C2 1 dL_law_962 rfl ?_
    refine j_icmp_eq C2 969 dL_law_964 (by decide) (fun _ => ?_) (fun c => absurd rfl c)
    refine j_iload C2 1 dL_law_969 rfl ?_
    refine j_if_ne C2 986 dL_law_971 (by decide) (fun c => absurd rfl c) (fun _ => ?_)
    refine j_aload_n C2 3 dL_law_974 rfl rfl ?_
    refine j_iconst C2 (0 : Int32) rfl dL_law_975 ?_
    refine j_lald C2 dL_law_976 ?_
    refine j_iload C2 0 dL_law_977 rfl ?_
    refine j_i2l C2 dL_law_979 ?_
    refine j_lcmp C2 dL_law_980 ?_
    refine j_iflc_eq C2 986 dL_law_981 (by decide) (fun _ => ?_) (fun c => absurd (e5.trans e4) c)
    refine j_goto C2 1472 dL_law_986 (by decide) ?_
    exact j_sub [2, 3, 4, 5, 6] rfl k2
  · refine j_aload_n C 3 dL_law_921 rfl rfl ?_
    refine j_aload_n C 4 dL_law_922 rfl rfl ?_
    refine j_iload C 0 dL_law_923 rfl ?_
    refine j_iconst C (1 : Int32) rfl dL_law_925 ?_
    refine j_iadd C dL_law_926 ?_
    refine j_scr C X h1 dL_law_927 ?_
    refine j_aload_n C 4 dL_law_928 rfl rfl ?_
    refine j_iload C 0 dL_law_929 rfl ?_
    refine j_iconst C (2 : Int32) rfl dL_law_931 ?_
    refine j_iadd C dL_law_932 ?_
    refine j_scr C X h2 dL_law_933 ?_
    refine j_aload_n C 1 dL_law_934 rfl rfl ?_
    refine j_callW C 4 (ct_L_batch_2 l hfl G n0 e1) tw5_110 tw5_111 tw1_0 cwL_batch ⟨rfl, rfl⟩ (by decide +kernel) ⟨Nat.le_of_ble_eq_true rfl, Nat.le_of_ble_eq_true rfl⟩ C2 rfl rfl (Nat.le_of_ble_eq_true rfl) dL_law_935 ?_
    refine j_istore C2 [(5, .int 1), (4, .int i), (3, .ref (n0 + 185)), (2, .ref (n0 + 178)), (1, .ref (n0 + 0)), (0, .ref b)] dL_law_938 (by decide) rfl ?_
    refine j_aload_n C2 3 dL_law_940 rfl rfl ?_
    refine j_aload_n C2 5 dL_law_941 rfl rfl ?_
    refine j_iload C2 1 dL_law_942 rfl ?_
    refine j_iconst C2 (1 : Int32) rfl dL_law_944 ?_
    refine j_iadd C2 dL_law_945 ?_
    refine j_scr C2 (X.up 1 6) h1 dL_law_946 ?_
    refine j_aload_n C2 5 dL_law_947 rfl rfl ?_
    refine j_iload C2 1 dL_law_948 rfl ?_
    refine j_iconst C2 (2 : Int32) rfl dL_law_950 ?_
    refine j_iadd C2 dL_law_951 ?_
    refine j_scr C2 (X.up 1 6) h2 dL_law_952 ?_
    refine j_callV C2 2 lc178 (ent_K _ _ _ _ _ _) rfl (c_X12_batch l G n0 e2) gv_RL_138 ⟨rfl, rfl⟩ (by decide +kernel) ⟨Nat.le_of_ble_eq_true rfl, Nat.le_of_ble_eq_true rfl⟩ rfl rfl (Nat.le_of_ble_eq_true rfl) dL_law_953 ?_
    refine j_istore C2 [(6, .int z), (5, .int 1), (4, .int i), (3, .ref (n0 + 185)), (2, .ref (n0 + 178)), (1, .ref (n0 + 0)), (0, .ref b)] dL_law_956 (by decide) rfl ?_
    refine j_aload_n C2 4 dL_law_958 rfl rfl ?_
    refine j_callV C2 0 lc178 (ent_K _ _ _ _ _ _) rfl (c_X12_thrown l G n0 e3) gv_RL_90 ⟨rfl, rfl⟩ (by decide +kernel) ⟨Nat.le_of_ble_eq_true rfl, Nat.le_of_ble_eq_true rfl⟩ rfl rfl (Nat.le_of_ble_eq_true rfl) dL_law_959 ?_
    refine j_iload C2 1 dL_law_962 rfl ?_
    refine j_icmp_eq C2 969 dL_law_964 (by decide) (fun _ => ?_) (fun c => absurd rfl c)
    refine j_iload C2 1 dL_law_969 rfl ?_
    refine j_if_ne C2 986 dL_law_971 (by decide) (fun _ => ?_) (fun c => absurd c (by decide))
    refine j_goto C2 1472 dL_law_986 (by decide) ?_
    exact j_sub [2, 3, 4, 5, 6] rfl k2
set_option maxRecDepth 100000 in
set_option maxHeartbeats 2000000 in
theorem lc_15 {K : Kx} {l : Launch} (hfl : l.stackTraces = false) {G : Gx} {n0 b N : Nat} {xs : Nat → Int32} {i : Int32} {M M3 : Mem} (C : Ok K l room_1 cL_law RL G n0 8) (C2 : Ok (kup K 1 6) l room_1 cL_law RL G n0 8) (X : SX K b N xs) (h1 : vp_in (i + 1) N) (h2 : vp_in (i + 2) N) (h : LS15 (xs (i + 1).toNatClampNeg) (xs (i + 2).toNatClampNeg) M M3) (k1 : J K M3 1472 [(4, .int i), (3, .ref (n0 + 185)), (2, .ref (n0 + 178)), (1, .ref (n0 + 0)), (0, .ref b)] []) (k2 : J (kup K 1 6) M3 1472 [(4, .int i), (3, .ref (n0 + 185)), (2, .ref (n0 + 178)), (1, .ref (n0 + 0)), (0, .ref b)] []) : J K M 989 [(4, .int i), (3, .ref (n0 + 185)), (2, .ref (n0 + 178)), (1, .ref (n0 + 0)), (0, .ref b)] [] := by
  rcases h with ⟨r, z, e1, e2, e3, e4, e5⟩ | ⟨z, e1, e2, e3⟩ | ⟨z, e1, e2, e3⟩
  · refine j_aload_n C 3 dL_law_989 rfl rfl ?_
    refine j_aload_n C 4 dL_law_990 rfl rfl ?_
    refine j_iload C 0 dL_law_991 rfl ?_
    refine j_iconst C (1 : Int32) rfl dL_law_993 ?_
    refine j_iadd C dL_law_994 ?_
    refine j_scr C X h1 dL_law_995 ?_
    refine j_aload_n C 4 dL_law_996 rfl rfl ?_
    refine j_iload C 0 dL_law_997 rfl ?_
    refine j_iconst C (2 : Int32) rfl dL_law_999 ?_
    refine j_iadd C dL_law_1000 ?_
    refine j_scr C X h2 dL_law_1001 ?_
    refine j_aload_n C 1 dL_law_1002 rfl rfl ?_
    refine j_callW C 4 (cr_L_loaf l G n0 e1 rfl) tw5_114 tw5_115 tw1_0 cwL_loaf ⟨rfl, rfl⟩ (by decide +kernel) ⟨Nat.le_of_ble_eq_true rfl, Nat.le_of_ble_eq_true rfl⟩ C2 rfl rfl (Nat.le_of_ble_eq_true rfl) dL_law_1003 ?_
    refine j_istore C2 [(5, .int 0), (4, .int i), (3, .ref (n0 + 185)), (2, .ref (n0 + 178)), (1, .ref (n0 + 0)), (0, .ref b)] dL_law_1006 (by decide) rfl ?_
    refine j_aload_n C2 3 dL_law_1008 rfl rfl ?_
    refine j_aload_n C2 5 dL_law_1009 rfl rfl ?_
    refine j_iload C2 1 dL_law_1010 rfl ?_
    refine j_iconst C2 (1 : Int32) rfl dL_law_1012 ?_
    refine j_iadd C2 dL_law_1013 ?_
    refine j_scr C2 (X.up 1 6) h1 dL_law_1014 ?_
    refine j_aload_n C2 5 dL_law_1015 rfl rfl ?_
    refine j_iload C2 1 dL_law_1016 rfl ?_
    refine j_iconst C2 (2 : Int32) rfl dL_law_1018 ?_
    refine j_iadd C2 dL_law_1019 ?_
    refine j_scr C2 (X.up 1 6) h2 dL_law_1020 ?_
    refine j_callV C2 2 lc178 (ent_K _ _ _ _ _ _) rfl (c_X12_loaf l G n0 e2) gv_RL_141 ⟨rfl, rfl⟩ (by decide +kernel) ⟨Nat.le_of_ble_eq_true rfl, Nat.le_of_ble_eq_true rfl⟩ rfl rfl (Nat.le_of_ble_eq_true rfl) dL_law_1021 ?_
    refine j_istore C2 [(6, .int z), (5, .int 0), (4, .int i), (3, .ref (n0 + 185)), (2, .ref (n0 + 178)), (1, .ref (n0 + 0)), (0, .ref b)] dL_law_1024 (by decide) rfl ?_
    refine j_aload_n C2 4 dL_law_1026 rfl rfl ?_
    refine j_callV C2 0 lc178 (ent_K _ _ _ _ _ _) rfl (c_X12_thrown l G n0 e3) gv_RL_90 ⟨rfl, rfl⟩ (by decide +kernel) ⟨Nat.le_of_ble_eq_true rfl, Nat.le_of_ble_eq_true rfl⟩ rfl rfl (Nat.le_of_ble_eq_true rfl) dL_law_1027 ?_
    refine j_iload C2 1 dL_law_1030 rfl ?_
    refine j_icmp_eq C2 1037 dL_law_1032 (by decide) (fun _ => ?_) (fun c => absurd rfl c)
    refine j_iload C2 1 dL_law_1037 rfl ?_
    refine j_if_ne C2 1054 dL_law_1039 (by decide) (fun c => absurd rfl c) (fun _ => ?_)
    refine j_aload_n C2 3 dL_law_1042 rfl rfl ?_
    refine j_iconst C2 (0 : Int32) rfl dL_law_1043 ?_
    refine j_lald C2 dL_law_1044 ?_
    refine j_iload C2 0 dL_law_1045 rfl ?_
    refine j_i2l C2 dL_law_1047 ?_
    refine j_lcmp C2 dL_law_1048 ?_
    refine j_iflc_eq C2 1054 dL_law_1049 (by decide) (fun _ => ?_) (fun c => absurd (e5.trans e4) c)
    refine j_goto C2 1472 dL_law_1054 (by decide) ?_
    exact j_sub [2, 3, 4, 5, 6] rfl k2
  · refine j_aload_n C 3 dL_law_989 rfl rfl ?_
    refine j_aload_n C 4 dL_law_990 rfl rfl ?_
    refine j_iload C 0 dL_law_991 rfl ?_
    refine j_iconst C (1 : Int32) rfl dL_law_993 ?_
    refine j_iadd C dL_law_994 ?_
    refine j_scr C X h1 dL_law_995 ?_
    refine j_aload_n C 4 dL_law_996 rfl rfl ?_
    refine j_iload C 0 dL_law_997 rfl ?_
    refine j_iconst C (2 : Int32) rfl dL_law_999 ?_
    refine j_iadd C dL_law_1000 ?_
    refine j_scr C X h2 dL_law_1001 ?_
    refine j_aload_n C 1 dL_law_1002 rfl rfl ?_
    refine j_callW C 4 (ct_L_loaf_1 l hfl G n0 e1) tw5_114 tw5_115 tw1_0 cwL_loaf ⟨rfl, rfl⟩ (by decide +kernel) ⟨Nat.le_of_ble_eq_true rfl, Nat.le_of_ble_eq_true rfl⟩ C2 rfl rfl (Nat.le_of_ble_eq_true rfl) dL_law_1003 ?_
    refine j_istore C2 [(5, .int 1), (4, .int i), (3, .ref (n0 + 185)), (2, .ref (n0 + 178)), (1, .ref (n0 + 0)), (0, .ref b)] dL_law_1006 (by decide) rfl ?_
    refine j_aload_n C2 3 dL_law_1008 rfl rfl ?_
    refine j_aload_n C2 5 dL_law_1009 rfl rfl ?_
    refine j_iload C2 1 dL_law_1010 rfl ?_
    refine j_iconst C2 (1 : Int32) rfl dL_law_1012 ?_
    refine j_iadd C2 dL_law_1013 ?_
    refine j_scr C2 (X.up 1 6) h1 dL_law_1014 ?_
    refine j_aload_n C2 5 dL_law_1015 rfl rfl ?_
    refine j_iload C2 1 dL_law_1016 rfl ?_
    refine j_iconst C2 (2 : Int32) rfl dL_law_1018 ?_
    refine j_iadd C2 dL_law_1019 ?_
    refine j_scr C2 (X.up 1 6) h2 dL_law_1020 ?_
    refine j_callV C2 2 lc178 (ent_K _ _ _ _ _ _) rfl (c_X12_loaf l G n0 e2) gv_RL_141 ⟨rfl, rfl⟩ (by decide +kernel) ⟨Nat.le_of_ble_eq_true rfl, Nat.le_of_ble_eq_true rfl⟩ rfl rfl (Nat.le_of_ble_eq_true rfl) dL_law_1021 ?_
    refine j_istore C2 [(6, .int z), (5, .int 1), (4, .int i), (3, .ref (n0 + 185)), (2, .ref (n0 + 178)), (1, .ref (n0 + 0)), (0, .ref b)] dL_law_1024 (by decide) rfl ?_
    refine j_aload_n C2 4 dL_law_1026 rfl rfl ?_
    refine j_callV C2 0 lc178 (ent_K _ _ _ _ _ _) rfl (c_X12_thrown l G n0 e3) gv_RL_90 ⟨rfl, rfl⟩ (by decide +kernel) ⟨Nat.le_of_ble_eq_true rfl, Nat.le_of_ble_eq_true rfl⟩ rfl rfl (Nat.le_of_ble_eq_true rfl) dL_law_1027 ?_
    refine j_iload C2 1 dL_law_1030 rfl ?_
    refine j_icmp_eq C2 1037 dL_law_1032 (by decide) (fun _ => ?_) (fun c => absurd rfl c)
    refine j_iload C2 1 dL_law_1037 rfl ?_
    refine j_if_ne C2 1054 dL_law_1039 (by decide) (fun _ => ?_) (fun c => absurd c (by decide))
    refine j_goto C2 1472 dL_law_1054 (by decide) ?_
    exact j_sub [2, 3, 4, 5, 6] rfl k2
  · refine j_aload_n C 3 dL_law_989 rfl rfl ?_
    refine j_aload_n C 4 dL_law_990 rfl rfl ?_
    refine j_iload C 0 dL_law_991 rfl ?_
    refine j_iconst C (1 : Int32) rfl dL_law_993 ?_
    refine j_iadd C dL_law_994 ?_
    refine j_scr C X h1 dL_law_995 ?_
    refine j_aload_n C 4 dL_law_996 rfl rfl ?_
    refine j_iload C 0 dL_law_997 rfl ?_
    refine j_iconst C (2 : Int32) rfl dL_law_999 ?_
    refine j_iadd C dL_law_1000 ?_
    refine j_scr C X h2 dL_law_1001 ?_
    refine j_aload_n C 1 dL_law_1002 rfl rfl ?_
    refine j_callW C 4 (ct_L_loaf_2 l hfl G n0 e1) tw5_114 tw5_115 tw1_0 cwL_loaf ⟨rfl, rfl⟩ (by decide +kernel) ⟨Nat.le_of_ble_eq_true rfl, Nat.le_of_ble_eq_true rfl⟩ C2 rfl rfl (Nat.le_of_ble_eq_true rfl) dL_law_1003 ?_
    refine j_istore C2 [(5, .int 2), (4, .int i), (3, .ref (n0 + 185)), (2, .ref (n0 + 178)), (1, .ref (n0 + 0)), (0, .ref b)] dL_law_1006 (by decide) rfl ?_
    refine j_aload_n C2 3 dL_law_1008 rfl rfl ?_
    refine j_aload_n C2 5 dL_law_1009 rfl rfl ?_
    refine j_iload C2 1 dL_law_1010 rfl ?_
    refine j_iconst C2 (1 : Int32) rfl dL_law_1012 ?_
    refine j_iadd C2 dL_law_1013 ?_
    refine j_scr C2 (X.up 1 6) h1 dL_law_1014 ?_
    refine j_aload_n C2 5 dL_law_1015 rfl rfl ?_
    refine j_iload C2 1 dL_law_1016 rfl ?_
    refine j_iconst C2 (2 : Int32) rfl dL_law_1018 ?_
    refine j_iadd C2 dL_law_1019 ?_
    refine j_scr C2 (X.up 1 6) h2 dL_law_1020 ?_
    refine j_callV C2 2 lc178 (ent_K _ _ _ _ _ _) rfl (c_X12_loaf l G n0 e2) gv_RL_141 ⟨rfl, rfl⟩ (by decide +kernel) ⟨Nat.le_of_ble_eq_true rfl, Nat.le_of_ble_eq_true rfl⟩ rfl rfl (Nat.le_of_ble_eq_true rfl) dL_law_1021 ?_
    refine j_istore C2 [(6, .int z), (5, .int 2), (4, .int i), (3, .ref (n0 + 185)), (2, .ref (n0 + 178)), (1, .ref (n0 + 0)), (0, .ref b)] dL_law_1024 (by decide) rfl ?_
    refine j_aload_n C2 4 dL_law_1026 rfl rfl ?_
    refine j_callV C2 0 lc178 (ent_K _ _ _ _ _ _) rfl (c_X12_thrown l G n0 e3) gv_RL_90 ⟨rfl, rfl⟩ (by decide +kernel) ⟨Nat.le_of_ble_eq_true rfl, Nat.le_of_ble_eq_true rfl⟩ rfl rfl (Nat.le_of_ble_eq_true rfl) dL_law_1027 ?_
    refine j_iload C2 1 dL_law_1030 rfl ?_
    refine j_icmp_eq C2 1037 dL_law_1032 (by decide) (fun _ => ?_) (fun c => absurd rfl c)
    refine j_iload C2 1 dL_law_1037 rfl ?_
    refine j_if_ne C2 1054 dL_law_1039 (by decide) (fun _ => ?_) (fun c => absurd c (by decide))
    refine j_goto C2 1472 dL_law_1054 (by decide) ?_
    exact j_sub [2, 3, 4, 5, 6] rfl k2
set_option maxRecDepth 100000 in
set_option maxHeartbeats 2000000 in
theorem lc_16 {K : Kx} {l : Launch} (hfl : l.stackTraces = false) {G : Gx} {n0 b N : Nat} {xs : Nat → Int32} {i : Int32} {M M3 : Mem} (C : Ok K l room_1 cL_law RL G n0 8) (C2 : Ok (kup K 1 6) l room_1 cL_law RL G n0 8) (X : SX K b N xs) (h1 : vp_in (i + 1) N) (h2 : vp_in (i + 2) N) (h : LS16 (xs (i + 1).toNatClampNeg) (xs (i + 2).toNatClampNeg) M M3) (k1 : J K M3 1472 [(4, .int i), (3, .ref (n0 + 185)), (2, .ref (n0 + 178)), (1, .ref (n0 + 0)), (0, .ref b)] []) (k2 : J (kup K 1 6) M3 1472 [(4, .int i), (3, .ref (n0 + 185)), (2, .ref (n0 + 178)), (1, .ref (n0 + 0)), (0, .ref b)] []) : J K M 1057 [(4, .int i), (3, .ref (n0 + 185)), (2, .ref (n0 + 178)), (1, .ref (n0 + 0)), (0, .ref b)] [] := by
  rcases h with ⟨r, z, e1, e2, e3, e4, e5⟩ | ⟨z, e1, e2, e3⟩
  · refine j_aload_n C 3 dL_law_1057 rfl rfl ?_
    refine j_aload_n C 4 dL_law_1058 rfl rfl ?_
    refine j_iload C 0 dL_law_1059 rfl ?_
    refine j_iconst C (1 : Int32) rfl dL_law_1061 ?_
    refine j_iadd C dL_law_1062 ?_
    refine j_scr C X h1 dL_law_1063 ?_
    refine j_aload_n C 4 dL_law_1064 rfl rfl ?_
    refine j_iload C 0 dL_law_1065 rfl ?_
    refine j_iconst C (2 : Int32) rfl dL_law_1067 ?_
    refine j_iadd C dL_law_1068 ?_
    refine j_scr C X h2 dL_law_1069 ?_
    refine j_aload_n C 1 dL_law_1070 rfl rfl ?_
    refine j_callW C 4 (cr_L_load l G n0 e1 rfl) tw5_118 tw5_119 tw1_0 cwL_load ⟨rfl, rfl⟩ (by decide +kernel) ⟨Nat.le_of_ble_eq_true rfl, Nat.le_of_ble_eq_true rfl⟩ C2 rfl rfl (Nat.le_of_ble_eq_true rfl) dL_law_1071 ?_
    refine j_istore C2 [(5, .int 0), (4, .int i), (3, .ref (n0 + 185)), (2, .ref (n0 + 178)), (1, .ref (n0 + 0)), (0, .ref b)] dL_law_1074 (by decide) rfl ?_
    refine j_aload_n C2 3 dL_law_1076 rfl rfl ?_
    refine j_aload_n C2 5 dL_law_1077 rfl rfl ?_
    refine j_iload C2 1 dL_law_1078 rfl ?_
    refine j_iconst C2 (1 : Int32) rfl dL_law_1080 ?_
    refine j_iadd C2 dL_law_1081 ?_
    refine j_scr C2 (X.up 1 6) h1 dL_law_1082 ?_
    refine j_aload_n C2 5 dL_law_1083 rfl rfl ?_
    refine j_iload C2 1 dL_law_1084 rfl ?_
    refine j_iconst C2 (2 : Int32) rfl dL_law_1086 ?_
    refine j_iadd C2 dL_law_1087 ?_
    refine j_scr C2 (X.up 1 6) h2 dL_law_1088 ?_
    refine j_callV C2 2 lc178 (ent_K _ _ _ _ _ _) rfl (c_X12_load l G n0 e2) gv_RL_144 ⟨rfl, rfl⟩ (by decide +kernel) ⟨Nat.le_of_ble_eq_true rfl, Nat.le_of_ble_eq_true rfl⟩ rfl rfl (Nat.le_of_ble_eq_true rfl) dL_law_1089 ?_
    refine j_istore C2 [(6, .int z), (5, .int 0), (4, .int i), (3, .ref (n0 + 185)), (2, .ref (n0 + 178)), (1, .ref (n0 + 0)), (0, .ref b)] dL_law_1092 (by decide) rfl ?_
    refine j_aload_n C2 4 dL_law_1094 rfl rfl ?_
    refine j_callV C2 0 lc178 (ent_K _ _ _ _ _ _) rfl (c_X12_thrown l G n0 e3) gv_RL_90 ⟨rfl, rfl⟩ (by decide +kernel) ⟨Nat.le_of_ble_eq_true rfl, Nat.le_of_ble_eq_true rfl⟩ rfl rfl (Nat.le_of_ble_eq_true rfl) dL_law_1095 ?_
    refine j_iload C2 1 dL_law_1098 rfl ?_
    refine j_icmp_eq C2 1105 dL_law_1100 (by decide) (fun _ => ?_) (fun c => absurd rfl c)
    refine j_iload C2 1 dL_law_1105 rfl ?_
    refine j_if_ne C2 1122 dL_law_1107 (by decide) (fun c => absurd rfl c) (fun _ => ?_)
    refine j_aload_n C2 3 dL_law_1110 rfl rfl ?_
    refine j_iconst C2 (0 : Int32) rfl dL_law_1111 ?_
    refine j_lald C2 dL_law_1112 ?_
    refine j_iload C2 0 dL_law_1113 rfl ?_
    refine j_i2l C2 dL_law_1115 ?_
    refine j_lcmp C2 dL_law_1116 ?_
    refine j_iflc_eq C2 1122 dL_law_1117 (by decide) (fun _ => ?_) (fun c => absurd (e5.trans e4) c)
    refine j_goto C2 1472 dL_law_1122 (by decide) ?_
    exact j_sub [2, 3, 4, 5, 6] rfl k2
  · refine j_aload_n C 3 dL_law_1057 rfl rfl ?_
    refine j_aload_n C 4 dL_law_1058 rfl rfl ?_
    refine j_iload C 0 dL_law_1059 rfl ?_
    refine j_iconst C (1 : Int32) rfl dL_law_1061 ?_
    refine j_iadd C dL_law_1062 ?_
    refine j_scr C X h1 dL_law_1063 ?_
    refine j_aload_n C 4 dL_law_1064 rfl rfl ?_
    refine j_iload C 0 dL_law_1065 rfl ?_
    refine j_iconst C (2 : Int32) rfl dL_law_1067 ?_
    refine j_iadd C dL_law_1068 ?_
    refine j_scr C X h2 dL_law_1069 ?_
    refine j_aload_n C 1 dL_law_1070 rfl rfl ?_
    refine j_callW C 4 (ct_L_load_2 l hfl G n0 e1) tw5_118 tw5_119 tw1_0 cwL_load ⟨rfl, rfl⟩ (by decide +kernel) ⟨Nat.le_of_ble_eq_true rfl, Nat.le_of_ble_eq_true rfl⟩ C2 rfl rfl (Nat.le_of_ble_eq_true rfl) dL_law_1071 ?_
    refine j_istore C2 [(5, .int 1), (4, .int i), (3, .ref (n0 + 185)), (2, .ref (n0 + 178)), (1, .ref (n0 + 0)), (0, .ref b)] dL_law_1074 (by decide) rfl ?_
    refine j_aload_n C2 3 dL_law_1076 rfl rfl ?_
    refine j_aload_n C2 5 dL_law_1077 rfl rfl ?_
    refine j_iload C2 1 dL_law_1078 rfl ?_
    refine j_iconst C2 (1 : Int32) rfl dL_law_1080 ?_
    refine j_iadd C2 dL_law_1081 ?_
    refine j_scr C2 (X.up 1 6) h1 dL_law_1082 ?_
    refine j_aload_n C2 5 dL_law_1083 rfl rfl ?_
    refine j_iload C2 1 dL_law_1084 rfl ?_
    refine j_iconst C2 (2 : Int32) rfl dL_law_1086 ?_
    refine j_iadd C2 dL_law_1087 ?_
    refine j_scr C2 (X.up 1 6) h2 dL_law_1088 ?_
    refine j_callV C2 2 lc178 (ent_K _ _ _ _ _ _) rfl (c_X12_load l G n0 e2) gv_RL_144 ⟨rfl, rfl⟩ (by decide +kernel) ⟨Nat.le_of_ble_eq_true rfl, Nat.le_of_ble_eq_true rfl⟩ rfl rfl (Nat.le_of_ble_eq_true rfl) dL_law_1089 ?_
    refine j_istore C2 [(6, .int z), (5, .int 1), (4, .int i), (3, .ref (n0 + 185)), (2, .ref (n0 + 178)), (1, .ref (n0 + 0)), (0, .ref b)] dL_law_1092 (by decide) rfl ?_
    refine j_aload_n C2 4 dL_law_1094 rfl rfl ?_
    refine j_callV C2 0 lc178 (ent_K _ _ _ _ _ _) rfl (c_X12_thrown l G n0 e3) gv_RL_90 ⟨rfl, rfl⟩ (by decide +kernel) ⟨Nat.le_of_ble_eq_true rfl, Nat.le_of_ble_eq_true rfl⟩ rfl rfl (Nat.le_of_ble_eq_true rfl) dL_law_1095 ?_
    refine j_iload C2 1 dL_law_1098 rfl ?_
    refine j_icmp_eq C2 1105 dL_law_1100 (by decide) (fun _ => ?_) (fun c => absurd rfl c)
    refine j_iload C2 1 dL_law_1105 rfl ?_
    refine j_if_ne C2 1122 dL_law_1107 (by decide) (fun _ => ?_) (fun c => absurd c (by decide))
    refine j_goto C2 1472 dL_law_1122 (by decide) ?_
    exact j_sub [2, 3, 4, 5, 6] rfl k2
set_option maxRecDepth 100000 in
set_option maxHeartbeats 2000000 in
theorem lc_17 {K : Kx} {l : Launch} (hfl : l.stackTraces = false) {G : Gx} {n0 b N : Nat} {xs : Nat → Int32} {i : Int32} {M M3 : Mem} (C : Ok K l room_1 cL_law RL G n0 8) (C2 : Ok (kup K 1 6) l room_1 cL_law RL G n0 8) (X : SX K b N xs) (h1 : vp_in (i + 1) N) (h : LS17 (xs (i + 1).toNatClampNeg) M M3) (k1 : J K M3 1472 [(4, .int i), (3, .ref (n0 + 185)), (2, .ref (n0 + 178)), (1, .ref (n0 + 0)), (0, .ref b)] []) (k2 : J (kup K 1 6) M3 1472 [(4, .int i), (3, .ref (n0 + 185)), (2, .ref (n0 + 178)), (1, .ref (n0 + 0)), (0, .ref b)] []) : J K M 1125 [(4, .int i), (3, .ref (n0 + 185)), (2, .ref (n0 + 178)), (1, .ref (n0 + 0)), (0, .ref b)] [] := by
  rcases h with ⟨r, z, e1, e2, e3, e4, e5⟩ | ⟨z, e1, e2, e3⟩
  · refine j_aload_n C 3 dL_law_1125 rfl rfl ?_
    refine j_aload_n C 4 dL_law_1126 rfl rfl ?_
    refine j_iload C 0 dL_law_1127 rfl ?_
    refine j_iconst C (1 : Int32) rfl dL_law_1129 ?_
    refine j_iadd C dL_law_1130 ?_
    refine j_scr C X h1 dL_law_1131 ?_
    refine j_aload_n C 1 dL_law_1132 rfl rfl ?_
    refine j_callW C 3 (cr_L_whole l G n0 e1 rfl) tw5_122 tw5_123 tw1_0 cwL_whole ⟨rfl, rfl⟩ (by decide +kernel) ⟨Nat.le_of_ble_eq_true rfl, Nat.le_of_ble_eq_true rfl⟩ C2 rfl rfl (Nat.le_of_ble_eq_true rfl) dL_law_1133 ?_
    refine j_istore C2 [(5, .int 0), (4, .int i), (3, .ref (n0 + 185)), (2, .ref (n0 + 178)), (1, .ref (n0 + 0)), (0, .ref b)] dL_law_1136 (by decide) rfl ?_
    refine j_aload_n C2 3 dL_law_1138 rfl rfl ?_
    refine j_aload_n C2 5 dL_law_1139 rfl rfl ?_
    refine j_iload C2 1 dL_law_1140 rfl ?_
    refine j_iconst C2 (1 : Int32) rfl dL_law_1142 ?_
    refine j_iadd C2 dL_law_1143 ?_
    refine j_scr C2 (X.up 1 6) h1 dL_law_1144 ?_
    refine j_callV C2 1 lc178 (ent_K _ _ _ _ _ _) rfl (c_X12_whole l G n0 e2) gv_RL_147 ⟨rfl, rfl⟩ (by decide +kernel) ⟨Nat.le_of_ble_eq_true rfl, Nat.le_of_ble_eq_true rfl⟩ rfl rfl (Nat.le_of_ble_eq_true rfl) dL_law_1145 ?_
    refine j_istore C2 [(6, .int z), (5, .int 0), (4, .int i), (3, .ref (n0 + 185)), (2, .ref (n0 + 178)), (1, .ref (n0 + 0)), (0, .ref b)] dL_law_1148 (by decide) rfl ?_
    refine j_aload_n C2 4 dL_law_1150 rfl rfl ?_
    refine j_callV C2 0 lc178 (ent_K _ _ _ _ _ _) rfl (c_X12_thrown l G n0 e3) gv_RL_90 ⟨rfl, rfl⟩ (by decide +kernel) ⟨Nat.le_of_ble_eq_true rfl, Nat.le_of_ble_eq_true rfl⟩ rfl rfl (Nat.le_of_ble_eq_true rfl) dL_law_1151 ?_
    refine j_iload C2 1 dL_law_1154 rfl ?_
    refine j_icmp_eq C2 1161 dL_law_1156 (by decide) (fun _ => ?_) (fun c => absurd rfl c)
    refine j_iload C2 1 dL_law_1161 rfl ?_
    refine j_if_ne C2 1178 dL_law_1163 (by decide) (fun c => absurd rfl c) (fun _ => ?_)
    refine j_aload_n C2 3 dL_law_1166 rfl rfl ?_
    refine j_iconst C2 (0 : Int32) rfl dL_law_1167 ?_
    refine j_lald C2 dL_law_1168 ?_
    refine j_iload C2 0 dL_law_1169 rfl ?_
    refine j_i2l C2 dL_law_1171 ?_
    refine j_lcmp C2 dL_law_1172 ?_
    refine j_iflc_eq C2 1178 dL_law_1173 (by decide) (fun _ => ?_) (fun c => absurd (e5.trans e4) c)
    refine j_goto C2 1472 dL_law_1178 (by decide) ?_
    exact j_sub [2, 3, 4, 5, 6] rfl k2
  · refine j_aload_n C 3 dL_law_1125 rfl rfl ?_
    refine j_aload_n C 4 dL_law_1126 rfl rfl ?_
    refine j_iload C 0 dL_law_1127 rfl ?_
    refine j_iconst C (1 : Int32) rfl dL_law_1129 ?_
    refine j_iadd C dL_law_1130 ?_
    refine j_scr C X h1 dL_law_1131 ?_
    refine j_aload_n C 1 dL_law_1132 rfl rfl ?_
    refine j_callW C 3 (ct_L_whole_2 l hfl G n0 e1) tw5_122 tw5_123 tw1_0 cwL_whole ⟨rfl, rfl⟩ (by decide +kernel) ⟨Nat.le_of_ble_eq_true rfl, Nat.le_of_ble_eq_true rfl⟩ C2 rfl rfl (Nat.le_of_ble_eq_true rfl) dL_law_1133 ?_
    refine j_istore C2 [(5, .int 1), (4, .int i), (3, .ref (n0 + 185)), (2, .ref (n0 + 178)), (1, .ref (n0 + 0)), (0, .ref b)] dL_law_1136 (by decide) rfl ?_
    refine j_aload_n C2 3 dL_law_1138 rfl rfl ?_
    refine j_aload_n C2 5 dL_law_1139 rfl rfl ?_
    refine j_iload C2 1 dL_law_1140 rfl ?_
    refine j_iconst C2 (1 : Int32) rfl dL_law_1142 ?_
    refine j_iadd C2 dL_law_1143 ?_
    refine j_scr C2 (X.up 1 6) h1 dL_law_1144 ?_
    refine j_callV C2 1 lc178 (ent_K _ _ _ _ _ _) rfl (c_X12_whole l G n0 e2) gv_RL_147 ⟨rfl, rfl⟩ (by decide +kernel) ⟨Nat.le_of_ble_eq_true rfl, Nat.le_of_ble_eq_true rfl⟩ rfl rfl (Nat.le_of_ble_eq_true rfl) dL_law_1145 ?_
    refine j_istore C2 [(6, .int z), (5, .int 1), (4, .int i), (3, .ref (n0 + 185)), (2, .ref (n0 + 178)), (1, .ref (n0 + 0)), (0, .ref b)] dL_law_1148 (by decide) rfl ?_
    refine j_aload_n C2 4 dL_law_1150 rfl rfl ?_
    refine j_callV C2 0 lc178 (ent_K _ _ _ _ _ _) rfl (c_X12_thrown l G n0 e3) gv_RL_90 ⟨rfl, rfl⟩ (by decide +kernel) ⟨Nat.le_of_ble_eq_true rfl, Nat.le_of_ble_eq_true rfl⟩ rfl rfl (Nat.le_of_ble_eq_true rfl) dL_law_1151 ?_
    refine j_iload C2 1 dL_law_1154 rfl ?_
    refine j_icmp_eq C2 1161 dL_law_1156 (by decide) (fun _ => ?_) (fun c => absurd rfl c)
    refine j_iload C2 1 dL_law_1161 rfl ?_
    refine j_if_ne C2 1178 dL_law_1163 (by decide) (fun _ => ?_) (fun c => absurd c (by decide))
    refine j_goto C2 1472 dL_law_1178 (by decide) ?_
    exact j_sub [2, 3, 4, 5, 6] rfl k2
set_option maxRecDepth 100000 in
set_option maxHeartbeats 2000000 in
theorem lc_18 {K : Kx} {l : Launch} (hfl : l.stackTraces = false) {G : Gx} {n0 b N : Nat} {xs : Nat → Int32} {i : Int32} {M M3 : Mem} (C : Ok K l room_1 cL_law RL G n0 8) (C2 : Ok (kup K 1 6) l room_1 cL_law RL G n0 8) (X : SX K b N xs) (h1 : vp_in (i + 1) N) (h : LS18 (xs (i + 1).toNatClampNeg) M M3) (k1 : J K M3 1472 [(4, .int i), (3, .ref (n0 + 185)), (2, .ref (n0 + 178)), (1, .ref (n0 + 0)), (0, .ref b)] []) (k2 : J (kup K 1 6) M3 1472 [(4, .int i), (3, .ref (n0 + 185)), (2, .ref (n0 + 178)), (1, .ref (n0 + 0)), (0, .ref b)] []) : J K M 1181 [(4, .int i), (3, .ref (n0 + 185)), (2, .ref (n0 + 178)), (1, .ref (n0 + 0)), (0, .ref b)] [] := by
  rcases h with ⟨r, M1, z, e1, e2, e3, e4, e5⟩ | ⟨z, e1, e2, e3⟩
  · refine j_aload_n C 3 dL_law_1181 rfl rfl ?_
    refine j_aload_n C 4 dL_law_1182 rfl rfl ?_
    refine j_iload C 0 dL_law_1183 rfl ?_
    refine j_iconst C (1 : Int32) rfl dL_law_1185 ?_
    refine j_iadd C dL_law_1186 ?_
    refine j_scr C X h1 dL_law_1187 ?_
    refine j_aload_n C 1 dL_law_1188 rfl rfl ?_
    refine j_callW C 3 (cr_L_doughWith l G n0 e1 rfl) tw5_126 tw5_127 tw1_0 cwL_doughWith ⟨rfl, rfl⟩ (by decide +kernel) ⟨Nat.le_of_ble_eq_true rfl, Nat.le_of_ble_eq_true rfl⟩ C2 rfl rfl (Nat.le_of_ble_eq_true rfl) dL_law_1189 ?_
    refine j_istore C2 [(5, .int 0), (4, .int i), (3, .ref (n0 + 185)), (2, .ref (n0 + 178)), (1, .ref (n0 + 0)), (0, .ref b)] dL_law_1192 (by decide) rfl ?_
    refine j_aload_n C2 3 dL_law_1194 rfl rfl ?_
    refine j_aload_n C2 5 dL_law_1195 rfl rfl ?_
    refine j_iload C2 1 dL_law_1196 rfl ?_
    refine j_iconst C2 (1 : Int32) rfl dL_law_1198 ?_
    refine j_iadd C2 dL_law_1199 ?_
    refine j_scr C2 (X.up 1 6) h1 dL_law_1200 ?_
    refine j_callV C2 1 lc178 (ent_K _ _ _ _ _ _) rfl (c_X12_doughWith l G n0 e2) gv_RL_150 ⟨rfl, rfl⟩ (by decide +kernel) ⟨Nat.le_of_ble_eq_true rfl, Nat.le_of_ble_eq_true rfl⟩ rfl rfl (Nat.le_of_ble_eq_true rfl) dL_law_1201 ?_
    refine j_istore C2 [(6, .int z), (5, .int 0), (4, .int i), (3, .ref (n0 + 185)), (2, .ref (n0 + 178)), (1, .ref (n0 + 0)), (0, .ref b)] dL_law_1204 (by decide) rfl ?_
    refine j_aload_n C2 4 dL_law_1206 rfl rfl ?_
    refine j_callV C2 0 lc178 (ent_K _ _ _ _ _ _) rfl (c_X12_thrown l G n0 e3) gv_RL_90 ⟨rfl, rfl⟩ (by decide +kernel) ⟨Nat.le_of_ble_eq_true rfl, Nat.le_of_ble_eq_true rfl⟩ rfl rfl (Nat.le_of_ble_eq_true rfl) dL_law_1207 ?_
    refine j_iload C2 1 dL_law_1210 rfl ?_
    refine j_icmp_eq C2 1217 dL_law_1212 (by decide) (fun _ => ?_) (fun c => absurd rfl c)
    refine j_iload C2 1 dL_law_1217 rfl ?_
    refine j_if_ne C2 1234 dL_law_1219 (by decide) (fun c => absurd rfl c) (fun _ => ?_)
    refine j_aload_n C2 3 dL_law_1222 rfl rfl ?_
    refine j_iconst C2 (0 : Int32) rfl dL_law_1223 ?_
    refine j_lald C2 dL_law_1224 ?_
    refine j_iload C2 0 dL_law_1225 rfl ?_
    refine j_i2l C2 dL_law_1227 ?_
    refine j_lcmp C2 dL_law_1228 ?_
    refine j_iflc_eq C2 1234 dL_law_1229 (by decide) (fun _ => ?_) (fun c => absurd (e5.trans e4) c)
    refine j_goto C2 1472 dL_law_1234 (by decide) ?_
    exact j_sub [2, 3, 4, 5, 6] rfl k2
  · refine j_aload_n C 3 dL_law_1181 rfl rfl ?_
    refine j_aload_n C 4 dL_law_1182 rfl rfl ?_
    refine j_iload C 0 dL_law_1183 rfl ?_
    refine j_iconst C (1 : Int32) rfl dL_law_1185 ?_
    refine j_iadd C dL_law_1186 ?_
    refine j_scr C X h1 dL_law_1187 ?_
    refine j_aload_n C 1 dL_law_1188 rfl rfl ?_
    refine j_callW C 3 (ct_L_doughWith_2 l hfl G n0 e1) tw5_126 tw5_127 tw1_0 cwL_doughWith ⟨rfl, rfl⟩ (by decide +kernel) ⟨Nat.le_of_ble_eq_true rfl, Nat.le_of_ble_eq_true rfl⟩ C2 rfl rfl (Nat.le_of_ble_eq_true rfl) dL_law_1189 ?_
    refine j_istore C2 [(5, .int 1), (4, .int i), (3, .ref (n0 + 185)), (2, .ref (n0 + 178)), (1, .ref (n0 + 0)), (0, .ref b)] dL_law_1192 (by decide) rfl ?_
    refine j_aload_n C2 3 dL_law_1194 rfl rfl ?_
    refine j_aload_n C2 5 dL_law_1195 rfl rfl ?_
    refine j_iload C2 1 dL_law_1196 rfl ?_
    refine j_iconst C2 (1 : Int32) rfl dL_law_1198 ?_
    refine j_iadd C2 dL_law_1199 ?_
    refine j_scr C2 (X.up 1 6) h1 dL_law_1200 ?_
    refine j_callV C2 1 lc178 (ent_K _ _ _ _ _ _) rfl (c_X12_doughWith l G n0 e2) gv_RL_150 ⟨rfl, rfl⟩ (by decide +kernel) ⟨Nat.le_of_ble_eq_true rfl, Nat.le_of_ble_eq_true rfl⟩ rfl rfl (Nat.le_of_ble_eq_true rfl) dL_law_1201 ?_
    refine j_istore C2 [(6, .int z), (5, .int 1), (4, .int i), (3, .ref (n0 + 185)), (2, .ref (n0 + 178)), (1, .ref (n0 + 0)), (0, .ref b)] dL_law_1204 (by decide) rfl ?_
    refine j_aload_n C2 4 dL_law_1206 rfl rfl ?_
    refine j_callV C2 0 lc178 (ent_K _ _ _ _ _ _) rfl (c_X12_thrown l G n0 e3) gv_RL_90 ⟨rfl, rfl⟩ (by decide +kernel) ⟨Nat.le_of_ble_eq_true rfl, Nat.le_of_ble_eq_true rfl⟩ rfl rfl (Nat.le_of_ble_eq_true rfl) dL_law_1207 ?_
    refine j_iload C2 1 dL_law_1210 rfl ?_
    refine j_icmp_eq C2 1217 dL_law_1212 (by decide) (fun _ => ?_) (fun c => absurd rfl c)
    refine j_iload C2 1 dL_law_1217 rfl ?_
    refine j_if_ne C2 1234 dL_law_1219 (by decide) (fun _ => ?_) (fun c => absurd c (by decide))
    refine j_goto C2 1472 dL_law_1234 (by decide) ?_
    exact j_sub [2, 3, 4, 5, 6] rfl k2
set_option maxRecDepth 100000 in
set_option maxHeartbeats 2000000 in
theorem lc_19 {K : Kx} {l : Launch} (hfl : l.stackTraces = false) {G : Gx} {n0 b N : Nat} {xs : Nat → Int32} {i : Int32} {M M3 : Mem} (C : Ok K l room_1 cL_law RL G n0 8) (C2 : Ok (kup K 1 6) l room_1 cL_law RL G n0 8) (X : SX K b N xs) (h : LS19 M M3) (k1 : J K M3 1472 [(4, .int i), (3, .ref (n0 + 185)), (2, .ref (n0 + 178)), (1, .ref (n0 + 0)), (0, .ref b)] []) (k2 : J (kup K 1 6) M3 1472 [(4, .int i), (3, .ref (n0 + 185)), (2, .ref (n0 + 178)), (1, .ref (n0 + 0)), (0, .ref b)] []) : J K M 1237 [(4, .int i), (3, .ref (n0 + 185)), (2, .ref (n0 + 178)), (1, .ref (n0 + 0)), (0, .ref b)] [] := by
  obtain ⟨r, M1, e1, e2⟩ := h
  refine j_aload_n C 3 dL_law_1237 rfl rfl ?_
  refine j_callV C 0 lc0 (ent_K _ _ _ _ _ _) rfl (c_X11_bestWood l G n0 e1) gv_RL_151 ⟨rfl, rfl⟩ (by decide +kernel) ⟨Nat.le_of_ble_eq_true rfl, Nat.le_of_ble_eq_true rfl⟩ rfl rfl (Nat.le_of_ble_eq_true rfl) dL_law_1238 ?_
  refine j_aload_n C 2 dL_law_1241 rfl rfl ?_
  refine j_callV C 0 lc178 (ent_K _ _ _ _ _ _) rfl (c_X12_bestWood l G n0 e2) gv_RL_154 ⟨rfl, rfl⟩ (by decide +kernel) ⟨Nat.le_of_ble_eq_true rfl, Nat.le_of_ble_eq_true rfl⟩ rfl rfl (Nat.le_of_ble_eq_true rfl) dL_law_1242 ?_
  refine j_icmp_eq C 1472 dL_law_1245 (by decide) (fun _ => ?_) (fun c => absurd rfl c)
  exact k1
set_option maxRecDepth 100000 in
set_option maxHeartbeats 2000000 in
theorem lc_20 {K : Kx} {l : Launch} (hfl : l.stackTraces = false) {G : Gx} {n0 b N : Nat} {xs : Nat → Int32} {i : Int32} {M M3 : Mem} (C : Ok K l room_1 cL_law RL G n0 8) (C2 : Ok (kup K 1 6) l room_1 cL_law RL G n0 8) (X : SX K b N xs) (h : LS20 M M3) (k1 : J K M3 1472 [(4, .int i), (3, .ref (n0 + 185)), (2, .ref (n0 + 178)), (1, .ref (n0 + 0)), (0, .ref b)] []) (k2 : J (kup K 1 6) M3 1472 [(4, .int i), (3, .ref (n0 + 185)), (2, .ref (n0 + 178)), (1, .ref (n0 + 0)), (0, .ref b)] []) : J K M 1250 [(4, .int i), (3, .ref (n0 + 185)), (2, .ref (n0 + 178)), (1, .ref (n0 + 0)), (0, .ref b)] [] := by
  obtain ⟨r, e1, e2⟩ := h
  refine j_aload_n C 3 dL_law_1250 rfl rfl ?_
  refine j_callV C 0 lc0 (ent_K _ _ _ _ _ _) rfl (c_X11_likeMarks l G n0 e1) gv_RL_155 ⟨rfl, rfl⟩ (by decide +kernel) ⟨Nat.le_of_ble_eq_true rfl, Nat.le_of_ble_eq_true rfl⟩ rfl rfl (Nat.le_of_ble_eq_true rfl) dL_law_1251 ?_
  refine j_aload_n C 2 dL_law_1254 rfl rfl ?_
  refine j_callV C 0 lc178 (ent_K _ _ _ _ _ _) rfl (c_X12_likeMarks l G n0 e2) gv_RL_158 ⟨rfl, rfl⟩ (by decide +kernel) ⟨Nat.le_of_ble_eq_true rfl, Nat.le_of_ble_eq_true rfl⟩ rfl rfl (Nat.le_of_ble_eq_true rfl) dL_law_1255 ?_
  refine j_icmp_eq C 1472 dL_law_1258 (by decide) (fun _ => ?_) (fun c => absurd rfl c)
  exact k1
set_option maxRecDepth 100000 in
set_option maxHeartbeats 2000000 in
theorem lc_21 {K : Kx} {l : Launch} (hfl : l.stackTraces = false) {G : Gx} {n0 b N : Nat} {xs : Nat → Int32} {i : Int32} {M M3 : Mem} (C : Ok K l room_1 cL_law RL G n0 8) (C2 : Ok (kup K 1 6) l room_1 cL_law RL G n0 8) (X : SX K b N xs) (h1 : vp_in (i + 1) N) (h : LS21 (xs (i + 1).toNatClampNeg) M M3) (k1 : J K M3 1472 [(4, .int i), (3, .ref (n0 + 185)), (2, .ref (n0 + 178)), (1, .ref (n0 + 0)), (0, .ref b)] []) (k2 : J (kup K 1 6) M3 1472 [(4, .int i), (3, .ref (n0 + 185)), (2, .ref (n0 + 178)), (1, .ref (n0 + 0)), (0, .ref b)] []) : J K M 1263 [(4, .int i), (3, .ref (n0 + 185)), (2, .ref (n0 + 178)), (1, .ref (n0 + 0)), (0, .ref b)] [] := by
  rcases h with ⟨r, z, e1, e2, e3, e4, e5⟩ | ⟨z, e1, e2, e3⟩
  · refine j_aload_n C 3 dL_law_1263 rfl rfl ?_
    refine j_aload_n C 4 dL_law_1264 rfl rfl ?_
    refine j_iload C 0 dL_law_1265 rfl ?_
    refine j_iconst C (1 : Int32) rfl dL_law_1267 ?_
    refine j_iadd C dL_law_1268 ?_
    refine j_scr C X h1 dL_law_1269 ?_
    refine j_aload_n C 1 dL_law_1270 rfl rfl ?_
    refine j_callW C 3 (cr_L_freeMark l G n0 e1 rfl) tw5_133 tw5_134 tw1_0 cwL_freeMark ⟨rfl, rfl⟩ (by decide +kernel) ⟨Nat.le_of_ble_eq_true rfl, Nat.le_of_ble_eq_true rfl⟩ C2 rfl rfl (Nat.le_of_ble_eq_true rfl) dL_law_1271 ?_
    refine j_istore C2 [(5, .int 0), (4, .int i), (3, .ref (n0 + 185)), (2, .ref (n0 + 178)), (1, .ref (n0 + 0)), (0, .ref b)] dL_law_1274 (by decide) rfl ?_
    refine j_aload_n C2 3 dL_law_1276 rfl rfl ?_
    refine j_aload_n C2 5 dL_law_1277 rfl rfl ?_
    refine j_iload C2 1 dL_law_1278 rfl ?_
    refine j_iconst C2 (1 : Int32) rfl dL_law_1280 ?_
    refine j_iadd C2 dL_law_1281 ?_
    refine j_scr C2 (X.up 1 6) h1 dL_law_1282 ?_
    refine j_callV C2 1 lc178 (ent_K _ _ _ _ _ _) rfl (c_X12_freeMark l G n0 e2) gv_RL_161 ⟨rfl, rfl⟩ (by decide +kernel) ⟨Nat.le_of_ble_eq_true rfl, Nat.le_of_ble_eq_true rfl⟩ rfl rfl (Nat.le_of_ble_eq_true rfl) dL_law_1283 ?_
    refine j_istore C2 [(6, .int z), (5, .int 0), (4, .int i), (3, .ref (n0 + 185)), (2, .ref (n0 + 178)), (1, .ref (n0 + 0)), (0, .ref b)] dL_law_1286 (by decide) rfl ?_
    refine j_aload_n C2 4 dL_law_1288 rfl rfl ?_
    refine j_callV C2 0 lc178 (ent_K _ _ _ _ _ _) rfl (c_X12_thrown l G n0 e3) gv_RL_90 ⟨rfl, rfl⟩ (by decide +kernel) ⟨Nat.le_of_ble_eq_true rfl, Nat.le_of_ble_eq_true rfl⟩ rfl rfl (Nat.le_of_ble_eq_true rfl) dL_law_1289 ?_
    refine j_iload C2 1 dL_law_1292 rfl ?_
    refine j_icmp_eq C2 1299 dL_law_1294 (by decide) (fun _ => ?_) (fun c => absurd rfl c)
    refine j_iload C2 1 dL_law_1299 rfl ?_
    refine j_if_ne C2 1316 dL_law_1301 (by decide) (fun c => absurd rfl c) (fun _ => ?_)
    refine j_aload_n C2 3 dL_law_1304 rfl rfl ?_
    refine j_iconst C2 (0 : Int32) rfl dL_law_1305 ?_
    refine j_lald C2 dL_law_1306 ?_
    refine j_iload C2 0 dL_law_1307 rfl ?_
    refine j_i2l C2 dL_law_1309 ?_
    refine j_lcmp C2 dL_law_1310 ?_
    refine j_iflc_eq C2 1316 dL_law_1311 (by decide) (fun _ => ?_) (fun c => absurd (e5.trans e4) c)
    refine j_goto C2 1472 dL_law_1316 (by decide) ?_
    exact j_sub [2, 3, 4, 5, 6] rfl k2
  · refine j_aload_n C 3 dL_law_1263 rfl rfl ?_
    refine j_aload_n C 4 dL_law_1264 rfl rfl ?_
    refine j_iload C 0 dL_law_1265 rfl ?_
    refine j_iconst C (1 : Int32) rfl dL_law_1267 ?_
    refine j_iadd C dL_law_1268 ?_
    refine j_scr C X h1 dL_law_1269 ?_
    refine j_aload_n C 1 dL_law_1270 rfl rfl ?_
    refine j_callW C 3 (ct_L_freeMark_2 l hfl G n0 e1) tw5_133 tw5_134 tw1_0 cwL_freeMark ⟨rfl, rfl⟩ (by decide +kernel) ⟨Nat.le_of_ble_eq_true rfl, Nat.le_of_ble_eq_true rfl⟩ C2 rfl rfl (Nat.le_of_ble_eq_true rfl) dL_law_1271 ?_
    refine j_istore C2 [(5, .int 1), (4, .int i), (3, .ref (n0 + 185)), (2, .ref (n0 + 178)), (1, .ref (n0 + 0)), (0, .ref b)] dL_law_1274 (by decide) rfl ?_
    refine j_aload_n C2 3 dL_law_1276 rfl rfl ?_
    refine j_aload_n C2 5 dL_law_1277 rfl rfl ?_
    refine j_iload C2 1 dL_law_1278 rfl ?_
    refine j_iconst C2 (1 : Int32) rfl dL_law_1280 ?_
    refine j_iadd C2 dL_law_1281 ?_
    refine j_scr C2 (X.up 1 6) h1 dL_law_1282 ?_
    refine j_callV C2 1 lc178 (ent_K _ _ _ _ _ _) rfl (c_X12_freeMark l G n0 e2) gv_RL_161 ⟨rfl, rfl⟩ (by decide +kernel) ⟨Nat.le_of_ble_eq_true rfl, Nat.le_of_ble_eq_true rfl⟩ rfl rfl (Nat.le_of_ble_eq_true rfl) dL_law_1283 ?_
    refine j_istore C2 [(6, .int z), (5, .int 1), (4, .int i), (3, .ref (n0 + 185)), (2, .ref (n0 + 178)), (1, .ref (n0 + 0)), (0, .ref b)] dL_law_1286 (by decide) rfl ?_
    refine j_aload_n C2 4 dL_law_1288 rfl rfl ?_
    refine j_callV C2 0 lc178 (ent_K _ _ _ _ _ _) rfl (c_X12_thrown l G n0 e3) gv_RL_90 ⟨rfl, rfl⟩ (by decide +kernel) ⟨Nat.le_of_ble_eq_true rfl, Nat.le_of_ble_eq_true rfl⟩ rfl rfl (Nat.le_of_ble_eq_true rfl) dL_law_1289 ?_
    refine j_iload C2 1 dL_law_1292 rfl ?_
    refine j_icmp_eq C2 1299 dL_law_1294 (by decide) (fun _ => ?_) (fun c => absurd rfl c)
    refine j_iload C2 1 dL_law_1299 rfl ?_
    refine j_if_ne C2 1316 dL_law_1301 (by decide) (fun _ => ?_) (fun c => absurd c (by decide))
    refine j_goto C2 1472 dL_law_1316 (by decide) ?_
    exact j_sub [2, 3, 4, 5, 6] rfl k2
set_option maxRecDepth 100000 in
set_option maxHeartbeats 2000000 in
theorem lc_22 {K : Kx} {l : Launch} (hfl : l.stackTraces = false) {G : Gx} {n0 b N : Nat} {xs : Nat → Int32} {i : Int32} {M M3 : Mem} (C : Ok K l room_1 cL_law RL G n0 8) (C2 : Ok (kup K 1 6) l room_1 cL_law RL G n0 8) (X : SX K b N xs) (h1 : vp_in (i + 1) N) (h : LS22 (xs (i + 1).toNatClampNeg) M M3) (k1 : J K M3 1472 [(4, .int i), (3, .ref (n0 + 185)), (2, .ref (n0 + 178)), (1, .ref (n0 + 0)), (0, .ref b)] []) (k2 : J (kup K 1 6) M3 1472 [(4, .int i), (3, .ref (n0 + 185)), (2, .ref (n0 + 178)), (1, .ref (n0 + 0)), (0, .ref b)] []) : J K M 1319 [(4, .int i), (3, .ref (n0 + 185)), (2, .ref (n0 + 178)), (1, .ref (n0 + 0)), (0, .ref b)] [] := by
  rcases h with ⟨r, M1, z, e1, e2, e3, e4, e5⟩ | ⟨z, e1, e2, e3⟩ | ⟨z, e1, e2, e3⟩
  · refine j_aload_n C 3 dL_law_1319 rfl rfl ?_
    refine j_aload_n C 4 dL_law_1320 rfl rfl ?_
    refine j_iload C 0 dL_law_1321 rfl ?_
    refine j_iconst C (1 : Int32) rfl dL_law_1323 ?_
    refine j_iadd C dL_law_1324 ?_
    refine j_scr C X h1 dL_law_1325 ?_
    refine j_aload_n C 1 dL_law_1326 rfl rfl ?_
    refine j_callW C 3 (cr_L_type l G n0 e1 rfl) tw5_149 tw5_150 tw1_0 cwL_type ⟨rfl, rfl⟩ (by decide +kernel) ⟨Nat.le_of_ble_eq_true rfl, Nat.le_of_ble_eq_true rfl⟩ C2 rfl rfl (Nat.le_of_ble_eq_true rfl) dL_law_1327 ?_
    refine j_istore C2 [(5, .int 0), (4, .int i), (3, .ref (n0 + 185)), (2, .ref (n0 + 178)), (1, .ref (n0 + 0)), (0, .ref b)] dL_law_1330 (by decide) rfl ?_
    refine j_aload_n C2 3 dL_law_1332 rfl rfl ?_
    refine j_aload_n C2 5 dL_law_1333 rfl rfl ?_
    refine j_iload C2 1 dL_law_1334 rfl ?_
    refine j_iconst C2 (1 : Int32) rfl dL_law_1336 ?_
    refine j_iadd C2 dL_law_1337 ?_
    refine j_scr C2 (X.up 1 6) h1 dL_law_1338 ?_
    refine j_callV C2 1 lc178 (ent_K _ _ _ _ _ _) rfl (c_X12_type l G n0 e2) gv_RL_164 ⟨rfl, rfl⟩ (by decide +kernel) ⟨Nat.le_of_ble_eq_true rfl, Nat.le_of_ble_eq_true rfl⟩ rfl rfl (Nat.le_of_ble_eq_true rfl) dL_law_1339 ?_
    refine j_istore C2 [(6, .int z), (5, .int 0), (4, .int i), (3, .ref (n0 + 185)), (2, .ref (n0 + 178)), (1, .ref (n0 + 0)), (0, .ref b)] dL_law_1342 (by decide) rfl ?_
    refine j_aload_n C2 4 dL_law_1344 rfl rfl ?_
    refine j_callV C2 0 lc178 (ent_K _ _ _ _ _ _) rfl (c_X12_thrown l G n0 e3) gv_RL_90 ⟨rfl, rfl⟩ (by decide +kernel) ⟨Nat.le_of_ble_eq_true rfl, Nat.le_of_ble_eq_true rfl⟩ rfl rfl (Nat.le_of_ble_eq_true rfl) dL_law_1345 ?_
    refine j_iload C2 1 dL_law_1348 rfl ?_
    refine j_icmp_eq C2 1355 dL_law_1350 (by decide) (fun _ => ?_) (fun c => absurd rfl c)
    refine j_iload C2 1 dL_law_1355 rfl ?_
    refine j_if_ne C2 1372 dL_law_1357 (by decide) (fun c => absurd rfl c) (fun _ => ?_)
    refine j_aload_n C2 3 dL_law_1360 rfl rfl ?_
    refine j_iconst C2 (0 : Int32) rfl dL_law_1361 ?_
    refine j_lald C2 dL_law_1362 ?_
    refine j_iload C2 0 dL_law_1363 rfl ?_
    refine j_i2l C2 dL_law_1365 ?_
    refine j_lcmp C2 dL_law_1366 ?_
    refine j_iflc_eq C2 1372 dL_law_1367 (by decide) (fun _ => ?_) (fun c => absurd (e5.trans e4) c)
    refine j_goto C2 1472 dL_law_1372 (by decide) ?_
    exact j_sub [2, 3, 4, 5, 6] rfl k2
  · refine j_aload_n C 3 dL_law_1319 rfl rfl ?_
    refine j_aload_n C 4 dL_law_1320 rfl rfl ?_
    refine j_iload C 0 dL_law_1321 rfl ?_
    refine j_iconst C (1 : Int32) rfl dL_law_1323 ?_
    refine j_iadd C dL_law_1324 ?_
    refine j_scr C X h1 dL_law_1325 ?_
    refine j_aload_n C 1 dL_law_1326 rfl rfl ?_
    refine j_callW C 3 (ct_L_type_2 l hfl G n0 e1) tw5_149 tw5_150 tw1_0 cwL_type ⟨rfl, rfl⟩ (by decide +kernel) ⟨Nat.le_of_ble_eq_true rfl, Nat.le_of_ble_eq_true rfl⟩ C2 rfl rfl (Nat.le_of_ble_eq_true rfl) dL_law_1327 ?_
    refine j_istore C2 [(5, .int 1), (4, .int i), (3, .ref (n0 + 185)), (2, .ref (n0 + 178)), (1, .ref (n0 + 0)), (0, .ref b)] dL_law_1330 (by decide) rfl ?_
    refine j_aload_n C2 3 dL_law_1332 rfl rfl ?_
    refine j_aload_n C2 5 dL_law_1333 rfl rfl ?_
    refine j_iload C2 1 dL_law_1334 rfl ?_
    refine j_iconst C2 (1 : Int32) rfl dL_law_1336 ?_
    refine j_iadd C2 dL_law_1337 ?_
    refine j_scr C2 (X.up 1 6) h1 dL_law_1338 ?_
    refine j_callV C2 1 lc178 (ent_K _ _ _ _ _ _) rfl (c_X12_type l G n0 e2) gv_RL_164 ⟨rfl, rfl⟩ (by decide +kernel) ⟨Nat.le_of_ble_eq_true rfl, Nat.le_of_ble_eq_true rfl⟩ rfl rfl (Nat.le_of_ble_eq_true rfl) dL_law_1339 ?_
    refine j_istore C2 [(6, .int z), (5, .int 1), (4, .int i), (3, .ref (n0 + 185)), (2, .ref (n0 + 178)), (1, .ref (n0 + 0)), (0, .ref b)] dL_law_1342 (by decide) rfl ?_
    refine j_aload_n C2 4 dL_law_1344 rfl rfl ?_
    refine j_callV C2 0 lc178 (ent_K _ _ _ _ _ _) rfl (c_X12_thrown l G n0 e3) gv_RL_90 ⟨rfl, rfl⟩ (by decide +kernel) ⟨Nat.le_of_ble_eq_true rfl, Nat.le_of_ble_eq_true rfl⟩ rfl rfl (Nat.le_of_ble_eq_true rfl) dL_law_1345 ?_
    refine j_iload C2 1 dL_law_1348 rfl ?_
    refine j_icmp_eq C2 1355 dL_law_1350 (by decide) (fun _ => ?_) (fun c => absurd rfl c)
    refine j_iload C2 1 dL_law_1355 rfl ?_
    refine j_if_ne C2 1372 dL_law_1357 (by decide) (fun _ => ?_) (fun c => absurd c (by decide))
    refine j_goto C2 1472 dL_law_1372 (by decide) ?_
    exact j_sub [2, 3, 4, 5, 6] rfl k2
  · refine j_aload_n C 3 dL_law_1319 rfl rfl ?_
    refine j_aload_n C 4 dL_law_1320 rfl rfl ?_
    refine j_iload C 0 dL_law_1321 rfl ?_
    refine j_iconst C (1 : Int32) rfl dL_law_1323 ?_
    refine j_iadd C dL_law_1324 ?_
    refine j_scr C X h1 dL_law_1325 ?_
    refine j_aload_n C 1 dL_law_1326 rfl rfl ?_
    refine j_callW C 3 (ct_L_type_3 l hfl G n0 e1) tw5_149 tw5_150 tw1_0 cwL_type ⟨rfl, rfl⟩ (by decide +kernel) ⟨Nat.le_of_ble_eq_true rfl, Nat.le_of_ble_eq_true rfl⟩ C2 rfl rfl (Nat.le_of_ble_eq_true rfl) dL_law_1327 ?_
    refine j_istore C2 [(5, .int 2), (4, .int i), (3, .ref (n0 + 185)), (2, .ref (n0 + 178)), (1, .ref (n0 + 0)), (0, .ref b)] dL_law_1330 (by decide) rfl ?_
    refine j_aload_n C2 3 dL_law_1332 rfl rfl ?_
    refine j_aload_n C2 5 dL_law_1333 rfl rfl ?_
    refine j_iload C2 1 dL_law_1334 rfl ?_
    refine j_iconst C2 (1 : Int32) rfl dL_law_1336 ?_
    refine j_iadd C2 dL_law_1337 ?_
    refine j_scr C2 (X.up 1 6) h1 dL_law_1338 ?_
    refine j_callV C2 1 lc178 (ent_K _ _ _ _ _ _) rfl (c_X12_type l G n0 e2) gv_RL_164 ⟨rfl, rfl⟩ (by decide +kernel) ⟨Nat.le_of_ble_eq_true rfl, Nat.le_of_ble_eq_true rfl⟩ rfl rfl (Nat.le_of_ble_eq_true rfl) dL_law_1339 ?_
    refine j_istore C2 [(6, .int z), (5, .int 2), (4, .int i), (3, .ref (n0 + 185)), (2, .ref (n0 + 178)), (1, .ref (n0 + 0)), (0, .ref b)] dL_law_1342 (by decide) rfl ?_
    refine j_aload_n C2 4 dL_law_1344 rfl rfl ?_
    refine j_callV C2 0 lc178 (ent_K _ _ _ _ _ _) rfl (c_X12_thrown l G n0 e3) gv_RL_90 ⟨rfl, rfl⟩ (by decide +kernel) ⟨Nat.le_of_ble_eq_true rfl, Nat.le_of_ble_eq_true rfl⟩ rfl rfl (Nat.le_of_ble_eq_true rfl) dL_law_1345 ?_
    refine j_iload C2 1 dL_law_1348 rfl ?_
    refine j_icmp_eq C2 1355 dL_law_1350 (by decide) (fun _ => ?_) (fun c => absurd rfl c)
    refine j_iload C2 1 dL_law_1355 rfl ?_
    refine j_if_ne C2 1372 dL_law_1357 (by decide) (fun _ => ?_) (fun c => absurd c (by decide))
    refine j_goto C2 1472 dL_law_1372 (by decide) ?_
    exact j_sub [2, 3, 4, 5, 6] rfl k2
set_option maxRecDepth 100000 in
set_option maxHeartbeats 2000000 in
theorem lc_23 {K : Kx} {l : Launch} (hfl : l.stackTraces = false) {G : Gx} {n0 b N : Nat} {xs : Nat → Int32} {i : Int32} {M M3 : Mem} (C : Ok K l room_1 cL_law RL G n0 8) (C2 : Ok (kup K 1 6) l room_1 cL_law RL G n0 8) (X : SX K b N xs) (h : LS23 M M3) (k1 : J K M3 1472 [(4, .int i), (3, .ref (n0 + 185)), (2, .ref (n0 + 178)), (1, .ref (n0 + 0)), (0, .ref b)] []) (k2 : J (kup K 1 6) M3 1472 [(4, .int i), (3, .ref (n0 + 185)), (2, .ref (n0 + 178)), (1, .ref (n0 + 0)), (0, .ref b)] []) : J K M 1375 [(4, .int i), (3, .ref (n0 + 185)), (2, .ref (n0 + 178)), (1, .ref (n0 + 0)), (0, .ref b)] [] := by
  obtain ⟨r, M1, e1, e2⟩ := h
  refine j_aload_n C 3 dL_law_1375 rfl rfl ?_
  refine j_callV C 0 lc0 (ent_K _ _ _ _ _ _) rfl (c_X11_clearCommands l G n0 e1) gv_RL_165 ⟨rfl, rfl⟩ (by decide +kernel) ⟨Nat.le_of_ble_eq_true rfl, Nat.le_of_ble_eq_true rfl⟩ rfl rfl (Nat.le_of_ble_eq_true rfl) dL_law_1376 ?_
  refine j_aload_n C 2 dL_law_1379 rfl rfl ?_
  refine j_callV C 0 lc178 (ent_K _ _ _ _ _ _) rfl (c_X12_clearCommands l G n0 e2) gv_RL_168 ⟨rfl, rfl⟩ (by decide +kernel) ⟨Nat.le_of_ble_eq_true rfl, Nat.le_of_ble_eq_true rfl⟩ rfl rfl (Nat.le_of_ble_eq_true rfl) dL_law_1380 ?_
  refine j_icmp_eq C 1472 dL_law_1383 (by decide) (fun _ => ?_) (fun c => absurd rfl c)
  exact k1
set_option maxRecDepth 100000 in
set_option maxHeartbeats 2000000 in
theorem lc_24 {K : Kx} {l : Launch} (hfl : l.stackTraces = false) {G : Gx} {n0 b N : Nat} {xs : Nat → Int32} {i : Int32} {M M3 : Mem} (C : Ok K l room_1 cL_law RL G n0 8) (C2 : Ok (kup K 1 6) l room_1 cL_law RL G n0 8) (X : SX K b N xs) (h : LS24 M M3) (k1 : J K M3 1472 [(4, .int i), (3, .ref (n0 + 185)), (2, .ref (n0 + 178)), (1, .ref (n0 + 0)), (0, .ref b)] []) (k2 : J (kup K 1 6) M3 1472 [(4, .int i), (3, .ref (n0 + 185)), (2, .ref (n0 + 178)), (1, .ref (n0 + 0)), (0, .ref b)] []) : J K M 1388 [(4, .int i), (3, .ref (n0 + 185)), (2, .ref (n0 + 178)), (1, .ref (n0 + 0)), (0, .ref b)] [] := by
  obtain ⟨r, M1, e1, e2⟩ := h
  refine j_aload_n C 3 dL_law_1388 rfl rfl ?_
  refine j_callV C 0 lc0 (ent_K _ _ _ _ _ _) rfl (c_X11_runCommands l G n0 e1) gv_RL_169 ⟨rfl, rfl⟩ (by decide +kernel) ⟨Nat.le_of_ble_eq_true rfl, Nat.le_of_ble_eq_true rfl⟩ rfl rfl (Nat.le_of_ble_eq_true rfl) dL_law_1389 ?_
  refine j_aload_n C 2 dL_law_1392 rfl rfl ?_
  refine j_callV C 0 lc178 (ent_K _ _ _ _ _ _) rfl (c_X12_runCommands l G n0 e2) gv_RL_172 ⟨rfl, rfl⟩ (by decide +kernel) ⟨Nat.le_of_ble_eq_true rfl, Nat.le_of_ble_eq_true rfl⟩ rfl rfl (Nat.le_of_ble_eq_true rfl) dL_law_1393 ?_
  refine j_icmp_eq C 1472 dL_law_1396 (by decide) (fun _ => ?_) (fun c => absurd rfl c)
  exact k1
set_option maxRecDepth 100000 in
set_option maxHeartbeats 2000000 in
theorem lc_25 {K : Kx} {l : Launch} (hfl : l.stackTraces = false) {G : Gx} {n0 b N : Nat} {xs : Nat → Int32} {i : Int32} {M M3 : Mem} (C : Ok K l room_1 cL_law RL G n0 8) (C2 : Ok (kup K 1 6) l room_1 cL_law RL G n0 8) (X : SX K b N xs) (h : LS25 M M3) (k1 : J K M3 1472 [(4, .int i), (3, .ref (n0 + 185)), (2, .ref (n0 + 178)), (1, .ref (n0 + 0)), (0, .ref b)] []) (k2 : J (kup K 1 6) M3 1472 [(4, .int i), (3, .ref (n0 + 185)), (2, .ref (n0 + 178)), (1, .ref (n0 + 0)), (0, .ref b)] []) : J K M 1401 [(4, .int i), (3, .ref (n0 + 185)), (2, .ref (n0 + 178)), (1, .ref (n0 + 0)), (0, .ref b)] [] := by
  obtain ⟨r, e1, e2⟩ := h
  refine j_aload_n C 3 dL_law_1401 rfl rfl ?_
  refine j_callV C 0 lc0 (ent_K _ _ _ _ _ _) rfl (c_X11_stop l G n0 e1) gv_RL_173 ⟨rfl, rfl⟩ (by decide +kernel) ⟨Nat.le_of_ble_eq_true rfl, Nat.le_of_ble_eq_true rfl⟩ rfl rfl (Nat.le_of_ble_eq_true rfl) dL_law_1402 ?_
  refine j_aload_n C 2 dL_law_1405 rfl rfl ?_
  refine j_callV C 0 lc178 (ent_K _ _ _ _ _ _) rfl (c_X12_stop l G n0 e2) gv_RL_176 ⟨rfl, rfl⟩ (by decide +kernel) ⟨Nat.le_of_ble_eq_true rfl, Nat.le_of_ble_eq_true rfl⟩ rfl rfl (Nat.le_of_ble_eq_true rfl) dL_law_1406 ?_
  refine j_icmp_eq C 1472 dL_law_1409 (by decide) (fun _ => ?_) (fun c => absurd rfl c)
  exact k1
set_option maxRecDepth 100000 in
set_option maxHeartbeats 2000000 in
theorem lc_26 {K : Kx} {l : Launch} (hfl : l.stackTraces = false) {G : Gx} {n0 b N : Nat} {xs : Nat → Int32} {i : Int32} {M M3 : Mem} (C : Ok K l room_1 cL_law RL G n0 8) (C2 : Ok (kup K 1 6) l room_1 cL_law RL G n0 8) (X : SX K b N xs) (h : LS26 M M3) (k1 : J K M3 1472 [(4, .int i), (3, .ref (n0 + 185)), (2, .ref (n0 + 178)), (1, .ref (n0 + 0)), (0, .ref b)] []) (k2 : J (kup K 1 6) M3 1472 [(4, .int i), (3, .ref (n0 + 185)), (2, .ref (n0 + 178)), (1, .ref (n0 + 0)), (0, .ref b)] []) : J K M 1414 [(4, .int i), (3, .ref (n0 + 185)), (2, .ref (n0 + 178)), (1, .ref (n0 + 0)), (0, .ref b)] [] := by
  rcases h with ⟨r, M1, z, e1, e2, e3, e4, e5⟩ | ⟨z, e1, e2, e3⟩
  · refine j_aload_n C 3 dL_law_1414 rfl rfl ?_
    refine j_aload_n C 1 dL_law_1415 rfl rfl ?_
    refine j_callW C 2 (cr_L_undo l G n0 e1 rfl) tw5_165 tw5_166 tw1_0 cwL_undo ⟨rfl, rfl⟩ (by decide +kernel) ⟨Nat.le_of_ble_eq_true rfl, Nat.le_of_ble_eq_true rfl⟩ C2 rfl rfl (Nat.le_of_ble_eq_true rfl) dL_law_1416 ?_
    refine j_istore C2 [(5, .int 0), (4, .int i), (3, .ref (n0 + 185)), (2, .ref (n0 + 178)), (1, .ref (n0 + 0)), (0, .ref b)] dL_law_1419 (by decide) rfl ?_
    refine j_aload_n C2 3 dL_law_1421 rfl rfl ?_
    refine j_callV C2 0 lc178 (ent_K _ _ _ _ _ _) rfl (c_X12_undo l G n0 e2) gv_RL_180 ⟨rfl, rfl⟩ (by decide +kernel) ⟨Nat.le_of_ble_eq_true rfl, Nat.le_of_ble_eq_true rfl⟩ rfl rfl (Nat.le_of_ble_eq_true rfl) dL_law_1422 ?_
    refine j_istore C2 [(6, .int z), (5, .int 0), (4, .int i), (3, .ref (n0 + 185)), (2, .ref (n0 + 178)), (1, .ref (n0 + 0)), (0, .ref b)] dL_law_1425 (by decide) rfl ?_
    refine j_aload_n C2 4 dL_law_1427 rfl rfl ?_
    refine j_callV C2 0 lc178 (ent_K _ _ _ _ _ _) rfl (c_X12_thrown l G n0 e3) gv_RL_90 ⟨rfl, rfl⟩ (by decide +kernel) ⟨Nat.le_of_ble_eq_true rfl, Nat.le_of_ble_eq_true rfl⟩ rfl rfl (Nat.le_of_ble_eq_true rfl) dL_law_1428 ?_
    refine j_iload C2 1 dL_law_1431 rfl ?_
    refine j_icmp_eq C2 1438 dL_law_1433 (by decide) (fun _ => ?_) (fun c => absurd rfl c)
    refine j_iload C2 1 dL_law_1438 rfl ?_
    refine j_if_ne C2 1455 dL_law_1440 (by decide) (fun c => absurd rfl c) (fun _ => ?_)
    refine j_aload_n C2 3 dL_law_1443 rfl rfl ?_
    refine j_iconst C2 (0 : Int32) rfl dL_law_1444 ?_
    refine j_lald C2 dL_law_1445 ?_
    refine j_iload C2 0 dL_law_1446 rfl ?_
    refine j_i2l C2 dL_law_1448 ?_
    refine j_lcmp C2 dL_law_1449 ?_
    refine j_iflc_eq C2 1455 dL_law_1450 (by decide) (fun _ => ?_) (fun c => absurd (e5.trans e4) c)
    refine j_goto C2 1472 dL_law_1455 (by decide) ?_
    exact j_sub [2, 3, 4, 5, 6] rfl k2
  · refine j_aload_n C 3 dL_law_1414 rfl rfl ?_
    refine j_aload_n C 1 dL_law_1415 rfl rfl ?_
    refine j_callW C 2 (ct_L_undo_3 l hfl G n0 e1) tw5_165 tw5_166 tw1_0 cwL_undo ⟨rfl, rfl⟩ (by decide +kernel) ⟨Nat.le_of_ble_eq_true rfl, Nat.le_of_ble_eq_true rfl⟩ C2 rfl rfl (Nat.le_of_ble_eq_true rfl) dL_law_1416 ?_
    refine j_istore C2 [(5, .int 1), (4, .int i), (3, .ref (n0 + 185)), (2, .ref (n0 + 178)), (1, .ref (n0 + 0)), (0, .ref b)] dL_law_1419 (by decide) rfl ?_
    refine j_aload_n C2 3 dL_law_1421 rfl rfl ?_
    refine j_callV C2 0 lc178 (ent_K _ _ _ _ _ _) rfl (c_X12_undo l G n0 e2) gv_RL_180 ⟨rfl, rfl⟩ (by decide +kernel) ⟨Nat.le_of_ble_eq_true rfl, Nat.le_of_ble_eq_true rfl⟩ rfl rfl (Nat.le_of_ble_eq_true rfl) dL_law_1422 ?_
    refine j_istore C2 [(6, .int z), (5, .int 1), (4, .int i), (3, .ref (n0 + 185)), (2, .ref (n0 + 178)), (1, .ref (n0 + 0)), (0, .ref b)] dL_law_1425 (by decide) rfl ?_
    refine j_aload_n C2 4 dL_law_1427 rfl rfl ?_
    refine j_callV C2 0 lc178 (ent_K _ _ _ _ _ _) rfl (c_X12_thrown l G n0 e3) gv_RL_90 ⟨rfl, rfl⟩ (by decide +kernel) ⟨Nat.le_of_ble_eq_true rfl, Nat.le_of_ble_eq_true rfl⟩ rfl rfl (Nat.le_of_ble_eq_true rfl) dL_law_1428 ?_
    refine j_iload C2 1 dL_law_1431 rfl ?_
    refine j_icmp_eq C2 1438 dL_law_1433 (by decide) (fun _ => ?_) (fun c => absurd rfl c)
    refine j_iload C2 1 dL_law_1438 rfl ?_
    refine j_if_ne C2 1455 dL_law_1440 (by decide) (fun _ => ?_) (fun c => absurd c (by decide))
    refine j_goto C2 1472 dL_law_1455 (by decide) ?_
    exact j_sub [2, 3, 4, 5, 6] rfl k2
set_option maxRecDepth 100000 in
set_option maxHeartbeats 2000000 in
theorem lc_27 {K : Kx} {l : Launch} (hfl : l.stackTraces = false) {G : Gx} {n0 b N : Nat} {xs : Nat → Int32} {i : Int32} {M M3 : Mem} (C : Ok K l room_1 cL_law RL G n0 8) (C2 : Ok (kup K 1 6) l room_1 cL_law RL G n0 8) (X : SX K b N xs) (h : LS27 M M3) (k1 : J K M3 1472 [(4, .int i), (3, .ref (n0 + 185)), (2, .ref (n0 + 178)), (1, .ref (n0 + 0)), (0, .ref b)] []) (k2 : J (kup K 1 6) M3 1472 [(4, .int i), (3, .ref (n0 + 185)), (2, .ref (n0 + 178)), (1, .ref (n0 + 0)), (0, .ref b)] []) : J K M 1458 [(4, .int i), (3, .ref (n0 + 185)), (2, .ref (n0 + 178)), (1, .ref (n0 + 0)), (0, .ref b)] [] := by
  obtain ⟨r, M1, e1, e2⟩ := h
  refine j_aload_n C 3 dL_law_1458 rfl rfl ?_
  refine j_callV C 0 lc0 (ent_K _ _ _ _ _ _) rfl (c_X11_digest l G n0 e1) gv_RL_181 ⟨rfl, rfl⟩ (by decide +kernel) ⟨Nat.le_of_ble_eq_true rfl, Nat.le_of_ble_eq_true rfl⟩ rfl rfl (Nat.le_of_ble_eq_true rfl) dL_law_1459 ?_
  refine j_aload_n C 2 dL_law_1462 rfl rfl ?_
  refine j_callV C 0 lc178 (ent_K _ _ _ _ _ _) rfl (c_X12_digest l G n0 e2) gv_RL_185 ⟨rfl, rfl⟩ (by decide +kernel) ⟨Nat.le_of_ble_eq_true rfl, Nat.le_of_ble_eq_true rfl⟩ rfl rfl (Nat.le_of_ble_eq_true rfl) dL_law_1463 ?_
  refine j_lcmp C dL_law_1466 ?_
  refine j_iflc_eq C 1472 dL_law_1467 (by decide) (fun _ => ?_) (fun c => absurd rfl c)
  exact k1
