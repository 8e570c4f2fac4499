def rT {α : Type} (o : Option (Nat ⊕ α)) : Option α := o.bind fun x => match x with | .inl _ => none | .inr v => some v
def fT {α : Type} (o : Option (Nat ⊕ α)) (h : Nat → Option α) : Option α := o.bind fun x => match x with | .inl k => h k | .inr v => some v
theorem rT_some {α : Type} {o : Option (Nat ⊕ α)} {v : α} (h : rT o = some v) : o = some (.inr v) := by
  obtain ⟨x, h1, h2⟩ := Option.bind_eq_some_iff.mp h
  cases x with
  | inl k => cases h2
  | inr w => rw [h1, Option.some.inj h2]
theorem fT_some {α : Type} {o : Option (Nat ⊕ α)} {h : Nat → Option α} {v : α} (hf : fT o h = some v) : o = some (.inr v) ∨ ∃ k, o = some (.inl k) ∧ h k = some v := by
  obtain ⟨x, h1, h2⟩ := Option.bind_eq_some_iff.mp hf
  cases x with
  | inl k => exact Or.inr ⟨k, h1, h2⟩
  | inr w => exact Or.inl (by rw [h1, Option.some.inj h2])
theorem rT_r {α : Type} {o : Option (Nat ⊕ α)} {v : α} (h : o = some (.inr v)) : rT o = some v := by rw [h]; rfl
theorem fT_r {α : Type} {o : Option (Nat ⊕ α)} {h : Nat → Option α} {v : α} (h1 : o = some (.inr v)) : fT o h = some v := by rw [h1]; rfl
theorem fT_l {α : Type} {o : Option (Nat ⊕ α)} {h : Nat → Option α} {v : α} {k : Nat} (h1 : o = some (.inl k)) (h2 : h k = some v) : fT o h = some v := by rw [h1]; exact h2
section JR
variable {K : Kx} {l : Launch} {R : Room} {cc : ByteArray} {own : String} {G : Gx} {n0 nL : Nat} {M M' : Mem} {pc index : Nat} {L : List (Nat × Value)} {st st0 : List Value} {y : MethodName} {rm : Room} {bytes : ByteArray} {maxL : Nat} {ret : Option FieldType} {v : Option Value} {As : List Value} {k a : Nat}
theorem j_callR {hh : List (Nat × Nat × Nat × Nat)} (C : Ok K l R cc own G n0 nL) (n : Nat) (h : CtV l y bytes maxL ret hh rm G n0 As M v M' 0) (hg : GW own index y bytes maxL ret hh) (hrm : rm.cells = 0 ∧ rm.slots = 0)
    (hd : y.cls ≠ "java/lang/invoke/MethodHandle" ∧ y.cls ≠ "java/lang/invoke/VarHandle" ∧ (parseMethodDescriptor y.desc).map (fun d => d.parameters.length) = some n) (hR : rm.frames + 1 ≤ R.frames ∧ 8 + (maxL + 11) + rm.locals ≤ R.locals) (hn : As.length = n) (hst : st0 = As.reverse ++ st) (hW : (st.map fun v => v.category).sum ≤ 8) (hdg : decode cc pc = .ok (.invokestatic index, 3))
    (kk : J K M' (pc + 3) L (v.toList ++ st)) : J K M pc L st0 := by
  have e : kup K 0 (6 * 0) = K := kup_z K
  exact j_callW0 (k := 0) C (by rw [e]; exact C) n h hg hrm hd hR hn hst hW hdg (by rw [e]; exact kk)
end JR
abbrev hL_join : List (Nat × Nat × Nat × Nat) := [(0, 6, 9, 15), (0, 6, 13, 18)]
theorem cwL_join : Cond.codeWith yL_join cL_join 4 (some .int) hL_join ∈ TB := tbm3 105 rfl rfl
theorem gw_L_join_109 : GW RL 109 yL_join cL_join 4 (some .int) hL_join := ⟨tw3_103, tw3_104, tw1_0, cwL_join⟩
def rL_join : Room := { frames := 8, cells := 1, slots := 6, locals := 148 }
def oL_join : Room := { frames := 8, cells := 0, slots := 0, locals := 148 }
def gL_join (x1 : Int32) (M : Mem) : Option (Int32 × Mem) := rT (fX11_join x1 M)
def fL_join (x1 : Int32) (M : Mem) : Option (Int32 × Mem) := fT (fX11_join x1 M) fun k => if k = 2 then some ((-5000001 : Int32), M) else if k = 3 then some ((-5000002 : Int32), M) else none
set_option maxRecDepth 100000 in
set_option maxHeartbeats 1000000 in
theorem cr_L_join (l : Launch) (G : Gx) (n0 : Nat) {x1 : Int32} {M : Mem} {r : Int32} {M' : Mem} (hf : fX11_join x1 M = some (Sum.inr (r, M'))) : CtV l yL_join cL_join 4 (some .int) hL_join oL_join G n0 [.ref (n0 + 0), .int x1] M (some (.int r)) M' 0 := by
  refine ctv_int (k := 0) (cc := cL_join) (maxL := 4) rfl (Nat.le_of_ble_eq_true rfl) ⟨rfl, rfl⟩ ?_
  intro K CC X hret
  have CC : ∀ a, a ≤ 0 → Ok (kc K a) l oL_join cL_join RL G n0 4 := CC
  have C := CC 0 (by omega)
  show J (kc K 0) M 0 [(0, .ref (n0 + 0)), (1, .int x1)] []
  refine j_aload_n C 0 dL_join_0 rfl rfl ?_
  refine j_iload_n C 1 dL_join_1 rfl rfl ?_
  refine j_callV C 1 lc0 (ent_K _ _ _ _ _ _) rfl (c_X11_join l G n0 hf) gv_RL_9 ⟨rfl, rfl⟩ (by decide +kernel) ⟨Nat.le_of_ble_eq_true rfl, Nat.le_of_ble_eq_true rfl⟩ rfl rfl (Nat.le_of_ble_eq_true rfl) dL_join_2 ?_
  refine j_istore_n C [(2, .int r), (0, .ref (n0 + 0)), (1, .int x1)] dL_join_5 rfl (Nat.le_of_ble_eq_true rfl) rfl ?_
  refine j_goto C 17 dL_join_6 (by decide) ?_
  refine j_iload_n C 0 dL_join_17 rfl rfl ?_
  exact hret _ _ 0 (by omega) dL_join_18
set_option maxRecDepth 100000 in
set_option maxHeartbeats 1000000 in
theorem cs_L_join (l : Launch) (G : Gx) (n0 : Nat) {x1 : Int32} {M : Mem} {r : Int32} {M' : Mem} (hf : fX11_join x1 M = some (Sum.inr (r, M'))) : CtV l yL_join cL_join 4 (some .int) hL_join rL_join G n0 [.ref (n0 + 0), .int x1] M (some (.int r)) M' 1 := by
  refine ctv_int (k := 1) (cc := cL_join) (maxL := 4) rfl (Nat.le_of_ble_eq_true rfl) ⟨rfl, rfl⟩ ?_
  intro K CC X hret
  have CC : ∀ a, a ≤ 1 → Ok (kc K a) l rL_join cL_join RL G n0 4 := CC
  have C := CC 0 (by omega)
  show J (kc K 0) M 0 [(0, .ref (n0 + 0)), (1, .int x1)] []
  refine j_aload_n C 0 dL_join_0 rfl rfl ?_
  refine j_iload_n C 1 dL_join_1 rfl rfl ?_
  refine j_callV C 1 lc0 (ent_K _ _ _ _ _ _) rfl (c_X11_join l G n0 hf) gv_RL_9 ⟨rfl, rfl⟩ (by decide +kernel) ⟨Nat.le_of_ble_eq_true rfl, Nat.le_of_ble_eq_true rfl⟩ rfl rfl (Nat.le_of_ble_eq_true rfl) dL_join_2 ?_
  refine j_istore_n C [(2, .int r), (0, .ref (n0 + 0)), (1, .int x1)] dL_join_5 rfl (Nat.le_of_ble_eq_true rfl) rfl ?_
  refine j_goto C 17 dL_join_6 (by decide) ?_
  refine j_iload_n C 0 dL_join_17 rfl rfl ?_
  exact hret _ _ 0 (by omega) dL_join_18
set_option maxRecDepth 100000 in
set_option maxHeartbeats 1000000 in
theorem ct_L_join_2 (l : Launch) (hfl : l.stackTraces = false) (G : Gx) (n0 : Nat) {x1 : Int32} {M : Mem} (hf : fX11_join x1 M = some (Sum.inl 2)) : CtV l yL_join cL_join 4 (some .int) hL_join rL_join G n0 [.ref (n0 + 0), .int x1] M (some (.int (-5000001 : Int32))) M 1 := by
  refine ctv_int (k := 1) (cc := cL_join) (maxL := 4) rfl (Nat.le_of_ble_eq_true rfl) ⟨rfl, rfl⟩ ?_
  intro K CC X hret
  have CC : ∀ a, a ≤ 1 → Ok (kc K a) l rL_join cL_join RL G n0 4 := CC
  have C := CC 0 (by omega)
  show J (kc K 0) M 0 [(0, .ref (n0 + 0)), (1, .int x1)] []
  refine j_aload_n C 0 dL_join_0 rfl rfl ?_
  refine j_iload_n C 1 dL_join_1 rfl rfl ?_
  refine j_catchK (k := 2) (E := "java/lang/IllegalArgumentException") C X 1 (t_X11_join l hfl G n0 hf) gv_RL_9 ⟨rfl, rfl⟩ (by decide +kernel) ⟨Nat.le_of_ble_eq_true rfl, Nat.le_of_ble_eq_true rfl⟩ (CC 1 (by omega)) rfl rfl (Nat.le_of_ble_eq_true rfl) rfl (by decide) [] ⟨0, 6, 9, 15⟩ [⟨0, 6, 13, 18⟩] rfl (fun z hz => absurd hz List.not_mem_nil) rfl (by decide) tw2_7 dL_join_2 (fun q => ?_)
  have C2 := CC (0 + 1) (by omega)
  refine j_astore_n C2 [(3, .ref q), (0, .ref (n0 + 0)), (1, .int x1)] dL_join_9 rfl (by decide) rfl ?_
  refine j_ldc C2 tw2_176 dL_join_10 ?_
  exact hret _ _ 1 (by omega) dL_join_12
set_option maxRecDepth 100000 in
set_option maxHeartbeats 1000000 in
theorem ct_L_join_3 (l : Launch) (hfl : l.stackTraces = false) (G : Gx) (n0 : Nat) {x1 : Int32} {M : Mem} (hf : fX11_join x1 M = some (Sum.inl 3)) : CtV l yL_join cL_join 4 (some .int) hL_join rL_join G n0 [.ref (n0 + 0), .int x1] M (some (.int (-5000002 : Int32))) M 1 := by
  refine ctv_int (k := 1) (cc := cL_join) (maxL := 4) rfl (Nat.le_of_ble_eq_true rfl) ⟨rfl, rfl⟩ ?_
  intro K CC X hret
  have CC : ∀ a, a ≤ 1 → Ok (kc K a) l rL_join cL_join RL G n0 4 := CC
  have C := CC 0 (by omega)
  show J (kc K 0) M 0 [(0, .ref (n0 + 0)), (1, .int x1)] []
  refine j_aload_n C 0 dL_join_0 rfl rfl ?_
  refine j_iload_n C 1 dL_join_1 rfl rfl ?_
  refine j_catchK (k := 3) (E := "java/lang/IllegalStateException") C X 1 (t_X11_join l hfl G n0 hf) gv_RL_9 ⟨rfl, rfl⟩ (by decide +kernel) ⟨Nat.le_of_ble_eq_true rfl, Nat.le_of_ble_eq_true rfl⟩ (CC 1 (by omega)) rfl rfl (Nat.le_of_ble_eq_true rfl) rfl (by decide) [⟨0, 6, 9, 15⟩] ⟨0, 6, 13, 18⟩ [] rfl (List.forall_mem_cons.mpr ⟨⟨by decide, "java/lang/IllegalArgumentException", tw2_7, by decide, by decide⟩, fun _ h => absurd h List.not_mem_nil⟩) rfl (by decide) tw2_180 dL_join_2 (fun q => ?_)
  have C2 := CC (0 + 1) (by omega)
  refine j_astore_n C2 [(3, .ref q), (0, .ref (n0 + 0)), (1, .int x1)] dL_join_13 rfl (by decide) rfl ?_
  refine j_ldc C2 tw2_227 dL_join_14 ?_
  exact hret _ _ 1 (by omega) dL_join_16
theorem cg_L_join (l : Launch) (G : Gx) (n0 : Nat) {x1 : Int32} {M : Mem} {r : Int32} {M' : Mem} (hf : gL_join x1 M = some (r, M')) : CtV l yL_join cL_join 4 (some .int) hL_join oL_join G n0 [.ref (n0 + 0), .int x1] M (some (.int r)) M' 0 := cr_L_join l G n0 (rT_some hf)
theorem cf_L_join (l : Launch) (hfl : l.stackTraces = false) (G : Gx) (n0 : Nat) {x1 : Int32} {M : Mem} {r : Int32} {M' : Mem} (hf : fL_join x1 M = some (r, M')) : CtV l yL_join cL_join 4 (some .int) hL_join rL_join G n0 [.ref (n0 + 0), .int x1] M (some (.int r)) M' 1 := by
  rcases fT_some hf with h | ⟨k, h, hk⟩
  · exact cs_L_join l G n0 h
  · by_cases h2 : k = 2
    · subst h2
      rw [if_pos rfl] at hk
      cases hk
      exact ct_L_join_2 l hfl G n0 h
    · replace hk := ine h2 hk
      by_cases h3 : k = 3
      · subst h3
        rw [if_pos rfl] at hk
        cases hk
        exact ct_L_join_3 l hfl G n0 h
      · replace hk := ine h3 hk
        cases hk
abbrev hL_remark : List (Nat × Nat × Nat × Nat) := [(0, 7, 10, 25), (0, 7, 15, 15), (0, 7, 20, 18)]
theorem cwL_remark : Cond.codeWith yL_remark cL_remark 5 (some .int) hL_remark ∈ TB := tbm3 139 rfl rfl
theorem gw_L_remark_111 : GW RL 111 yL_remark cL_remark 5 (some .int) hL_remark := ⟨tw3_137, tw3_138, tw1_0, cwL_remark⟩
def rL_remark : Room := { frames := 8, cells := 1, slots := 6, locals := 149 }
def oL_remark : Room := { frames := 8, cells := 0, slots := 0, locals := 149 }
def gL_remark (x1 : Int32) (x2 : Int32) (M : Mem) : Option (Int32 × Mem) := rT (fX11_remark x1 x2 M)
def fL_remark (x1 : Int32) (x2 : Int32) (M : Mem) : Option (Int32 × Mem) := fT (fX11_remark x1 x2 M) fun k => if k = 1 then some ((-5000003 : Int32), M) else if k = 2 then some ((-5000001 : Int32), M) else if k = 3 then some ((-5000002 : Int32), M) else none
set_option maxRecDepth 100000 in
set_option maxHeartbeats 1000000 in
theorem cr_L_remark (l : Launch) (G : Gx) (n0 : Nat) {x1 : Int32} {x2 : Int32} {M : Mem} {r : Int32} {M' : Mem} (hf : fX11_remark x1 x2 M = some (Sum.inr (r, M'))) : CtV l yL_remark cL_remark 5 (some .int) hL_remark oL_remark G n0 [.ref (n0 + 0), .int x1, .int x2] M (some (.int r)) M' 0 := by
  refine ctv_int (k := 0) (cc := cL_remark) (maxL := 5) rfl (Nat.le_of_ble_eq_true rfl) ⟨rfl, rfl⟩ ?_
  intro K CC X hret
  have CC : ∀ a, a ≤ 0 → Ok (kc K a) l oL_remark cL_remark RL G n0 5 := CC
  have C := CC 0 (by omega)
  show J (kc K 0) M 0 [(0, .ref (n0 + 0)), (1, .int x1), (2, .int x2)] []
  refine j_aload_n C 0 dL_remark_0 rfl rfl ?_
  refine j_iload_n C 1 dL_remark_1 rfl rfl ?_
  refine j_iload_n C 2 dL_remark_2 rfl rfl ?_
  refine j_callV C 2 lc0 (ent_K _ _ _ _ _ _) rfl (c_X11_remark l G n0 hf) gv_RL_21 ⟨rfl, rfl⟩ (by decide +kernel) ⟨Nat.le_of_ble_eq_true rfl, Nat.le_of_ble_eq_true rfl⟩ rfl rfl (Nat.le_of_ble_eq_true rfl) dL_remark_3 ?_
  refine j_istore_n C [(3, .int r), (0, .ref (n0 + 0)), (1, .int x1), (2, .int x2)] dL_remark_6 rfl (Nat.le_of_ble_eq_true rfl) rfl ?_
  refine j_goto C 25 dL_remark_7 (by decide) ?_
  refine j_iload_n C 0 dL_remark_25 rfl rfl ?_
  exact hret _ _ 0 (by omega) dL_remark_26
set_option maxRecDepth 100000 in
set_option maxHeartbeats 1000000 in
theorem cs_L_remark (l : Launch) (G : Gx) (n0 : Nat) {x1 : Int32} {x2 : Int32} {M : Mem} {r : Int32} {M' : Mem} (hf : fX11_remark x1 x2 M = some (Sum.inr (r, M'))) : CtV l yL_remark cL_remark 5 (some .int) hL_remark rL_remark G n0 [.ref (n0 + 0), .int x1, .int x2] M (some (.int r)) M' 1 := by
  refine ctv_int (k := 1) (cc := cL_remark) (maxL := 5) rfl (Nat.le_of_ble_eq_true rfl) ⟨rfl, rfl⟩ ?_
  intro K CC X hret
  have CC : ∀ a, a ≤ 1 → Ok (kc K a) l rL_remark cL_remark RL G n0 5 := CC
  have C := CC 0 (by omega)
  show J (kc K 0) M 0 [(0, .ref (n0 + 0)), (1, .int x1), (2, .int x2)] []
  refine j_aload_n C 0 dL_remark_0 rfl rfl ?_
  refine j_iload_n C 1 dL_remark_1 rfl rfl ?_
  refine j_iload_n C 2 dL_remark_2 rfl rfl ?_
  refine j_callV C 2 lc0 (ent_K _ _ _ _ _ _) rfl (c_X11_remark l G n0 hf) gv_RL_21 ⟨rfl, rfl⟩ (by decide +kernel) ⟨Nat.le_of_ble_eq_true rfl, Nat.le_of_ble_eq_true rfl⟩ rfl rfl (Nat.le_of_ble_eq_true rfl) dL_remark_3 ?_
  refine j_istore_n C [(3, .int r), (0, .ref (n0 + 0)), (1, .int x1), (2, .int x2)] dL_remark_6 rfl (Nat.le_of_ble_eq_true rfl) rfl ?_
  refine j_goto C 25 dL_remark_7 (by decide) ?_
  refine j_iload_n C 0 dL_remark_25 rfl rfl ?_
  exact hret _ _ 0 (by omega) dL_remark_26
set_option maxRecDepth 100000 in
set_option maxHeartbeats 1000000 in
theorem ct_L_remark_1 (l : Launch) (hfl : l.stackTraces = false) (G : Gx) (n0 : Nat) {x1 : Int32} {x2 : Int32} {M : Mem} (hf : fX11_remark x1 x2 M = some (Sum.inl 1)) : CtV l yL_remark cL_remark 5 (some .int) hL_remark rL_remark G n0 [.ref (n0 + 0), .int x1, .int x2] M (some (.int (-5000003 : Int32))) M 1 := by
  refine ctv_int (k := 1) (cc := cL_remark) (maxL := 5) rfl (Nat.le_of_ble_eq_true rfl) ⟨rfl, rfl⟩ ?_
  intro K CC X hret
  have CC : ∀ a, a ≤ 1 → Ok (kc K a) l rL_remark cL_remark RL G n0 5 := CC
  have C := CC 0 (by omega)
  show J (kc K 0) M 0 [(0, .ref (n0 + 0)), (1, .int x1), (2, .int x2)] []
  refine j_aload_n C 0 dL_remark_0 rfl rfl ?_
  refine j_iload_n C 1 dL_remark_1 rfl rfl ?_
  refine j_iload_n C 2 dL_remark_2 rfl rfl ?_
  refine j_catchK (k := 1) (E := "java/lang/IndexOutOfBoundsException") C X 2 (t_X11_remark l hfl G n0 hf) gv_RL_21 ⟨rfl, rfl⟩ (by decide +kernel) ⟨Nat.le_of_ble_eq_true rfl, Nat.le_of_ble_eq_true rfl⟩ (CC 1 (by omega)) rfl rfl (Nat.le_of_ble_eq_true rfl) rfl (by decide) [] ⟨0, 7, 10, 25⟩ [⟨0, 7, 15, 15⟩, ⟨0, 7, 20, 18⟩] rfl (fun z hz => absurd hz List.not_mem_nil) rfl (by decide) tw2_236 dL_remark_3 (fun q => ?_)
  have C2 := CC (0 + 1) (by omega)
  refine j_astore C2 [(4, .ref q), (0, .ref (n0 + 0)), (1, .int x1), (2, .int x2)] dL_remark_10 (by decide) rfl ?_
  refine j_ldc C2 tw3_24 dL_remark_12 ?_
  exact hret _ _ 1 (by omega) dL_remark_14
set_option maxRecDepth 100000 in
set_option maxHeartbeats 1000000 in
theorem ct_L_remark_2 (l : Launch) (hfl : l.stackTraces = false) (G : Gx) (n0 : Nat) {x1 : Int32} {x2 : Int32} {M : Mem} (hf : fX11_remark x1 x2 M = some (Sum.inl 2)) : CtV l yL_remark cL_remark 5 (some .int) hL_remark rL_remark G n0 [.ref (n0 + 0), .int x1, .int x2] M (some (.int (-5000001 : Int32))) M 1 := by
  refine ctv_int (k := 1) (cc := cL_remark) (maxL := 5) rfl (Nat.le_of_ble_eq_true rfl) ⟨rfl, rfl⟩ ?_
  intro K CC X hret
  have CC : ∀ a, a ≤ 1 → Ok (kc K a) l rL_remark cL_remark RL G n0 5 := CC
  have C := CC 0 (by omega)
  show J (kc K 0) M 0 [(0, .ref (n0 + 0)), (1, .int x1), (2, .int x2)] []
  refine j_aload_n C 0 dL_remark_0 rfl rfl ?_
  refine j_iload_n C 1 dL_remark_1 rfl rfl ?_
  refine j_iload_n C 2 dL_remark_2 rfl rfl ?_
  refine j_catchK (k := 2) (E := "java/lang/IllegalArgumentException") C X 2 (t_X11_remark l hfl G n0 hf) gv_RL_21 ⟨rfl, rfl⟩ (by decide +kernel) ⟨Nat.le_of_ble_eq_true rfl, Nat.le_of_ble_eq_true rfl⟩ (CC 1 (by omega)) rfl rfl (Nat.le_of_ble_eq_true rfl) rfl (by decide) [⟨0, 7, 10, 25⟩] ⟨0, 7, 15, 15⟩ [⟨0, 7, 20, 18⟩] rfl (List.forall_mem_cons.mpr ⟨⟨by decide, "java/lang/IndexOutOfBoundsException", tw2_236, by decide, by decide⟩, fun _ h => absurd h List.not_mem_nil⟩) rfl (by decide) tw2_7 dL_remark_3 (fun q => ?_)
  have C2 := CC (0 + 1) (by omega)
  refine j_astore C2 [(4, .ref q), (0, .ref (n0 + 0)), (1, .int x1), (2, .int x2)] dL_remark_15 (by decide) rfl ?_
  refine j_ldc C2 tw2_176 dL_remark_17 ?_
  exact hret _ _ 1 (by omega) dL_remark_19
set_option maxRecDepth 100000 in
set_option maxHeartbeats 1000000 in
theorem ct_L_remark_3 (l : Launch) (hfl : l.stackTraces = false) (G : Gx) (n0 : Nat) {x1 : Int32} {x2 : Int32} {M : Mem} (hf : fX11_remark x1 x2 M = some (Sum.inl 3)) : CtV l yL_remark cL_remark 5 (some .int) hL_remark rL_remark G n0 [.ref (n0 + 0), .int x1, .int x2] M (some (.int (-5000002 : Int32))) M 1 := by
  refine ctv_int (k := 1) (cc := cL_remark) (maxL := 5) rfl (Nat.le_of_ble_eq_true rfl) ⟨rfl, rfl⟩ ?_
  intro K CC X hret
  have CC : ∀ a, a ≤ 1 → Ok (kc K a) l rL_remark cL_remark RL G n0 5 := CC
  have C := CC 0 (by omega)
  show J (kc K 0) M 0 [(0, .ref (n0 + 0)), (1, .int x1), (2, .int x2)] []
  refine j_aload_n C 0 dL_remark_0 rfl rfl ?_
  refine j_iload_n C 1 dL_remark_1 rfl rfl ?_
  refine j_iload_n C 2 dL_remark_2 rfl rfl ?_
  refine j_catchK (k := 3) (E := "java/lang/IllegalStateException") C X 2 (t_X11_remark l hfl G n0 hf) gv_RL_21 ⟨rfl, rfl⟩ (by decide +kernel) ⟨Nat.le_of_ble_eq_true rfl, Nat.le_of_ble_eq_true rfl⟩ (CC 1 (by omega)) rfl rfl (Nat.le_of_ble_eq_true rfl) rfl (by decide) [⟨0, 7, 10, 25⟩, ⟨0, 7, 15, 15⟩] ⟨0, 7, 20, 18⟩ [] rfl (List.forall_mem_cons.mpr ⟨⟨by decide, "java/lang/IndexOutOfBoundsException", tw2_236, by decide, by decide⟩, List.forall_mem_cons.mpr ⟨⟨by decide, "java/lang/IllegalArgumentException", tw2_7, by decide, by decide⟩, fun _ h => absurd h List.not_mem_nil⟩⟩) rfl (by decide) tw2_180 dL_remark_3 (fun q => ?_)
  have C2 := CC (0 + 1) (by omega)
  refine j_astore C2 [(4, .ref q), (0, .ref (n0 + 0)), (1, .int x1), (2, .int x2)] dL_remark_20 (by decide) rfl ?_
  refine j_ldc C2 tw2_227 dL_remark_22 ?_
  exact hret _ _ 1 (by omega) dL_remark_24
theorem cg_L_remark (l : Launch) (G : Gx) (n0 : Nat) {x1 : Int32} {x2 : Int32} {M : Mem} {r : Int32} {M' : Mem} (hf : gL_remark x1 x2 M = some (r, M')) : CtV l yL_remark cL_remark 5 (some .int) hL_remark oL_remark G n0 [.ref (n0 + 0), .int x1, .int x2] M (some (.int r)) M' 0 := cr_L_remark l G n0 (rT_some hf)
theorem cf_L_remark (l : Launch) (hfl : l.stackTraces = false) (G : Gx) (n0 : Nat) {x1 : Int32} {x2 : Int32} {M : Mem} {r : Int32} {M' : Mem} (hf : fL_remark x1 x2 M = some (r, M')) : CtV l yL_remark cL_remark 5 (some .int) hL_remark rL_remark G n0 [.ref (n0 + 0), .int x1, .int x2] M (some (.int r)) M' 1 := by
  rcases fT_some hf with h | ⟨k, h, hk⟩
  · exact cs_L_remark l G n0 h
  · by_cases h1 : k = 1
    · subst h1
      rw [if_pos rfl] at hk
      cases hk
      exact ct_L_remark_1 l hfl G n0 h
    · replace hk := ine h1 hk
      by_cases h2 : k = 2
      · subst h2
        rw [if_pos rfl] at hk
        cases hk
        exact ct_L_remark_2 l hfl G n0 h
      · replace hk := ine h2 hk
        by_cases h3 : k = 3
        · subst h3
          rw [if_pos rfl] at hk
          cases hk
          exact ct_L_remark_3 l hfl G n0 h
        · replace hk := ine h3 hk
          cases hk
abbrev hL_excuse : List (Nat × Nat × Nat × Nat) := [(0, 6, 9, 25)]
theorem cwL_excuse : Cond.codeWith yL_excuse cL_excuse 4 (some .int) hL_excuse ∈ TB := tbm3 154 rfl rfl
theorem gw_L_excuse_113 : GW RL 113 yL_excuse cL_excuse 4 (some .int) hL_excuse := ⟨tw3_152, tw3_153, tw1_0, cwL_excuse⟩
def rL_excuse : Room := { frames := 8, cells := 1, slots := 6, locals := 148 }
def oL_excuse : Room := { frames := 8, cells := 0, slots := 0, locals := 148 }
def gL_excuse (x1 : Int32) (M : Mem) : Option (Int32 × Mem) := rT (fX11_excuse x1 M)
def fL_excuse (x1 : Int32) (M : Mem) : Option (Int32 × Mem) := fT (fX11_excuse x1 M) fun k => if k = 1 then some ((-5000003 : Int32), M) else none
set_option maxRecDepth 100000 in
set_option maxHeartbeats 1000000 in
theorem cr_L_excuse (l : Launch) (G : Gx) (n0 : Nat) {x1 : Int32} {M : Mem} {r : Int32} {M' : Mem} (hf : fX11_excuse x1 M = some (Sum.inr (r, M'))) : CtV l yL_excuse cL_excuse 4 (some .int) hL_excuse oL_excuse G n0 [.ref (n0 + 0), .int x1] M (some (.int r)) M' 0 := by
  refine ctv_int (k := 0) (cc := cL_excuse) (maxL := 4) rfl (Nat.le_of_ble_eq_true rfl) ⟨rfl, rfl⟩ ?_
  intro K CC X hret
  have CC : ∀ a, a ≤ 0 → Ok (kc K a) l oL_excuse cL_excuse RL G n0 4 := CC
  have C := CC 0 (by omega)
  show J (kc K 0) M 0 [(0, .ref (n0 + 0)), (1, .int x1)] []
  refine j_aload_n C 0 dL_excuse_0 rfl rfl ?_
  refine j_iload_n C 1 dL_excuse_1 rfl rfl ?_
  refine j_callV C 1 lc0 (ent_K _ _ _ _ _ _) rfl (c_X11_excuse l G n0 hf) gv_RL_28 ⟨rfl, rfl⟩ (by decide +kernel) ⟨Nat.le_of_ble_eq_true rfl, Nat.le_of_ble_eq_true rfl⟩ rfl rfl (Nat.le_of_ble_eq_true rfl) dL_excuse_2 ?_
  refine j_istore_n C [(2, .int r), (0, .ref (n0 + 0)), (1, .int x1)] dL_excuse_5 rfl (Nat.le_of_ble_eq_true rfl) rfl ?_
  refine j_goto C 13 dL_excuse_6 (by decide) ?_
  refine j_iload_n C 0 dL_excuse_13 rfl rfl ?_
  exact hret _ _ 0 (by omega) dL_excuse_14
set_option maxRecDepth 100000 in
set_option maxHeartbeats 1000000 in
theorem cs_L_excuse (l : Launch) (G : Gx) (n0 : Nat) {x1 : Int32} {M : Mem} {r : Int32} {M' : Mem} (hf : fX11_excuse x1 M = some (Sum.inr (r, M'))) : CtV l yL_excuse cL_excuse 4 (some .int) hL_excuse rL_excuse G n0 [.ref (n0 + 0), .int x1] M (some (.int r)) M' 1 := by
  refine ctv_int (k := 1) (cc := cL_excuse) (maxL := 4) rfl (Nat.le_of_ble_eq_true rfl) ⟨rfl, rfl⟩ ?_
  intro K CC X hret
  have CC : ∀ a, a ≤ 1 → Ok (kc K a) l rL_excuse cL_excuse RL G n0 4 := CC
  have C := CC 0 (by omega)
  show J (kc K 0) M 0 [(0, .ref (n0 + 0)), (1, .int x1)] []
  refine j_aload_n C 0 dL_excuse_0 rfl rfl ?_
  refine j_iload_n C 1 dL_excuse_1 rfl rfl ?_
  refine j_callV C 1 lc0 (ent_K _ _ _ _ _ _) rfl (c_X11_excuse l G n0 hf) gv_RL_28 ⟨rfl, rfl⟩ (by decide +kernel) ⟨Nat.le_of_ble_eq_true rfl, Nat.le_of_ble_eq_true rfl⟩ rfl rfl (Nat.le_of_ble_eq_true rfl) dL_excuse_2 ?_
  refine j_istore_n C [(2, .int r), (0, .ref (n0 + 0)), (1, .int x1)] dL_excuse_5 rfl (Nat.le_of_ble_eq_true rfl) rfl ?_
  refine j_goto C 13 dL_excuse_6 (by decide) ?_
  refine j_iload_n C 0 dL_excuse_13 rfl rfl ?_
  exact hret _ _ 0 (by omega) dL_excuse_14
set_option maxRecDepth 100000 in
set_option maxHeartbeats 1000000 in
theorem ct_L_excuse_1 (l : Launch) (hfl : l.stackTraces = false) (G : Gx) (n0 : Nat) {x1 : Int32} {M : Mem} (hf : fX11_excuse x1 M = some (Sum.inl 1)) : CtV l yL_excuse cL_excuse 4 (some .int) hL_excuse rL_excuse G n0 [.ref (n0 + 0), .int x1] M (some (.int (-5000003 : Int32))) M 1 := by
  refine ctv_int (k := 1) (cc := cL_excuse) (maxL := 4) rfl (Nat.le_of_ble_eq_true rfl) ⟨rfl, rfl⟩ ?_
  intro K CC X hret
  have CC : ∀ a, a ≤ 1 → Ok (kc K a) l rL_excuse cL_excuse RL G n0 4 := CC
  have C := CC 0 (by omega)
  show J (kc K 0) M 0 [(0, .ref (n0 + 0)), (1, .int x1)] []
  refine j_aload_n C 0 dL_excuse_0 rfl rfl ?_
  refine j_iload_n C 1 dL_excuse_1 rfl rfl ?_
  refine j_catchK (k := 1) (E := "java/lang/IndexOutOfBoundsException") C X 1 (t_X11_excuse l hfl G n0 hf) gv_RL_28 ⟨rfl, rfl⟩ (by decide +kernel) ⟨Nat.le_of_ble_eq_true rfl, Nat.le_of_ble_eq_true rfl⟩ (CC 1 (by omega)) rfl rfl (Nat.le_of_ble_eq_true rfl) rfl (by decide) [] ⟨0, 6, 9, 25⟩ [] rfl (fun z hz => absurd hz List.not_mem_nil) rfl (by decide) tw2_236 dL_excuse_2 (fun q => ?_)
  have C2 := CC (0 + 1) (by omega)
  refine j_astore_n C2 [(3, .ref q), (0, .ref (n0 + 0)), (1, .int x1)] dL_excuse_9 rfl (by decide) rfl ?_
  refine j_ldc C2 tw3_24 dL_excuse_10 ?_
  exact hret _ _ 1 (by omega) dL_excuse_12
theorem cg_L_excuse (l : Launch) (G : Gx) (n0 : Nat) {x1 : Int32} {M : Mem} {r : Int32} {M' : Mem} (hf : gL_excuse x1 M = some (r, M')) : CtV l yL_excuse cL_excuse 4 (some .int) hL_excuse oL_excuse G n0 [.ref (n0 + 0), .int x1] M (some (.int r)) M' 0 := cr_L_excuse l G n0 (rT_some hf)
theorem cf_L_excuse (l : Launch) (hfl : l.stackTraces = false) (G : Gx) (n0 : Nat) {x1 : Int32} {M : Mem} {r : Int32} {M' : Mem} (hf : fL_excuse x1 M = some (r, M')) : CtV l yL_excuse cL_excuse 4 (some .int) hL_excuse rL_excuse G n0 [.ref (n0 + 0), .int x1] M (some (.int r)) M' 1 := by
  rcases fT_some hf with h | ⟨k, h, hk⟩
  · exact cs_L_excuse l G n0 h
  · by_cases h1 : k = 1
    · subst h1
      rw [if_pos rfl] at hk
      cases hk
      exact ct_L_excuse_1 l hfl G n0 h
    · replace hk := ine h1 hk
      cases hk
abbrev hL_bring : List (Nat × Nat × Nat × Nat) := [(0, 9, 12, 25), (0, 9, 17, 15), (0, 9, 22, 18)]
theorem cwL_bring : Cond.codeWith yL_bring cL_bring 6 (some .int) hL_bring ∈ TB := tbm3 165 rfl rfl
theorem gw_L_bring_115 : GW RL 115 yL_bring cL_bring 6 (some .int) hL_bring := ⟨tw3_163, tw3_164, tw1_0, cwL_bring⟩
def rL_bring : Room := { frames := 8, cells := 1, slots := 6, locals := 150 }
def oL_bring : Room := { frames := 8, cells := 0, slots := 0, locals := 150 }
def gL_bring (x1 : Int32) (x2 : Int32) (x3 : Int32) (M : Mem) : Option (Int32 × Mem) := rT (fX11_bring x1 x2 x3 M)
def fL_bring (x1 : Int32) (x2 : Int32) (x3 : Int32) (M : Mem) : Option (Int32 × Mem) := fT (fX11_bring x1 x2 x3 M) fun k => if k = 1 then some ((-5000003 : Int32), M) else if k = 2 then some ((-5000001 : Int32), M) else if k = 3 then some ((-5000002 : Int32), M) else none
set_option maxRecDepth 100000 in
set_option maxHeartbeats 1000000 in
theorem cr_L_bring (l : Launch) (G : Gx) (n0 : Nat) {x1 : Int32} {x2 : Int32} {x3 : Int32} {M : Mem} {r : Int32} {M' : Mem} (hf : fX11_bring x1 x2 x3 M = some (Sum.inr (r, M'))) : CtV l yL_bring cL_bring 6 (some .int) hL_bring oL_bring G n0 [.ref (n0 + 0), .int x1, .int x2, .int x3] M (some (.int r)) M' 0 := by
  refine ctv_int (k := 0) (cc := cL_bring) (maxL := 6) rfl (Nat.le_of_ble_eq_true rfl) ⟨rfl, rfl⟩ ?_
  intro K CC X hret
  have CC : ∀ a, a ≤ 0 → Ok (kc K a) l oL_bring cL_bring RL G n0 6 := CC
  have C := CC 0 (by omega)
  show J (kc K 0) M 0 [(0, .ref (n0 + 0)), (1, .int x1), (2, .int x2), (3, .int x3)] []
  refine j_aload_n C 0 dL_bring_0 rfl rfl ?_
  refine j_iload_n C 1 dL_bring_1 rfl rfl ?_
  refine j_iload_n C 2 dL_bring_2 rfl rfl ?_
  refine j_iload_n C 3 dL_bring_3 rfl rfl ?_
  refine j_callV C 3 lc0 (ent_K _ _ _ _ _ _) rfl (c_X11_bring l G n0 hf) gv_RL_31 ⟨rfl, rfl⟩ (by decide +kernel) ⟨Nat.le_of_ble_eq_true rfl, Nat.le_of_ble_eq_true rfl⟩ rfl rfl (Nat.le_of_ble_eq_true rfl) dL_bring_4 ?_
  refine j_istore C [(4, .int r), (0, .ref (n0 + 0)), (1, .int x1), (2, .int x2), (3, .int x3)] dL_bring_7 (Nat.le_of_ble_eq_true rfl) rfl ?_
  refine j_goto C 27 dL_bring_9 (by decide) ?_
  refine j_iload C 0 dL_bring_27 rfl ?_
  exact hret _ _ 0 (by omega) dL_bring_29
set_option maxRecDepth 100000 in
set_option maxHeartbeats 1000000 in
theorem cs_L_bring (l : Launch) (G : Gx) (n0 : Nat) {x1 : Int32} {x2 : Int32} {x3 : Int32} {M : Mem} {r : Int32} {M' : Mem} (hf : fX11_bring x1 x2 x3 M = some (Sum.inr (r, M'))) : CtV l yL_bring cL_bring 6 (some .int) hL_bring rL_bring G n0 [.ref (n0 + 0), .int x1, .int x2, .int x3] M (some (.int r)) M' 1 := by
  refine ctv_int (k := 1) (cc := cL_bring) (maxL := 6) rfl (Nat.le_of_ble_eq_true rfl) ⟨rfl, rfl⟩ ?_
  intro K CC X hret
  have CC : ∀ a, a ≤ 1 → Ok (kc K a) l rL_bring cL_bring RL G n0 6 := CC
  have C := CC 0 (by omega)
  show J (kc K 0) M 0 [(0, .ref (n0 + 0)), (1, .int x1), (2, .int x2), (3, .int x3)] []
  refine j_aload_n C 0 dL_bring_0 rfl rfl ?_
  refine j_iload_n C 1 dL_bring_1 rfl rfl ?_
  refine j_iload_n C 2 dL_bring_2 rfl rfl ?_
  refine j_iload_n C 3 dL_bring_3 rfl rfl ?_
  refine j_callV C 3 lc0 (ent_K _ _ _ _ _ _) rfl (c_X11_bring l G n0 hf) gv_RL_31 ⟨rfl, rfl⟩ (by decide +kernel) ⟨Nat.le_of_ble_eq_true rfl, Nat.le_of_ble_eq_true rfl⟩ rfl rfl (Nat.le_of_ble_eq_true rfl) dL_bring_4 ?_
  refine j_istore C [(4, .int r), (0, .ref (n0 + 0)), (1, .int x1), (2, .int x2), (3, .int x3)] dL_bring_7 (Nat.le_of_ble_eq_true rfl) rfl ?_
  refine j_goto C 27 dL_bring_9 (by decide) ?_
  refine j_iload C 0 dL_bring_27 rfl ?_
  exact hret _ _ 0 (by omega) dL_bring_29
set_option maxRecDepth 100000 in
set_option maxHeartbeats 1000000 in
theorem ct_L_bring_1 (l : Launch) (hfl : l.stackTraces = false) (G : Gx) (n0 : Nat) {x1 : Int32} {x2 : Int32} {x3 : Int32} {M : Mem} (hf : fX11_bring x1 x2 x3 M = some (Sum.inl 1)) : CtV l yL_bring cL_bring 6 (some .int) hL_bring rL_bring G n0 [.ref (n0 + 0), .int x1, .int x2, .int x3] M (some (.int (-5000003 : Int32))) M 1 := by
  refine ctv_int (k := 1) (cc := cL_bring) (maxL := 6) rfl (Nat.le_of_ble_eq_true rfl) ⟨rfl, rfl⟩ ?_
  intro K CC X hret
  have CC : ∀ a, a ≤ 1 → Ok (kc K a) l rL_bring cL_bring RL G n0 6 := CC
  have C := CC 0 (by omega)
  show J (kc K 0) M 0 [(0, .ref (n0 + 0)), (1, .int x1), (2, .int x2), (3, .int x3)] []
  refine j_aload_n C 0 dL_bring_0 rfl rfl ?_
  refine j_iload_n C 1 dL_bring_1 rfl rfl ?_
  refine j_iload_n C 2 dL_bring_2 rfl rfl ?_
  refine j_iload_n C 3 dL_bring_3 rfl rfl ?_
  refine j_catchK (k := 1) (E := "java/lang/IndexOutOfBoundsException") C X 3 (t_X11_bring l hfl G n0 hf) gv_RL_31 ⟨rfl, rfl⟩ (by decide +kernel) ⟨Nat.le_of_ble_eq_true rfl, Nat.le_of_ble_eq_true rfl⟩ (CC 1 (by omega)) rfl rfl (Nat.le_of_ble_eq_true rfl) rfl (by decide) [] ⟨0, 9, 12, 25⟩ [⟨0, 9, 17, 15⟩, ⟨0, 9, 22, 18⟩] rfl (fun z hz => absurd hz List.not_mem_nil) rfl (by decide) tw2_236 dL_bring_4 (fun q => ?_)
  have C2 := CC (0 + 1) (by omega)
  refine j_astore C2 [(5, .ref q), (0, .ref (n0 + 0)), (1, .int x1), (2, .int x2), (3, .int x3)] dL_bring_12 (by decide) rfl ?_
  refine j_ldc C2 tw3_24 dL_bring_14 ?_
  exact hret _ _ 1 (by omega) dL_bring_16
set_option maxRecDepth 100000 in
set_option maxHeartbeats 1000000 in
theorem ct_L_bring_2 (l : Launch) (hfl : l.stackTraces = false) (G : Gx) (n0 : Nat) {x1 : Int32} {x2 : Int32} {x3 : Int32} {M : Mem} (hf : fX11_bring x1 x2 x3 M = some (Sum.inl 2)) : CtV l yL_bring cL_bring 6 (some .int) hL_bring rL_bring G n0 [.ref (n0 + 0), .int x1, .int x2, .int x3] M (some (.int (-5000001 : Int32))) M 1 := by
  refine ctv_int (k := 1) (cc := cL_bring) (maxL := 6) rfl (Nat.le_of_ble_eq_true rfl) ⟨rfl, rfl⟩ ?_
  intro K CC X hret
  have CC : ∀ a, a ≤ 1 → Ok (kc K a) l rL_bring cL_bring RL G n0 6 := CC
  have C := CC 0 (by omega)
  show J (kc K 0) M 0 [(0, .ref (n0 + 0)), (1, .int x1), (2, .int x2), (3, .int x3)] []
  refine j_aload_n C 0 dL_bring_0 rfl rfl ?_
  refine j_iload_n C 1 dL_bring_1 rfl rfl ?_
  refine j_iload_n C 2 dL_bring_2 rfl rfl ?_
  refine j_iload_n C 3 dL_bring_3 rfl rfl ?_
  refine j_catchK (k := 2) (E := "java/lang/IllegalArgumentException") C X 3 (t_X11_bring l hfl G n0 hf) gv_RL_31 ⟨rfl, rfl⟩ (by decide +kernel) ⟨Nat.le_of_ble_eq_true rfl, Nat.le_of_ble_eq_true rfl⟩ (CC 1 (by omega)) rfl rfl (Nat.le_of_ble_eq_true rfl) rfl (by decide) [⟨0, 9, 12, 25⟩] ⟨0, 9, 17, 15⟩ [⟨0, 9, 22, 18⟩] rfl (List.forall_mem_cons.mpr ⟨⟨by decide, "java/lang/IndexOutOfBoundsException", tw2_236, by decide, by decide⟩, fun _ h => absurd h List.not_mem_nil⟩) rfl (by decide) tw2_7 dL_bring_4 (fun q => ?_)
  have C2 := CC (0 + 1) (by omega)
  refine j_astore C2 [(5, .ref q), (0, .ref (n0 + 0)), (1, .int x1), (2, .int x2), (3, .int x3)] dL_bring_17 (by decide) rfl ?_
  refine j_ldc C2 tw2_176 dL_bring_19 ?_
  exact hret _ _ 1 (by omega) dL_bring_21
set_option maxRecDepth 100000 in
set_option maxHeartbeats 1000000 in
theorem ct_L_bring_3 (l : Launch) (hfl : l.stackTraces = false) (G : Gx) (n0 : Nat) {x1 : Int32} {x2 : Int32} {x3 : Int32} {M : Mem} (hf : fX11_bring x1 x2 x3 M = some (Sum.inl 3)) : CtV l yL_bring cL_bring 6 (some .int) hL_bring rL_bring G n0 [.ref (n0 + 0), .int x1, .int x2, .int x3] M (some (.int (-5000002 : Int32))) M 1 := by
  refine ctv_int (k := 1) (cc := cL_bring) (maxL := 6) rfl (Nat.le_of_ble_eq_true rfl) ⟨rfl, rfl⟩ ?_
  intro K CC X hret
  have CC : ∀ a, a ≤ 1 → Ok (kc K a) l rL_bring cL_bring RL G n0 6 := CC
  have C := CC 0 (by omega)
  show J (kc K 0) M 0 [(0, .ref (n0 + 0)), (1, .int x1), (2, .int x2), (3, .int x3)] []
  refine j_aload_n C 0 dL_bring_0 rfl rfl ?_
  refine j_iload_n C 1 dL_bring_1 rfl rfl ?_
  refine j_iload_n C 2 dL_bring_2 rfl rfl ?_
  refine j_iload_n C 3 dL_bring_3 rfl rfl ?_
  refine j_catchK (k := 3) (E := "java/lang/IllegalStateException") C X 3 (t_X11_bring l hfl G n0 hf) gv_RL_31 ⟨rfl, rfl⟩ (by decide +kernel) ⟨Nat.le_of_ble_eq_true rfl, Nat.le_of_ble_eq_true rfl⟩ (CC 1 (by omega)) rfl rfl (Nat.le_of_ble_eq_true rfl) rfl (by decide) [⟨0, 9, 12, 25⟩, ⟨0, 9, 17, 15⟩] ⟨0, 9, 22, 18⟩ [] rfl (List.forall_mem_cons.mpr ⟨⟨by decide, "java/lang/IndexOutOfBoundsException", tw2_236, by decide, by decide⟩, List.forall_mem_cons.mpr ⟨⟨by decide, "java/lang/IllegalArgumentException", tw2_7, by decide, by decide⟩, fun _ h => absurd h List.not_mem_nil⟩⟩) rfl (by decide) tw2_180 dL_bring_4 (fun q => ?_)
  have C2 := CC (0 + 1) (by omega)
  refine j_astore C2 [(5, .ref q), (0, .ref (n0 + 0)), (1, .int x1), (2, .int x2), (3, .int x3)] dL_bring_22 (by decide) rfl ?_
  refine j_ldc C2 tw2_227 dL_bring_24 ?_
  exact hret _ _ 1 (by omega) dL_bring_26
theorem cg_L_bring (l : Launch) (G : Gx) (n0 : Nat) {x1 : Int32} {x2 : Int32} {x3 : Int32} {M : Mem} {r : Int32} {M' : Mem} (hf : gL_bring x1 x2 x3 M = some (r, M')) : CtV l yL_bring cL_bring 6 (some .int) hL_bring oL_bring G n0 [.ref (n0 + 0), .int x1, .int x2, .int x3] M (some (.int r)) M' 0 := cr_L_bring l G n0 (rT_some hf)
theorem cf_L_bring (l : Launch) (hfl : l.stackTraces = false) (G : Gx) (n0 : Nat) {x1 : Int32} {x2 : Int32} {x3 : Int32} {M : Mem} {r : Int32} {M' : Mem} (hf : fL_bring x1 x2 x3 M = some (r, M')) : CtV l yL_bring cL_bring 6 (some .int) hL_bring rL_bring G n0 [.ref (n0 + 0), .int x1, .int x2, .int x3] M (some (.int r)) M' 1 := by
  rcases fT_some hf with h | ⟨k, h, hk⟩
  · exact cs_L_bring l G n0 h
  · by_cases h1 : k = 1
    · subst h1
      rw [if_pos rfl] at hk
      cases hk
      exact ct_L_bring_1 l hfl G n0 h
    · replace hk := ine h1 hk
      by_cases h2 : k = 2
      · subst h2
        rw [if_pos rfl] at hk
        cases hk
        exact ct_L_bring_2 l hfl G n0 h
      · replace hk := ine h2 hk
        by_cases h3 : k = 3
        · subst h3
          rw [if_pos rfl] at hk
          cases hk
          exact ct_L_bring_3 l hfl G n0 h
        · replace hk := ine h3 hk
          cases hk
abbrev hL_takeBack : List (Nat × Nat × Nat × Nat) := [(0, 6, 9, 25)]
theorem cwL_takeBack : Cond.codeWith yL_takeBack cL_takeBack 4 (some .int) hL_takeBack ∈ TB := tbm3 186 rfl rfl
theorem gw_L_takeBack_118 : GW RL 118 yL_takeBack cL_takeBack 4 (some .int) hL_takeBack := ⟨tw3_184, tw3_185, tw1_0, cwL_takeBack⟩
def rL_takeBack : Room := { frames := 8, cells := 1, slots := 6, locals := 148 }
def oL_takeBack : Room := { frames := 8, cells := 0, slots := 0, locals := 148 }
def gL_takeBack (x1 : Int32) (M : Mem) : Option (Int32 × Mem) := rT (fX11_takeBack x1 M)
def fL_takeBack (x1 : Int32) (M : Mem) : Option (Int32 × Mem) := fT (fX11_takeBack x1 M) fun k => if k = 1 then some ((-5000003 : Int32), M) else none
set_option maxRecDepth 100000 in
set_option maxHeartbeats 1000000 in
theorem cr_L_takeBack (l : Launch) (G : Gx) (n0 : Nat) {x1 : Int32} {M : Mem} {r : Int32} {M' : Mem} (hf : fX11_takeBack x1 M = some (Sum.inr (r, M'))) : CtV l yL_takeBack cL_takeBack 4 (some .int) hL_takeBack oL_takeBack G n0 [.ref (n0 + 0), .int x1] M (some (.int r)) M' 0 := by
  refine ctv_int (k := 0) (cc := cL_takeBack) (maxL := 4) rfl (Nat.le_of_ble_eq_true rfl) ⟨rfl, rfl⟩ ?_
  intro K CC X hret
  have CC : ∀ a, a ≤ 0 → Ok (kc K a) l oL_takeBack cL_takeBack RL G n0 4 := CC
  have C := CC 0 (by omega)
  show J (kc K 0) M 0 [(0, .ref (n0 + 0)), (1, .int x1)] []
  refine j_aload_n C 0 dL_takeBack_0 rfl rfl ?_
  refine j_iload_n C 1 dL_takeBack_1 rfl rfl ?_
  refine j_callV C 1 lc0 (ent_K _ _ _ _ _ _) rfl (c_X11_takeBack l G n0 hf) gv_RL_35 ⟨rfl, rfl⟩ (by decide +kernel) ⟨Nat.le_of_ble_eq_true rfl, Nat.le_of_ble_eq_true rfl⟩ rfl rfl (Nat.le_of_ble_eq_true rfl) dL_takeBack_2 ?_
  refine j_istore_n C [(2, .int r), (0, .ref (n0 + 0)), (1, .int x1)] dL_takeBack_5 rfl (Nat.le_of_ble_eq_true rfl) rfl ?_
  refine j_goto C 13 dL_takeBack_6 (by decide) ?_
  refine j_iload_n C 0 dL_takeBack_13 rfl rfl ?_
  exact hret _ _ 0 (by omega) dL_takeBack_14
set_option maxRecDepth 100000 in
set_option maxHeartbeats 1000000 in
theorem cs_L_takeBack (l : Launch) (G : Gx) (n0 : Nat) {x1 : Int32} {M : Mem} {r : Int32} {M' : Mem} (hf : fX11_takeBack x1 M = some (Sum.inr (r, M'))) : CtV l yL_takeBack cL_takeBack 4 (some .int) hL_takeBack rL_takeBack G n0 [.ref (n0 + 0), .int x1] M (some (.int r)) M' 1 := by
  refine ctv_int (k := 1) (cc := cL_takeBack) (maxL := 4) rfl (Nat.le_of_ble_eq_true rfl) ⟨rfl, rfl⟩ ?_
  intro K CC X hret
  have CC : ∀ a, a ≤ 1 → Ok (kc K a) l rL_takeBack cL_takeBack RL G n0 4 := CC
  have C := CC 0 (by omega)
  show J (kc K 0) M 0 [(0, .ref (n0 + 0)), (1, .int x1)] []
  refine j_aload_n C 0 dL_takeBack_0 rfl rfl ?_
  refine j_iload_n C 1 dL_takeBack_1 rfl rfl ?_
  refine j_callV C 1 lc0 (ent_K _ _ _ _ _ _) rfl (c_X11_takeBack l G n0 hf) gv_RL_35 ⟨rfl, rfl⟩ (by decide +kernel) ⟨Nat.le_of_ble_eq_true rfl, Nat.le_of_ble_eq_true rfl⟩ rfl rfl (Nat.le_of_ble_eq_true rfl) dL_takeBack_2 ?_
  refine j_istore_n C [(2, .int r), (0, .ref (n0 + 0)), (1, .int x1)] dL_takeBack_5 rfl (Nat.le_of_ble_eq_true rfl) rfl ?_
  refine j_goto C 13 dL_takeBack_6 (by decide) ?_
  refine j_iload_n C 0 dL_takeBack_13 rfl rfl ?_
  exact hret _ _ 0 (by omega) dL_takeBack_14
set_option maxRecDepth 100000 in
set_option maxHeartbeats 1000000 in
theorem ct_L_takeBack_1 (l : Launch) (hfl : l.stackTraces = false) (G : Gx) (n0 : Nat) {x1 : Int32} {M : Mem} (hf : fX11_takeBack x1 M = some (Sum.inl 1)) : CtV l yL_takeBack cL_takeBack 4 (some .int) hL_takeBack rL_takeBack G n0 [.ref (n0 + 0), .int x1] M (some (.int (-5000003 : Int32))) M 1 := by
  refine ctv_int (k := 1) (cc := cL_takeBack) (maxL := 4) rfl (Nat.le_of_ble_eq_true rfl) ⟨rfl, rfl⟩ ?_
  intro K CC X hret
  have CC : ∀ a, a ≤ 1 → Ok (kc K a) l rL_takeBack cL_takeBack RL G n0 4 := CC
  have C := CC 0 (by omega)
  show J (kc K 0) M 0 [(0, .ref (n0 + 0)), (1, .int x1)] []
  refine j_aload_n C 0 dL_takeBack_0 rfl rfl ?_
  refine j_iload_n C 1 dL_takeBack_1 rfl rfl ?_
  refine j_catchK (k := 1) (E := "java/lang/IndexOutOfBoundsException") C X 1 (t_X11_takeBack l hfl G n0 hf) gv_RL_35 ⟨rfl, rfl⟩ (by decide +kernel) ⟨Nat.le_of_ble_eq_true rfl, Nat.le_of_ble_eq_true rfl⟩ (CC 1 (by omega)) rfl rfl (Nat.le_of_ble_eq_true rfl) rfl (by decide) [] ⟨0, 6, 9, 25⟩ [] rfl (fun z hz => absurd hz List.not_mem_nil) rfl (by decide) tw2_236 dL_takeBack_2 (fun q => ?_)
  have C2 := CC (0 + 1) (by omega)
  refine j_astore_n C2 [(3, .ref q), (0, .ref (n0 + 0)), (1, .int x1)] dL_takeBack_9 rfl (by decide) rfl ?_
  refine j_ldc C2 tw3_24 dL_takeBack_10 ?_
  exact hret _ _ 1 (by omega) dL_takeBack_12
theorem cg_L_takeBack (l : Launch) (G : Gx) (n0 : Nat) {x1 : Int32} {M : Mem} {r : Int32} {M' : Mem} (hf : gL_takeBack x1 M = some (r, M')) : CtV l yL_takeBack cL_takeBack 4 (some .int) hL_takeBack oL_takeBack G n0 [.ref (n0 + 0), .int x1] M (some (.int r)) M' 0 := cr_L_takeBack l G n0 (rT_some hf)
theorem cf_L_takeBack (l : Launch) (hfl : l.stackTraces = false) (G : Gx) (n0 : Nat) {x1 : Int32} {M : Mem} {r : Int32} {M' : Mem} (hf : fL_takeBack x1 M = some (r, M')) : CtV l yL_takeBack cL_takeBack 4 (some .int) hL_takeBack rL_takeBack G n0 [.ref (n0 + 0), .int x1] M (some (.int r)) M' 1 := by
  rcases fT_some hf with h | ⟨k, h, hk⟩
  · exact cs_L_takeBack l G n0 h
  · by_cases h1 : k = 1
    · subst h1
      rw [if_pos rfl] at hk
      cases hk
      exact ct_L_takeBack_1 l hfl G n0 h
    · replace hk := ine h1 hk
      cases hk
abbrev hL_setS : List (Nat × Nat × Nat × Nat) := [(0, 6, 9, 15)]
theorem cwL_setS : Cond.codeWith yL_setS cL_setS 4 (some .int) hL_setS ∈ TB := tbm3 201 rfl rfl
theorem gw_L_setS_120 : GW RL 120 yL_setS cL_setS 4 (some .int) hL_setS := ⟨tw3_199, tw3_200, tw1_0, cwL_setS⟩
def rL_setS : Room := { frames := 8, cells := 1, slots := 6, locals := 148 }
def oL_setS : Room := { frames := 8, cells := 0, slots := 0, locals := 148 }
def gL_setS (x1 : Int32) (M : Mem) : Option (Int32 × Mem) := rT (fX11_setS x1 M)
def fL_setS (x1 : Int32) (M : Mem) : Option (Int32 × Mem) := fT (fX11_setS x1 M) fun k => if k = 2 then some ((-5000001 : Int32), M) else none
set_option maxRecDepth 100000 in
set_option maxHeartbeats 1000000 in
theorem cr_L_setS (l : Launch) (G : Gx) (n0 : Nat) {x1 : Int32} {M : Mem} {r : Int32} {M' : Mem} (hf : fX11_setS x1 M = some (Sum.inr (r, M'))) : CtV l yL_setS cL_setS 4 (some .int) hL_setS oL_setS G n0 [.ref (n0 + 0), .int x1] M (some (.int r)) M' 0 := by
  refine ctv_int (k := 0) (cc := cL_setS) (maxL := 4) rfl (Nat.le_of_ble_eq_true rfl) ⟨rfl, rfl⟩ ?_
  intro K CC X hret
  have CC : ∀ a, a ≤ 0 → Ok (kc K a) l oL_setS cL_setS RL G n0 4 := CC
  have C := CC 0 (by omega)
  show J (kc K 0) M 0 [(0, .ref (n0 + 0)), (1, .int x1)] []
  refine j_aload_n C 0 dL_setS_0 rfl rfl ?_
  refine j_iload_n C 1 dL_setS_1 rfl rfl ?_
  refine j_callV C 1 lc0 (ent_K _ _ _ _ _ _) rfl (c_X11_setS l G n0 hf) gv_RL_38 ⟨rfl, rfl⟩ (by decide +kernel) ⟨Nat.le_of_ble_eq_true rfl, Nat.le_of_ble_eq_true rfl⟩ rfl rfl (Nat.le_of_ble_eq_true rfl) dL_setS_2 ?_
  refine j_istore_n C [(2, .int r), (0, .ref (n0 + 0)), (1, .int x1)] dL_setS_5 rfl (Nat.le_of_ble_eq_true rfl) rfl ?_
  refine j_goto C 13 dL_setS_6 (by decide) ?_
  refine j_iload_n C 0 dL_setS_13 rfl rfl ?_
  exact hret _ _ 0 (by omega) dL_setS_14
set_option maxRecDepth 100000 in
set_option maxHeartbeats 1000000 in
theorem cs_L_setS (l : Launch) (G : Gx) (n0 : Nat) {x1 : Int32} {M : Mem} {r : Int32} {M' : Mem} (hf : fX11_setS x1 M = some (Sum.inr (r, M'))) : CtV l yL_setS cL_setS 4 (some .int) hL_setS rL_setS G n0 [.ref (n0 + 0), .int x1] M (some (.int r)) M' 1 := by
  refine ctv_int (k := 1) (cc := cL_setS) (maxL := 4) rfl (Nat.le_of_ble_eq_true rfl) ⟨rfl, rfl⟩ ?_
  intro K CC X hret
  have CC : ∀ a, a ≤ 1 → Ok (kc K a) l rL_setS cL_setS RL G n0 4 := CC
  have C := CC 0 (by omega)
  show J (kc K 0) M 0 [(0, .ref (n0 + 0)), (1, .int x1)] []
  refine j_aload_n C 0 dL_setS_0 rfl rfl ?_
  refine j_iload_n C 1 dL_setS_1 rfl rfl ?_
  refine j_callV C 1 lc0 (ent_K _ _ _ _ _ _) rfl (c_X11_setS l G n0 hf) gv_RL_38 ⟨rfl, rfl⟩ (by decide +kernel) ⟨Nat.le_of_ble_eq_true rfl, Nat.le_of_ble_eq_true rfl⟩ rfl rfl (Nat.le_of_ble_eq_true rfl) dL_setS_2 ?_
  refine j_istore_n C [(2, .int r), (0, .ref (n0 + 0)), (1, .int x1)] dL_setS_5 rfl (Nat.le_of_ble_eq_true rfl) rfl ?_
  refine j_goto C 13 dL_setS_6 (by decide) ?_
  refine j_iload_n C 0 dL_setS_13 rfl rfl ?_
  exact hret _ _ 0 (by omega) dL_setS_14
set_option maxRecDepth 100000 in
set_option maxHeartbeats 1000000 in
theorem ct_L_setS_2 (l : Launch) (hfl : l.stackTraces = false) (G : Gx) (n0 : Nat) {x1 : Int32} {M : Mem} (hf : fX11_setS x1 M = some (Sum.inl 2)) : CtV l yL_setS cL_setS 4 (some .int) hL_setS rL_setS G n0 [.ref (n0 + 0), .int x1] M (some (.int (-5000001 : Int32))) M 1 := by
  refine ctv_int (k := 1) (cc := cL_setS) (maxL := 4) rfl (Nat.le_of_ble_eq_true rfl) ⟨rfl, rfl⟩ ?_
  intro K CC X hret
  have CC : ∀ a, a ≤ 1 → Ok (kc K a) l rL_setS cL_setS RL G n0 4 := CC
  have C := CC 0 (by omega)
  show J (kc K 0) M 0 [(0, .ref (n0 + 0)), (1, .int x1)] []
  refine j_aload_n C 0 dL_setS_0 rfl rfl ?_
  refine j_iload_n C 1 dL_setS_1 rfl rfl ?_
  refine j_catchK (k := 2) (E := "java/lang/IllegalArgumentException") C X 1 (t_X11_setS l hfl G n0 hf) gv_RL_38 ⟨rfl, rfl⟩ (by decide +kernel) ⟨Nat.le_of_ble_eq_true rfl, Nat.le_of_ble_eq_true rfl⟩ (CC 1 (by omega)) rfl rfl (Nat.le_of_ble_eq_true rfl) rfl (by decide) [] ⟨0, 6, 9, 15⟩ [] rfl (fun z hz => absurd hz List.not_mem_nil) rfl (by decide) tw2_7 dL_setS_2 (fun q => ?_)
  have C2 := CC (0 + 1) (by omega)
  refine j_astore_n C2 [(3, .ref q), (0, .ref (n0 + 0)), (1, .int x1)] dL_setS_9 rfl (by decide) rfl ?_
  refine j_ldc C2 tw2_176 dL_setS_10 ?_
  exact hret _ _ 1 (by omega) dL_setS_12
theorem cg_L_setS (l : Launch) (G : Gx) (n0 : Nat) {x1 : Int32} {M : Mem} {r : Int32} {M' : Mem} (hf : gL_setS x1 M = some (r, M')) : CtV l yL_setS cL_setS 4 (some .int) hL_setS oL_setS G n0 [.ref (n0 + 0), .int x1] M (some (.int r)) M' 0 := cr_L_setS l G n0 (rT_some hf)
theorem cf_L_setS (l : Launch) (hfl : l.stackTraces = false) (G : Gx) (n0 : Nat) {x1 : Int32} {M : Mem} {r : Int32} {M' : Mem} (hf : fL_setS x1 M = some (r, M')) : CtV l yL_setS cL_setS 4 (some .int) hL_setS rL_setS G n0 [.ref (n0 + 0), .int x1] M (some (.int r)) M' 1 := by
  rcases fT_some hf with h | ⟨k, h, hk⟩
  · exact cs_L_setS l G n0 h
  · by_cases h2 : k = 2
    · subst h2
      rw [if_pos rfl] at hk
      cases hk
      exact ct_L_setS_2 l hfl G n0 h
    · replace hk := ine h2 hk
      cases hk
abbrev hL_bake : List (Nat × Nat × Nat × Nat) := [(0, 6, 9, 15), (0, 6, 13, 18)]
theorem cwL_bake : Cond.codeWith yL_bake cL_bake 4 (some .int) hL_bake ∈ TB := tbm3 212 rfl rfl
theorem gw_L_bake_122 : GW RL 122 yL_bake cL_bake 4 (some .int) hL_bake := ⟨tw3_210, tw3_211, tw1_0, cwL_bake⟩
def rL_bake : Room := { frames := 8, cells := 1, slots := 6, locals := 148 }
def oL_bake : Room := { frames := 8, cells := 0, slots := 0, locals := 148 }
def gL_bake (x1 : Int32) (M : Mem) : Option (Int32 × Mem) := rT (fX11_bake x1 M)
def fL_bake (x1 : Int32) (M : Mem) : Option (Int32 × Mem) := fT (fX11_bake x1 M) fun k => if k = 2 then some ((-5000001 : Int32), M) else if k = 3 then some ((-5000002 : Int32), M) else none
set_option maxRecDepth 100000 in
set_option maxHeartbeats 1000000 in
theorem cr_L_bake (l : Launch) (G : Gx) (n0 : Nat) {x1 : Int32} {M : Mem} {r : Int32} {M' : Mem} (hf : fX11_bake x1 M = some (Sum.inr (r, M'))) : CtV l yL_bake cL_bake 4 (some .int) hL_bake oL_bake G n0 [.ref (n0 + 0), .int x1] M (some (.int r)) M' 0 := by
  refine ctv_int (k := 0) (cc := cL_bake) (maxL := 4) rfl (Nat.le_of_ble_eq_true rfl) ⟨rfl, rfl⟩ ?_
  intro K CC X hret
  have CC : ∀ a, a ≤ 0 → Ok (kc K a) l oL_bake cL_bake RL G n0 4 := CC
  have C := CC 0 (by omega)
  show J (kc K 0) M 0 [(0, .ref (n0 + 0)), (1, .int x1)] []
  refine j_aload_n C 0 dL_bake_0 rfl rfl ?_
  refine j_iload_n C 1 dL_bake_1 rfl rfl ?_
  refine j_callV C 1 lc0 (ent_K _ _ _ _ _ _) rfl (c_X11_bake l G n0 hf) gv_RL_41 ⟨rfl, rfl⟩ (by decide +kernel) ⟨Nat.le_of_ble_eq_true rfl, Nat.le_of_ble_eq_true rfl⟩ rfl rfl (Nat.le_of_ble_eq_true rfl) dL_bake_2 ?_
  refine j_istore_n C [(2, .int r), (0, .ref (n0 + 0)), (1, .int x1)] dL_bake_5 rfl (Nat.le_of_ble_eq_true rfl) rfl ?_
  refine j_goto C 17 dL_bake_6 (by decide) ?_
  refine j_iload_n C 0 dL_bake_17 rfl rfl ?_
  exact hret _ _ 0 (by omega) dL_bake_18
set_option maxRecDepth 100000 in
set_option maxHeartbeats 1000000 in
theorem cs_L_bake (l : Launch) (G : Gx) (n0 : Nat) {x1 : Int32} {M : Mem} {r : Int32} {M' : Mem} (hf : fX11_bake x1 M = some (Sum.inr (r, M'))) : CtV l yL_bake cL_bake 4 (some .int) hL_bake rL_bake G n0 [.ref (n0 + 0), .int x1] M (some (.int r)) M' 1 := by
  refine ctv_int (k := 1) (cc := cL_bake) (maxL := 4) rfl (Nat.le_of_ble_eq_true rfl) ⟨rfl, rfl⟩ ?_
  intro K CC X hret
  have CC : ∀ a, a ≤ 1 → Ok (kc K a) l rL_bake cL_bake RL G n0 4 := CC
  have C := CC 0 (by omega)
  show J (kc K 0) M 0 [(0, .ref (n0 + 0)), (1, .int x1)] []
  refine j_aload_n C 0 dL_bake_0 rfl rfl ?_
  refine j_iload_n C 1 dL_bake_1 rfl rfl ?_
  refine j_callV C 1 lc0 (ent_K _ _ _ _ _ _) rfl (c_X11_bake l G n0 hf) gv_RL_41 ⟨rfl, rfl⟩ (by decide +kernel) ⟨Nat.le_of_ble_eq_true rfl, Nat.le_of_ble_eq_true rfl⟩ rfl rfl (Nat.le_of_ble_eq_true rfl) dL_bake_2 ?_
  refine j_istore_n C [(2, .int r), (0, .ref (n0 + 0)), (1, .int x1)] dL_bake_5 rfl (Nat.le_of_ble_eq_true rfl) rfl ?_
  refine j_goto C 17 dL_bake_6 (by decide) ?_
  refine j_iload_n C 0 dL_bake_17 rfl rfl ?_
  exact hret _ _ 0 (by omega) dL_bake_18
set_option maxRecDepth 100000 in
set_option maxHeartbeats 1000000 in
theorem ct_L_bake_2 (l : Launch) (hfl : l.stackTraces = false) (G : Gx) (n0 : Nat) {x1 : Int32} {M : Mem} (hf : fX11_bake x1 M = some (Sum.inl 2)) : CtV l yL_bake cL_bake 4 (some .int) hL_bake rL_bake G n0 [.ref (n0 + 0), .int x1] M (some (.int (-5000001 : Int32))) M 1 := by
  refine ctv_int (k := 1) (cc := cL_bake) (maxL := 4) rfl (Nat.le_of_ble_eq_true rfl) ⟨rfl, rfl⟩ ?_
  intro K CC X hret
  have CC : ∀ a, a ≤ 1 → Ok (kc K a) l rL_bake cL_bake RL G n0 4 := CC
  have C := CC 0 (by omega)
  show J (kc K 0) M 0 [(0, .ref (n0 + 0)), (1, .int x1)] []
  refine j_aload_n C 0 dL_bake_0 rfl rfl ?_
  refine j_iload_n C 1 dL_bake_1 rfl rfl ?_
  refine j_catchK (k := 2) (E := "java/lang/IllegalArgumentException") C X 1 (t_X11_bake l hfl G n0 hf) gv_RL_41 ⟨rfl, rfl⟩ (by decide +kernel) ⟨Nat.le_of_ble_eq_true rfl, Nat.le_of_ble_eq_true rfl⟩ (CC 1 (by omega)) rfl rfl (Nat.le_of_ble_eq_true rfl) rfl (by decide) [] ⟨0, 6, 9, 15⟩ [⟨0, 6, 13, 18⟩] rfl (fun z hz => absurd hz List.not_mem_nil) rfl (by decide) tw2_7 dL_bake_2 (fun q => ?_)
  have C2 := CC (0 + 1) (by omega)
  refine j_astore_n C2 [(3, .ref q), (0, .ref (n0 + 0)), (1, .int x1)] dL_bake_9 rfl (by decide) rfl ?_
  refine j_ldc C2 tw2_176 dL_bake_10 ?_
  exact hret _ _ 1 (by omega) dL_bake_12
set_option maxRecDepth 100000 in
set_option maxHeartbeats 1000000 in
theorem ct_L_bake_3 (l : Launch) (hfl : l.stackTraces = false) (G : Gx) (n0 : Nat) {x1 : Int32} {M : Mem} (hf : fX11_bake x1 M = some (Sum.inl 3)) : CtV l yL_bake cL_bake 4 (some .int) hL_bake rL_bake G n0 [.ref (n0 + 0), .int x1] M (some (.int (-5000002 : Int32))) M 1 := by
  refine ctv_int (k := 1) (cc := cL_bake) (maxL := 4) rfl (Nat.le_of_ble_eq_true rfl) ⟨rfl, rfl⟩ ?_
  intro K CC X hret
  have CC : ∀ a, a ≤ 1 → Ok (kc K a) l rL_bake cL_bake RL G n0 4 := CC
  have C := CC 0 (by omega)
  show J (kc K 0) M 0 [(0, .ref (n0 + 0)), (1, .int x1)] []
  refine j_aload_n C 0 dL_bake_0 rfl rfl ?_
  refine j_iload_n C 1 dL_bake_1 rfl rfl ?_
  refine j_catchK (k := 3) (E := "java/lang/IllegalStateException") C X 1 (t_X11_bake l hfl G n0 hf) gv_RL_41 ⟨rfl, rfl⟩ (by decide +kernel) ⟨Nat.le_of_ble_eq_true rfl, Nat.le_of_ble_eq_true rfl⟩ (CC 1 (by omega)) rfl rfl (Nat.le_of_ble_eq_true rfl) rfl (by decide) [⟨0, 6, 9, 15⟩] ⟨0, 6, 13, 18⟩ [] rfl (List.forall_mem_cons.mpr ⟨⟨by decide, "java/lang/IllegalArgumentException", tw2_7, by decide, by decide⟩, fun _ h => absurd h List.not_mem_nil⟩) rfl (by decide) tw2_180 dL_bake_2 (fun q => ?_)
  have C2 := CC (0 + 1) (by omega)
  refine j_astore_n C2 [(3, .ref q), (0, .ref (n0 + 0)), (1, .int x1)] dL_bake_13 rfl (by decide) rfl ?_
  refine j_ldc C2 tw2_227 dL_bake_14 ?_
  exact hret _ _ 1 (by omega) dL_bake_16
theorem cg_L_bake (l : Launch) (G : Gx) (n0 : Nat) {x1 : Int32} {M : Mem} {r : Int32} {M' : Mem} (hf : gL_bake x1 M = some (r, M')) : CtV l yL_bake cL_bake 4 (some .int) hL_bake oL_bake G n0 [.ref (n0 + 0), .int x1] M (some (.int r)) M' 0 := cr_L_bake l G n0 (rT_some hf)
theorem cf_L_bake (l : Launch) (hfl : l.stackTraces = false) (G : Gx) (n0 : Nat) {x1 : Int32} {M : Mem} {r : Int32} {M' : Mem} (hf : fL_bake x1 M = some (r, M')) : CtV l yL_bake cL_bake 4 (some .int) hL_bake rL_bake G n0 [.ref (n0 + 0), .int x1] M (some (.int r)) M' 1 := by
  rcases fT_some hf with h | ⟨k, h, hk⟩
  · exact cs_L_bake l G n0 h
  · by_cases h2 : k = 2
    · subst h2
      rw [if_pos rfl] at hk
      cases hk
      exact ct_L_bake_2 l hfl G n0 h
    · replace hk := ine h2 hk
      by_cases h3 : k = 3
      · subst h3
        rw [if_pos rfl] at hk
        cases hk
        exact ct_L_bake_3 l hfl G n0 h
      · replace hk := ine h3 hk
        cases hk
abbrev hL_claim : List (Nat × Nat × Nat × Nat) := [(0, 6, 9, 25)]
theorem cwL_claim : Cond.codeWith yL_claim cL_claim 4 (some .int) hL_claim ∈ TB := tbm4 123 rfl rfl
theorem gw_L_claim_124 : GW RL 124 yL_claim cL_claim 4 (some .int) hL_claim := ⟨tw4_121, tw4_122, tw1_0, cwL_claim⟩
def rL_claim : Room := { frames := 8, cells := 1, slots := 6, locals := 148 }
def oL_claim : Room := { frames := 8, cells := 0, slots := 0, locals := 148 }
def gL_claim (x1 : Int32) (M : Mem) : Option (Int32 × Mem) := rT (fX11_claim x1 M)
def fL_claim (x1 : Int32) (M : Mem) : Option (Int32 × Mem) := fT (fX11_claim x1 M) fun k => if k = 1 then some ((-5000003 : Int32), M) else none
set_option maxRecDepth 100000 in
set_option maxHeartbeats 1000000 in
theorem cr_L_claim (l : Launch) (G : Gx) (n0 : Nat) {x1 : Int32} {M : Mem} {r : Int32} {M' : Mem} (hf : fX11_claim x1 M = some (Sum.inr (r, M'))) : CtV l yL_claim cL_claim 4 (some .int) hL_claim oL_claim G n0 [.ref (n0 + 0), .int x1] M (some (.int r)) M' 0 := by
  refine ctv_int (k := 0) (cc := cL_claim) (maxL := 4) rfl (Nat.le_of_ble_eq_true rfl) ⟨rfl, rfl⟩ ?_
  intro K CC X hret
  have CC : ∀ a, a ≤ 0 → Ok (kc K a) l oL_claim cL_claim RL G n0 4 := CC
  have C := CC 0 (by omega)
  show J (kc K 0) M 0 [(0, .ref (n0 + 0)), (1, .int x1)] []
  refine j_aload_n C 0 dL_claim_0 rfl rfl ?_
  refine j_iload_n C 1 dL_claim_1 rfl rfl ?_
  refine j_callV C 1 lc0 (ent_K _ _ _ _ _ _) rfl (c_X11_claim l G n0 hf) gv_RL_44 ⟨rfl, rfl⟩ (by decide +kernel) ⟨Nat.le_of_ble_eq_true rfl, Nat.le_of_ble_eq_true rfl⟩ rfl rfl (Nat.le_of_ble_eq_true rfl) dL_claim_2 ?_
  refine j_istore_n C [(2, .int r), (0, .ref (n0 + 0)), (1, .int x1)] dL_claim_5 rfl (Nat.le_of_ble_eq_true rfl) rfl ?_
  refine j_goto C 13 dL_claim_6 (by decide) ?_
  refine j_iload_n C 0 dL_claim_13 rfl rfl ?_
  exact hret _ _ 0 (by omega) dL_claim_14
set_option maxRecDepth 100000 in
set_option maxHeartbeats 1000000 in
theorem cs_L_claim (l : Launch) (G : Gx) (n0 : Nat) {x1 : Int32} {M : Mem} {r : Int32} {M' : Mem} (hf : fX11_claim x1 M = some (Sum.inr (r, M'))) : CtV l yL_claim cL_claim 4 (some .int) hL_claim rL_claim G n0 [.ref (n0 + 0), .int x1] M (some (.int r)) M' 1 := by
  refine ctv_int (k := 1) (cc := cL_claim) (maxL := 4) rfl (Nat.le_of_ble_eq_true rfl) ⟨rfl, rfl⟩ ?_
  intro K CC X hret
  have CC : ∀ a, a ≤ 1 → Ok (kc K a) l rL_claim cL_claim RL G n0 4 := CC
  have C := CC 0 (by omega)
  show J (kc K 0) M 0 [(0, .ref (n0 + 0)), (1, .int x1)] []
  refine j_aload_n C 0 dL_claim_0 rfl rfl ?_
  refine j_iload_n C 1 dL_claim_1 rfl rfl ?_
  refine j_callV C 1 lc0 (ent_K _ _ _ _ _ _) rfl (c_X11_claim l G n0 hf) gv_RL_44 ⟨rfl, rfl⟩ (by decide +kernel) ⟨Nat.le_of_ble_eq_true rfl, Nat.le_of_ble_eq_true rfl⟩ rfl rfl (Nat.le_of_ble_eq_true rfl) dL_claim_2 ?_
  refine j_istore_n C [(2, .int r), (0, .ref (n0 + 0)), (1, .int x1)] dL_claim_5 rfl (Nat.le_of_ble_eq_true rfl) rfl ?_
  refine j_goto C 13 dL_claim_6 (by decide) ?_
  refine j_iload_n C 0 dL_claim_13 rfl rfl ?_
  exact hret _ _ 0 (by omega) dL_claim_14
set_option maxRecDepth 100000 in
set_option maxHeartbeats 1000000 in
theorem ct_L_claim_1 (l : Launch) (hfl : l.stackTraces = false) (G : Gx) (n0 : Nat) {x1 : Int32} {M : Mem} (hf : fX11_claim x1 M = some (Sum.inl 1)) : CtV l yL_claim cL_claim 4 (some .int) hL_claim rL_claim G n0 [.ref (n0 + 0), .int x1] M (some (.int (-5000003 : Int32))) M 1 := by
  refine ctv_int (k := 1) (cc := cL_claim) (maxL := 4) rfl (Nat.le_of_ble_eq_true rfl) ⟨rfl, rfl⟩ ?_
  intro K CC X hret
  have CC : ∀ a, a ≤ 1 → Ok (kc K a) l rL_claim cL_claim RL G n0 4 := CC
  have C := CC 0 (by omega)
  show J (kc K 0) M 0 [(0, .ref (n0 + 0)), (1, .int x1)] []
  refine j_aload_n C 0 dL_claim_0 rfl rfl ?_
  refine j_iload_n C 1 dL_claim_1 rfl rfl ?_
  refine j_catchK (k := 1) (E := "java/lang/IndexOutOfBoundsException") C X 1 (t_X11_claim l hfl G n0 hf) gv_RL_44 ⟨rfl, rfl⟩ (by decide +kernel) ⟨Nat.le_of_ble_eq_true rfl, Nat.le_of_ble_eq_true rfl⟩ (CC 1 (by omega)) rfl rfl (Nat.le_of_ble_eq_true rfl) rfl (by decide) [] ⟨0, 6, 9, 25⟩ [] rfl (fun z hz => absurd hz List.not_mem_nil) rfl (by decide) tw2_236 dL_claim_2 (fun q => ?_)
  have C2 := CC (0 + 1) (by omega)
  refine j_astore_n C2 [(3, .ref q), (0, .ref (n0 + 0)), (1, .int x1)] dL_claim_9 rfl (by decide) rfl ?_
  refine j_ldc C2 tw3_24 dL_claim_10 ?_
  exact hret _ _ 1 (by omega) dL_claim_12
theorem cg_L_claim (l : Launch) (G : Gx) (n0 : Nat) {x1 : Int32} {M : Mem} {r : Int32} {M' : Mem} (hf : gL_claim x1 M = some (r, M')) : CtV l yL_claim cL_claim 4 (some .int) hL_claim oL_claim G n0 [.ref (n0 + 0), .int x1] M (some (.int r)) M' 0 := cr_L_claim l G n0 (rT_some hf)
theorem cf_L_claim (l : Launch) (hfl : l.stackTraces = false) (G : Gx) (n0 : Nat) {x1 : Int32} {M : Mem} {r : Int32} {M' : Mem} (hf : fL_claim x1 M = some (r, M')) : CtV l yL_claim cL_claim 4 (some .int) hL_claim rL_claim G n0 [.ref (n0 + 0), .int x1] M (some (.int r)) M' 1 := by
  rcases fT_some hf with h | ⟨k, h, hk⟩
  · exact cs_L_claim l G n0 h
  · by_cases h1 : k = 1
    · subst h1
      rw [if_pos rfl] at hk
      cases hk
      exact ct_L_claim_1 l hfl G n0 h
    · replace hk := ine h1 hk
      cases hk
abbrev hL_returnLoaves : List (Nat × Nat × Nat × Nat) := [(0, 6, 9, 25)]
theorem cwL_returnLoaves : Cond.codeWith yL_returnLoaves cL_returnLoaves 4 (some .int) hL_returnLoaves ∈ TB := tbm4 144 rfl rfl
theorem gw_L_returnLoaves_126 : GW RL 126 yL_returnLoaves cL_returnLoaves 4 (some .int) hL_returnLoaves := ⟨tw4_142, tw4_143, tw1_0, cwL_returnLoaves⟩
def rL_returnLoaves : Room := { frames := 8, cells := 1, slots := 6, locals := 148 }
def oL_returnLoaves : Room := { frames := 8, cells := 0, slots := 0, locals := 148 }
def gL_returnLoaves (x1 : Int32) (M : Mem) : Option (Int32 × Mem) := rT (fX11_returnLoaves x1 M)
def fL_returnLoaves (x1 : Int32) (M : Mem) : Option (Int32 × Mem) := fT (fX11_returnLoaves x1 M) fun k => if k = 1 then some ((-5000003 : Int32), M) else none
set_option maxRecDepth 100000 in
set_option maxHeartbeats 1000000 in
theorem cr_L_returnLoaves (l : Launch) (G : Gx) (n0 : Nat) {x1 : Int32} {M : Mem} {r : Int32} {M' : Mem} (hf : fX11_returnLoaves x1 M = some (Sum.inr (r, M'))) : CtV l yL_returnLoaves cL_returnLoaves 4 (some .int) hL_returnLoaves oL_returnLoaves G n0 [.ref (n0 + 0), .int x1] M (some (.int r)) M' 0 := by
  refine ctv_int (k := 0) (cc := cL_returnLoaves) (maxL := 4) rfl (Nat.le_of_ble_eq_true rfl) ⟨rfl, rfl⟩ ?_
  intro K CC X hret
  have CC : ∀ a, a ≤ 0 → Ok (kc K a) l oL_returnLoaves cL_returnLoaves RL G n0 4 := CC
  have C := CC 0 (by omega)
  show J (kc K 0) M 0 [(0, .ref (n0 + 0)), (1, .int x1)] []
  refine j_aload_n C 0 dL_returnLoaves_0 rfl rfl ?_
  refine j_iload_n C 1 dL_returnLoaves_1 rfl rfl ?_
  refine j_callV C 1 lc0 (ent_K _ _ _ _ _ _) rfl (c_X11_returnLoaves l G n0 hf) gv_RL_47 ⟨rfl, rfl⟩ (by decide +kernel) ⟨Nat.le_of_ble_eq_true rfl, Nat.le_of_ble_eq_true rfl⟩ rfl rfl (Nat.le_of_ble_eq_true rfl) dL_returnLoaves_2 ?_
  refine j_istore_n C [(2, .int r), (0, .ref (n0 + 0)), (1, .int x1)] dL_returnLoaves_5 rfl (Nat.le_of_ble_eq_true rfl) rfl ?_
  refine j_goto C 13 dL_returnLoaves_6 (by decide) ?_
  refine j_iload_n C 0 dL_returnLoaves_13 rfl rfl ?_
  exact hret _ _ 0 (by omega) dL_returnLoaves_14
set_option maxRecDepth 100000 in
set_option maxHeartbeats 1000000 in
theorem cs_L_returnLoaves (l : Launch) (G : Gx) (n0 : Nat) {x1 : Int32} {M : Mem} {r : Int32} {M' : Mem} (hf : fX11_returnLoaves x1 M = some (Sum.inr (r, M'))) : CtV l yL_returnLoaves cL_returnLoaves 4 (some .int) hL_returnLoaves rL_returnLoaves G n0 [.ref (n0 + 0), .int x1] M (some (.int r)) M' 1 := by
  refine ctv_int (k := 1) (cc := cL_returnLoaves) (maxL := 4) rfl (Nat.le_of_ble_eq_true rfl) ⟨rfl, rfl⟩ ?_
  intro K CC X hret
  have CC : ∀ a, a ≤ 1 → Ok (kc K a) l rL_returnLoaves cL_returnLoaves RL G n0 4 := CC
  have C := CC 0 (by omega)
  show J (kc K 0) M 0 [(0, .ref (n0 + 0)), (1, .int x1)] []
  refine j_aload_n C 0 dL_returnLoaves_0 rfl rfl ?_
  refine j_iload_n C 1 dL_returnLoaves_1 rfl rfl ?_
  refine j_callV C 1 lc0 (ent_K _ _ _ _ _ _) rfl (c_X11_returnLoaves l G n0 hf) gv_RL_47 ⟨rfl, rfl⟩ (by decide +kernel) ⟨Nat.le_of_ble_eq_true rfl, Nat.le_of_ble_eq_true rfl⟩ rfl rfl (Nat.le_of_ble_eq_true rfl) dL_returnLoaves_2 ?_
  refine j_istore_n C [(2, .int r), (0, .ref (n0 + 0)), (1, .int x1)] dL_returnLoaves_5 rfl (Nat.le_of_ble_eq_true rfl) rfl ?_
  refine j_goto C 13 dL_returnLoaves_6 (by decide) ?_
  refine j_iload_n C 0 dL_returnLoaves_13 rfl rfl ?_
  exact hret _ _ 0 (by omega) dL_returnLoaves_14
set_option maxRecDepth 100000 in
set_option maxHeartbeats 1000000 in
theorem ct_L_returnLoaves_1 (l : Launch) (hfl : l.stackTraces = false) (G : Gx) (n0 : Nat) {x1 : Int32} {M : Mem} (hf : fX11_returnLoaves x1 M = some (Sum.inl 1)) : CtV l yL_returnLoaves cL_returnLoaves 4 (some .int) hL_returnLoaves rL_returnLoaves G n0 [.ref (n0 + 0), .int x1] M (some (.int (-5000003 : Int32))) M 1 := by
  refine ctv_int (k := 1) (cc := cL_returnLoaves) (maxL := 4) rfl (Nat.le_of_ble_eq_true rfl) ⟨rfl, rfl⟩ ?_
  intro K CC X hret
  have CC : ∀ a, a ≤ 1 → Ok (kc K a) l rL_returnLoaves cL_returnLoaves RL G n0 4 := CC
  have C := CC 0 (by omega)
  show J (kc K 0) M 0 [(0, .ref (n0 + 0)), (1, .int x1)] []
  refine j_aload_n C 0 dL_returnLoaves_0 rfl rfl ?_
  refine j_iload_n C 1 dL_returnLoaves_1 rfl rfl ?_
  refine j_catchK (k := 1) (E := "java/lang/IndexOutOfBoundsException") C X 1 (t_X11_returnLoaves l hfl G n0 hf) gv_RL_47 ⟨rfl, rfl⟩ (by decide +kernel) ⟨Nat.le_of_ble_eq_true rfl, Nat.le_of_ble_eq_true rfl⟩ (CC 1 (by omega)) rfl rfl (Nat.le_of_ble_eq_true rfl) rfl (by decide) [] ⟨0, 6, 9, 25⟩ [] rfl (fun z hz => absurd hz List.not_mem_nil) rfl (by decide) tw2_236 dL_returnLoaves_2 (fun q => ?_)
  have C2 := CC (0 + 1) (by omega)
  refine j_astore_n C2 [(3, .ref q), (0, .ref (n0 + 0)), (1, .int x1)] dL_returnLoaves_9 rfl (by decide) rfl ?_
  refine j_ldc C2 tw3_24 dL_returnLoaves_10 ?_
  exact hret _ _ 1 (by omega) dL_returnLoaves_12
theorem cg_L_returnLoaves (l : Launch) (G : Gx) (n0 : Nat) {x1 : Int32} {M : Mem} {r : Int32} {M' : Mem} (hf : gL_returnLoaves x1 M = some (r, M')) : CtV l yL_returnLoaves cL_returnLoaves 4 (some .int) hL_returnLoaves oL_returnLoaves G n0 [.ref (n0 + 0), .int x1] M (some (.int r)) M' 0 := cr_L_returnLoaves l G n0 (rT_some hf)
theorem cf_L_returnLoaves (l : Launch) (hfl : l.stackTraces = false) (G : Gx) (n0 : Nat) {x1 : Int32} {M : Mem} {r : Int32} {M' : Mem} (hf : fL_returnLoaves x1 M = some (r, M')) : CtV l yL_returnLoaves cL_returnLoaves 4 (some .int) hL_returnLoaves rL_returnLoaves G n0 [.ref (n0 + 0), .int x1] M (some (.int r)) M' 1 := by
  rcases fT_some hf with h | ⟨k, h, hk⟩
  · exact cs_L_returnLoaves l G n0 h
  · by_cases h1 : k = 1
    · subst h1
      rw [if_pos rfl] at hk
      cases hk
      exact ct_L_returnLoaves_1 l hfl G n0 h
    · replace hk := ine h1 hk
      cases hk
abbrev hL_household : List (Nat × Nat × Nat × Nat) := [(0, 7, 10, 25), (0, 7, 15, 15)]
theorem cwL_household : Cond.codeWith yL_household cL_household 5 (some .int) hL_household ∈ TB := tbm2 235 rfl rfl
theorem gw_L_household_96 : GW RL 96 yL_household cL_household 5 (some .int) hL_household := ⟨tw2_233, tw2_234, tw1_0, cwL_household⟩
def rL_household : Room := { frames := 8, cells := 1, slots := 6, locals := 132 }
def oL_household : Room := { frames := 8, cells := 0, slots := 0, locals := 132 }
def gL_household (x1 : Int32) (x2 : Int32) (M : Mem) : Option Int32 := rT (fX11_household x1 x2 M)
def fL_household (x1 : Int32) (x2 : Int32) (M : Mem) : Option Int32 := fT (fX11_household x1 x2 M) fun k => if k = 1 then some (-5000003 : Int32) else if k = 2 then some (-5000001 : Int32) else none
set_option maxRecDepth 100000 in
set_option maxHeartbeats 1000000 in
theorem cr_L_household (l : Launch) (G : Gx) (n0 : Nat) {x1 : Int32} {x2 : Int32} {M : Mem} {r : Int32} (hf : fX11_household x1 x2 M = some (Sum.inr r)) : CtV l yL_household cL_household 5 (some .int) hL_household oL_household G n0 [.ref (n0 + 0), .int x1, .int x2] M (some (.int r)) M 0 := by
  refine ctv_int (k := 0) (cc := cL_household) (maxL := 5) rfl (Nat.le_of_ble_eq_true rfl) ⟨rfl, rfl⟩ ?_
  intro K CC X hret
  have CC : ∀ a, a ≤ 0 → Ok (kc K a) l oL_household cL_household RL G n0 5 := CC
  have C := CC 0 (by omega)
  show J (kc K 0) M 0 [(0, .ref (n0 + 0)), (1, .int x1), (2, .int x2)] []
  refine j_aload_n C 0 dL_household_0 rfl rfl ?_
  refine j_iload_n C 1 dL_household_1 rfl rfl ?_
  refine j_iload_n C 2 dL_household_2 rfl rfl ?_
  refine j_callV C 2 lc0 (ent_K _ _ _ _ _ _) rfl (c_X11_household l G n0 hf) gv_RL_50 ⟨rfl, rfl⟩ (by decide +kernel) ⟨Nat.le_of_ble_eq_true rfl, Nat.le_of_ble_eq_true rfl⟩ rfl rfl (Nat.le_of_ble_eq_true rfl) dL_household_3 ?_
  refine j_istore_n C [(3, .int r), (0, .ref (n0 + 0)), (1, .int x1), (2, .int x2)] dL_household_6 rfl (Nat.le_of_ble_eq_true rfl) rfl ?_
  refine j_goto C 20 dL_household_7 (by decide) ?_
  refine j_iload_n C 0 dL_household_20 rfl rfl ?_
  exact hret _ _ 0 (by omega) dL_household_21
set_option maxRecDepth 100000 in
set_option maxHeartbeats 1000000 in
theorem cs_L_household (l : Launch) (G : Gx) (n0 : Nat) {x1 : Int32} {x2 : Int32} {M : Mem} {r : Int32} (hf : fX11_household x1 x2 M = some (Sum.inr r)) : CtV l yL_household cL_household 5 (some .int) hL_household rL_household G n0 [.ref (n0 + 0), .int x1, .int x2] M (some (.int r)) M 1 := by
  refine ctv_int (k := 1) (cc := cL_household) (maxL := 5) rfl (Nat.le_of_ble_eq_true rfl) ⟨rfl, rfl⟩ ?_
  intro K CC X hret
  have CC : ∀ a, a ≤ 1 → Ok (kc K a) l rL_household cL_household RL G n0 5 := CC
  have C := CC 0 (by omega)
  show J (kc K 0) M 0 [(0, .ref (n0 + 0)), (1, .int x1), (2, .int x2)] []
  refine j_aload_n C 0 dL_household_0 rfl rfl ?_
  refine j_iload_n C 1 dL_household_1 rfl rfl ?_
  refine j_iload_n C 2 dL_household_2 rfl rfl ?_
  refine j_callV C 2 lc0 (ent_K _ _ _ _ _ _) rfl (c_X11_household l G n0 hf) gv_RL_50 ⟨rfl, rfl⟩ (by decide +kernel) ⟨Nat.le_of_ble_eq_true rfl, Nat.le_of_ble_eq_true rfl⟩ rfl rfl (Nat.le_of_ble_eq_true rfl) dL_household_3 ?_
  refine j_istore_n C [(3, .int r), (0, .ref (n0 + 0)), (1, .int x1), (2, .int x2)] dL_household_6 rfl (Nat.le_of_ble_eq_true rfl) rfl ?_
  refine j_goto C 20 dL_household_7 (by decide) ?_
  refine j_iload_n C 0 dL_household_20 rfl rfl ?_
  exact hret _ _ 0 (by omega) dL_household_21
set_option maxRecDepth 100000 in
set_option maxHeartbeats 1000000 in
theorem ct_L_household_1 (l : Launch) (hfl : l.stackTraces = false) (G : Gx) (n0 : Nat) {x1 : Int32} {x2 : Int32} {M : Mem} (hf : fX11_household x1 x2 M = some (Sum.inl 1)) : CtV l yL_household cL_household 5 (some .int) hL_household rL_household G n0 [.ref (n0 + 0), .int x1, .int x2] M (some (.int (-5000003 : Int32))) M 1 := by
  refine ctv_int (k := 1) (cc := cL_household) (maxL := 5) rfl (Nat.le_of_ble_eq_true rfl) ⟨rfl, rfl⟩ ?_
  intro K CC X hret
  have CC : ∀ a, a ≤ 1 → Ok (kc K a) l rL_household cL_household RL G n0 5 := CC
  have C := CC 0 (by omega)
  show J (kc K 0) M 0 [(0, .ref (n0 + 0)), (1, .int x1), (2, .int x2)] []
  refine j_aload_n C 0 dL_household_0 rfl rfl ?_
  refine j_iload_n C 1 dL_household_1 rfl rfl ?_
  refine j_iload_n C 2 dL_household_2 rfl rfl ?_
  refine j_catchK (k := 1) (E := "java/lang/IndexOutOfBoundsException") C X 2 (t_X11_household l hfl G n0 hf) gv_RL_50 ⟨rfl, rfl⟩ (by decide +kernel) ⟨Nat.le_of_ble_eq_true rfl, Nat.le_of_ble_eq_true rfl⟩ (CC 1 (by omega)) rfl rfl (Nat.le_of_ble_eq_true rfl) rfl (by decide) [] ⟨0, 7, 10, 25⟩ [⟨0, 7, 15, 15⟩] rfl (fun z hz => absurd hz List.not_mem_nil) rfl (by decide) tw2_236 dL_household_3 (fun q => ?_)
  have C2 := CC (0 + 1) (by omega)
  refine j_astore C2 [(4, .ref q), (0, .ref (n0 + 0)), (1, .int x1), (2, .int x2)] dL_household_10 (by decide) rfl ?_
  refine j_ldc C2 tw3_24 dL_household_12 ?_
  exact hret _ _ 1 (by omega) dL_household_14
set_option maxRecDepth 100000 in
set_option maxHeartbeats 1000000 in
theorem ct_L_household_2 (l : Launch) (hfl : l.stackTraces = false) (G : Gx) (n0 : Nat) {x1 : Int32} {x2 : Int32} {M : Mem} (hf : fX11_household x1 x2 M = some (Sum.inl 2)) : CtV l yL_household cL_household 5 (some .int) hL_household rL_household G n0 [.ref (n0 + 0), .int x1, .int x2] M (some (.int (-5000001 : Int32))) M 1 := by
  refine ctv_int (k := 1) (cc := cL_household) (maxL := 5) rfl (Nat.le_of_ble_eq_true rfl) ⟨rfl, rfl⟩ ?_
  intro K CC X hret
  have CC : ∀ a, a ≤ 1 → Ok (kc K a) l rL_household cL_household RL G n0 5 := CC
  have C := CC 0 (by omega)
  show J (kc K 0) M 0 [(0, .ref (n0 + 0)), (1, .int x1), (2, .int x2)] []
  refine j_aload_n C 0 dL_household_0 rfl rfl ?_
  refine j_iload_n C 1 dL_household_1 rfl rfl ?_
  refine j_iload_n C 2 dL_household_2 rfl rfl ?_
  refine j_catchK (k := 2) (E := "java/lang/IllegalArgumentException") C X 2 (t_X11_household l hfl G n0 hf) gv_RL_50 ⟨rfl, rfl⟩ (by decide +kernel) ⟨Nat.le_of_ble_eq_true rfl, Nat.le_of_ble_eq_true rfl⟩ (CC 1 (by omega)) rfl rfl (Nat.le_of_ble_eq_true rfl) rfl (by decide) [⟨0, 7, 10, 25⟩] ⟨0, 7, 15, 15⟩ [] rfl (List.forall_mem_cons.mpr ⟨⟨by decide, "java/lang/IndexOutOfBoundsException", tw2_236, by decide, by decide⟩, fun _ h => absurd h List.not_mem_nil⟩) rfl (by decide) tw2_7 dL_household_3 (fun q => ?_)
  have C2 := CC (0 + 1) (by omega)
  refine j_astore C2 [(4, .ref q), (0, .ref (n0 + 0)), (1, .int x1), (2, .int x2)] dL_household_15 (by decide) rfl ?_
  refine j_ldc C2 tw2_176 dL_household_17 ?_
  exact hret _ _ 1 (by omega) dL_household_19
theorem cg_L_household (l : Launch) (G : Gx) (n0 : Nat) {x1 : Int32} {x2 : Int32} {M : Mem} {r : Int32} (hf : gL_household x1 x2 M = some r) : CtV l yL_household cL_household 5 (some .int) hL_household oL_household G n0 [.ref (n0 + 0), .int x1, .int x2] M (some (.int r)) M 0 := cr_L_household l G n0 (rT_some hf)
theorem cf_L_household (l : Launch) (hfl : l.stackTraces = false) (G : Gx) (n0 : Nat) {x1 : Int32} {x2 : Int32} {M : Mem} {r : Int32} (hf : fL_household x1 x2 M = some r) : CtV l yL_household cL_household 5 (some .int) hL_household rL_household G n0 [.ref (n0 + 0), .int x1, .int x2] M (some (.int r)) M 1 := by
  rcases fT_some hf with h | ⟨k, h, hk⟩
  · exact cs_L_household l G n0 h
  · by_cases h1 : k = 1
    · subst h1
      rw [if_pos rfl] at hk
      cases hk
      exact ct_L_household_1 l hfl G n0 h
    · replace hk := ine h1 hk
      by_cases h2 : k = 2
      · subst h2
        rw [if_pos rfl] at hk
        cases hk
        exact ct_L_household_2 l hfl G n0 h
      · replace hk := ine h2 hk
        cases hk
abbrev hL_due : List (Nat × Nat × Nat × Nat) := [(0, 6, 9, 25)]
theorem cwL_due : Cond.codeWith yL_due cL_due 5 (some .long) hL_due ∈ TB := tbm4 155 rfl rfl
theorem gw_L_due_128 : GW RL 128 yL_due cL_due 5 (some .long) hL_due := ⟨tw4_153, tw4_154, tw1_0, cwL_due⟩
def rL_due : Room := { frames := 8, cells := 1, slots := 6, locals := 131 }
def oL_due : Room := { frames := 8, cells := 0, slots := 0, locals := 131 }
def gL_due (x1 : Int32) (M : Mem) : Option Int64 := rT (fX11_due x1 M)
def fL_due (x1 : Int32) (M : Mem) : Option Int64 := fT (fX11_due x1 M) fun k => if k = 1 then some (-5000003 : Int64) else none
set_option maxRecDepth 100000 in
set_option maxHeartbeats 1000000 in
theorem cr_L_due (l : Launch) (G : Gx) (n0 : Nat) {x1 : Int32} {M : Mem} {r : Int64} (hf : fX11_due x1 M = some (Sum.inr r)) : CtV l yL_due cL_due 5 (some .long) hL_due oL_due G n0 [.ref (n0 + 0), .int x1] M (some (.long r)) M 0 := by
  refine ctv_long (k := 0) (cc := cL_due) (maxL := 5) rfl (Nat.le_of_ble_eq_true rfl) ⟨rfl, rfl⟩ ?_
  intro K CC X hret
  have CC : ∀ a, a ≤ 0 → Ok (kc K a) l oL_due cL_due RL G n0 5 := CC
  have C := CC 0 (by omega)
  show J (kc K 0) M 0 [(0, .ref (n0 + 0)), (1, .int x1)] []
  refine j_aload_n C 0 dL_due_0 rfl rfl ?_
  refine j_iload_n C 1 dL_due_1 rfl rfl ?_
  refine j_callV C 1 lc0 (ent_K _ _ _ _ _ _) rfl (c_X11_due l G n0 hf) gv_RL_53 ⟨rfl, rfl⟩ (by decide +kernel) ⟨Nat.le_of_ble_eq_true rfl, Nat.le_of_ble_eq_true rfl⟩ rfl rfl (Nat.le_of_ble_eq_true rfl) dL_due_2 ?_
  refine j_lstore_n C [(2, .long r), (0, .ref (n0 + 0)), (1, .int x1)] dL_due_5 rfl (Nat.le_of_ble_eq_true rfl) rfl ?_
  refine j_goto C 15 dL_due_6 (by decide) ?_
  refine j_lload_n C 0 dL_due_15 rfl rfl ?_
  exact hret _ _ 0 (by omega) dL_due_16
set_option maxRecDepth 100000 in
set_option maxHeartbeats 1000000 in
theorem cs_L_due (l : Launch) (G : Gx) (n0 : Nat) {x1 : Int32} {M : Mem} {r : Int64} (hf : fX11_due x1 M = some (Sum.inr r)) : CtV l yL_due cL_due 5 (some .long) hL_due rL_due G n0 [.ref (n0 + 0), .int x1] M (some (.long r)) M 1 := by
  refine ctv_long (k := 1) (cc := cL_due) (maxL := 5) rfl (Nat.le_of_ble_eq_true rfl) ⟨rfl, rfl⟩ ?_
  intro K CC X hret
  have CC : ∀ a, a ≤ 1 → Ok (kc K a) l rL_due cL_due RL G n0 5 := CC
  have C := CC 0 (by omega)
  show J (kc K 0) M 0 [(0, .ref (n0 + 0)), (1, .int x1)] []
  refine j_aload_n C 0 dL_due_0 rfl rfl ?_
  refine j_iload_n C 1 dL_due_1 rfl rfl ?_
  refine j_callV C 1 lc0 (ent_K _ _ _ _ _ _) rfl (c_X11_due l G n0 hf) gv_RL_53 ⟨rfl, rfl⟩ (by decide +kernel) ⟨Nat.le_of_ble_eq_true rfl, Nat.le_of_ble_eq_true rfl⟩ rfl rfl (Nat.le_of_ble_eq_true rfl) dL_due_2 ?_
  refine j_lstore_n C [(2, .long r), (0, .ref (n0 + 0)), (1, .int x1)] dL_due_5 rfl (Nat.le_of_ble_eq_true rfl) rfl ?_
  refine j_goto C 15 dL_due_6 (by decide) ?_
  refine j_lload_n C 0 dL_due_15 rfl rfl ?_
  exact hret _ _ 0 (by omega) dL_due_16
set_option maxRecDepth 100000 in
set_option maxHeartbeats 1000000 in
theorem ct_L_due_1 (l : Launch) (hfl : l.stackTraces = false) (G : Gx) (n0 : Nat) {x1 : Int32} {M : Mem} (hf : fX11_due x1 M = some (Sum.inl 1)) : CtV l yL_due cL_due 5 (some .long) hL_due rL_due G n0 [.ref (n0 + 0), .int x1] M (some (.long (-5000003 : Int64))) M 1 := by
  refine ctv_long (k := 1) (cc := cL_due) (maxL := 5) rfl (Nat.le_of_ble_eq_true rfl) ⟨rfl, rfl⟩ ?_
  intro K CC X hret
  have CC : ∀ a, a ≤ 1 → Ok (kc K a) l rL_due cL_due RL G n0 5 := CC
  have C := CC 0 (by omega)
  show J (kc K 0) M 0 [(0, .ref (n0 + 0)), (1, .int x1)] []
  refine j_aload_n C 0 dL_due_0 rfl rfl ?_
  refine j_iload_n C 1 dL_due_1 rfl rfl ?_
  refine j_catchK (k := 1) (E := "java/lang/IndexOutOfBoundsException") C X 1 (t_X11_due l hfl G n0 hf) gv_RL_53 ⟨rfl, rfl⟩ (by decide +kernel) ⟨Nat.le_of_ble_eq_true rfl, Nat.le_of_ble_eq_true rfl⟩ (CC 1 (by omega)) rfl rfl (Nat.le_of_ble_eq_true rfl) rfl (by decide) [] ⟨0, 6, 9, 25⟩ [] rfl (fun z hz => absurd hz List.not_mem_nil) rfl (by decide) tw2_236 dL_due_2 (fun q => ?_)
  have C2 := CC (0 + 1) (by omega)
  refine j_astore C2 [(4, .ref q), (0, .ref (n0 + 0)), (1, .int x1)] dL_due_9 (by decide) rfl ?_
  refine j_ldc2 C2 tw4_161 dL_due_11 ?_
  exact hret _ _ 1 (by omega) dL_due_14
theorem cg_L_due (l : Launch) (G : Gx) (n0 : Nat) {x1 : Int32} {M : Mem} {r : Int64} (hf : gL_due x1 M = some r) : CtV l yL_due cL_due 5 (some .long) hL_due oL_due G n0 [.ref (n0 + 0), .int x1] M (some (.long r)) M 0 := cr_L_due l G n0 (rT_some hf)
theorem cf_L_due (l : Launch) (hfl : l.stackTraces = false) (G : Gx) (n0 : Nat) {x1 : Int32} {M : Mem} {r : Int64} (hf : fL_due x1 M = some r) : CtV l yL_due cL_due 5 (some .long) hL_due rL_due G n0 [.ref (n0 + 0), .int x1] M (some (.long r)) M 1 := by
  rcases fT_some hf with h | ⟨k, h, hk⟩
  · exact cs_L_due l G n0 h
  · by_cases h1 : k = 1
    · subst h1
      rw [if_pos rfl] at hk
      cases hk
      exact ct_L_due_1 l hfl G n0 h
    · replace hk := ine h1 hk
      cases hk
abbrev hL_balance : List (Nat × Nat × Nat × Nat) := [(0, 7, 10, 25), (0, 7, 15, 15)]
theorem cwL_balance : Cond.codeWith yL_balance cL_balance 5 (some .int) hL_balance ∈ TB := tbm4 164 rfl rfl
theorem gw_L_balance_131 : GW RL 131 yL_balance cL_balance 5 (some .int) hL_balance := ⟨tw4_162, tw4_163, tw1_0, cwL_balance⟩
def rL_balance : Room := { frames := 8, cells := 1, slots := 6, locals := 132 }
def oL_balance : Room := { frames := 8, cells := 0, slots := 0, locals := 132 }
def gL_balance (x1 : Int32) (x2 : Int32) (M : Mem) : Option Int32 := rT (fX11_balance x1 x2 M)
def fL_balance (x1 : Int32) (x2 : Int32) (M : Mem) : Option Int32 := fT (fX11_balance x1 x2 M) fun k => if k = 1 then some (-5000003 : Int32) else if k = 2 then some (-5000001 : Int32) else none
set_option maxRecDepth 100000 in
set_option maxHeartbeats 1000000 in
theorem cr_L_balance (l : Launch) (G : Gx) (n0 : Nat) {x1 : Int32} {x2 : Int32} {M : Mem} {r : Int32} (hf : fX11_balance x1 x2 M = some (Sum.inr r)) : CtV l yL_balance cL_balance 5 (some .int) hL_balance oL_balance G n0 [.ref (n0 + 0), .int x1, .int x2] M (some (.int r)) M 0 := by
  refine ctv_int (k := 0) (cc := cL_balance) (maxL := 5) rfl (Nat.le_of_ble_eq_true rfl) ⟨rfl, rfl⟩ ?_
  intro K CC X hret
  have CC : ∀ a, a ≤ 0 → Ok (kc K a) l oL_balance cL_balance RL G n0 5 := CC
  have C := CC 0 (by omega)
  show J (kc K 0) M 0 [(0, .ref (n0 + 0)), (1, .int x1), (2, .int x2)] []
  refine j_aload_n C 0 dL_balance_0 rfl rfl ?_
  refine j_iload_n C 1 dL_balance_1 rfl rfl ?_
  refine j_iload_n C 2 dL_balance_2 rfl rfl ?_
  refine j_callV C 2 lc0 (ent_K _ _ _ _ _ _) rfl (c_X11_balance l G n0 hf) gv_RL_59 ⟨rfl, rfl⟩ (by decide +kernel) ⟨Nat.le_of_ble_eq_true rfl, Nat.le_of_ble_eq_true rfl⟩ rfl rfl (Nat.le_of_ble_eq_true rfl) dL_balance_3 ?_
  refine j_istore_n C [(3, .int r), (0, .ref (n0 + 0)), (1, .int x1), (2, .int x2)] dL_balance_6 rfl (Nat.le_of_ble_eq_true rfl) rfl ?_
  refine j_goto C 20 dL_balance_7 (by decide) ?_
  refine j_iload_n C 0 dL_balance_20 rfl rfl ?_
  exact hret _ _ 0 (by omega) dL_balance_21
set_option maxRecDepth 100000 in
set_option maxHeartbeats 1000000 in
theorem cs_L_balance (l : Launch) (G : Gx) (n0 : Nat) {x1 : Int32} {x2 : Int32} {M : Mem} {r : Int32} (hf : fX11_balance x1 x2 M = some (Sum.inr r)) : CtV l yL_balance cL_balance 5 (some .int) hL_balance rL_balance G n0 [.ref (n0 + 0), .int x1, .int x2] M (some (.int r)) M 1 := by
  refine ctv_int (k := 1) (cc := cL_balance) (maxL := 5) rfl (Nat.le_of_ble_eq_true rfl) ⟨rfl, rfl⟩ ?_
  intro K CC X hret
  have CC : ∀ a, a ≤ 1 → Ok (kc K a) l rL_balance cL_balance RL G n0 5 := CC
  have C := CC 0 (by omega)
  show J (kc K 0) M 0 [(0, .ref (n0 + 0)), (1, .int x1), (2, .int x2)] []
  refine j_aload_n C 0 dL_balance_0 rfl rfl ?_
  refine j_iload_n C 1 dL_balance_1 rfl rfl ?_
  refine j_iload_n C 2 dL_balance_2 rfl rfl ?_
  refine j_callV C 2 lc0 (ent_K _ _ _ _ _ _) rfl (c_X11_balance l G n0 hf) gv_RL_59 ⟨rfl, rfl⟩ (by decide +kernel) ⟨Nat.le_of_ble_eq_true rfl, Nat.le_of_ble_eq_true rfl⟩ rfl rfl (Nat.le_of_ble_eq_true rfl) dL_balance_3 ?_
  refine j_istore_n C [(3, .int r), (0, .ref (n0 + 0)), (1, .int x1), (2, .int x2)] dL_balance_6 rfl (Nat.le_of_ble_eq_true rfl) rfl ?_
  refine j_goto C 20 dL_balance_7 (by decide) ?_
  refine j_iload_n C 0 dL_balance_20 rfl rfl ?_
  exact hret _ _ 0 (by omega) dL_balance_21
set_option maxRecDepth 100000 in
set_option maxHeartbeats 1000000 in
theorem ct_L_balance_1 (l : Launch) (hfl : l.stackTraces = false) (G : Gx) (n0 : Nat) {x1 : Int32} {x2 : Int32} {M : Mem} (hf : fX11_balance x1 x2 M = some (Sum.inl 1)) : CtV l yL_balance cL_balance 5 (some .int) hL_balance rL_balance G n0 [.ref (n0 + 0), .int x1, .int x2] M (some (.int (-5000003 : Int32))) M 1 := by
  refine ctv_int (k := 1) (cc := cL_balance) (maxL := 5) rfl (Nat.le_of_ble_eq_true rfl) ⟨rfl, rfl⟩ ?_
  intro K CC X hret
  have CC : ∀ a, a ≤ 1 → Ok (kc K a) l rL_balance cL_balance RL G n0 5 := CC
  have C := CC 0 (by omega)
  show J (kc K 0) M 0 [(0, .ref (n0 + 0)), (1, .int x1), (2, .int x2)] []
  refine j_aload_n C 0 dL_balance_0 rfl rfl ?_
  refine j_iload_n C 1 dL_balance_1 rfl rfl ?_
  refine j_iload_n C 2 dL_balance_2 rfl rfl ?_
  refine j_catchK (k := 1) (E := "java/lang/IndexOutOfBoundsException") C X 2 (t_X11_balance l hfl G n0 hf) gv_RL_59 ⟨rfl, rfl⟩ (by decide +kernel) ⟨Nat.le_of_ble_eq_true rfl, Nat.le_of_ble_eq_true rfl⟩ (CC 1 (by omega)) rfl rfl (Nat.le_of_ble_eq_true rfl) rfl (by decide) [] ⟨0, 7, 10, 25⟩ [⟨0, 7, 15, 15⟩] rfl (fun z hz => absurd hz List.not_mem_nil) rfl (by decide) tw2_236 dL_balance_3 (fun q => ?_)
  have C2 := CC (0 + 1) (by omega)
  refine j_astore C2 [(4, .ref q), (0, .ref (n0 + 0)), (1, .int x1), (2, .int x2)] dL_balance_10 (by decide) rfl ?_
  refine j_ldc C2 tw3_24 dL_balance_12 ?_
  exact hret _ _ 1 (by omega) dL_balance_14
set_option maxRecDepth 100000 in
set_option maxHeartbeats 1000000 in
theorem ct_L_balance_2 (l : Launch) (hfl : l.stackTraces = false) (G : Gx) (n0 : Nat) {x1 : Int32} {x2 : Int32} {M : Mem} (hf : fX11_balance x1 x2 M = some (Sum.inl 2)) : CtV l yL_balance cL_balance 5 (some .int) hL_balance rL_balance G n0 [.ref (n0 + 0), .int x1, .int x2] M (some (.int (-5000001 : Int32))) M 1 := by
  refine ctv_int (k := 1) (cc := cL_balance) (maxL := 5) rfl (Nat.le_of_ble_eq_true rfl) ⟨rfl, rfl⟩ ?_
  intro K CC X hret
  have CC : ∀ a, a ≤ 1 → Ok (kc K a) l rL_balance cL_balance RL G n0 5 := CC
  have C := CC 0 (by omega)
  show J (kc K 0) M 0 [(0, .ref (n0 + 0)), (1, .int x1), (2, .int x2)] []
  refine j_aload_n C 0 dL_balance_0 rfl rfl ?_
  refine j_iload_n C 1 dL_balance_1 rfl rfl ?_
  refine j_iload_n C 2 dL_balance_2 rfl rfl ?_
  refine j_catchK (k := 2) (E := "java/lang/IllegalArgumentException") C X 2 (t_X11_balance l hfl G n0 hf) gv_RL_59 ⟨rfl, rfl⟩ (by decide +kernel) ⟨Nat.le_of_ble_eq_true rfl, Nat.le_of_ble_eq_true rfl⟩ (CC 1 (by omega)) rfl rfl (Nat.le_of_ble_eq_true rfl) rfl (by decide) [⟨0, 7, 10, 25⟩] ⟨0, 7, 15, 15⟩ [] rfl (List.forall_mem_cons.mpr ⟨⟨by decide, "java/lang/IndexOutOfBoundsException", tw2_236, by decide, by decide⟩, fun _ h => absurd h List.not_mem_nil⟩) rfl (by decide) tw2_7 dL_balance_3 (fun q => ?_)
  have C2 := CC (0 + 1) (by omega)
  refine j_astore C2 [(4, .ref q), (0, .ref (n0 + 0)), (1, .int x1), (2, .int x2)] dL_balance_15 (by decide) rfl ?_
  refine j_ldc C2 tw2_176 dL_balance_17 ?_
  exact hret _ _ 1 (by omega) dL_balance_19
theorem cg_L_balance (l : Launch) (G : Gx) (n0 : Nat) {x1 : Int32} {x2 : Int32} {M : Mem} {r : Int32} (hf : gL_balance x1 x2 M = some r) : CtV l yL_balance cL_balance 5 (some .int) hL_balance oL_balance G n0 [.ref (n0 + 0), .int x1, .int x2] M (some (.int r)) M 0 := cr_L_balance l G n0 (rT_some hf)
theorem cf_L_balance (l : Launch) (hfl : l.stackTraces = false) (G : Gx) (n0 : Nat) {x1 : Int32} {x2 : Int32} {M : Mem} {r : Int32} (hf : fL_balance x1 x2 M = some r) : CtV l yL_balance cL_balance 5 (some .int) hL_balance rL_balance G n0 [.ref (n0 + 0), .int x1, .int x2] M (some (.int r)) M 1 := by
  rcases fT_some hf with h | ⟨k, h, hk⟩
  · exact cs_L_balance l G n0 h
  · by_cases h1 : k = 1
    · subst h1
      rw [if_pos rfl] at hk
      cases hk
      exact ct_L_balance_1 l hfl G n0 h
    · replace hk := ine h1 hk
      by_cases h2 : k = 2
      · subst h2
        rw [if_pos rfl] at hk
        cases hk
        exact ct_L_balance_2 l hfl G n0 h
      · replace hk := ine h2 hk
        cases hk
abbrev hL_batch : List (Nat × Nat × Nat × Nat) := [(0, 7, 10, 15)]
theorem cwL_batch : Cond.codeWith yL_batch cL_batch 5 (some .int) hL_batch ∈ TB := tbm3 27 rfl rfl
theorem gw_L_batch_99 : GW RL 99 yL_batch cL_batch 5 (some .int) hL_batch := ⟨tw3_25, tw3_26, tw1_0, cwL_batch⟩
def rL_batch : Room := { frames := 8, cells := 1, slots := 6, locals := 132 }
def oL_batch : Room := { frames := 8, cells := 0, slots := 0, locals := 132 }
def gL_batch (x1 : Int32) (x2 : Int32) (M : Mem) : Option (Int32 × Mem) := rT (fX11_batch x1 x2 M)
def fL_batch (x1 : Int32) (x2 : Int32) (M : Mem) : Option (Int32 × Mem) := fT (fX11_batch x1 x2 M) fun k => if k = 2 then some ((-5000001 : Int32), M) else none
set_option maxRecDepth 100000 in
set_option maxHeartbeats 1000000 in
theorem cr_L_batch (l : Launch) (G : Gx) (n0 : Nat) {x1 : Int32} {x2 : Int32} {M : Mem} {r : Int32} {M' : Mem} (hf : fX11_batch x1 x2 M = some (Sum.inr (r, M'))) : CtV l yL_batch cL_batch 5 (some .int) hL_batch oL_batch G n0 [.ref (n0 + 0), .int x1, .int x2] M (some (.int r)) M' 0 := by
  refine ctv_int (k := 0) (cc := cL_batch) (maxL := 5) rfl (Nat.le_of_ble_eq_true rfl) ⟨rfl, rfl⟩ ?_
  intro K CC X hret
  have CC : ∀ a, a ≤ 0 → Ok (kc K a) l oL_batch cL_batch RL G n0 5 := CC
  have C := CC 0 (by omega)
  show J (kc K 0) M 0 [(0, .ref (n0 + 0)), (1, .int x1), (2, .int x2)] []
  refine j_aload_n C 0 dL_batch_0 rfl rfl ?_
  refine j_iload_n C 1 dL_batch_1 rfl rfl ?_
  refine j_iload_n C 2 dL_batch_2 rfl rfl ?_
  refine j_callV C 2 lc0 (ent_K _ _ _ _ _ _) rfl (c_X11_batch l G n0 hf) gv_RL_62 ⟨rfl, rfl⟩ (by decide +kernel) ⟨Nat.le_of_ble_eq_true rfl, Nat.le_of_ble_eq_true rfl⟩ rfl rfl (Nat.le_of_ble_eq_true rfl) dL_batch_3 ?_
  refine j_istore_n C [(3, .int r), (0, .ref (n0 + 0)), (1, .int x1), (2, .int x2)] dL_batch_6 rfl (Nat.le_of_ble_eq_true rfl) rfl ?_
  refine j_goto C 15 dL_batch_7 (by decide) ?_
  refine j_iload_n C 0 dL_batch_15 rfl rfl ?_
  exact hret _ _ 0 (by omega) dL_batch_16
set_option maxRecDepth 100000 in
set_option maxHeartbeats 1000000 in
theorem cs_L_batch (l : Launch) (G : Gx) (n0 : Nat) {x1 : Int32} {x2 : Int32} {M : Mem} {r : Int32} {M' : Mem} (hf : fX11_batch x1 x2 M = some (Sum.inr (r, M'))) : CtV l yL_batch cL_batch 5 (some .int) hL_batch rL_batch G n0 [.ref (n0 + 0), .int x1, .int x2] M (some (.int r)) M' 1 := by
  refine ctv_int (k := 1) (cc := cL_batch) (maxL := 5) rfl (Nat.le_of_ble_eq_true rfl) ⟨rfl, rfl⟩ ?_
  intro K CC X hret
  have CC : ∀ a, a ≤ 1 → Ok (kc K a) l rL_batch cL_batch RL G n0 5 := CC
  have C := CC 0 (by omega)
  show J (kc K 0) M 0 [(0, .ref (n0 + 0)), (1, .int x1), (2, .int x2)] []
  refine j_aload_n C 0 dL_batch_0 rfl rfl ?_
  refine j_iload_n C 1 dL_batch_1 rfl rfl ?_
  refine j_iload_n C 2 dL_batch_2 rfl rfl ?_
  refine j_callV C 2 lc0 (ent_K _ _ _ _ _ _) rfl (c_X11_batch l G n0 hf) gv_RL_62 ⟨rfl, rfl⟩ (by decide +kernel) ⟨Nat.le_of_ble_eq_true rfl, Nat.le_of_ble_eq_true rfl⟩ rfl rfl (Nat.le_of_ble_eq_true rfl) dL_batch_3 ?_
  refine j_istore_n C [(3, .int r), (0, .ref (n0 + 0)), (1, .int x1), (2, .int x2)] dL_batch_6 rfl (Nat.le_of_ble_eq_true rfl) rfl ?_
  refine j_goto C 15 dL_batch_7 (by decide) ?_
  refine j_iload_n C 0 dL_batch_15 rfl rfl ?_
  exact hret _ _ 0 (by omega) dL_batch_16
set_option maxRecDepth 100000 in
set_option maxHeartbeats 1000000 in
theorem ct_L_batch_2 (l : Launch) (hfl : l.stackTraces = false) (G : Gx) (n0 : Nat) {x1 : Int32} {x2 : Int32} {M : Mem} (hf : fX11_batch x1 x2 M = some (Sum.inl 2)) : CtV l yL_batch cL_batch 5 (some .int) hL_batch rL_batch G n0 [.ref (n0 + 0), .int x1, .int x2] M (some (.int (-5000001 : Int32))) M 1 := by
  refine ctv_int (k := 1) (cc := cL_batch) (maxL := 5) rfl (Nat.le_of_ble_eq_true rfl) ⟨rfl, rfl⟩ ?_
  intro K CC X hret
  have CC : ∀ a, a ≤ 1 → Ok (kc K a) l rL_batch cL_batch RL G n0 5 := CC
  have C := CC 0 (by omega)
  show J (kc K 0) M 0 [(0, .ref (n0 + 0)), (1, .int x1), (2, .int x2)] []
  refine j_aload_n C 0 dL_batch_0 rfl rfl ?_
  refine j_iload_n C 1 dL_batch_1 rfl rfl ?_
  refine j_iload_n C 2 dL_batch_2 rfl rfl ?_
  refine j_catchK (k := 2) (E := "java/lang/IllegalArgumentException") C X 2 (t_X11_batch l hfl G n0 hf) gv_RL_62 ⟨rfl, rfl⟩ (by decide +kernel) ⟨Nat.le_of_ble_eq_true rfl, Nat.le_of_ble_eq_true rfl⟩ (CC 1 (by omega)) rfl rfl (Nat.le_of_ble_eq_true rfl) rfl (by decide) [] ⟨0, 7, 10, 15⟩ [] rfl (fun z hz => absurd hz List.not_mem_nil) rfl (by decide) tw2_7 dL_batch_3 (fun q => ?_)
  have C2 := CC (0 + 1) (by omega)
  refine j_astore C2 [(4, .ref q), (0, .ref (n0 + 0)), (1, .int x1), (2, .int x2)] dL_batch_10 (by decide) rfl ?_
  refine j_ldc C2 tw2_176 dL_batch_12 ?_
  exact hret _ _ 1 (by omega) dL_batch_14
theorem cg_L_batch (l : Launch) (G : Gx) (n0 : Nat) {x1 : Int32} {x2 : Int32} {M : Mem} {r : Int32} {M' : Mem} (hf : gL_batch x1 x2 M = some (r, M')) : CtV l yL_batch cL_batch 5 (some .int) hL_batch oL_batch G n0 [.ref (n0 + 0), .int x1, .int x2] M (some (.int r)) M' 0 := cr_L_batch l G n0 (rT_some hf)
theorem cf_L_batch (l : Launch) (hfl : l.stackTraces = false) (G : Gx) (n0 : Nat) {x1 : Int32} {x2 : Int32} {M : Mem} {r : Int32} {M' : Mem} (hf : fL_batch x1 x2 M = some (r, M')) : CtV l yL_batch cL_batch 5 (some .int) hL_batch rL_batch G n0 [.ref (n0 + 0), .int x1, .int x2] M (some (.int r)) M' 1 := by
  rcases fT_some hf with h | ⟨k, h, hk⟩
  · exact cs_L_batch l G n0 h
  · by_cases h2 : k = 2
    · subst h2
      rw [if_pos rfl] at hk
      cases hk
      exact ct_L_batch_2 l hfl G n0 h
    · replace hk := ine h2 hk
      cases hk
abbrev hL_loaf : List (Nat × Nat × Nat × Nat) := [(0, 7, 10, 25), (0, 7, 15, 15)]
theorem cwL_loaf : Cond.codeWith yL_loaf cL_loaf 5 (some .int) hL_loaf ∈ TB := tbm3 83 rfl rfl
theorem gw_L_loaf_103 : GW RL 103 yL_loaf cL_loaf 5 (some .int) hL_loaf := ⟨tw3_81, tw3_82, tw1_0, cwL_loaf⟩
def rL_loaf : Room := { frames := 8, cells := 1, slots := 6, locals := 132 }
def oL_loaf : Room := { frames := 8, cells := 0, slots := 0, locals := 132 }
def gL_loaf (x1 : Int32) (x2 : Int32) (M : Mem) : Option Int32 := rT (fX11_loaf x1 x2 M)
def fL_loaf (x1 : Int32) (x2 : Int32) (M : Mem) : Option Int32 := fT (fX11_loaf x1 x2 M) fun k => if k = 1 then some (-5000003 : Int32) else if k = 2 then some (-5000001 : Int32) else none
set_option maxRecDepth 100000 in
set_option maxHeartbeats 1000000 in
theorem cr_L_loaf (l : Launch) (G : Gx) (n0 : Nat) {x1 : Int32} {x2 : Int32} {M : Mem} {r : Int32} (hf : fX11_loaf x1 x2 M = some (Sum.inr r)) : CtV l yL_loaf cL_loaf 5 (some .int) hL_loaf oL_loaf G n0 [.ref (n0 + 0), .int x1, .int x2] M (some (.int r)) M 0 := by
  refine ctv_int (k := 0) (cc := cL_loaf) (maxL := 5) rfl (Nat.le_of_ble_eq_true rfl) ⟨rfl, rfl⟩ ?_
  intro K CC X hret
  have CC : ∀ a, a ≤ 0 → Ok (kc K a) l oL_loaf cL_loaf RL G n0 5 := CC
  have C := CC 0 (by omega)
  show J (kc K 0) M 0 [(0, .ref (n0 + 0)), (1, .int x1), (2, .int x2)] []
  refine j_aload_n C 0 dL_loaf_0 rfl rfl ?_
  refine j_iload_n C 1 dL_loaf_1 rfl rfl ?_
  refine j_iload_n C 2 dL_loaf_2 rfl rfl ?_
  refine j_callV C 2 lc0 (ent_K _ _ _ _ _ _) rfl (c_X11_loaf l G n0 hf) gv_RL_65 ⟨rfl, rfl⟩ (by decide +kernel) ⟨Nat.le_of_ble_eq_true rfl, Nat.le_of_ble_eq_true rfl⟩ rfl rfl (Nat.le_of_ble_eq_true rfl) dL_loaf_3 ?_
  refine j_istore_n C [(3, .int r), (0, .ref (n0 + 0)), (1, .int x1), (2, .int x2)] dL_loaf_6 rfl (Nat.le_of_ble_eq_true rfl) rfl ?_
  refine j_goto C 20 dL_loaf_7 (by decide) ?_
  refine j_iload_n C 0 dL_loaf_20 rfl rfl ?_
  exact hret _ _ 0 (by omega) dL_loaf_21
set_option maxRecDepth 100000 in
set_option maxHeartbeats 1000000 in
theorem cs_L_loaf (l : Launch) (G : Gx) (n0 : Nat) {x1 : Int32} {x2 : Int32} {M : Mem} {r : Int32} (hf : fX11_loaf x1 x2 M = some (Sum.inr r)) : CtV l yL_loaf cL_loaf 5 (some .int) hL_loaf rL_loaf G n0 [.ref (n0 + 0), .int x1, .int x2] M (some (.int r)) M 1 := by
  refine ctv_int (k := 1) (cc := cL_loaf) (maxL := 5) rfl (Nat.le_of_ble_eq_true rfl) ⟨rfl, rfl⟩ ?_
  intro K CC X hret
  have CC : ∀ a, a ≤ 1 → Ok (kc K a) l rL_loaf cL_loaf RL G n0 5 := CC
  have C := CC 0 (by omega)
  show J (kc K 0) M 0 [(0, .ref (n0 + 0)), (1, .int x1), (2, .int x2)] []
  refine j_aload_n C 0 dL_loaf_0 rfl rfl ?_
  refine j_iload_n C 1 dL_loaf_1 rfl rfl ?_
  refine j_iload_n C 2 dL_loaf_2 rfl rfl ?_
  refine j_callV C 2 lc0 (ent_K _ _ _ _ _ _) rfl (c_X11_loaf l G n0 hf) gv_RL_65 ⟨rfl, rfl⟩ (by decide +kernel) ⟨Nat.le_of_ble_eq_true rfl, Nat.le_of_ble_eq_true rfl⟩ rfl rfl (Nat.le_of_ble_eq_true rfl) dL_loaf_3 ?_
  refine j_istore_n C [(3, .int r), (0, .ref (n0 + 0)), (1, .int x1), (2, .int x2)] dL_loaf_6 rfl (Nat.le_of_ble_eq_true rfl) rfl ?_
  refine j_goto C 20 dL_loaf_7 (by decide) ?_
  refine j_iload_n C 0 dL_loaf_20 rfl rfl ?_
  exact hret _ _ 0 (by omega) dL_loaf_21
set_option maxRecDepth 100000 in
set_option maxHeartbeats 1000000 in
theorem ct_L_loaf_1 (l : Launch) (hfl : l.stackTraces = false) (G : Gx) (n0 : Nat) {x1 : Int32} {x2 : Int32} {M : Mem} (hf : fX11_loaf x1 x2 M = some (Sum.inl 1)) : CtV l yL_loaf cL_loaf 5 (some .int) hL_loaf rL_loaf G n0 [.ref (n0 + 0), .int x1, .int x2] M (some (.int (-5000003 : Int32))) M 1 := by
  refine ctv_int (k := 1) (cc := cL_loaf) (maxL := 5) rfl (Nat.le_of_ble_eq_true rfl) ⟨rfl, rfl⟩ ?_
  intro K CC X hret
  have CC : ∀ a, a ≤ 1 → Ok (kc K a) l rL_loaf cL_loaf RL G n0 5 := CC
  have C := CC 0 (by omega)
  show J (kc K 0) M 0 [(0, .ref (n0 + 0)), (1, .int x1), (2, .int x2)] []
  refine j_aload_n C 0 dL_loaf_0 rfl rfl ?_
  refine j_iload_n C 1 dL_loaf_1 rfl rfl ?_
  refine j_iload_n C 2 dL_loaf_2 rfl rfl ?_
  refine j_catchK (k := 1) (E := "java/lang/IndexOutOfBoundsException") C X 2 (t_X11_loaf l hfl G n0 hf) gv_RL_65 ⟨rfl, rfl⟩ (by decide +kernel) ⟨Nat.le_of_ble_eq_true rfl, Nat.le_of_ble_eq_true rfl⟩ (CC 1 (by omega)) rfl rfl (Nat.le_of_ble_eq_true rfl) rfl (by decide) [] ⟨0, 7, 10, 25⟩ [⟨0, 7, 15, 15⟩] rfl (fun z hz => absurd hz List.not_mem_nil) rfl (by decide) tw2_236 dL_loaf_3 (fun q => ?_)
  have C2 := CC (0 + 1) (by omega)
  refine j_astore C2 [(4, .ref q), (0, .ref (n0 + 0)), (1, .int x1), (2, .int x2)] dL_loaf_10 (by decide) rfl ?_
  refine j_ldc C2 tw3_24 dL_loaf_12 ?_
  exact hret _ _ 1 (by omega) dL_loaf_14
set_option maxRecDepth 100000 in
set_option maxHeartbeats 1000000 in
theorem ct_L_loaf_2 (l : Launch) (hfl : l.stackTraces = false) (G : Gx) (n0 : Nat) {x1 : Int32} {x2 : Int32} {M : Mem} (hf : fX11_loaf x1 x2 M = some (Sum.inl 2)) : CtV l yL_loaf cL_loaf 5 (some .int) hL_loaf rL_loaf G n0 [.ref (n0 + 0), .int x1, .int x2] M (some (.int (-5000001 : Int32))) M 1 := by
  refine ctv_int (k := 1) (cc := cL_loaf) (maxL := 5) rfl (Nat.le_of_ble_eq_true rfl) ⟨rfl, rfl⟩ ?_
  intro K CC X hret
  have CC : ∀ a, a ≤ 1 → Ok (kc K a) l rL_loaf cL_loaf RL G n0 5 := CC
  have C := CC 0 (by omega)
  show J (kc K 0) M 0 [(0, .ref (n0 + 0)), (1, .int x1), (2, .int x2)] []
  refine j_aload_n C 0 dL_loaf_0 rfl rfl ?_
  refine j_iload_n C 1 dL_loaf_1 rfl rfl ?_
  refine j_iload_n C 2 dL_loaf_2 rfl rfl ?_
  refine j_catchK (k := 2) (E := "java/lang/IllegalArgumentException") C X 2 (t_X11_loaf l hfl G n0 hf) gv_RL_65 ⟨rfl, rfl⟩ (by decide +kernel) ⟨Nat.le_of_ble_eq_true rfl, Nat.le_of_ble_eq_true rfl⟩ (CC 1 (by omega)) rfl rfl (Nat.le_of_ble_eq_true rfl) rfl (by decide) [⟨0, 7, 10, 25⟩] ⟨0, 7, 15, 15⟩ [] rfl (List.forall_mem_cons.mpr ⟨⟨by decide, "java/lang/IndexOutOfBoundsException", tw2_236, by decide, by decide⟩, fun _ h => absurd h List.not_mem_nil⟩) rfl (by decide) tw2_7 dL_loaf_3 (fun q => ?_)
  have C2 := CC (0 + 1) (by omega)
  refine j_astore C2 [(4, .ref q), (0, .ref (n0 + 0)), (1, .int x1), (2, .int x2)] dL_loaf_15 (by decide) rfl ?_
  refine j_ldc C2 tw2_176 dL_loaf_17 ?_
  exact hret _ _ 1 (by omega) dL_loaf_19
theorem cg_L_loaf (l : Launch) (G : Gx) (n0 : Nat) {x1 : Int32} {x2 : Int32} {M : Mem} {r : Int32} (hf : gL_loaf x1 x2 M = some r) : CtV l yL_loaf cL_loaf 5 (some .int) hL_loaf oL_loaf G n0 [.ref (n0 + 0), .int x1, .int x2] M (some (.int r)) M 0 := cr_L_loaf l G n0 (rT_some hf)
theorem cf_L_loaf (l : Launch) (hfl : l.stackTraces = false) (G : Gx) (n0 : Nat) {x1 : Int32} {x2 : Int32} {M : Mem} {r : Int32} (hf : fL_loaf x1 x2 M = some r) : CtV l yL_loaf cL_loaf 5 (some .int) hL_loaf rL_loaf G n0 [.ref (n0 + 0), .int x1, .int x2] M (some (.int r)) M 1 := by
  rcases fT_some hf with h | ⟨k, h, hk⟩
  · exact cs_L_loaf l G n0 h
  · by_cases h1 : k = 1
    · subst h1
      rw [if_pos rfl] at hk
      cases hk
      exact ct_L_loaf_1 l hfl G n0 h
    · replace hk := ine h1 hk
      by_cases h2 : k = 2
      · subst h2
        rw [if_pos rfl] at hk
        cases hk
        exact ct_L_loaf_2 l hfl G n0 h
      · replace hk := ine h2 hk
        cases hk
abbrev hL_load : List (Nat × Nat × Nat × Nat) := [(0, 7, 10, 15)]
theorem cwL_load : Cond.codeWith yL_load cL_load 5 (some .int) hL_load ∈ TB := tbm3 71 rfl rfl
theorem gw_L_load_101 : GW RL 101 yL_load cL_load 5 (some .int) hL_load := ⟨tw3_69, tw3_70, tw1_0, cwL_load⟩
def rL_load : Room := { frames := 8, cells := 1, slots := 6, locals := 132 }
def oL_load : Room := { frames := 8, cells := 0, slots := 0, locals := 132 }
def gL_load (x1 : Int32) (x2 : Int32) (M : Mem) : Option Int32 := rT (fX11_load x1 x2 M)
def fL_load (x1 : Int32) (x2 : Int32) (M : Mem) : Option Int32 := fT (fX11_load x1 x2 M) fun k => if k = 2 then some (-5000001 : Int32) else none
set_option maxRecDepth 100000 in
set_option maxHeartbeats 1000000 in
theorem cr_L_load (l : Launch) (G : Gx) (n0 : Nat) {x1 : Int32} {x2 : Int32} {M : Mem} {r : Int32} (hf : fX11_load x1 x2 M = some (Sum.inr r)) : CtV l yL_load cL_load 5 (some .int) hL_load oL_load G n0 [.ref (n0 + 0), .int x1, .int x2] M (some (.int r)) M 0 := by
  refine ctv_int (k := 0) (cc := cL_load) (maxL := 5) rfl (Nat.le_of_ble_eq_true rfl) ⟨rfl, rfl⟩ ?_
  intro K CC X hret
  have CC : ∀ a, a ≤ 0 → Ok (kc K a) l oL_load cL_load RL G n0 5 := CC
  have C := CC 0 (by omega)
  show J (kc K 0) M 0 [(0, .ref (n0 + 0)), (1, .int x1), (2, .int x2)] []
  refine j_aload_n C 0 dL_load_0 rfl rfl ?_
  refine j_iload_n C 1 dL_load_1 rfl rfl ?_
  refine j_iload_n C 2 dL_load_2 rfl rfl ?_
  refine j_callV C 2 lc0 (ent_K _ _ _ _ _ _) rfl (c_X11_load l G n0 hf) gv_RL_68 ⟨rfl, rfl⟩ (by decide +kernel) ⟨Nat.le_of_ble_eq_true rfl, Nat.le_of_ble_eq_true rfl⟩ rfl rfl (Nat.le_of_ble_eq_true rfl) dL_load_3 ?_
  refine j_istore_n C [(3, .int r), (0, .ref (n0 + 0)), (1, .int x1), (2, .int x2)] dL_load_6 rfl (Nat.le_of_ble_eq_true rfl) rfl ?_
  refine j_goto C 15 dL_load_7 (by decide) ?_
  refine j_iload_n C 0 dL_load_15 rfl rfl ?_
  exact hret _ _ 0 (by omega) dL_load_16
set_option maxRecDepth 100000 in
set_option maxHeartbeats 1000000 in
theorem cs_L_load (l : Launch) (G : Gx) (n0 : Nat) {x1 : Int32} {x2 : Int32} {M : Mem} {r : Int32} (hf : fX11_load x1 x2 M = some (Sum.inr r)) : CtV l yL_load cL_load 5 (some .int) hL_load rL_load G n0 [.ref (n0 + 0), .int x1, .int x2] M (some (.int r)) M 1 := by
  refine ctv_int (k := 1) (cc := cL_load) (maxL := 5) rfl (Nat.le_of_ble_eq_true rfl) ⟨rfl, rfl⟩ ?_
  intro K CC X hret
  have CC : ∀ a, a ≤ 1 → Ok (kc K a) l rL_load cL_load RL G n0 5 := CC
  have C := CC 0 (by omega)
  show J (kc K 0) M 0 [(0, .ref (n0 + 0)), (1, .int x1), (2, .int x2)] []
  refine j_aload_n C 0 dL_load_0 rfl rfl ?_
  refine j_iload_n C 1 dL_load_1 rfl rfl ?_
  refine j_iload_n C 2 dL_load_2 rfl rfl ?_
  refine j_callV C 2 lc0 (ent_K _ _ _ _ _ _) rfl (c_X11_load l G n0 hf) gv_RL_68 ⟨rfl, rfl⟩ (by decide +kernel) ⟨Nat.le_of_ble_eq_true rfl, Nat.le_of_ble_eq_true rfl⟩ rfl rfl (Nat.le_of_ble_eq_true rfl) dL_load_3 ?_
  refine j_istore_n C [(3, .int r), (0, .ref (n0 + 0)), (1, .int x1), (2, .int x2)] dL_load_6 rfl (Nat.le_of_ble_eq_true rfl) rfl ?_
  refine j_goto C 15 dL_load_7 (by decide) ?_
  refine j_iload_n C 0 dL_load_15 rfl rfl ?_
  exact hret _ _ 0 (by omega) dL_load_16
set_option maxRecDepth 100000 in
set_option maxHeartbeats 1000000 in
theorem ct_L_load_2 (l : Launch) (hfl : l.stackTraces = false) (G : Gx) (n0 : Nat) {x1 : Int32} {x2 : Int32} {M : Mem} (hf : fX11_load x1 x2 M = some (Sum.inl 2)) : CtV l yL_load cL_load 5 (some .int) hL_load rL_load G n0 [.ref (n0 + 0), .int x1, .int x2] M (some (.int (-5000001 : Int32))) M 1 := by
  refine ctv_int (k := 1) (cc := cL_load) (maxL := 5) rfl (Nat.le_of_ble_eq_true rfl) ⟨rfl, rfl⟩ ?_
  intro K CC X hret
  have CC : ∀ a, a ≤ 1 → Ok (kc K a) l rL_load cL_load RL G n0 5 := CC
  have C := CC 0 (by omega)
  show J (kc K 0) M 0 [(0, .ref (n0 + 0)), (1, .int x1), (2, .int x2)] []
  refine j_aload_n C 0 dL_load_0 rfl rfl ?_
  refine j_iload_n C 1 dL_load_1 rfl rfl ?_
  refine j_iload_n C 2 dL_load_2 rfl rfl ?_
  refine j_catchK (k := 2) (E := "java/lang/IllegalArgumentException") C X 2 (t_X11_load l hfl G n0 hf) gv_RL_68 ⟨rfl, rfl⟩ (by decide +kernel) ⟨Nat.le_of_ble_eq_true rfl, Nat.le_of_ble_eq_true rfl⟩ (CC 1 (by omega)) rfl rfl (Nat.le_of_ble_eq_true rfl) rfl (by decide) [] ⟨0, 7, 10, 15⟩ [] rfl (fun z hz => absurd hz List.not_mem_nil) rfl (by decide) tw2_7 dL_load_3 (fun q => ?_)
  have C2 := CC (0 + 1) (by omega)
  refine j_astore C2 [(4, .ref q), (0, .ref (n0 + 0)), (1, .int x1), (2, .int x2)] dL_load_10 (by decide) rfl ?_
  refine j_ldc C2 tw2_176 dL_load_12 ?_
  exact hret _ _ 1 (by omega) dL_load_14
theorem cg_L_load (l : Launch) (G : Gx) (n0 : Nat) {x1 : Int32} {x2 : Int32} {M : Mem} {r : Int32} (hf : gL_load x1 x2 M = some r) : CtV l yL_load cL_load 5 (some .int) hL_load oL_load G n0 [.ref (n0 + 0), .int x1, .int x2] M (some (.int r)) M 0 := cr_L_load l G n0 (rT_some hf)
theorem cf_L_load (l : Launch) (hfl : l.stackTraces = false) (G : Gx) (n0 : Nat) {x1 : Int32} {x2 : Int32} {M : Mem} {r : Int32} (hf : fL_load x1 x2 M = some r) : CtV l yL_load cL_load 5 (some .int) hL_load rL_load G n0 [.ref (n0 + 0), .int x1, .int x2] M (some (.int r)) M 1 := by
  rcases fT_some hf with h | ⟨k, h, hk⟩
  · exact cs_L_load l G n0 h
  · by_cases h2 : k = 2
    · subst h2
      rw [if_pos rfl] at hk
      cases hk
      exact ct_L_load_2 l hfl G n0 h
    · replace hk := ine h2 hk
      cases hk
abbrev hL_whole : List (Nat × Nat × Nat × Nat) := [(0, 6, 9, 15)]
theorem cwL_whole : Cond.codeWith yL_whole cL_whole 4 (some .int) hL_whole ∈ TB := tbm2 6 rfl rfl
theorem gw_L_whole_91 : GW RL 91 yL_whole cL_whole 4 (some .int) hL_whole := ⟨tw2_4, tw2_5, tw1_0, cwL_whole⟩
def rL_whole : Room := { frames := 8, cells := 1, slots := 6, locals := 131 }
def oL_whole : Room := { frames := 8, cells := 0, slots := 0, locals := 131 }
def gL_whole (x1 : Int32) (M : Mem) : Option Int32 := rT (fX11_whole x1 M)
def fL_whole (x1 : Int32) (M : Mem) : Option Int32 := fT (fX11_whole x1 M) fun k => if k = 2 then some (-5000001 : Int32) else none
set_option maxRecDepth 100000 in
set_option maxHeartbeats 1000000 in
theorem cr_L_whole (l : Launch) (G : Gx) (n0 : Nat) {x1 : Int32} {M : Mem} {r : Int32} (hf : fX11_whole x1 M = some (Sum.inr r)) : CtV l yL_whole cL_whole 4 (some .int) hL_whole oL_whole G n0 [.ref (n0 + 0), .int x1] M (some (.int r)) M 0 := by
  refine ctv_int (k := 0) (cc := cL_whole) (maxL := 4) rfl (Nat.le_of_ble_eq_true rfl) ⟨rfl, rfl⟩ ?_
  intro K CC X hret
  have CC : ∀ a, a ≤ 0 → Ok (kc K a) l oL_whole cL_whole RL G n0 4 := CC
  have C := CC 0 (by omega)
  show J (kc K 0) M 0 [(0, .ref (n0 + 0)), (1, .int x1)] []
  refine j_aload_n C 0 dL_whole_0 rfl rfl ?_
  refine j_iload_n C 1 dL_whole_1 rfl rfl ?_
  refine j_callV C 1 lc0 (ent_K _ _ _ _ _ _) rfl (c_X11_whole l G n0 hf) gv_RL_71 ⟨rfl, rfl⟩ (by decide +kernel) ⟨Nat.le_of_ble_eq_true rfl, Nat.le_of_ble_eq_true rfl⟩ rfl rfl (Nat.le_of_ble_eq_true rfl) dL_whole_2 ?_
  refine j_istore_n C [(2, .int r), (0, .ref (n0 + 0)), (1, .int x1)] dL_whole_5 rfl (Nat.le_of_ble_eq_true rfl) rfl ?_
  refine j_goto C 13 dL_whole_6 (by decide) ?_
  refine j_iload_n C 0 dL_whole_13 rfl rfl ?_
  exact hret _ _ 0 (by omega) dL_whole_14
set_option maxRecDepth 100000 in
set_option maxHeartbeats 1000000 in
theorem cs_L_whole (l : Launch) (G : Gx) (n0 : Nat) {x1 : Int32} {M : Mem} {r : Int32} (hf : fX11_whole x1 M = some (Sum.inr r)) : CtV l yL_whole cL_whole 4 (some .int) hL_whole rL_whole G n0 [.ref (n0 + 0), .int x1] M (some (.int r)) M 1 := by
  refine ctv_int (k := 1) (cc := cL_whole) (maxL := 4) rfl (Nat.le_of_ble_eq_true rfl) ⟨rfl, rfl⟩ ?_
  intro K CC X hret
  have CC : ∀ a, a ≤ 1 → Ok (kc K a) l rL_whole cL_whole RL G n0 4 := CC
  have C := CC 0 (by omega)
  show J (kc K 0) M 0 [(0, .ref (n0 + 0)), (1, .int x1)] []
  refine j_aload_n C 0 dL_whole_0 rfl rfl ?_
  refine j_iload_n C 1 dL_whole_1 rfl rfl ?_
  refine j_callV C 1 lc0 (ent_K _ _ _ _ _ _) rfl (c_X11_whole l G n0 hf) gv_RL_71 ⟨rfl, rfl⟩ (by decide +kernel) ⟨Nat.le_of_ble_eq_true rfl, Nat.le_of_ble_eq_true rfl⟩ rfl rfl (Nat.le_of_ble_eq_true rfl) dL_whole_2 ?_
  refine j_istore_n C [(2, .int r), (0, .ref (n0 + 0)), (1, .int x1)] dL_whole_5 rfl (Nat.le_of_ble_eq_true rfl) rfl ?_
  refine j_goto C 13 dL_whole_6 (by decide) ?_
  refine j_iload_n C 0 dL_whole_13 rfl rfl ?_
  exact hret _ _ 0 (by omega) dL_whole_14
set_option maxRecDepth 100000 in
set_option maxHeartbeats 1000000 in
theorem ct_L_whole_2 (l : Launch) (hfl : l.stackTraces = false) (G : Gx) (n0 : Nat) {x1 : Int32} {M : Mem} (hf : fX11_whole x1 M = some (Sum.inl 2)) : CtV l yL_whole cL_whole 4 (some .int) hL_whole rL_whole G n0 [.ref (n0 + 0), .int x1] M (some (.int (-5000001 : Int32))) M 1 := by
  refine ctv_int (k := 1) (cc := cL_whole) (maxL := 4) rfl (Nat.le_of_ble_eq_true rfl) ⟨rfl, rfl⟩ ?_
  intro K CC X hret
  have CC : ∀ a, a ≤ 1 → Ok (kc K a) l rL_whole cL_whole RL G n0 4 := CC
  have C := CC 0 (by omega)
  show J (kc K 0) M 0 [(0, .ref (n0 + 0)), (1, .int x1)] []
  refine j_aload_n C 0 dL_whole_0 rfl rfl ?_
  refine j_iload_n C 1 dL_whole_1 rfl rfl ?_
  refine j_catchK (k := 2) (E := "java/lang/IllegalArgumentException") C X 1 (t_X11_whole l hfl G n0 hf) gv_RL_71 ⟨rfl, rfl⟩ (by decide +kernel) ⟨Nat.le_of_ble_eq_true rfl, Nat.le_of_ble_eq_true rfl⟩ (CC 1 (by omega)) rfl rfl (Nat.le_of_ble_eq_true rfl) rfl (by decide) [] ⟨0, 6, 9, 15⟩ [] rfl (fun z hz => absurd hz List.not_mem_nil) rfl (by decide) tw2_7 dL_whole_2 (fun q => ?_)
  have C2 := CC (0 + 1) (by omega)
  refine j_astore_n C2 [(3, .ref q), (0, .ref (n0 + 0)), (1, .int x1)] dL_whole_9 rfl (by decide) rfl ?_
  refine j_ldc C2 tw2_176 dL_whole_10 ?_
  exact hret _ _ 1 (by omega) dL_whole_12
theorem cg_L_whole (l : Launch) (G : Gx) (n0 : Nat) {x1 : Int32} {M : Mem} {r : Int32} (hf : gL_whole x1 M = some r) : CtV l yL_whole cL_whole 4 (some .int) hL_whole oL_whole G n0 [.ref (n0 + 0), .int x1] M (some (.int r)) M 0 := cr_L_whole l G n0 (rT_some hf)
theorem cf_L_whole (l : Launch) (hfl : l.stackTraces = false) (G : Gx) (n0 : Nat) {x1 : Int32} {M : Mem} {r : Int32} (hf : fL_whole x1 M = some r) : CtV l yL_whole cL_whole 4 (some .int) hL_whole rL_whole G n0 [.ref (n0 + 0), .int x1] M (some (.int r)) M 1 := by
  rcases fT_some hf with h | ⟨k, h, hk⟩
  · exact cs_L_whole l G n0 h
  · by_cases h2 : k = 2
    · subst h2
      rw [if_pos rfl] at hk
      cases hk
      exact ct_L_whole_2 l hfl G n0 h
    · replace hk := ine h2 hk
      cases hk
abbrev hL_doughWith : List (Nat × Nat × Nat × Nat) := [(0, 6, 9, 15)]
theorem cwL_doughWith : Cond.codeWith yL_doughWith cL_doughWith 4 (some .int) hL_doughWith ∈ TB := tbm4 172 rfl rfl
theorem gw_L_doughWith_133 : GW RL 133 yL_doughWith cL_doughWith 4 (some .int) hL_doughWith := ⟨tw4_170, tw4_171, tw1_0, cwL_doughWith⟩
def rL_doughWith : Room := { frames := 8, cells := 1, slots := 6, locals := 142 }
def oL_doughWith : Room := { frames := 8, cells := 0, slots := 0, locals := 142 }
def gL_doughWith (x1 : Int32) (M : Mem) : Option (Int32 × Mem) := rT (fX11_doughWith x1 M)
def fL_doughWith (x1 : Int32) (M : Mem) : Option (Int32 × Mem) := fT (fX11_doughWith x1 M) fun k => if k = 2 then some ((-5000001 : Int32), M) else none
set_option maxRecDepth 100000 in
set_option maxHeartbeats 1000000 in
theorem cr_L_doughWith (l : Launch) (G : Gx) (n0 : Nat) {x1 : Int32} {M : Mem} {r : Int32} {M' : Mem} (hf : fX11_doughWith x1 M = some (Sum.inr (r, M'))) : CtV l yL_doughWith cL_doughWith 4 (some .int) hL_doughWith oL_doughWith G n0 [.ref (n0 + 0), .int x1] M (some (.int r)) M' 0 := by
  refine ctv_int (k := 0) (cc := cL_doughWith) (maxL := 4) rfl (Nat.le_of_ble_eq_true rfl) ⟨rfl, rfl⟩ ?_
  intro K CC X hret
  have CC : ∀ a, a ≤ 0 → Ok (kc K a) l oL_doughWith cL_doughWith RL G n0 4 := CC
  have C := CC 0 (by omega)
  show J (kc K 0) M 0 [(0, .ref (n0 + 0)), (1, .int x1)] []
  refine j_aload_n C 0 dL_doughWith_0 rfl rfl ?_
  refine j_iload_n C 1 dL_doughWith_1 rfl rfl ?_
  refine j_callV C 1 lc0 (ent_K _ _ _ _ _ _) rfl (c_X11_doughWith l G n0 hf) gv_RL_74 ⟨rfl, rfl⟩ (by decide +kernel) ⟨Nat.le_of_ble_eq_true rfl, Nat.le_of_ble_eq_true rfl⟩ rfl rfl (Nat.le_of_ble_eq_true rfl) dL_doughWith_2 ?_
  refine j_istore_n C [(2, .int r), (0, .ref (n0 + 0)), (1, .int x1)] dL_doughWith_5 rfl (Nat.le_of_ble_eq_true rfl) rfl ?_
  refine j_goto C 13 dL_doughWith_6 (by decide) ?_
  refine j_iload_n C 0 dL_doughWith_13 rfl rfl ?_
  exact hret _ _ 0 (by omega) dL_doughWith_14
set_option maxRecDepth 100000 in
set_option maxHeartbeats 1000000 in
theorem cs_L_doughWith (l : Launch) (G : Gx) (n0 : Nat) {x1 : Int32} {M : Mem} {r : Int32} {M' : Mem} (hf : fX11_doughWith x1 M = some (Sum.inr (r, M'))) : CtV l yL_doughWith cL_doughWith 4 (some .int) hL_doughWith rL_doughWith G n0 [.ref (n0 + 0), .int x1] M (some (.int r)) M' 1 := by
  refine ctv_int (k := 1) (cc := cL_doughWith) (maxL := 4) rfl (Nat.le_of_ble_eq_true rfl) ⟨rfl, rfl⟩ ?_
  intro K CC X hret
  have CC : ∀ a, a ≤ 1 → Ok (kc K a) l rL_doughWith cL_doughWith RL G n0 4 := CC
  have C := CC 0 (by omega)
  show J (kc K 0) M 0 [(0, .ref (n0 + 0)), (1, .int x1)] []
  refine j_aload_n C 0 dL_doughWith_0 rfl rfl ?_
  refine j_iload_n C 1 dL_doughWith_1 rfl rfl ?_
  refine j_callV C 1 lc0 (ent_K _ _ _ _ _ _) rfl (c_X11_doughWith l G n0 hf) gv_RL_74 ⟨rfl, rfl⟩ (by decide +kernel) ⟨Nat.le_of_ble_eq_true rfl, Nat.le_of_ble_eq_true rfl⟩ rfl rfl (Nat.le_of_ble_eq_true rfl) dL_doughWith_2 ?_
  refine j_istore_n C [(2, .int r), (0, .ref (n0 + 0)), (1, .int x1)] dL_doughWith_5 rfl (Nat.le_of_ble_eq_true rfl) rfl ?_
  refine j_goto C 13 dL_doughWith_6 (by decide) ?_
  refine j_iload_n C 0 dL_doughWith_13 rfl rfl ?_
  exact hret _ _ 0 (by omega) dL_doughWith_14
set_option maxRecDepth 100000 in
set_option maxHeartbeats 1000000 in
theorem ct_L_doughWith_2 (l : Launch) (hfl : l.stackTraces = false) (G : Gx) (n0 : Nat) {x1 : Int32} {M : Mem} (hf : fX11_doughWith x1 M = some (Sum.inl 2)) : CtV l yL_doughWith cL_doughWith 4 (some .int) hL_doughWith rL_doughWith G n0 [.ref (n0 + 0), .int x1] M (some (.int (-5000001 : Int32))) M 1 := by
  refine ctv_int (k := 1) (cc := cL_doughWith) (maxL := 4) rfl (Nat.le_of_ble_eq_true rfl) ⟨rfl, rfl⟩ ?_
  intro K CC X hret
  have CC : ∀ a, a ≤ 1 → Ok (kc K a) l rL_doughWith cL_doughWith RL G n0 4 := CC
  have C := CC 0 (by omega)
  show J (kc K 0) M 0 [(0, .ref (n0 + 0)), (1, .int x1)] []
  refine j_aload_n C 0 dL_doughWith_0 rfl rfl ?_
  refine j_iload_n C 1 dL_doughWith_1 rfl rfl ?_
  refine j_catchK (k := 2) (E := "java/lang/IllegalArgumentException") C X 1 (t_X11_doughWith l hfl G n0 hf) gv_RL_74 ⟨rfl, rfl⟩ (by decide +kernel) ⟨Nat.le_of_ble_eq_true rfl, Nat.le_of_ble_eq_true rfl⟩ (CC 1 (by omega)) rfl rfl (Nat.le_of_ble_eq_true rfl) rfl (by decide) [] ⟨0, 6, 9, 15⟩ [] rfl (fun z hz => absurd hz List.not_mem_nil) rfl (by decide) tw2_7 dL_doughWith_2 (fun q => ?_)
  have C2 := CC (0 + 1) (by omega)
  refine j_astore_n C2 [(3, .ref q), (0, .ref (n0 + 0)), (1, .int x1)] dL_doughWith_9 rfl (by decide) rfl ?_
  refine j_ldc C2 tw2_176 dL_doughWith_10 ?_
  exact hret _ _ 1 (by omega) dL_doughWith_12
theorem cg_L_doughWith (l : Launch) (G : Gx) (n0 : Nat) {x1 : Int32} {M : Mem} {r : Int32} {M' : Mem} (hf : gL_doughWith x1 M = some (r, M')) : CtV l yL_doughWith cL_doughWith 4 (some .int) hL_doughWith oL_doughWith G n0 [.ref (n0 + 0), .int x1] M (some (.int r)) M' 0 := cr_L_doughWith l G n0 (rT_some hf)
theorem cf_L_doughWith (l : Launch) (hfl : l.stackTraces = false) (G : Gx) (n0 : Nat) {x1 : Int32} {M : Mem} {r : Int32} {M' : Mem} (hf : fL_doughWith x1 M = some (r, M')) : CtV l yL_doughWith cL_doughWith 4 (some .int) hL_doughWith rL_doughWith G n0 [.ref (n0 + 0), .int x1] M (some (.int r)) M' 1 := by
  rcases fT_some hf with h | ⟨k, h, hk⟩
  · exact cs_L_doughWith l G n0 h
  · by_cases h2 : k = 2
    · subst h2
      rw [if_pos rfl] at hk
      cases hk
      exact ct_L_doughWith_2 l hfl G n0 h
    · replace hk := ine h2 hk
      cases hk
abbrev hL_freeMark : List (Nat × Nat × Nat × Nat) := [(0, 6, 9, 15)]
theorem cwL_freeMark : Cond.codeWith yL_freeMark cL_freeMark 4 (some .int) hL_freeMark ∈ TB := tbm4 186 rfl rfl
theorem gw_L_freeMark_135 : GW RL 135 yL_freeMark cL_freeMark 4 (some .int) hL_freeMark := ⟨tw4_184, tw4_185, tw1_0, cwL_freeMark⟩
def rL_freeMark : Room := { frames := 8, cells := 1, slots := 6, locals := 133 }
def oL_freeMark : Room := { frames := 8, cells := 0, slots := 0, locals := 133 }
def gL_freeMark (x1 : Int32) (M : Mem) : Option Int32 := rT (fX11_freeMark x1 M)
def fL_freeMark (x1 : Int32) (M : Mem) : Option Int32 := fT (fX11_freeMark x1 M) fun k => if k = 2 then some (-5000001 : Int32) else none
set_option maxRecDepth 100000 in
set_option maxHeartbeats 1000000 in
theorem cr_L_freeMark (l : Launch) (G : Gx) (n0 : Nat) {x1 : Int32} {M : Mem} {r : Int32} (hf : fX11_freeMark x1 M = some (Sum.inr r)) : CtV l yL_freeMark cL_freeMark 4 (some .int) hL_freeMark oL_freeMark G n0 [.ref (n0 + 0), .int x1] M (some (.int r)) M 0 := by
  refine ctv_int (k := 0) (cc := cL_freeMark) (maxL := 4) rfl (Nat.le_of_ble_eq_true rfl) ⟨rfl, rfl⟩ ?_
  intro K CC X hret
  have CC : ∀ a, a ≤ 0 → Ok (kc K a) l oL_freeMark cL_freeMark RL G n0 4 := CC
  have C := CC 0 (by omega)
  show J (kc K 0) M 0 [(0, .ref (n0 + 0)), (1, .int x1)] []
  refine j_aload_n C 0 dL_freeMark_0 rfl rfl ?_
  refine j_iload_n C 1 dL_freeMark_1 rfl rfl ?_
  refine j_callV C 1 lc0 (ent_K _ _ _ _ _ _) rfl (c_X11_freeMark l G n0 hf) gv_RL_77 ⟨rfl, rfl⟩ (by decide +kernel) ⟨Nat.le_of_ble_eq_true rfl, Nat.le_of_ble_eq_true rfl⟩ rfl rfl (Nat.le_of_ble_eq_true rfl) dL_freeMark_2 ?_
  refine j_istore_n C [(2, .int r), (0, .ref (n0 + 0)), (1, .int x1)] dL_freeMark_5 rfl (Nat.le_of_ble_eq_true rfl) rfl ?_
  refine j_goto C 13 dL_freeMark_6 (by decide) ?_
  refine j_iload_n C 0 dL_freeMark_13 rfl rfl ?_
  exact hret _ _ 0 (by omega) dL_freeMark_14
set_option maxRecDepth 100000 in
set_option maxHeartbeats 1000000 in
theorem cs_L_freeMark (l : Launch) (G : Gx) (n0 : Nat) {x1 : Int32} {M : Mem} {r : Int32} (hf : fX11_freeMark x1 M = some (Sum.inr r)) : CtV l yL_freeMark cL_freeMark 4 (some .int) hL_freeMark rL_freeMark G n0 [.ref (n0 + 0), .int x1] M (some (.int r)) M 1 := by
  refine ctv_int (k := 1) (cc := cL_freeMark) (maxL := 4) rfl (Nat.le_of_ble_eq_true rfl) ⟨rfl, rfl⟩ ?_
  intro K CC X hret
  have CC : ∀ a, a ≤ 1 → Ok (kc K a) l rL_freeMark cL_freeMark RL G n0 4 := CC
  have C := CC 0 (by omega)
  show J (kc K 0) M 0 [(0, .ref (n0 + 0)), (1, .int x1)] []
  refine j_aload_n C 0 dL_freeMark_0 rfl rfl ?_
  refine j_iload_n C 1 dL_freeMark_1 rfl rfl ?_
  refine j_callV C 1 lc0 (ent_K _ _ _ _ _ _) rfl (c_X11_freeMark l G n0 hf) gv_RL_77 ⟨rfl, rfl⟩ (by decide +kernel) ⟨Nat.le_of_ble_eq_true rfl, Nat.le_of_ble_eq_true rfl⟩ rfl rfl (Nat.le_of_ble_eq_true rfl) dL_freeMark_2 ?_
  refine j_istore_n C [(2, .int r), (0, .ref (n0 + 0)), (1, .int x1)] dL_freeMark_5 rfl (Nat.le_of_ble_eq_true rfl) rfl ?_
  refine j_goto C 13 dL_freeMark_6 (by decide) ?_
  refine j_iload_n C 0 dL_freeMark_13 rfl rfl ?_
  exact hret _ _ 0 (by omega) dL_freeMark_14
set_option maxRecDepth 100000 in
set_option maxHeartbeats 1000000 in
theorem ct_L_freeMark_2 (l : Launch) (hfl : l.stackTraces = false) (G : Gx) (n0 : Nat) {x1 : Int32} {M : Mem} (hf : fX11_freeMark x1 M = some (Sum.inl 2)) : CtV l yL_freeMark cL_freeMark 4 (some .int) hL_freeMark rL_freeMark G n0 [.ref (n0 + 0), .int x1] M (some (.int (-5000001 : Int32))) M 1 := by
  refine ctv_int (k := 1) (cc := cL_freeMark) (maxL := 4) rfl (Nat.le_of_ble_eq_true rfl) ⟨rfl, rfl⟩ ?_
  intro K CC X hret
  have CC : ∀ a, a ≤ 1 → Ok (kc K a) l rL_freeMark cL_freeMark RL G n0 4 := CC
  have C := CC 0 (by omega)
  show J (kc K 0) M 0 [(0, .ref (n0 + 0)), (1, .int x1)] []
  refine j_aload_n C 0 dL_freeMark_0 rfl rfl ?_
  refine j_iload_n C 1 dL_freeMark_1 rfl rfl ?_
  refine j_catchK (k := 2) (E := "java/lang/IllegalArgumentException") C X 1 (t_X11_freeMark l hfl G n0 hf) gv_RL_77 ⟨rfl, rfl⟩ (by decide +kernel) ⟨Nat.le_of_ble_eq_true rfl, Nat.le_of_ble_eq_true rfl⟩ (CC 1 (by omega)) rfl rfl (Nat.le_of_ble_eq_true rfl) rfl (by decide) [] ⟨0, 6, 9, 15⟩ [] rfl (fun z hz => absurd hz List.not_mem_nil) rfl (by decide) tw2_7 dL_freeMark_2 (fun q => ?_)
  have C2 := CC (0 + 1) (by omega)
  refine j_astore_n C2 [(3, .ref q), (0, .ref (n0 + 0)), (1, .int x1)] dL_freeMark_9 rfl (by decide) rfl ?_
  refine j_ldc C2 tw2_176 dL_freeMark_10 ?_
  exact hret _ _ 1 (by omega) dL_freeMark_12
theorem cg_L_freeMark (l : Launch) (G : Gx) (n0 : Nat) {x1 : Int32} {M : Mem} {r : Int32} (hf : gL_freeMark x1 M = some r) : CtV l yL_freeMark cL_freeMark 4 (some .int) hL_freeMark oL_freeMark G n0 [.ref (n0 + 0), .int x1] M (some (.int r)) M 0 := cr_L_freeMark l G n0 (rT_some hf)
theorem cf_L_freeMark (l : Launch) (hfl : l.stackTraces = false) (G : Gx) (n0 : Nat) {x1 : Int32} {M : Mem} {r : Int32} (hf : fL_freeMark x1 M = some r) : CtV l yL_freeMark cL_freeMark 4 (some .int) hL_freeMark rL_freeMark G n0 [.ref (n0 + 0), .int x1] M (some (.int r)) M 1 := by
  rcases fT_some hf with h | ⟨k, h, hk⟩
  · exact cs_L_freeMark l G n0 h
  · by_cases h2 : k = 2
    · subst h2
      rw [if_pos rfl] at hk
      cases hk
      exact ct_L_freeMark_2 l hfl G n0 h
    · replace hk := ine h2 hk
      cases hk
abbrev hL_type : List (Nat × Nat × Nat × Nat) := [(0, 6, 9, 15), (0, 6, 13, 18)]
theorem cwL_type : Cond.codeWith yL_type cL_type 4 (some .int) hL_type ∈ TB := tbm4 205 rfl rfl
theorem gw_L_type_137 : GW RL 137 yL_type cL_type 4 (some .int) hL_type := ⟨tw4_203, tw4_204, tw1_0, cwL_type⟩
def rL_type : Room := { frames := 8, cells := 1, slots := 6, locals := 131 }
def oL_type : Room := { frames := 8, cells := 0, slots := 0, locals := 131 }
def gL_type (x1 : Int32) (M : Mem) : Option (Int32 × Mem) := rT (fX11_type x1 M)
def fL_type (x1 : Int32) (M : Mem) : Option (Int32 × Mem) := fT (fX11_type x1 M) fun k => if k = 2 then some ((-5000001 : Int32), M) else if k = 3 then some ((-5000002 : Int32), M) else none
set_option maxRecDepth 100000 in
set_option maxHeartbeats 1000000 in
theorem cr_L_type (l : Launch) (G : Gx) (n0 : Nat) {x1 : Int32} {M : Mem} {r : Int32} {M' : Mem} (hf : fX11_type x1 M = some (Sum.inr (r, M'))) : CtV l yL_type cL_type 4 (some .int) hL_type oL_type G n0 [.ref (n0 + 0), .int x1] M (some (.int r)) M' 0 := by
  refine ctv_int (k := 0) (cc := cL_type) (maxL := 4) rfl (Nat.le_of_ble_eq_true rfl) ⟨rfl, rfl⟩ ?_
  intro K CC X hret
  have CC : ∀ a, a ≤ 0 → Ok (kc K a) l oL_type cL_type RL G n0 4 := CC
  have C := CC 0 (by omega)
  show J (kc K 0) M 0 [(0, .ref (n0 + 0)), (1, .int x1)] []
  refine j_aload_n C 0 dL_type_0 rfl rfl ?_
  refine j_iload_n C 1 dL_type_1 rfl rfl ?_
  refine j_callV C 1 lc0 (ent_K _ _ _ _ _ _) rfl (c_X11_type l G n0 hf) gv_RL_80 ⟨rfl, rfl⟩ (by decide +kernel) ⟨Nat.le_of_ble_eq_true rfl, Nat.le_of_ble_eq_true rfl⟩ rfl rfl (Nat.le_of_ble_eq_true rfl) dL_type_2 ?_
  refine j_istore_n C [(2, .int r), (0, .ref (n0 + 0)), (1, .int x1)] dL_type_5 rfl (Nat.le_of_ble_eq_true rfl) rfl ?_
  refine j_goto C 17 dL_type_6 (by decide) ?_
  refine j_iload_n C 0 dL_type_17 rfl rfl ?_
  exact hret _ _ 0 (by omega) dL_type_18
set_option maxRecDepth 100000 in
set_option maxHeartbeats 1000000 in
theorem cs_L_type (l : Launch) (G : Gx) (n0 : Nat) {x1 : Int32} {M : Mem} {r : Int32} {M' : Mem} (hf : fX11_type x1 M = some (Sum.inr (r, M'))) : CtV l yL_type cL_type 4 (some .int) hL_type rL_type G n0 [.ref (n0 + 0), .int x1] M (some (.int r)) M' 1 := by
  refine ctv_int (k := 1) (cc := cL_type) (maxL := 4) rfl (Nat.le_of_ble_eq_true rfl) ⟨rfl, rfl⟩ ?_
  intro K CC X hret
  have CC : ∀ a, a ≤ 1 → Ok (kc K a) l rL_type cL_type RL G n0 4 := CC
  have C := CC 0 (by omega)
  show J (kc K 0) M 0 [(0, .ref (n0 + 0)), (1, .int x1)] []
  refine j_aload_n C 0 dL_type_0 rfl rfl ?_
  refine j_iload_n C 1 dL_type_1 rfl rfl ?_
  refine j_callV C 1 lc0 (ent_K _ _ _ _ _ _) rfl (c_X11_type l G n0 hf) gv_RL_80 ⟨rfl, rfl⟩ (by decide +kernel) ⟨Nat.le_of_ble_eq_true rfl, Nat.le_of_ble_eq_true rfl⟩ rfl rfl (Nat.le_of_ble_eq_true rfl) dL_type_2 ?_
  refine j_istore_n C [(2, .int r), (0, .ref (n0 + 0)), (1, .int x1)] dL_type_5 rfl (Nat.le_of_ble_eq_true rfl) rfl ?_
  refine j_goto C 17 dL_type_6 (by decide) ?_
  refine j_iload_n C 0 dL_type_17 rfl rfl ?_
  exact hret _ _ 0 (by omega) dL_type_18
set_option maxRecDepth 100000 in
set_option maxHeartbeats 1000000 in
theorem ct_L_type_2 (l : Launch) (hfl : l.stackTraces = false) (G : Gx) (n0 : Nat) {x1 : Int32} {M : Mem} (hf : fX11_type x1 M = some (Sum.inl 2)) : CtV l yL_type cL_type 4 (some .int) hL_type rL_type G n0 [.ref (n0 + 0), .int x1] M (some (.int (-5000001 : Int32))) M 1 := by
  refine ctv_int (k := 1) (cc := cL_type) (maxL := 4) rfl (Nat.le_of_ble_eq_true rfl) ⟨rfl, rfl⟩ ?_
  intro K CC X hret
  have CC : ∀ a, a ≤ 1 → Ok (kc K a) l rL_type cL_type RL G n0 4 := CC
  have C := CC 0 (by omega)
  show J (kc K 0) M 0 [(0, .ref (n0 + 0)), (1, .int x1)] []
  refine j_aload_n C 0 dL_type_0 rfl rfl ?_
  refine j_iload_n C 1 dL_type_1 rfl rfl ?_
  refine j_catchK (k := 2) (E := "java/lang/IllegalArgumentException") C X 1 (t_X11_type l hfl G n0 hf) gv_RL_80 ⟨rfl, rfl⟩ (by decide +kernel) ⟨Nat.le_of_ble_eq_true rfl, Nat.le_of_ble_eq_true rfl⟩ (CC 1 (by omega)) rfl rfl (Nat.le_of_ble_eq_true rfl) rfl (by decide) [] ⟨0, 6, 9, 15⟩ [⟨0, 6, 13, 18⟩] rfl (fun z hz => absurd hz List.not_mem_nil) rfl (by decide) tw2_7 dL_type_2 (fun q => ?_)
  have C2 := CC (0 + 1) (by omega)
  refine j_astore_n C2 [(3, .ref q), (0, .ref (n0 + 0)), (1, .int x1)] dL_type_9 rfl (by decide) rfl ?_
  refine j_ldc C2 tw2_176 dL_type_10 ?_
  exact hret _ _ 1 (by omega) dL_type_12
set_option maxRecDepth 100000 in
set_option maxHeartbeats 1000000 in
theorem ct_L_type_3 (l : Launch) (hfl : l.stackTraces = false) (G : Gx) (n0 : Nat) {x1 : Int32} {M : Mem} (hf : fX11_type x1 M = some (Sum.inl 3)) : CtV l yL_type cL_type 4 (some .int) hL_type rL_type G n0 [.ref (n0 + 0), .int x1] M (some (.int (-5000002 : Int32))) M 1 := by
  refine ctv_int (k := 1) (cc := cL_type) (maxL := 4) rfl (Nat.le_of_ble_eq_true rfl) ⟨rfl, rfl⟩ ?_
  intro K CC X hret
  have CC : ∀ a, a ≤ 1 → Ok (kc K a) l rL_type cL_type RL G n0 4 := CC
  have C := CC 0 (by omega)
  show J (kc K 0) M 0 [(0, .ref (n0 + 0)), (1, .int x1)] []
  refine j_aload_n C 0 dL_type_0 rfl rfl ?_
  refine j_iload_n C 1 dL_type_1 rfl rfl ?_
  refine j_catchK (k := 3) (E := "java/lang/IllegalStateException") C X 1 (t_X11_type l hfl G n0 hf) gv_RL_80 ⟨rfl, rfl⟩ (by decide +kernel) ⟨Nat.le_of_ble_eq_true rfl, Nat.le_of_ble_eq_true rfl⟩ (CC 1 (by omega)) rfl rfl (Nat.le_of_ble_eq_true rfl) rfl (by decide) [⟨0, 6, 9, 15⟩] ⟨0, 6, 13, 18⟩ [] rfl (List.forall_mem_cons.mpr ⟨⟨by decide, "java/lang/IllegalArgumentException", tw2_7, by decide, by decide⟩, fun _ h => absurd h List.not_mem_nil⟩) rfl (by decide) tw2_180 dL_type_2 (fun q => ?_)
  have C2 := CC (0 + 1) (by omega)
  refine j_astore_n C2 [(3, .ref q), (0, .ref (n0 + 0)), (1, .int x1)] dL_type_13 rfl (by decide) rfl ?_
  refine j_ldc C2 tw2_227 dL_type_14 ?_
  exact hret _ _ 1 (by omega) dL_type_16
theorem cg_L_type (l : Launch) (G : Gx) (n0 : Nat) {x1 : Int32} {M : Mem} {r : Int32} {M' : Mem} (hf : gL_type x1 M = some (r, M')) : CtV l yL_type cL_type 4 (some .int) hL_type oL_type G n0 [.ref (n0 + 0), .int x1] M (some (.int r)) M' 0 := cr_L_type l G n0 (rT_some hf)
theorem cf_L_type (l : Launch) (hfl : l.stackTraces = false) (G : Gx) (n0 : Nat) {x1 : Int32} {M : Mem} {r : Int32} {M' : Mem} (hf : fL_type x1 M = some (r, M')) : CtV l yL_type cL_type 4 (some .int) hL_type rL_type G n0 [.ref (n0 + 0), .int x1] M (some (.int r)) M' 1 := by
  rcases fT_some hf with h | ⟨k, h, hk⟩
  · exact cs_L_type l G n0 h
  · by_cases h2 : k = 2
    · subst h2
      rw [if_pos rfl] at hk
      cases hk
      exact ct_L_type_2 l hfl G n0 h
    · replace hk := ine h2 hk
      by_cases h3 : k = 3
      · subst h3
        rw [if_pos rfl] at hk
        cases hk
        exact ct_L_type_3 l hfl G n0 h
      · replace hk := ine h3 hk
        cases hk
abbrev hL_undo : List (Nat × Nat × Nat × Nat) := [(0, 5, 8, 18)]
theorem cwL_undo : Cond.codeWith yL_undo cL_undo 3 (some .int) hL_undo ∈ TB := tbm2 179 rfl rfl
theorem gw_L_undo_162 : GW RL 162 yL_undo cL_undo 3 (some .int) hL_undo := ⟨tw2_177, tw2_178, tw1_0, cwL_undo⟩
def rL_undo : Room := { frames := 8, cells := 1, slots := 6, locals := 147 }
def oL_undo : Room := { frames := 8, cells := 0, slots := 0, locals := 147 }
def gL_undo (M : Mem) : Option (Int32 × Mem) := rT (fX11_undo M)
def fL_undo (M : Mem) : Option (Int32 × Mem) := fT (fX11_undo M) fun k => if k = 3 then some ((-5000002 : Int32), M) else none
set_option maxRecDepth 100000 in
set_option maxHeartbeats 1000000 in
theorem cr_L_undo (l : Launch) (G : Gx) (n0 : Nat) {M : Mem} {r : Int32} {M' : Mem} (hf : fX11_undo M = some (Sum.inr (r, M'))) : CtV l yL_undo cL_undo 3 (some .int) hL_undo oL_undo G n0 [.ref (n0 + 0)] M (some (.int r)) M' 0 := by
  refine ctv_int (k := 0) (cc := cL_undo) (maxL := 3) rfl (Nat.le_of_ble_eq_true rfl) ⟨rfl, rfl⟩ ?_
  intro K CC X hret
  have CC : ∀ a, a ≤ 0 → Ok (kc K a) l oL_undo cL_undo RL G n0 3 := CC
  have C := CC 0 (by omega)
  show J (kc K 0) M 0 [(0, .ref (n0 + 0))] []
  refine j_aload_n C 0 dL_undo_0 rfl rfl ?_
  refine j_callV C 0 lc0 (ent_K _ _ _ _ _ _) rfl (c_X11_undo l G n0 hf) gv_RL_83 ⟨rfl, rfl⟩ (by decide +kernel) ⟨Nat.le_of_ble_eq_true rfl, Nat.le_of_ble_eq_true rfl⟩ rfl rfl (Nat.le_of_ble_eq_true rfl) dL_undo_1 ?_
  refine j_istore_n C [(1, .int r), (0, .ref (n0 + 0))] dL_undo_4 rfl (Nat.le_of_ble_eq_true rfl) rfl ?_
  refine j_goto C 12 dL_undo_5 (by decide) ?_
  refine j_iload_n C 0 dL_undo_12 rfl rfl ?_
  exact hret _ _ 0 (by omega) dL_undo_13
set_option maxRecDepth 100000 in
set_option maxHeartbeats 1000000 in
theorem cs_L_undo (l : Launch) (G : Gx) (n0 : Nat) {M : Mem} {r : Int32} {M' : Mem} (hf : fX11_undo M = some (Sum.inr (r, M'))) : CtV l yL_undo cL_undo 3 (some .int) hL_undo rL_undo G n0 [.ref (n0 + 0)] M (some (.int r)) M' 1 := by
  refine ctv_int (k := 1) (cc := cL_undo) (maxL := 3) rfl (Nat.le_of_ble_eq_true rfl) ⟨rfl, rfl⟩ ?_
  intro K CC X hret
  have CC : ∀ a, a ≤ 1 → Ok (kc K a) l rL_undo cL_undo RL G n0 3 := CC
  have C := CC 0 (by omega)
  show J (kc K 0) M 0 [(0, .ref (n0 + 0))] []
  refine j_aload_n C 0 dL_undo_0 rfl rfl ?_
  refine j_callV C 0 lc0 (ent_K _ _ _ _ _ _) rfl (c_X11_undo l G n0 hf) gv_RL_83 ⟨rfl, rfl⟩ (by decide +kernel) ⟨Nat.le_of_ble_eq_true rfl, Nat.le_of_ble_eq_true rfl⟩ rfl rfl (Nat.le_of_ble_eq_true rfl) dL_undo_1 ?_
  refine j_istore_n C [(1, .int r), (0, .ref (n0 + 0))] dL_undo_4 rfl (Nat.le_of_ble_eq_true rfl) rfl ?_
  refine j_goto C 12 dL_undo_5 (by decide) ?_
  refine j_iload_n C 0 dL_undo_12 rfl rfl ?_
  exact hret _ _ 0 (by omega) dL_undo_13
set_option maxRecDepth 100000 in
set_option maxHeartbeats 1000000 in
theorem ct_L_undo_3 (l : Launch) (hfl : l.stackTraces = false) (G : Gx) (n0 : Nat) {M : Mem} (hf : fX11_undo M = some (Sum.inl 3)) : CtV l yL_undo cL_undo 3 (some .int) hL_undo rL_undo G n0 [.ref (n0 + 0)] M (some (.int (-5000002 : Int32))) M 1 := by
  refine ctv_int (k := 1) (cc := cL_undo) (maxL := 3) rfl (Nat.le_of_ble_eq_true rfl) ⟨rfl, rfl⟩ ?_
  intro K CC X hret
  have CC : ∀ a, a ≤ 1 → Ok (kc K a) l rL_undo cL_undo RL G n0 3 := CC
  have C := CC 0 (by omega)
  show J (kc K 0) M 0 [(0, .ref (n0 + 0))] []
  refine j_aload_n C 0 dL_undo_0 rfl rfl ?_
  refine j_catchK (k := 3) (E := "java/lang/IllegalStateException") C X 0 (t_X11_undo l hfl G n0 hf) gv_RL_83 ⟨rfl, rfl⟩ (by decide +kernel) ⟨Nat.le_of_ble_eq_true rfl, Nat.le_of_ble_eq_true rfl⟩ (CC 1 (by omega)) rfl rfl (Nat.le_of_ble_eq_true rfl) rfl (by decide) [] ⟨0, 5, 8, 18⟩ [] rfl (fun z hz => absurd hz List.not_mem_nil) rfl (by decide) tw2_180 dL_undo_1 (fun q => ?_)
  have C2 := CC (0 + 1) (by omega)
  refine j_astore_n C2 [(2, .ref q), (0, .ref (n0 + 0))] dL_undo_8 rfl (by decide) rfl ?_
  refine j_ldc C2 tw2_227 dL_undo_9 ?_
  exact hret _ _ 1 (by omega) dL_undo_11
theorem cg_L_undo (l : Launch) (G : Gx) (n0 : Nat) {M : Mem} {r : Int32} {M' : Mem} (hf : gL_undo M = some (r, M')) : CtV l yL_undo cL_undo 3 (some .int) hL_undo oL_undo G n0 [.ref (n0 + 0)] M (some (.int r)) M' 0 := cr_L_undo l G n0 (rT_some hf)
theorem cf_L_undo (l : Launch) (hfl : l.stackTraces = false) (G : Gx) (n0 : Nat) {M : Mem} {r : Int32} {M' : Mem} (hf : fL_undo M = some (r, M')) : CtV l yL_undo cL_undo 3 (some .int) hL_undo rL_undo G n0 [.ref (n0 + 0)] M (some (.int r)) M' 1 := by
  rcases fT_some hf with h | ⟨k, h, hk⟩
  · exact cs_L_undo l G n0 h
  · by_cases h3 : k = 3
    · subst h3
      rw [if_pos rfl] at hk
      cases hk
      exact ct_L_undo_3 l hfl G n0 h
    · replace hk := ine h3 hk
      cases hk
