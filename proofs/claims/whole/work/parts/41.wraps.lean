abbrev hL_join : List (Nat × Nat × Nat × Nat) := [(0, 9, 12, 13), (0, 9, 15, 15)]
theorem cwL_join : Cond.codeWith yL_join cL_join 4 (some .int) hL_join ∈ TB := tbm5 14 rfl rfl
def rL_join : Room := { frames := 8, cells := 1, slots := 6, locals := 148 }
set_option maxRecDepth 100000 in
set_option maxHeartbeats 1000000 in
theorem cr_L_join (l : Launch) (G : Gx) (n0 : Nat) {x1 : Int32} {M : Mem} {r : Int32} {M1 M' : Mem} (hf : fX11_join x1 M = some (Sum.inr (r, M1))) (hM : mputL M1 185 0 r.toInt64 = M') : CtW l yL_join cL_join 4 hL_join rL_join G n0 [.ref (n0 + 0), .int x1, .ref (n0 + 185)] M 0 M' := by
  refine ctw (cc := cL_join) (maxL := 4) rfl (Nat.le_of_ble_eq_true rfl) ⟨rfl, rfl⟩ ?_
  intro K C C2 X hret
  have C : Ok K l rL_join cL_join RL G n0 4 := C
  have C2 : Ok (kup K 1 6) l rL_join cL_join RL G n0 4 := C2
  show J K M 0 [(0, .ref (n0 + 0)), (1, .int x1), (2, .ref (n0 + 185))] []
  refine j_aload_n C 2 dL_join_0 rfl rfl ?_
  refine j_iconst C (0 : Int32) rfl dL_join_1 ?_
  refine j_aload_n C 0 dL_join_2 rfl rfl ?_
  refine j_iload_n C 1 dL_join_3 rfl rfl ?_
  refine j_callV C 1 lc0 (ent_K _ _ _ _ _ _) rfl (c_X11_join l G n0 hf) gv_RL_7 ⟨rfl, rfl⟩ (by decide +kernel) ⟨Nat.le_of_ble_eq_true rfl, Nat.le_of_ble_eq_true rfl⟩ rfl rfl (Nat.le_of_ble_eq_true rfl) dL_join_4 ?_
  refine j_i2l C dL_join_7 ?_
  refine j_last C hM dL_join_8 ?_
  refine j_goto C 18 dL_join_9 (by decide) ?_
  refine j_iconst C (0 : Int32) rfl dL_join_18 ?_
  exact (hret _ _ dL_join_19).1
set_option maxRecDepth 100000 in
set_option maxHeartbeats 1000000 in
theorem ct_L_join_2 (l : Launch) (hfl : l.stackTraces = false) (G : Gx) (n0 : Nat) {x1 : Int32} {M : Mem} (hf : fX11_join x1 M = some (Sum.inl 2)) : CtW l yL_join cL_join 4 hL_join rL_join G n0 [.ref (n0 + 0), .int x1, .ref (n0 + 185)] M 1 M := by
  refine ctw (cc := cL_join) (maxL := 4) rfl (Nat.le_of_ble_eq_true rfl) ⟨rfl, rfl⟩ ?_
  intro K C C2 X hret
  have C : Ok K l rL_join cL_join RL G n0 4 := C
  have C2 : Ok (kup K 1 6) l rL_join cL_join RL G n0 4 := C2
  show J K M 0 [(0, .ref (n0 + 0)), (1, .int x1), (2, .ref (n0 + 185))] []
  refine j_aload_n C 2 dL_join_0 rfl rfl ?_
  refine j_iconst C (0 : Int32) rfl dL_join_1 ?_
  refine j_aload_n C 0 dL_join_2 rfl rfl ?_
  refine j_iload_n C 1 dL_join_3 rfl rfl ?_
  refine j_catch (k := 2) (E := "java/lang/IllegalArgumentException") C X 1 (t_X11_join l hfl G n0 hf) gv_RL_7 ⟨rfl, rfl⟩ (by decide +kernel) ⟨Nat.le_of_ble_eq_true rfl, Nat.le_of_ble_eq_true rfl⟩ C2 rfl rfl (Nat.le_of_ble_eq_true rfl) rfl (by decide) [] ⟨0, 9, 12, 13⟩ [⟨0, 9, 15, 15⟩] rfl (fun z hz => absurd hz List.not_mem_nil) rfl (by decide) tw5_15 dL_join_4 (fun q => ?_)
  refine j_astore_n C2 [(3, .ref q), (0, .ref (n0 + 0)), (1, .int x1), (2, .ref (n0 + 185))] dL_join_12 rfl (by decide) rfl ?_
  refine j_iconst C2 (1 : Int32) rfl dL_join_13 ?_
  exact (hret _ _ dL_join_14).2
set_option maxRecDepth 100000 in
set_option maxHeartbeats 1000000 in
theorem ct_L_join_3 (l : Launch) (hfl : l.stackTraces = false) (G : Gx) (n0 : Nat) {x1 : Int32} {M : Mem} (hf : fX11_join x1 M = some (Sum.inl 3)) : CtW l yL_join cL_join 4 hL_join rL_join G n0 [.ref (n0 + 0), .int x1, .ref (n0 + 185)] M 2 M := by
  refine ctw (cc := cL_join) (maxL := 4) rfl (Nat.le_of_ble_eq_true rfl) ⟨rfl, rfl⟩ ?_
  intro K C C2 X hret
  have C : Ok K l rL_join cL_join RL G n0 4 := C
  have C2 : Ok (kup K 1 6) l rL_join cL_join RL G n0 4 := C2
  show J K M 0 [(0, .ref (n0 + 0)), (1, .int x1), (2, .ref (n0 + 185))] []
  refine j_aload_n C 2 dL_join_0 rfl rfl ?_
  refine j_iconst C (0 : Int32) rfl dL_join_1 ?_
  refine j_aload_n C 0 dL_join_2 rfl rfl ?_
  refine j_iload_n C 1 dL_join_3 rfl rfl ?_
  refine j_catch (k := 3) (E := "java/lang/IllegalStateException") C X 1 (t_X11_join l hfl G n0 hf) gv_RL_7 ⟨rfl, rfl⟩ (by decide +kernel) ⟨Nat.le_of_ble_eq_true rfl, Nat.le_of_ble_eq_true rfl⟩ C2 rfl rfl (Nat.le_of_ble_eq_true rfl) rfl (by decide) [⟨0, 9, 12, 13⟩] ⟨0, 9, 15, 15⟩ [] rfl (List.forall_mem_cons.mpr ⟨⟨by decide, "java/lang/IllegalArgumentException", tw5_15, by decide, by decide⟩, fun _ h => absurd h List.not_mem_nil⟩) rfl (by decide) tw5_16 dL_join_4 (fun q => ?_)
  refine j_astore_n C2 [(3, .ref q), (0, .ref (n0 + 0)), (1, .int x1), (2, .ref (n0 + 185))] dL_join_15 rfl (by decide) rfl ?_
  refine j_iconst C2 (2 : Int32) rfl dL_join_16 ?_
  exact (hret _ _ dL_join_17).2
abbrev hL_remark : List (Nat × Nat × Nat × Nat) := [(0, 10, 13, 21), (0, 10, 17, 13), (0, 10, 21, 15)]
theorem cwL_remark : Cond.codeWith yL_remark cL_remark 5 (some .int) hL_remark ∈ TB := tbm5 23 rfl rfl
def rL_remark : Room := { frames := 8, cells := 1, slots := 6, locals := 149 }
set_option maxRecDepth 100000 in
set_option maxHeartbeats 1000000 in
theorem cr_L_remark (l : Launch) (G : Gx) (n0 : Nat) {x1 : Int32} {x2 : Int32} {M : Mem} {r : Int32} {M1 M' : Mem} (hf : fX11_remark x1 x2 M = some (Sum.inr (r, M1))) (hM : mputL M1 185 0 r.toInt64 = M') : CtW l yL_remark cL_remark 5 hL_remark rL_remark G n0 [.ref (n0 + 0), .int x1, .int x2, .ref (n0 + 185)] M 0 M' := by
  refine ctw (cc := cL_remark) (maxL := 5) rfl (Nat.le_of_ble_eq_true rfl) ⟨rfl, rfl⟩ ?_
  intro K C C2 X hret
  have C : Ok K l rL_remark cL_remark RL G n0 5 := C
  have C2 : Ok (kup K 1 6) l rL_remark cL_remark RL G n0 5 := C2
  show J K M 0 [(0, .ref (n0 + 0)), (1, .int x1), (2, .int x2), (3, .ref (n0 + 185))] []
  refine j_aload_n C 3 dL_remark_0 rfl rfl ?_
  refine j_iconst C (0 : Int32) rfl dL_remark_1 ?_
  refine j_aload_n C 0 dL_remark_2 rfl rfl ?_
  refine j_iload_n C 1 dL_remark_3 rfl rfl ?_
  refine j_iload_n C 2 dL_remark_4 rfl rfl ?_
  refine j_callV C 2 lc0 (ent_K _ _ _ _ _ _) rfl (c_X11_remark l G n0 hf) gv_RL_17 ⟨rfl, rfl⟩ (by decide +kernel) ⟨Nat.le_of_ble_eq_true rfl, Nat.le_of_ble_eq_true rfl⟩ rfl rfl (Nat.le_of_ble_eq_true rfl) dL_remark_5 ?_
  refine j_i2l C dL_remark_8 ?_
  refine j_last C hM dL_remark_9 ?_
  refine j_goto C 25 dL_remark_10 (by decide) ?_
  refine j_iconst C (0 : Int32) rfl dL_remark_25 ?_
  exact (hret _ _ dL_remark_26).1
set_option maxRecDepth 100000 in
set_option maxHeartbeats 1000000 in
theorem ct_L_remark_1 (l : Launch) (hfl : l.stackTraces = false) (G : Gx) (n0 : Nat) {x1 : Int32} {x2 : Int32} {M : Mem} (hf : fX11_remark x1 x2 M = some (Sum.inl 1)) : CtW l yL_remark cL_remark 5 hL_remark rL_remark G n0 [.ref (n0 + 0), .int x1, .int x2, .ref (n0 + 185)] M 1 M := by
  refine ctw (cc := cL_remark) (maxL := 5) rfl (Nat.le_of_ble_eq_true rfl) ⟨rfl, rfl⟩ ?_
  intro K C C2 X hret
  have C : Ok K l rL_remark cL_remark RL G n0 5 := C
  have C2 : Ok (kup K 1 6) l rL_remark cL_remark RL G n0 5 := C2
  show J K M 0 [(0, .ref (n0 + 0)), (1, .int x1), (2, .int x2), (3, .ref (n0 + 185))] []
  refine j_aload_n C 3 dL_remark_0 rfl rfl ?_
  refine j_iconst C (0 : Int32) rfl dL_remark_1 ?_
  refine j_aload_n C 0 dL_remark_2 rfl rfl ?_
  refine j_iload_n C 1 dL_remark_3 rfl rfl ?_
  refine j_iload_n C 2 dL_remark_4 rfl rfl ?_
  refine j_catch (k := 1) (E := "java/lang/IndexOutOfBoundsException") C X 2 (t_X11_remark l hfl G n0 hf) gv_RL_17 ⟨rfl, rfl⟩ (by decide +kernel) ⟨Nat.le_of_ble_eq_true rfl, Nat.le_of_ble_eq_true rfl⟩ C2 rfl rfl (Nat.le_of_ble_eq_true rfl) rfl (by decide) [] ⟨0, 10, 13, 21⟩ [⟨0, 10, 17, 13⟩, ⟨0, 10, 21, 15⟩] rfl (fun z hz => absurd hz List.not_mem_nil) rfl (by decide) tw5_24 dL_remark_5 (fun q => ?_)
  refine j_astore C2 [(4, .ref q), (0, .ref (n0 + 0)), (1, .int x1), (2, .int x2), (3, .ref (n0 + 185))] dL_remark_13 (by decide) rfl ?_
  refine j_iconst C2 (1 : Int32) rfl dL_remark_15 ?_
  exact (hret _ _ dL_remark_16).2
set_option maxRecDepth 100000 in
set_option maxHeartbeats 1000000 in
theorem ct_L_remark_2 (l : Launch) (hfl : l.stackTraces = false) (G : Gx) (n0 : Nat) {x1 : Int32} {x2 : Int32} {M : Mem} (hf : fX11_remark x1 x2 M = some (Sum.inl 2)) : CtW l yL_remark cL_remark 5 hL_remark rL_remark G n0 [.ref (n0 + 0), .int x1, .int x2, .ref (n0 + 185)] M 2 M := by
  refine ctw (cc := cL_remark) (maxL := 5) rfl (Nat.le_of_ble_eq_true rfl) ⟨rfl, rfl⟩ ?_
  intro K C C2 X hret
  have C : Ok K l rL_remark cL_remark RL G n0 5 := C
  have C2 : Ok (kup K 1 6) l rL_remark cL_remark RL G n0 5 := C2
  show J K M 0 [(0, .ref (n0 + 0)), (1, .int x1), (2, .int x2), (3, .ref (n0 + 185))] []
  refine j_aload_n C 3 dL_remark_0 rfl rfl ?_
  refine j_iconst C (0 : Int32) rfl dL_remark_1 ?_
  refine j_aload_n C 0 dL_remark_2 rfl rfl ?_
  refine j_iload_n C 1 dL_remark_3 rfl rfl ?_
  refine j_iload_n C 2 dL_remark_4 rfl rfl ?_
  refine j_catch (k := 2) (E := "java/lang/IllegalArgumentException") C X 2 (t_X11_remark l hfl G n0 hf) gv_RL_17 ⟨rfl, rfl⟩ (by decide +kernel) ⟨Nat.le_of_ble_eq_true rfl, Nat.le_of_ble_eq_true rfl⟩ C2 rfl rfl (Nat.le_of_ble_eq_true rfl) rfl (by decide) [⟨0, 10, 13, 21⟩] ⟨0, 10, 17, 13⟩ [⟨0, 10, 21, 15⟩] rfl (List.forall_mem_cons.mpr ⟨⟨by decide, "java/lang/IndexOutOfBoundsException", tw5_24, by decide, by decide⟩, fun _ h => absurd h List.not_mem_nil⟩) rfl (by decide) tw5_15 dL_remark_5 (fun q => ?_)
  refine j_astore C2 [(4, .ref q), (0, .ref (n0 + 0)), (1, .int x1), (2, .int x2), (3, .ref (n0 + 185))] dL_remark_17 (by decide) rfl ?_
  refine j_iconst C2 (2 : Int32) rfl dL_remark_19 ?_
  exact (hret _ _ dL_remark_20).2
set_option maxRecDepth 100000 in
set_option maxHeartbeats 1000000 in
theorem ct_L_remark_3 (l : Launch) (hfl : l.stackTraces = false) (G : Gx) (n0 : Nat) {x1 : Int32} {x2 : Int32} {M : Mem} (hf : fX11_remark x1 x2 M = some (Sum.inl 3)) : CtW l yL_remark cL_remark 5 hL_remark rL_remark G n0 [.ref (n0 + 0), .int x1, .int x2, .ref (n0 + 185)] M 3 M := by
  refine ctw (cc := cL_remark) (maxL := 5) rfl (Nat.le_of_ble_eq_true rfl) ⟨rfl, rfl⟩ ?_
  intro K C C2 X hret
  have C : Ok K l rL_remark cL_remark RL G n0 5 := C
  have C2 : Ok (kup K 1 6) l rL_remark cL_remark RL G n0 5 := C2
  show J K M 0 [(0, .ref (n0 + 0)), (1, .int x1), (2, .int x2), (3, .ref (n0 + 185))] []
  refine j_aload_n C 3 dL_remark_0 rfl rfl ?_
  refine j_iconst C (0 : Int32) rfl dL_remark_1 ?_
  refine j_aload_n C 0 dL_remark_2 rfl rfl ?_
  refine j_iload_n C 1 dL_remark_3 rfl rfl ?_
  refine j_iload_n C 2 dL_remark_4 rfl rfl ?_
  refine j_catch (k := 3) (E := "java/lang/IllegalStateException") C X 2 (t_X11_remark l hfl G n0 hf) gv_RL_17 ⟨rfl, rfl⟩ (by decide +kernel) ⟨Nat.le_of_ble_eq_true rfl, Nat.le_of_ble_eq_true rfl⟩ C2 rfl rfl (Nat.le_of_ble_eq_true rfl) rfl (by decide) [⟨0, 10, 13, 21⟩, ⟨0, 10, 17, 13⟩] ⟨0, 10, 21, 15⟩ [] rfl (List.forall_mem_cons.mpr ⟨⟨by decide, "java/lang/IndexOutOfBoundsException", tw5_24, by decide, by decide⟩, List.forall_mem_cons.mpr ⟨⟨by decide, "java/lang/IllegalArgumentException", tw5_15, by decide, by decide⟩, fun _ h => absurd h List.not_mem_nil⟩⟩) rfl (by decide) tw5_16 dL_remark_5 (fun q => ?_)
  refine j_astore C2 [(4, .ref q), (0, .ref (n0 + 0)), (1, .int x1), (2, .int x2), (3, .ref (n0 + 185))] dL_remark_21 (by decide) rfl ?_
  refine j_iconst C2 (3 : Int32) rfl dL_remark_23 ?_
  exact (hret _ _ dL_remark_24).2
abbrev hL_excuse : List (Nat × Nat × Nat × Nat) := [(0, 9, 12, 21)]
theorem cwL_excuse : Cond.codeWith yL_excuse cL_excuse 4 (some .int) hL_excuse ∈ TB := tbm5 39 rfl rfl
def rL_excuse : Room := { frames := 8, cells := 1, slots := 6, locals := 148 }
set_option maxRecDepth 100000 in
set_option maxHeartbeats 1000000 in
theorem cr_L_excuse (l : Launch) (G : Gx) (n0 : Nat) {x1 : Int32} {M : Mem} {r : Int32} {M1 M' : Mem} (hf : fX11_excuse x1 M = some (Sum.inr (r, M1))) (hM : mputL M1 185 0 r.toInt64 = M') : CtW l yL_excuse cL_excuse 4 hL_excuse rL_excuse G n0 [.ref (n0 + 0), .int x1, .ref (n0 + 185)] M 0 M' := by
  refine ctw (cc := cL_excuse) (maxL := 4) rfl (Nat.le_of_ble_eq_true rfl) ⟨rfl, rfl⟩ ?_
  intro K C C2 X hret
  have C : Ok K l rL_excuse cL_excuse RL G n0 4 := C
  have C2 : Ok (kup K 1 6) l rL_excuse cL_excuse RL G n0 4 := C2
  show J K M 0 [(0, .ref (n0 + 0)), (1, .int x1), (2, .ref (n0 + 185))] []
  refine j_aload_n C 2 dL_excuse_0 rfl rfl ?_
  refine j_iconst C (0 : Int32) rfl dL_excuse_1 ?_
  refine j_aload_n C 0 dL_excuse_2 rfl rfl ?_
  refine j_iload_n C 1 dL_excuse_3 rfl rfl ?_
  refine j_callV C 1 lc0 (ent_K _ _ _ _ _ _) rfl (c_X11_excuse l G n0 hf) gv_RL_23 ⟨rfl, rfl⟩ (by decide +kernel) ⟨Nat.le_of_ble_eq_true rfl, Nat.le_of_ble_eq_true rfl⟩ rfl rfl (Nat.le_of_ble_eq_true rfl) dL_excuse_4 ?_
  refine j_i2l C dL_excuse_7 ?_
  refine j_last C hM dL_excuse_8 ?_
  refine j_goto C 15 dL_excuse_9 (by decide) ?_
  refine j_iconst C (0 : Int32) rfl dL_excuse_15 ?_
  exact (hret _ _ dL_excuse_16).1
set_option maxRecDepth 100000 in
set_option maxHeartbeats 1000000 in
theorem ct_L_excuse_1 (l : Launch) (hfl : l.stackTraces = false) (G : Gx) (n0 : Nat) {x1 : Int32} {M : Mem} (hf : fX11_excuse x1 M = some (Sum.inl 1)) : CtW l yL_excuse cL_excuse 4 hL_excuse rL_excuse G n0 [.ref (n0 + 0), .int x1, .ref (n0 + 185)] M 1 M := by
  refine ctw (cc := cL_excuse) (maxL := 4) rfl (Nat.le_of_ble_eq_true rfl) ⟨rfl, rfl⟩ ?_
  intro K C C2 X hret
  have C : Ok K l rL_excuse cL_excuse RL G n0 4 := C
  have C2 : Ok (kup K 1 6) l rL_excuse cL_excuse RL G n0 4 := C2
  show J K M 0 [(0, .ref (n0 + 0)), (1, .int x1), (2, .ref (n0 + 185))] []
  refine j_aload_n C 2 dL_excuse_0 rfl rfl ?_
  refine j_iconst C (0 : Int32) rfl dL_excuse_1 ?_
  refine j_aload_n C 0 dL_excuse_2 rfl rfl ?_
  refine j_iload_n C 1 dL_excuse_3 rfl rfl ?_
  refine j_catch (k := 1) (E := "java/lang/IndexOutOfBoundsException") C X 1 (t_X11_excuse l hfl G n0 hf) gv_RL_23 ⟨rfl, rfl⟩ (by decide +kernel) ⟨Nat.le_of_ble_eq_true rfl, Nat.le_of_ble_eq_true rfl⟩ C2 rfl rfl (Nat.le_of_ble_eq_true rfl) rfl (by decide) [] ⟨0, 9, 12, 21⟩ [] rfl (fun z hz => absurd hz List.not_mem_nil) rfl (by decide) tw5_24 dL_excuse_4 (fun q => ?_)
  refine j_astore_n C2 [(3, .ref q), (0, .ref (n0 + 0)), (1, .int x1), (2, .ref (n0 + 185))] dL_excuse_12 rfl (by decide) rfl ?_
  refine j_iconst C2 (1 : Int32) rfl dL_excuse_13 ?_
  exact (hret _ _ dL_excuse_14).2
abbrev hL_bring : List (Nat × Nat × Nat × Nat) := [(0, 12, 15, 21), (0, 12, 19, 13), (0, 12, 23, 15)]
theorem cwL_bring : Cond.codeWith yL_bring cL_bring 6 (some .int) hL_bring ∈ TB := tbm5 46 rfl rfl
def rL_bring : Room := { frames := 8, cells := 1, slots := 6, locals := 150 }
set_option maxRecDepth 100000 in
set_option maxHeartbeats 1000000 in
theorem cr_L_bring (l : Launch) (G : Gx) (n0 : Nat) {x1 : Int32} {x2 : Int32} {x3 : Int32} {M : Mem} {r : Int32} {M1 M' : Mem} (hf : fX11_bring x1 x2 x3 M = some (Sum.inr (r, M1))) (hM : mputL M1 185 0 r.toInt64 = M') : CtW l yL_bring cL_bring 6 hL_bring rL_bring G n0 [.ref (n0 + 0), .int x1, .int x2, .int x3, .ref (n0 + 185)] M 0 M' := by
  refine ctw (cc := cL_bring) (maxL := 6) rfl (Nat.le_of_ble_eq_true rfl) ⟨rfl, rfl⟩ ?_
  intro K C C2 X hret
  have C : Ok K l rL_bring cL_bring RL G n0 6 := C
  have C2 : Ok (kup K 1 6) l rL_bring cL_bring RL G n0 6 := C2
  show J K M 0 [(0, .ref (n0 + 0)), (1, .int x1), (2, .int x2), (3, .int x3), (4, .ref (n0 + 185))] []
  refine j_aload C 4 dL_bring_0 rfl ?_
  refine j_iconst C (0 : Int32) rfl dL_bring_2 ?_
  refine j_aload_n C 0 dL_bring_3 rfl rfl ?_
  refine j_iload_n C 1 dL_bring_4 rfl rfl ?_
  refine j_iload_n C 2 dL_bring_5 rfl rfl ?_
  refine j_iload_n C 3 dL_bring_6 rfl rfl ?_
  refine j_callV C 3 lc0 (ent_K _ _ _ _ _ _) rfl (c_X11_bring l G n0 hf) gv_RL_26 ⟨rfl, rfl⟩ (by decide +kernel) ⟨Nat.le_of_ble_eq_true rfl, Nat.le_of_ble_eq_true rfl⟩ rfl rfl (Nat.le_of_ble_eq_true rfl) dL_bring_7 ?_
  refine j_i2l C dL_bring_10 ?_
  refine j_last C hM dL_bring_11 ?_
  refine j_goto C 27 dL_bring_12 (by decide) ?_
  refine j_iconst C (0 : Int32) rfl dL_bring_27 ?_
  exact (hret _ _ dL_bring_28).1
set_option maxRecDepth 100000 in
set_option maxHeartbeats 1000000 in
theorem ct_L_bring_1 (l : Launch) (hfl : l.stackTraces = false) (G : Gx) (n0 : Nat) {x1 : Int32} {x2 : Int32} {x3 : Int32} {M : Mem} (hf : fX11_bring x1 x2 x3 M = some (Sum.inl 1)) : CtW l yL_bring cL_bring 6 hL_bring rL_bring G n0 [.ref (n0 + 0), .int x1, .int x2, .int x3, .ref (n0 + 185)] M 1 M := by
  refine ctw (cc := cL_bring) (maxL := 6) rfl (Nat.le_of_ble_eq_true rfl) ⟨rfl, rfl⟩ ?_
  intro K C C2 X hret
  have C : Ok K l rL_bring cL_bring RL G n0 6 := C
  have C2 : Ok (kup K 1 6) l rL_bring cL_bring RL G n0 6 := C2
  show J K M 0 [(0, .ref (n0 + 0)), (1, .int x1), (2, .int x2), (3, .int x3), (4, .ref (n0 + 185))] []
  refine j_aload C 4 dL_bring_0 rfl ?_
  refine j_iconst C (0 : Int32) rfl dL_bring_2 ?_
  refine j_aload_n C 0 dL_bring_3 rfl rfl ?_
  refine j_iload_n C 1 dL_bring_4 rfl rfl ?_
  refine j_iload_n C 2 dL_bring_5 rfl rfl ?_
  refine j_iload_n C 3 dL_bring_6 rfl rfl ?_
  refine j_catch (k := 1) (E := "java/lang/IndexOutOfBoundsException") C X 3 (t_X11_bring l hfl G n0 hf) gv_RL_26 ⟨rfl, rfl⟩ (by decide +kernel) ⟨Nat.le_of_ble_eq_true rfl, Nat.le_of_ble_eq_true rfl⟩ C2 rfl rfl (Nat.le_of_ble_eq_true rfl) rfl (by decide) [] ⟨0, 12, 15, 21⟩ [⟨0, 12, 19, 13⟩, ⟨0, 12, 23, 15⟩] rfl (fun z hz => absurd hz List.not_mem_nil) rfl (by decide) tw5_24 dL_bring_7 (fun q => ?_)
  refine j_astore C2 [(5, .ref q), (0, .ref (n0 + 0)), (1, .int x1), (2, .int x2), (3, .int x3), (4, .ref (n0 + 185))] dL_bring_15 (by decide) rfl ?_
  refine j_iconst C2 (1 : Int32) rfl dL_bring_17 ?_
  exact (hret _ _ dL_bring_18).2
set_option maxRecDepth 100000 in
set_option maxHeartbeats 1000000 in
theorem ct_L_bring_2 (l : Launch) (hfl : l.stackTraces = false) (G : Gx) (n0 : Nat) {x1 : Int32} {x2 : Int32} {x3 : Int32} {M : Mem} (hf : fX11_bring x1 x2 x3 M = some (Sum.inl 2)) : CtW l yL_bring cL_bring 6 hL_bring rL_bring G n0 [.ref (n0 + 0), .int x1, .int x2, .int x3, .ref (n0 + 185)] M 2 M := by
  refine ctw (cc := cL_bring) (maxL := 6) rfl (Nat.le_of_ble_eq_true rfl) ⟨rfl, rfl⟩ ?_
  intro K C C2 X hret
  have C : Ok K l rL_bring cL_bring RL G n0 6 := C
  have C2 : Ok (kup K 1 6) l rL_bring cL_bring RL G n0 6 := C2
  show J K M 0 [(0, .ref (n0 + 0)), (1, .int x1), (2, .int x2), (3, .int x3), (4, .ref (n0 + 185))] []
  refine j_aload C 4 dL_bring_0 rfl ?_
  refine j_iconst C (0 : Int32) rfl dL_bring_2 ?_
  refine j_aload_n C 0 dL_bring_3 rfl rfl ?_
  refine j_iload_n C 1 dL_bring_4 rfl rfl ?_
  refine j_iload_n C 2 dL_bring_5 rfl rfl ?_
  refine j_iload_n C 3 dL_bring_6 rfl rfl ?_
  refine j_catch (k := 2) (E := "java/lang/IllegalArgumentException") C X 3 (t_X11_bring l hfl G n0 hf) gv_RL_26 ⟨rfl, rfl⟩ (by decide +kernel) ⟨Nat.le_of_ble_eq_true rfl, Nat.le_of_ble_eq_true rfl⟩ C2 rfl rfl (Nat.le_of_ble_eq_true rfl) rfl (by decide) [⟨0, 12, 15, 21⟩] ⟨0, 12, 19, 13⟩ [⟨0, 12, 23, 15⟩] rfl (List.forall_mem_cons.mpr ⟨⟨by decide, "java/lang/IndexOutOfBoundsException", tw5_24, by decide, by decide⟩, fun _ h => absurd h List.not_mem_nil⟩) rfl (by decide) tw5_15 dL_bring_7 (fun q => ?_)
  refine j_astore C2 [(5, .ref q), (0, .ref (n0 + 0)), (1, .int x1), (2, .int x2), (3, .int x3), (4, .ref (n0 + 185))] dL_bring_19 (by decide) rfl ?_
  refine j_iconst C2 (2 : Int32) rfl dL_bring_21 ?_
  exact (hret _ _ dL_bring_22).2
set_option maxRecDepth 100000 in
set_option maxHeartbeats 1000000 in
theorem ct_L_bring_3 (l : Launch) (hfl : l.stackTraces = false) (G : Gx) (n0 : Nat) {x1 : Int32} {x2 : Int32} {x3 : Int32} {M : Mem} (hf : fX11_bring x1 x2 x3 M = some (Sum.inl 3)) : CtW l yL_bring cL_bring 6 hL_bring rL_bring G n0 [.ref (n0 + 0), .int x1, .int x2, .int x3, .ref (n0 + 185)] M 3 M := by
  refine ctw (cc := cL_bring) (maxL := 6) rfl (Nat.le_of_ble_eq_true rfl) ⟨rfl, rfl⟩ ?_
  intro K C C2 X hret
  have C : Ok K l rL_bring cL_bring RL G n0 6 := C
  have C2 : Ok (kup K 1 6) l rL_bring cL_bring RL G n0 6 := C2
  show J K M 0 [(0, .ref (n0 + 0)), (1, .int x1), (2, .int x2), (3, .int x3), (4, .ref (n0 + 185))] []
  refine j_aload C 4 dL_bring_0 rfl ?_
  refine j_iconst C (0 : Int32) rfl dL_bring_2 ?_
  refine j_aload_n C 0 dL_bring_3 rfl rfl ?_
  refine j_iload_n C 1 dL_bring_4 rfl rfl ?_
  refine j_iload_n C 2 dL_bring_5 rfl rfl ?_
  refine j_iload_n C 3 dL_bring_6 rfl rfl ?_
  refine j_catch (k := 3) (E := "java/lang/IllegalStateException") C X 3 (t_X11_bring l hfl G n0 hf) gv_RL_26 ⟨rfl, rfl⟩ (by decide +kernel) ⟨Nat.le_of_ble_eq_true rfl, Nat.le_of_ble_eq_true rfl⟩ C2 rfl rfl (Nat.le_of_ble_eq_true rfl) rfl (by decide) [⟨0, 12, 15, 21⟩, ⟨0, 12, 19, 13⟩] ⟨0, 12, 23, 15⟩ [] rfl (List.forall_mem_cons.mpr ⟨⟨by decide, "java/lang/IndexOutOfBoundsException", tw5_24, by decide, by decide⟩, List.forall_mem_cons.mpr ⟨⟨by decide, "java/lang/IllegalArgumentException", tw5_15, by decide, by decide⟩, fun _ h => absurd h List.not_mem_nil⟩⟩) rfl (by decide) tw5_16 dL_bring_7 (fun q => ?_)
  refine j_astore C2 [(5, .ref q), (0, .ref (n0 + 0)), (1, .int x1), (2, .int x2), (3, .int x3), (4, .ref (n0 + 185))] dL_bring_23 (by decide) rfl ?_
  refine j_iconst C2 (3 : Int32) rfl dL_bring_25 ?_
  exact (hret _ _ dL_bring_26).2
abbrev hL_takeBack : List (Nat × Nat × Nat × Nat) := [(0, 9, 12, 21)]
theorem cwL_takeBack : Cond.codeWith yL_takeBack cL_takeBack 4 (some .int) hL_takeBack ∈ TB := tbm5 53 rfl rfl
def rL_takeBack : Room := { frames := 8, cells := 1, slots := 6, locals := 148 }
set_option maxRecDepth 100000 in
set_option maxHeartbeats 1000000 in
theorem cr_L_takeBack (l : Launch) (G : Gx) (n0 : Nat) {x1 : Int32} {M : Mem} {r : Int32} {M1 M' : Mem} (hf : fX11_takeBack x1 M = some (Sum.inr (r, M1))) (hM : mputL M1 185 0 r.toInt64 = M') : CtW l yL_takeBack cL_takeBack 4 hL_takeBack rL_takeBack G n0 [.ref (n0 + 0), .int x1, .ref (n0 + 185)] M 0 M' := by
  refine ctw (cc := cL_takeBack) (maxL := 4) rfl (Nat.le_of_ble_eq_true rfl) ⟨rfl, rfl⟩ ?_
  intro K C C2 X hret
  have C : Ok K l rL_takeBack cL_takeBack RL G n0 4 := C
  have C2 : Ok (kup K 1 6) l rL_takeBack cL_takeBack RL G n0 4 := C2
  show J K M 0 [(0, .ref (n0 + 0)), (1, .int x1), (2, .ref (n0 + 185))] []
  refine j_aload_n C 2 dL_takeBack_0 rfl rfl ?_
  refine j_iconst C (0 : Int32) rfl dL_takeBack_1 ?_
  refine j_aload_n C 0 dL_takeBack_2 rfl rfl ?_
  refine j_iload_n C 1 dL_takeBack_3 rfl rfl ?_
  refine j_callV C 1 lc0 (ent_K _ _ _ _ _ _) rfl (c_X11_takeBack l G n0 hf) gv_RL_30 ⟨rfl, rfl⟩ (by decide +kernel) ⟨Nat.le_of_ble_eq_true rfl, Nat.le_of_ble_eq_true rfl⟩ rfl rfl (Nat.le_of_ble_eq_true rfl) dL_takeBack_4 ?_
  refine j_i2l C dL_takeBack_7 ?_
  refine j_last C hM dL_takeBack_8 ?_
  refine j_goto C 15 dL_takeBack_9 (by decide) ?_
  refine j_iconst C (0 : Int32) rfl dL_takeBack_15 ?_
  exact (hret _ _ dL_takeBack_16).1
set_option maxRecDepth 100000 in
set_option maxHeartbeats 1000000 in
theorem ct_L_takeBack_1 (l : Launch) (hfl : l.stackTraces = false) (G : Gx) (n0 : Nat) {x1 : Int32} {M : Mem} (hf : fX11_takeBack x1 M = some (Sum.inl 1)) : CtW l yL_takeBack cL_takeBack 4 hL_takeBack rL_takeBack G n0 [.ref (n0 + 0), .int x1, .ref (n0 + 185)] M 1 M := by
  refine ctw (cc := cL_takeBack) (maxL := 4) rfl (Nat.le_of_ble_eq_true rfl) ⟨rfl, rfl⟩ ?_
  intro K C C2 X hret
  have C : Ok K l rL_takeBack cL_takeBack RL G n0 4 := C
  have C2 : Ok (kup K 1 6) l rL_takeBack cL_takeBack RL G n0 4 := C2
  show J K M 0 [(0, .ref (n0 + 0)), (1, .int x1), (2, .ref (n0 + 185))] []
  refine j_aload_n C 2 dL_takeBack_0 rfl rfl ?_
  refine j_iconst C (0 : Int32) rfl dL_takeBack_1 ?_
  refine j_aload_n C 0 dL_takeBack_2 rfl rfl ?_
  refine j_iload_n C 1 dL_takeBack_3 rfl rfl ?_
  refine j_catch (k := 1) (E := "java/lang/IndexOutOfBoundsException") C X 1 (t_X11_takeBack l hfl G n0 hf) gv_RL_30 ⟨rfl, rfl⟩ (by decide +kernel) ⟨Nat.le_of_ble_eq_true rfl, Nat.le_of_ble_eq_true rfl⟩ C2 rfl rfl (Nat.le_of_ble_eq_true rfl) rfl (by decide) [] ⟨0, 9, 12, 21⟩ [] rfl (fun z hz => absurd hz List.not_mem_nil) rfl (by decide) tw5_24 dL_takeBack_4 (fun q => ?_)
  refine j_astore_n C2 [(3, .ref q), (0, .ref (n0 + 0)), (1, .int x1), (2, .ref (n0 + 185))] dL_takeBack_12 rfl (by decide) rfl ?_
  refine j_iconst C2 (1 : Int32) rfl dL_takeBack_13 ?_
  exact (hret _ _ dL_takeBack_14).2
abbrev hL_setS : List (Nat × Nat × Nat × Nat) := [(0, 9, 12, 13)]
theorem cwL_setS : Cond.codeWith yL_setS cL_setS 4 (some .int) hL_setS ∈ TB := tbm5 68 rfl rfl
def rL_setS : Room := { frames := 8, cells := 1, slots := 6, locals := 148 }
set_option maxRecDepth 100000 in
set_option maxHeartbeats 1000000 in
theorem cr_L_setS (l : Launch) (G : Gx) (n0 : Nat) {x1 : Int32} {M : Mem} {r : Int32} {M1 M' : Mem} (hf : fX11_setS x1 M = some (Sum.inr (r, M1))) (hM : mputL M1 185 0 r.toInt64 = M') : CtW l yL_setS cL_setS 4 hL_setS rL_setS G n0 [.ref (n0 + 0), .int x1, .ref (n0 + 185)] M 0 M' := by
  refine ctw (cc := cL_setS) (maxL := 4) rfl (Nat.le_of_ble_eq_true rfl) ⟨rfl, rfl⟩ ?_
  intro K C C2 X hret
  have C : Ok K l rL_setS cL_setS RL G n0 4 := C
  have C2 : Ok (kup K 1 6) l rL_setS cL_setS RL G n0 4 := C2
  show J K M 0 [(0, .ref (n0 + 0)), (1, .int x1), (2, .ref (n0 + 185))] []
  refine j_aload_n C 2 dL_setS_0 rfl rfl ?_
  refine j_iconst C (0 : Int32) rfl dL_setS_1 ?_
  refine j_aload_n C 0 dL_setS_2 rfl rfl ?_
  refine j_iload_n C 1 dL_setS_3 rfl rfl ?_
  refine j_callV C 1 lc0 (ent_K _ _ _ _ _ _) rfl (c_X11_setS l G n0 hf) gv_RL_33 ⟨rfl, rfl⟩ (by decide +kernel) ⟨Nat.le_of_ble_eq_true rfl, Nat.le_of_ble_eq_true rfl⟩ rfl rfl (Nat.le_of_ble_eq_true rfl) dL_setS_4 ?_
  refine j_i2l C dL_setS_7 ?_
  refine j_last C hM dL_setS_8 ?_
  refine j_goto C 15 dL_setS_9 (by decide) ?_
  refine j_iconst C (0 : Int32) rfl dL_setS_15 ?_
  exact (hret _ _ dL_setS_16).1
set_option maxRecDepth 100000 in
set_option maxHeartbeats 1000000 in
theorem ct_L_setS_2 (l : Launch) (hfl : l.stackTraces = false) (G : Gx) (n0 : Nat) {x1 : Int32} {M : Mem} (hf : fX11_setS x1 M = some (Sum.inl 2)) : CtW l yL_setS cL_setS 4 hL_setS rL_setS G n0 [.ref (n0 + 0), .int x1, .ref (n0 + 185)] M 1 M := by
  refine ctw (cc := cL_setS) (maxL := 4) rfl (Nat.le_of_ble_eq_true rfl) ⟨rfl, rfl⟩ ?_
  intro K C C2 X hret
  have C : Ok K l rL_setS cL_setS RL G n0 4 := C
  have C2 : Ok (kup K 1 6) l rL_setS cL_setS RL G n0 4 := C2
  show J K M 0 [(0, .ref (n0 + 0)), (1, .int x1), (2, .ref (n0 + 185))] []
  refine j_aload_n C 2 dL_setS_0 rfl rfl ?_
  refine j_iconst C (0 : Int32) rfl dL_setS_1 ?_
  refine j_aload_n C 0 dL_setS_2 rfl rfl ?_
  refine j_iload_n C 1 dL_setS_3 rfl rfl ?_
  refine j_catch (k := 2) (E := "java/lang/IllegalArgumentException") C X 1 (t_X11_setS l hfl G n0 hf) gv_RL_33 ⟨rfl, rfl⟩ (by decide +kernel) ⟨Nat.le_of_ble_eq_true rfl, Nat.le_of_ble_eq_true rfl⟩ C2 rfl rfl (Nat.le_of_ble_eq_true rfl) rfl (by decide) [] ⟨0, 9, 12, 13⟩ [] rfl (fun z hz => absurd hz List.not_mem_nil) rfl (by decide) tw5_15 dL_setS_4 (fun q => ?_)
  refine j_astore_n C2 [(3, .ref q), (0, .ref (n0 + 0)), (1, .int x1), (2, .ref (n0 + 185))] dL_setS_12 rfl (by decide) rfl ?_
  refine j_iconst C2 (1 : Int32) rfl dL_setS_13 ?_
  exact (hret _ _ dL_setS_14).2
abbrev hL_bake : List (Nat × Nat × Nat × Nat) := [(0, 9, 12, 13), (0, 9, 15, 15)]
theorem cwL_bake : Cond.codeWith yL_bake cL_bake 4 (some .int) hL_bake ∈ TB := tbm5 79 rfl rfl
def rL_bake : Room := { frames := 8, cells := 1, slots := 6, locals := 148 }
set_option maxRecDepth 100000 in
set_option maxHeartbeats 1000000 in
theorem cr_L_bake (l : Launch) (G : Gx) (n0 : Nat) {x1 : Int32} {M : Mem} {r : Int32} {M1 M' : Mem} (hf : fX11_bake x1 M = some (Sum.inr (r, M1))) (hM : mputL M1 185 0 r.toInt64 = M') : CtW l yL_bake cL_bake 4 hL_bake rL_bake G n0 [.ref (n0 + 0), .int x1, .ref (n0 + 185)] M 0 M' := by
  refine ctw (cc := cL_bake) (maxL := 4) rfl (Nat.le_of_ble_eq_true rfl) ⟨rfl, rfl⟩ ?_
  intro K C C2 X hret
  have C : Ok K l rL_bake cL_bake RL G n0 4 := C
  have C2 : Ok (kup K 1 6) l rL_bake cL_bake RL G n0 4 := C2
  show J K M 0 [(0, .ref (n0 + 0)), (1, .int x1), (2, .ref (n0 + 185))] []
  refine j_aload_n C 2 dL_bake_0 rfl rfl ?_
  refine j_iconst C (0 : Int32) rfl dL_bake_1 ?_
  refine j_aload_n C 0 dL_bake_2 rfl rfl ?_
  refine j_iload_n C 1 dL_bake_3 rfl rfl ?_
  refine j_callV C 1 lc0 (ent_K _ _ _ _ _ _) rfl (c_X11_bake l G n0 hf) gv_RL_36 ⟨rfl, rfl⟩ (by decide +kernel) ⟨Nat.le_of_ble_eq_true rfl, Nat.le_of_ble_eq_true rfl⟩ rfl rfl (Nat.le_of_ble_eq_true rfl) dL_bake_4 ?_
  refine j_i2l C dL_bake_7 ?_
  refine j_last C hM dL_bake_8 ?_
  refine j_goto C 18 dL_bake_9 (by decide) ?_
  refine j_iconst C (0 : Int32) rfl dL_bake_18 ?_
  exact (hret _ _ dL_bake_19).1
set_option maxRecDepth 100000 in
set_option maxHeartbeats 1000000 in
theorem ct_L_bake_2 (l : Launch) (hfl : l.stackTraces = false) (G : Gx) (n0 : Nat) {x1 : Int32} {M : Mem} (hf : fX11_bake x1 M = some (Sum.inl 2)) : CtW l yL_bake cL_bake 4 hL_bake rL_bake G n0 [.ref (n0 + 0), .int x1, .ref (n0 + 185)] M 1 M := by
  refine ctw (cc := cL_bake) (maxL := 4) rfl (Nat.le_of_ble_eq_true rfl) ⟨rfl, rfl⟩ ?_
  intro K C C2 X hret
  have C : Ok K l rL_bake cL_bake RL G n0 4 := C
  have C2 : Ok (kup K 1 6) l rL_bake cL_bake RL G n0 4 := C2
  show J K M 0 [(0, .ref (n0 + 0)), (1, .int x1), (2, .ref (n0 + 185))] []
  refine j_aload_n C 2 dL_bake_0 rfl rfl ?_
  refine j_iconst C (0 : Int32) rfl dL_bake_1 ?_
  refine j_aload_n C 0 dL_bake_2 rfl rfl ?_
  refine j_iload_n C 1 dL_bake_3 rfl rfl ?_
  refine j_catch (k := 2) (E := "java/lang/IllegalArgumentException") C X 1 (t_X11_bake l hfl G n0 hf) gv_RL_36 ⟨rfl, rfl⟩ (by decide +kernel) ⟨Nat.le_of_ble_eq_true rfl, Nat.le_of_ble_eq_true rfl⟩ C2 rfl rfl (Nat.le_of_ble_eq_true rfl) rfl (by decide) [] ⟨0, 9, 12, 13⟩ [⟨0, 9, 15, 15⟩] rfl (fun z hz => absurd hz List.not_mem_nil) rfl (by decide) tw5_15 dL_bake_4 (fun q => ?_)
  refine j_astore_n C2 [(3, .ref q), (0, .ref (n0 + 0)), (1, .int x1), (2, .ref (n0 + 185))] dL_bake_12 rfl (by decide) rfl ?_
  refine j_iconst C2 (1 : Int32) rfl dL_bake_13 ?_
  exact (hret _ _ dL_bake_14).2
set_option maxRecDepth 100000 in
set_option maxHeartbeats 1000000 in
theorem ct_L_bake_3 (l : Launch) (hfl : l.stackTraces = false) (G : Gx) (n0 : Nat) {x1 : Int32} {M : Mem} (hf : fX11_bake x1 M = some (Sum.inl 3)) : CtW l yL_bake cL_bake 4 hL_bake rL_bake G n0 [.ref (n0 + 0), .int x1, .ref (n0 + 185)] M 2 M := by
  refine ctw (cc := cL_bake) (maxL := 4) rfl (Nat.le_of_ble_eq_true rfl) ⟨rfl, rfl⟩ ?_
  intro K C C2 X hret
  have C : Ok K l rL_bake cL_bake RL G n0 4 := C
  have C2 : Ok (kup K 1 6) l rL_bake cL_bake RL G n0 4 := C2
  show J K M 0 [(0, .ref (n0 + 0)), (1, .int x1), (2, .ref (n0 + 185))] []
  refine j_aload_n C 2 dL_bake_0 rfl rfl ?_
  refine j_iconst C (0 : Int32) rfl dL_bake_1 ?_
  refine j_aload_n C 0 dL_bake_2 rfl rfl ?_
  refine j_iload_n C 1 dL_bake_3 rfl rfl ?_
  refine j_catch (k := 3) (E := "java/lang/IllegalStateException") C X 1 (t_X11_bake l hfl G n0 hf) gv_RL_36 ⟨rfl, rfl⟩ (by decide +kernel) ⟨Nat.le_of_ble_eq_true rfl, Nat.le_of_ble_eq_true rfl⟩ C2 rfl rfl (Nat.le_of_ble_eq_true rfl) rfl (by decide) [⟨0, 9, 12, 13⟩] ⟨0, 9, 15, 15⟩ [] rfl (List.forall_mem_cons.mpr ⟨⟨by decide, "java/lang/IllegalArgumentException", tw5_15, by decide, by decide⟩, fun _ h => absurd h List.not_mem_nil⟩) rfl (by decide) tw5_16 dL_bake_4 (fun q => ?_)
  refine j_astore_n C2 [(3, .ref q), (0, .ref (n0 + 0)), (1, .int x1), (2, .ref (n0 + 185))] dL_bake_15 rfl (by decide) rfl ?_
  refine j_iconst C2 (2 : Int32) rfl dL_bake_16 ?_
  exact (hret _ _ dL_bake_17).2
abbrev hL_claim : List (Nat × Nat × Nat × Nat) := [(0, 9, 12, 21)]
theorem cwL_claim : Cond.codeWith yL_claim cL_claim 4 (some .int) hL_claim ∈ TB := tbm5 86 rfl rfl
def rL_claim : Room := { frames := 8, cells := 1, slots := 6, locals := 148 }
set_option maxRecDepth 100000 in
set_option maxHeartbeats 1000000 in
theorem cr_L_claim (l : Launch) (G : Gx) (n0 : Nat) {x1 : Int32} {M : Mem} {r : Int32} {M1 M' : Mem} (hf : fX11_claim x1 M = some (Sum.inr (r, M1))) (hM : mputL M1 185 0 r.toInt64 = M') : CtW l yL_claim cL_claim 4 hL_claim rL_claim G n0 [.ref (n0 + 0), .int x1, .ref (n0 + 185)] M 0 M' := by
  refine ctw (cc := cL_claim) (maxL := 4) rfl (Nat.le_of_ble_eq_true rfl) ⟨rfl, rfl⟩ ?_
  intro K C C2 X hret
  have C : Ok K l rL_claim cL_claim RL G n0 4 := C
  have C2 : Ok (kup K 1 6) l rL_claim cL_claim RL G n0 4 := C2
  show J K M 0 [(0, .ref (n0 + 0)), (1, .int x1), (2, .ref (n0 + 185))] []
  refine j_aload_n C 2 dL_claim_0 rfl rfl ?_
  refine j_iconst C (0 : Int32) rfl dL_claim_1 ?_
  refine j_aload_n C 0 dL_claim_2 rfl rfl ?_
  refine j_iload_n C 1 dL_claim_3 rfl rfl ?_
  refine j_callV C 1 lc0 (ent_K _ _ _ _ _ _) rfl (c_X11_claim l G n0 hf) gv_RL_39 ⟨rfl, rfl⟩ (by decide +kernel) ⟨Nat.le_of_ble_eq_true rfl, Nat.le_of_ble_eq_true rfl⟩ rfl rfl (Nat.le_of_ble_eq_true rfl) dL_claim_4 ?_
  refine j_i2l C dL_claim_7 ?_
  refine j_last C hM dL_claim_8 ?_
  refine j_goto C 15 dL_claim_9 (by decide) ?_
  refine j_iconst C (0 : Int32) rfl dL_claim_15 ?_
  exact (hret _ _ dL_claim_16).1
set_option maxRecDepth 100000 in
set_option maxHeartbeats 1000000 in
theorem ct_L_claim_1 (l : Launch) (hfl : l.stackTraces = false) (G : Gx) (n0 : Nat) {x1 : Int32} {M : Mem} (hf : fX11_claim x1 M = some (Sum.inl 1)) : CtW l yL_claim cL_claim 4 hL_claim rL_claim G n0 [.ref (n0 + 0), .int x1, .ref (n0 + 185)] M 1 M := by
  refine ctw (cc := cL_claim) (maxL := 4) rfl (Nat.le_of_ble_eq_true rfl) ⟨rfl, rfl⟩ ?_
  intro K C C2 X hret
  have C : Ok K l rL_claim cL_claim RL G n0 4 := C
  have C2 : Ok (kup K 1 6) l rL_claim cL_claim RL G n0 4 := C2
  show J K M 0 [(0, .ref (n0 + 0)), (1, .int x1), (2, .ref (n0 + 185))] []
  refine j_aload_n C 2 dL_claim_0 rfl rfl ?_
  refine j_iconst C (0 : Int32) rfl dL_claim_1 ?_
  refine j_aload_n C 0 dL_claim_2 rfl rfl ?_
  refine j_iload_n C 1 dL_claim_3 rfl rfl ?_
  refine j_catch (k := 1) (E := "java/lang/IndexOutOfBoundsException") C X 1 (t_X11_claim l hfl G n0 hf) gv_RL_39 ⟨rfl, rfl⟩ (by decide +kernel) ⟨Nat.le_of_ble_eq_true rfl, Nat.le_of_ble_eq_true rfl⟩ C2 rfl rfl (Nat.le_of_ble_eq_true rfl) rfl (by decide) [] ⟨0, 9, 12, 21⟩ [] rfl (fun z hz => absurd hz List.not_mem_nil) rfl (by decide) tw5_24 dL_claim_4 (fun q => ?_)
  refine j_astore_n C2 [(3, .ref q), (0, .ref (n0 + 0)), (1, .int x1), (2, .ref (n0 + 185))] dL_claim_12 rfl (by decide) rfl ?_
  refine j_iconst C2 (1 : Int32) rfl dL_claim_13 ?_
  exact (hret _ _ dL_claim_14).2
abbrev hL_returnLoaves : List (Nat × Nat × Nat × Nat) := [(0, 9, 12, 21)]
theorem cwL_returnLoaves : Cond.codeWith yL_returnLoaves cL_returnLoaves 4 (some .int) hL_returnLoaves ∈ TB := tbm5 93 rfl rfl
def rL_returnLoaves : Room := { frames := 8, cells := 1, slots := 6, locals := 148 }
set_option maxRecDepth 100000 in
set_option maxHeartbeats 1000000 in
theorem cr_L_returnLoaves (l : Launch) (G : Gx) (n0 : Nat) {x1 : Int32} {M : Mem} {r : Int32} {M1 M' : Mem} (hf : fX11_returnLoaves x1 M = some (Sum.inr (r, M1))) (hM : mputL M1 185 0 r.toInt64 = M') : CtW l yL_returnLoaves cL_returnLoaves 4 hL_returnLoaves rL_returnLoaves G n0 [.ref (n0 + 0), .int x1, .ref (n0 + 185)] M 0 M' := by
  refine ctw (cc := cL_returnLoaves) (maxL := 4) rfl (Nat.le_of_ble_eq_true rfl) ⟨rfl, rfl⟩ ?_
  intro K C C2 X hret
  have C : Ok K l rL_returnLoaves cL_returnLoaves RL G n0 4 := C
  have C2 : Ok (kup K 1 6) l rL_returnLoaves cL_returnLoaves RL G n0 4 := C2
  show J K M 0 [(0, .ref (n0 + 0)), (1, .int x1), (2, .ref (n0 + 185))] []
  refine j_aload_n C 2 dL_returnLoaves_0 rfl rfl ?_
  refine j_iconst C (0 : Int32) rfl dL_returnLoaves_1 ?_
  refine j_aload_n C 0 dL_returnLoaves_2 rfl rfl ?_
  refine j_iload_n C 1 dL_returnLoaves_3 rfl rfl ?_
  refine j_callV C 1 lc0 (ent_K _ _ _ _ _ _) rfl (c_X11_returnLoaves l G n0 hf) gv_RL_42 ⟨rfl, rfl⟩ (by decide +kernel) ⟨Nat.le_of_ble_eq_true rfl, Nat.le_of_ble_eq_true rfl⟩ rfl rfl (Nat.le_of_ble_eq_true rfl) dL_returnLoaves_4 ?_
  refine j_i2l C dL_returnLoaves_7 ?_
  refine j_last C hM dL_returnLoaves_8 ?_
  refine j_goto C 15 dL_returnLoaves_9 (by decide) ?_
  refine j_iconst C (0 : Int32) rfl dL_returnLoaves_15 ?_
  exact (hret _ _ dL_returnLoaves_16).1
set_option maxRecDepth 100000 in
set_option maxHeartbeats 1000000 in
theorem ct_L_returnLoaves_1 (l : Launch) (hfl : l.stackTraces = false) (G : Gx) (n0 : Nat) {x1 : Int32} {M : Mem} (hf : fX11_returnLoaves x1 M = some (Sum.inl 1)) : CtW l yL_returnLoaves cL_returnLoaves 4 hL_returnLoaves rL_returnLoaves G n0 [.ref (n0 + 0), .int x1, .ref (n0 + 185)] M 1 M := by
  refine ctw (cc := cL_returnLoaves) (maxL := 4) rfl (Nat.le_of_ble_eq_true rfl) ⟨rfl, rfl⟩ ?_
  intro K C C2 X hret
  have C : Ok K l rL_returnLoaves cL_returnLoaves RL G n0 4 := C
  have C2 : Ok (kup K 1 6) l rL_returnLoaves cL_returnLoaves RL G n0 4 := C2
  show J K M 0 [(0, .ref (n0 + 0)), (1, .int x1), (2, .ref (n0 + 185))] []
  refine j_aload_n C 2 dL_returnLoaves_0 rfl rfl ?_
  refine j_iconst C (0 : Int32) rfl dL_returnLoaves_1 ?_
  refine j_aload_n C 0 dL_returnLoaves_2 rfl rfl ?_
  refine j_iload_n C 1 dL_returnLoaves_3 rfl rfl ?_
  refine j_catch (k := 1) (E := "java/lang/IndexOutOfBoundsException") C X 1 (t_X11_returnLoaves l hfl G n0 hf) gv_RL_42 ⟨rfl, rfl⟩ (by decide +kernel) ⟨Nat.le_of_ble_eq_true rfl, Nat.le_of_ble_eq_true rfl⟩ C2 rfl rfl (Nat.le_of_ble_eq_true rfl) rfl (by decide) [] ⟨0, 9, 12, 21⟩ [] rfl (fun z hz => absurd hz List.not_mem_nil) rfl (by decide) tw5_24 dL_returnLoaves_4 (fun q => ?_)
  refine j_astore_n C2 [(3, .ref q), (0, .ref (n0 + 0)), (1, .int x1), (2, .ref (n0 + 185))] dL_returnLoaves_12 rfl (by decide) rfl ?_
  refine j_iconst C2 (1 : Int32) rfl dL_returnLoaves_13 ?_
  exact (hret _ _ dL_returnLoaves_14).2
abbrev hL_household : List (Nat × Nat × Nat × Nat) := [(0, 10, 13, 21), (0, 10, 17, 13)]
theorem cwL_household : Cond.codeWith yL_household cL_household 5 (some .int) hL_household ∈ TB := tbm5 100 rfl rfl
def rL_household : Room := { frames := 8, cells := 1, slots := 6, locals := 132 }
set_option maxRecDepth 100000 in
set_option maxHeartbeats 1000000 in
theorem cr_L_household (l : Launch) (G : Gx) (n0 : Nat) {x1 : Int32} {x2 : Int32} {M : Mem} {r : Int32} {M' : Mem} (hf : fX11_household x1 x2 M = some (Sum.inr r)) (hM : mputL M 185 0 r.toInt64 = M') : CtW l yL_household cL_household 5 hL_household rL_household G n0 [.ref (n0 + 0), .int x1, .int x2, .ref (n0 + 185)] M 0 M' := by
  refine ctw (cc := cL_household) (maxL := 5) rfl (Nat.le_of_ble_eq_true rfl) ⟨rfl, rfl⟩ ?_
  intro K C C2 X hret
  have C : Ok K l rL_household cL_household RL G n0 5 := C
  have C2 : Ok (kup K 1 6) l rL_household cL_household RL G n0 5 := C2
  show J K M 0 [(0, .ref (n0 + 0)), (1, .int x1), (2, .int x2), (3, .ref (n0 + 185))] []
  refine j_aload_n C 3 dL_household_0 rfl rfl ?_
  refine j_iconst C (0 : Int32) rfl dL_household_1 ?_
  refine j_aload_n C 0 dL_household_2 rfl rfl ?_
  refine j_iload_n C 1 dL_household_3 rfl rfl ?_
  refine j_iload_n C 2 dL_household_4 rfl rfl ?_
  refine j_callV C 2 lc0 (ent_K _ _ _ _ _ _) rfl (c_X11_household l G n0 hf) gv_RL_45 ⟨rfl, rfl⟩ (by decide +kernel) ⟨Nat.le_of_ble_eq_true rfl, Nat.le_of_ble_eq_true rfl⟩ rfl rfl (Nat.le_of_ble_eq_true rfl) dL_household_5 ?_
  refine j_i2l C dL_household_8 ?_
  refine j_last C hM dL_household_9 ?_
  refine j_goto C 21 dL_household_10 (by decide) ?_
  refine j_iconst C (0 : Int32) rfl dL_household_21 ?_
  exact (hret _ _ dL_household_22).1
set_option maxRecDepth 100000 in
set_option maxHeartbeats 1000000 in
theorem ct_L_household_1 (l : Launch) (hfl : l.stackTraces = false) (G : Gx) (n0 : Nat) {x1 : Int32} {x2 : Int32} {M : Mem} (hf : fX11_household x1 x2 M = some (Sum.inl 1)) : CtW l yL_household cL_household 5 hL_household rL_household G n0 [.ref (n0 + 0), .int x1, .int x2, .ref (n0 + 185)] M 1 M := by
  refine ctw (cc := cL_household) (maxL := 5) rfl (Nat.le_of_ble_eq_true rfl) ⟨rfl, rfl⟩ ?_
  intro K C C2 X hret
  have C : Ok K l rL_household cL_household RL G n0 5 := C
  have C2 : Ok (kup K 1 6) l rL_household cL_household RL G n0 5 := C2
  show J K M 0 [(0, .ref (n0 + 0)), (1, .int x1), (2, .int x2), (3, .ref (n0 + 185))] []
  refine j_aload_n C 3 dL_household_0 rfl rfl ?_
  refine j_iconst C (0 : Int32) rfl dL_household_1 ?_
  refine j_aload_n C 0 dL_household_2 rfl rfl ?_
  refine j_iload_n C 1 dL_household_3 rfl rfl ?_
  refine j_iload_n C 2 dL_household_4 rfl rfl ?_
  refine j_catch (k := 1) (E := "java/lang/IndexOutOfBoundsException") C X 2 (t_X11_household l hfl G n0 hf) gv_RL_45 ⟨rfl, rfl⟩ (by decide +kernel) ⟨Nat.le_of_ble_eq_true rfl, Nat.le_of_ble_eq_true rfl⟩ C2 rfl rfl (Nat.le_of_ble_eq_true rfl) rfl (by decide) [] ⟨0, 10, 13, 21⟩ [⟨0, 10, 17, 13⟩] rfl (fun z hz => absurd hz List.not_mem_nil) rfl (by decide) tw5_24 dL_household_5 (fun q => ?_)
  refine j_astore C2 [(4, .ref q), (0, .ref (n0 + 0)), (1, .int x1), (2, .int x2), (3, .ref (n0 + 185))] dL_household_13 (by decide) rfl ?_
  refine j_iconst C2 (1 : Int32) rfl dL_household_15 ?_
  exact (hret _ _ dL_household_16).2
set_option maxRecDepth 100000 in
set_option maxHeartbeats 1000000 in
theorem ct_L_household_2 (l : Launch) (hfl : l.stackTraces = false) (G : Gx) (n0 : Nat) {x1 : Int32} {x2 : Int32} {M : Mem} (hf : fX11_household x1 x2 M = some (Sum.inl 2)) : CtW l yL_household cL_household 5 hL_household rL_household G n0 [.ref (n0 + 0), .int x1, .int x2, .ref (n0 + 185)] M 2 M := by
  refine ctw (cc := cL_household) (maxL := 5) rfl (Nat.le_of_ble_eq_true rfl) ⟨rfl, rfl⟩ ?_
  intro K C C2 X hret
  have C : Ok K l rL_household cL_household RL G n0 5 := C
  have C2 : Ok (kup K 1 6) l rL_household cL_household RL G n0 5 := C2
  show J K M 0 [(0, .ref (n0 + 0)), (1, .int x1), (2, .int x2), (3, .ref (n0 + 185))] []
  refine j_aload_n C 3 dL_household_0 rfl rfl ?_
  refine j_iconst C (0 : Int32) rfl dL_household_1 ?_
  refine j_aload_n C 0 dL_household_2 rfl rfl ?_
  refine j_iload_n C 1 dL_household_3 rfl rfl ?_
  refine j_iload_n C 2 dL_household_4 rfl rfl ?_
  refine j_catch (k := 2) (E := "java/lang/IllegalArgumentException") C X 2 (t_X11_household l hfl G n0 hf) gv_RL_45 ⟨rfl, rfl⟩ (by decide +kernel) ⟨Nat.le_of_ble_eq_true rfl, Nat.le_of_ble_eq_true rfl⟩ C2 rfl rfl (Nat.le_of_ble_eq_true rfl) rfl (by decide) [⟨0, 10, 13, 21⟩] ⟨0, 10, 17, 13⟩ [] rfl (List.forall_mem_cons.mpr ⟨⟨by decide, "java/lang/IndexOutOfBoundsException", tw5_24, by decide, by decide⟩, fun _ h => absurd h List.not_mem_nil⟩) rfl (by decide) tw5_15 dL_household_5 (fun q => ?_)
  refine j_astore C2 [(4, .ref q), (0, .ref (n0 + 0)), (1, .int x1), (2, .int x2), (3, .ref (n0 + 185))] dL_household_17 (by decide) rfl ?_
  refine j_iconst C2 (2 : Int32) rfl dL_household_19 ?_
  exact (hret _ _ dL_household_20).2
abbrev hL_due : List (Nat × Nat × Nat × Nat) := [(0, 8, 11, 21)]
theorem cwL_due : Cond.codeWith yL_due cL_due 4 (some .int) hL_due ∈ TB := tbm5 104 rfl rfl
def rL_due : Room := { frames := 8, cells := 1, slots := 6, locals := 131 }
set_option maxRecDepth 100000 in
set_option maxHeartbeats 1000000 in
theorem cr_L_due (l : Launch) (G : Gx) (n0 : Nat) {x1 : Int32} {M : Mem} {r : Int64} {M' : Mem} (hf : fX11_due x1 M = some (Sum.inr r)) (hM : mputL M 185 0 r = M') : CtW l yL_due cL_due 4 hL_due rL_due G n0 [.ref (n0 + 0), .int x1, .ref (n0 + 185)] M 0 M' := by
  refine ctw (cc := cL_due) (maxL := 4) rfl (Nat.le_of_ble_eq_true rfl) ⟨rfl, rfl⟩ ?_
  intro K C C2 X hret
  have C : Ok K l rL_due cL_due RL G n0 4 := C
  have C2 : Ok (kup K 1 6) l rL_due cL_due RL G n0 4 := C2
  show J K M 0 [(0, .ref (n0 + 0)), (1, .int x1), (2, .ref (n0 + 185))] []
  refine j_aload_n C 2 dL_due_0 rfl rfl ?_
  refine j_iconst C (0 : Int32) rfl dL_due_1 ?_
  refine j_aload_n C 0 dL_due_2 rfl rfl ?_
  refine j_iload_n C 1 dL_due_3 rfl rfl ?_
  refine j_callV C 1 lc0 (ent_K _ _ _ _ _ _) rfl (c_X11_due l G n0 hf) gv_RL_48 ⟨rfl, rfl⟩ (by decide +kernel) ⟨Nat.le_of_ble_eq_true rfl, Nat.le_of_ble_eq_true rfl⟩ rfl rfl (Nat.le_of_ble_eq_true rfl) dL_due_4 ?_
  refine j_last C hM dL_due_7 ?_
  refine j_goto C 14 dL_due_8 (by decide) ?_
  refine j_iconst C (0 : Int32) rfl dL_due_14 ?_
  exact (hret _ _ dL_due_15).1
set_option maxRecDepth 100000 in
set_option maxHeartbeats 1000000 in
theorem ct_L_due_1 (l : Launch) (hfl : l.stackTraces = false) (G : Gx) (n0 : Nat) {x1 : Int32} {M : Mem} (hf : fX11_due x1 M = some (Sum.inl 1)) : CtW l yL_due cL_due 4 hL_due rL_due G n0 [.ref (n0 + 0), .int x1, .ref (n0 + 185)] M 1 M := by
  refine ctw (cc := cL_due) (maxL := 4) rfl (Nat.le_of_ble_eq_true rfl) ⟨rfl, rfl⟩ ?_
  intro K C C2 X hret
  have C : Ok K l rL_due cL_due RL G n0 4 := C
  have C2 : Ok (kup K 1 6) l rL_due cL_due RL G n0 4 := C2
  show J K M 0 [(0, .ref (n0 + 0)), (1, .int x1), (2, .ref (n0 + 185))] []
  refine j_aload_n C 2 dL_due_0 rfl rfl ?_
  refine j_iconst C (0 : Int32) rfl dL_due_1 ?_
  refine j_aload_n C 0 dL_due_2 rfl rfl ?_
  refine j_iload_n C 1 dL_due_3 rfl rfl ?_
  refine j_catch (k := 1) (E := "java/lang/IndexOutOfBoundsException") C X 1 (t_X11_due l hfl G n0 hf) gv_RL_48 ⟨rfl, rfl⟩ (by decide +kernel) ⟨Nat.le_of_ble_eq_true rfl, Nat.le_of_ble_eq_true rfl⟩ C2 rfl rfl (Nat.le_of_ble_eq_true rfl) rfl (by decide) [] ⟨0, 8, 11, 21⟩ [] rfl (fun z hz => absurd hz List.not_mem_nil) rfl (by decide) tw5_24 dL_due_4 (fun q => ?_)
  refine j_astore_n C2 [(3, .ref q), (0, .ref (n0 + 0)), (1, .int x1), (2, .ref (n0 + 185))] dL_due_11 rfl (by decide) rfl ?_
  refine j_iconst C2 (1 : Int32) rfl dL_due_12 ?_
  exact (hret _ _ dL_due_13).2
abbrev hL_balance : List (Nat × Nat × Nat × Nat) := [(0, 10, 13, 21), (0, 10, 17, 13)]
theorem cwL_balance : Cond.codeWith yL_balance cL_balance 5 (some .int) hL_balance ∈ TB := tbm5 108 rfl rfl
def rL_balance : Room := { frames := 8, cells := 1, slots := 6, locals := 132 }
set_option maxRecDepth 100000 in
set_option maxHeartbeats 1000000 in
theorem cr_L_balance (l : Launch) (G : Gx) (n0 : Nat) {x1 : Int32} {x2 : Int32} {M : Mem} {r : Int32} {M' : Mem} (hf : fX11_balance x1 x2 M = some (Sum.inr r)) (hM : mputL M 185 0 r.toInt64 = M') : CtW l yL_balance cL_balance 5 hL_balance rL_balance G n0 [.ref (n0 + 0), .int x1, .int x2, .ref (n0 + 185)] M 0 M' := by
  refine ctw (cc := cL_balance) (maxL := 5) rfl (Nat.le_of_ble_eq_true rfl) ⟨rfl, rfl⟩ ?_
  intro K C C2 X hret
  have C : Ok K l rL_balance cL_balance RL G n0 5 := C
  have C2 : Ok (kup K 1 6) l rL_balance cL_balance RL G n0 5 := C2
  show J K M 0 [(0, .ref (n0 + 0)), (1, .int x1), (2, .int x2), (3, .ref (n0 + 185))] []
  refine j_aload_n C 3 dL_balance_0 rfl rfl ?_
  refine j_iconst C (0 : Int32) rfl dL_balance_1 ?_
  refine j_aload_n C 0 dL_balance_2 rfl rfl ?_
  refine j_iload_n C 1 dL_balance_3 rfl rfl ?_
  refine j_iload_n C 2 dL_balance_4 rfl rfl ?_
  refine j_callV C 2 lc0 (ent_K _ _ _ _ _ _) rfl (c_X11_balance l G n0 hf) gv_RL_52 ⟨rfl, rfl⟩ (by decide +kernel) ⟨Nat.le_of_ble_eq_true rfl, Nat.le_of_ble_eq_true rfl⟩ rfl rfl (Nat.le_of_ble_eq_true rfl) dL_balance_5 ?_
  refine j_i2l C dL_balance_8 ?_
  refine j_last C hM dL_balance_9 ?_
  refine j_goto C 21 dL_balance_10 (by decide) ?_
  refine j_iconst C (0 : Int32) rfl dL_balance_21 ?_
  exact (hret _ _ dL_balance_22).1
set_option maxRecDepth 100000 in
set_option maxHeartbeats 1000000 in
theorem ct_L_balance_1 (l : Launch) (hfl : l.stackTraces = false) (G : Gx) (n0 : Nat) {x1 : Int32} {x2 : Int32} {M : Mem} (hf : fX11_balance x1 x2 M = some (Sum.inl 1)) : CtW l yL_balance cL_balance 5 hL_balance rL_balance G n0 [.ref (n0 + 0), .int x1, .int x2, .ref (n0 + 185)] M 1 M := by
  refine ctw (cc := cL_balance) (maxL := 5) rfl (Nat.le_of_ble_eq_true rfl) ⟨rfl, rfl⟩ ?_
  intro K C C2 X hret
  have C : Ok K l rL_balance cL_balance RL G n0 5 := C
  have C2 : Ok (kup K 1 6) l rL_balance cL_balance RL G n0 5 := C2
  show J K M 0 [(0, .ref (n0 + 0)), (1, .int x1), (2, .int x2), (3, .ref (n0 + 185))] []
  refine j_aload_n C 3 dL_balance_0 rfl rfl ?_
  refine j_iconst C (0 : Int32) rfl dL_balance_1 ?_
  refine j_aload_n C 0 dL_balance_2 rfl rfl ?_
  refine j_iload_n C 1 dL_balance_3 rfl rfl ?_
  refine j_iload_n C 2 dL_balance_4 rfl rfl ?_
  refine j_catch (k := 1) (E := "java/lang/IndexOutOfBoundsException") C X 2 (t_X11_balance l hfl G n0 hf) gv_RL_52 ⟨rfl, rfl⟩ (by decide +kernel) ⟨Nat.le_of_ble_eq_true rfl, Nat.le_of_ble_eq_true rfl⟩ C2 rfl rfl (Nat.le_of_ble_eq_true rfl) rfl (by decide) [] ⟨0, 10, 13, 21⟩ [⟨0, 10, 17, 13⟩] rfl (fun z hz => absurd hz List.not_mem_nil) rfl (by decide) tw5_24 dL_balance_5 (fun q => ?_)
  refine j_astore C2 [(4, .ref q), (0, .ref (n0 + 0)), (1, .int x1), (2, .int x2), (3, .ref (n0 + 185))] dL_balance_13 (by decide) rfl ?_
  refine j_iconst C2 (1 : Int32) rfl dL_balance_15 ?_
  exact (hret _ _ dL_balance_16).2
set_option maxRecDepth 100000 in
set_option maxHeartbeats 1000000 in
theorem ct_L_balance_2 (l : Launch) (hfl : l.stackTraces = false) (G : Gx) (n0 : Nat) {x1 : Int32} {x2 : Int32} {M : Mem} (hf : fX11_balance x1 x2 M = some (Sum.inl 2)) : CtW l yL_balance cL_balance 5 hL_balance rL_balance G n0 [.ref (n0 + 0), .int x1, .int x2, .ref (n0 + 185)] M 2 M := by
  refine ctw (cc := cL_balance) (maxL := 5) rfl (Nat.le_of_ble_eq_true rfl) ⟨rfl, rfl⟩ ?_
  intro K C C2 X hret
  have C : Ok K l rL_balance cL_balance RL G n0 5 := C
  have C2 : Ok (kup K 1 6) l rL_balance cL_balance RL G n0 5 := C2
  show J K M 0 [(0, .ref (n0 + 0)), (1, .int x1), (2, .int x2), (3, .ref (n0 + 185))] []
  refine j_aload_n C 3 dL_balance_0 rfl rfl ?_
  refine j_iconst C (0 : Int32) rfl dL_balance_1 ?_
  refine j_aload_n C 0 dL_balance_2 rfl rfl ?_
  refine j_iload_n C 1 dL_balance_3 rfl rfl ?_
  refine j_iload_n C 2 dL_balance_4 rfl rfl ?_
  refine j_catch (k := 2) (E := "java/lang/IllegalArgumentException") C X 2 (t_X11_balance l hfl G n0 hf) gv_RL_52 ⟨rfl, rfl⟩ (by decide +kernel) ⟨Nat.le_of_ble_eq_true rfl, Nat.le_of_ble_eq_true rfl⟩ C2 rfl rfl (Nat.le_of_ble_eq_true rfl) rfl (by decide) [⟨0, 10, 13, 21⟩] ⟨0, 10, 17, 13⟩ [] rfl (List.forall_mem_cons.mpr ⟨⟨by decide, "java/lang/IndexOutOfBoundsException", tw5_24, by decide, by decide⟩, fun _ h => absurd h List.not_mem_nil⟩) rfl (by decide) tw5_15 dL_balance_5 (fun q => ?_)
  refine j_astore C2 [(4, .ref q), (0, .ref (n0 + 0)), (1, .int x1), (2, .int x2), (3, .ref (n0 + 185))] dL_balance_17 (by decide) rfl ?_
  refine j_iconst C2 (2 : Int32) rfl dL_balance_19 ?_
  exact (hret _ _ dL_balance_20).2
abbrev hL_batch : List (Nat × Nat × Nat × Nat) := [(0, 10, 13, 13)]
theorem cwL_batch : Cond.codeWith yL_batch cL_batch 5 (some .int) hL_batch ∈ TB := tbm5 112 rfl rfl
def rL_batch : Room := { frames := 8, cells := 1, slots := 6, locals := 132 }
set_option maxRecDepth 100000 in
set_option maxHeartbeats 1000000 in
theorem cr_L_batch (l : Launch) (G : Gx) (n0 : Nat) {x1 : Int32} {x2 : Int32} {M : Mem} {r : Int32} {M1 M' : Mem} (hf : fX11_batch x1 x2 M = some (Sum.inr (r, M1))) (hM : mputL M1 185 0 r.toInt64 = M') : CtW l yL_batch cL_batch 5 hL_batch rL_batch G n0 [.ref (n0 + 0), .int x1, .int x2, .ref (n0 + 185)] M 0 M' := by
  refine ctw (cc := cL_batch) (maxL := 5) rfl (Nat.le_of_ble_eq_true rfl) ⟨rfl, rfl⟩ ?_
  intro K C C2 X hret
  have C : Ok K l rL_batch cL_batch RL G n0 5 := C
  have C2 : Ok (kup K 1 6) l rL_batch cL_batch RL G n0 5 := C2
  show J K M 0 [(0, .ref (n0 + 0)), (1, .int x1), (2, .int x2), (3, .ref (n0 + 185))] []
  refine j_aload_n C 3 dL_batch_0 rfl rfl ?_
  refine j_iconst C (0 : Int32) rfl dL_batch_1 ?_
  refine j_aload_n C 0 dL_batch_2 rfl rfl ?_
  refine j_iload_n C 1 dL_batch_3 rfl rfl ?_
  refine j_iload_n C 2 dL_batch_4 rfl rfl ?_
  refine j_callV C 2 lc0 (ent_K _ _ _ _ _ _) rfl (c_X11_batch l G n0 hf) gv_RL_55 ⟨rfl, rfl⟩ (by decide +kernel) ⟨Nat.le_of_ble_eq_true rfl, Nat.le_of_ble_eq_true rfl⟩ rfl rfl (Nat.le_of_ble_eq_true rfl) dL_batch_5 ?_
  refine j_i2l C dL_batch_8 ?_
  refine j_last C hM dL_batch_9 ?_
  refine j_goto C 17 dL_batch_10 (by decide) ?_
  refine j_iconst C (0 : Int32) rfl dL_batch_17 ?_
  exact (hret _ _ dL_batch_18).1
set_option maxRecDepth 100000 in
set_option maxHeartbeats 1000000 in
theorem ct_L_batch_2 (l : Launch) (hfl : l.stackTraces = false) (G : Gx) (n0 : Nat) {x1 : Int32} {x2 : Int32} {M : Mem} (hf : fX11_batch x1 x2 M = some (Sum.inl 2)) : CtW l yL_batch cL_batch 5 hL_batch rL_batch G n0 [.ref (n0 + 0), .int x1, .int x2, .ref (n0 + 185)] M 1 M := by
  refine ctw (cc := cL_batch) (maxL := 5) rfl (Nat.le_of_ble_eq_true rfl) ⟨rfl, rfl⟩ ?_
  intro K C C2 X hret
  have C : Ok K l rL_batch cL_batch RL G n0 5 := C
  have C2 : Ok (kup K 1 6) l rL_batch cL_batch RL G n0 5 := C2
  show J K M 0 [(0, .ref (n0 + 0)), (1, .int x1), (2, .int x2), (3, .ref (n0 + 185))] []
  refine j_aload_n C 3 dL_batch_0 rfl rfl ?_
  refine j_iconst C (0 : Int32) rfl dL_batch_1 ?_
  refine j_aload_n C 0 dL_batch_2 rfl rfl ?_
  refine j_iload_n C 1 dL_batch_3 rfl rfl ?_
  refine j_iload_n C 2 dL_batch_4 rfl rfl ?_
  refine j_catch (k := 2) (E := "java/lang/IllegalArgumentException") C X 2 (t_X11_batch l hfl G n0 hf) gv_RL_55 ⟨rfl, rfl⟩ (by decide +kernel) ⟨Nat.le_of_ble_eq_true rfl, Nat.le_of_ble_eq_true rfl⟩ C2 rfl rfl (Nat.le_of_ble_eq_true rfl) rfl (by decide) [] ⟨0, 10, 13, 13⟩ [] rfl (fun z hz => absurd hz List.not_mem_nil) rfl (by decide) tw5_15 dL_batch_5 (fun q => ?_)
  refine j_astore C2 [(4, .ref q), (0, .ref (n0 + 0)), (1, .int x1), (2, .int x2), (3, .ref (n0 + 185))] dL_batch_13 (by decide) rfl ?_
  refine j_iconst C2 (1 : Int32) rfl dL_batch_15 ?_
  exact (hret _ _ dL_batch_16).2
abbrev hL_loaf : List (Nat × Nat × Nat × Nat) := [(0, 10, 13, 21), (0, 10, 17, 13)]
theorem cwL_loaf : Cond.codeWith yL_loaf cL_loaf 5 (some .int) hL_loaf ∈ TB := tbm5 116 rfl rfl
def rL_loaf : Room := { frames := 8, cells := 1, slots := 6, locals := 132 }
set_option maxRecDepth 100000 in
set_option maxHeartbeats 1000000 in
theorem cr_L_loaf (l : Launch) (G : Gx) (n0 : Nat) {x1 : Int32} {x2 : Int32} {M : Mem} {r : Int32} {M' : Mem} (hf : fX11_loaf x1 x2 M = some (Sum.inr r)) (hM : mputL M 185 0 r.toInt64 = M') : CtW l yL_loaf cL_loaf 5 hL_loaf rL_loaf G n0 [.ref (n0 + 0), .int x1, .int x2, .ref (n0 + 185)] M 0 M' := by
  refine ctw (cc := cL_loaf) (maxL := 5) rfl (Nat.le_of_ble_eq_true rfl) ⟨rfl, rfl⟩ ?_
  intro K C C2 X hret
  have C : Ok K l rL_loaf cL_loaf RL G n0 5 := C
  have C2 : Ok (kup K 1 6) l rL_loaf cL_loaf RL G n0 5 := C2
  show J K M 0 [(0, .ref (n0 + 0)), (1, .int x1), (2, .int x2), (3, .ref (n0 + 185))] []
  refine j_aload_n C 3 dL_loaf_0 rfl rfl ?_
  refine j_iconst C (0 : Int32) rfl dL_loaf_1 ?_
  refine j_aload_n C 0 dL_loaf_2 rfl rfl ?_
  refine j_iload_n C 1 dL_loaf_3 rfl rfl ?_
  refine j_iload_n C 2 dL_loaf_4 rfl rfl ?_
  refine j_callV C 2 lc0 (ent_K _ _ _ _ _ _) rfl (c_X11_loaf l G n0 hf) gv_RL_58 ⟨rfl, rfl⟩ (by decide +kernel) ⟨Nat.le_of_ble_eq_true rfl, Nat.le_of_ble_eq_true rfl⟩ rfl rfl (Nat.le_of_ble_eq_true rfl) dL_loaf_5 ?_
  refine j_i2l C dL_loaf_8 ?_
  refine j_last C hM dL_loaf_9 ?_
  refine j_goto C 21 dL_loaf_10 (by decide) ?_
  refine j_iconst C (0 : Int32) rfl dL_loaf_21 ?_
  exact (hret _ _ dL_loaf_22).1
set_option maxRecDepth 100000 in
set_option maxHeartbeats 1000000 in
theorem ct_L_loaf_1 (l : Launch) (hfl : l.stackTraces = false) (G : Gx) (n0 : Nat) {x1 : Int32} {x2 : Int32} {M : Mem} (hf : fX11_loaf x1 x2 M = some (Sum.inl 1)) : CtW l yL_loaf cL_loaf 5 hL_loaf rL_loaf G n0 [.ref (n0 + 0), .int x1, .int x2, .ref (n0 + 185)] M 1 M := by
  refine ctw (cc := cL_loaf) (maxL := 5) rfl (Nat.le_of_ble_eq_true rfl) ⟨rfl, rfl⟩ ?_
  intro K C C2 X hret
  have C : Ok K l rL_loaf cL_loaf RL G n0 5 := C
  have C2 : Ok (kup K 1 6) l rL_loaf cL_loaf RL G n0 5 := C2
  show J K M 0 [(0, .ref (n0 + 0)), (1, .int x1), (2, .int x2), (3, .ref (n0 + 185))] []
  refine j_aload_n C 3 dL_loaf_0 rfl rfl ?_
  refine j_iconst C (0 : Int32) rfl dL_loaf_1 ?_
  refine j_aload_n C 0 dL_loaf_2 rfl rfl ?_
  refine j_iload_n C 1 dL_loaf_3 rfl rfl ?_
  refine j_iload_n C 2 dL_loaf_4 rfl rfl ?_
  refine j_catch (k := 1) (E := "java/lang/IndexOutOfBoundsException") C X 2 (t_X11_loaf l hfl G n0 hf) gv_RL_58 ⟨rfl, rfl⟩ (by decide +kernel) ⟨Nat.le_of_ble_eq_true rfl, Nat.le_of_ble_eq_true rfl⟩ C2 rfl rfl (Nat.le_of_ble_eq_true rfl) rfl (by decide) [] ⟨0, 10, 13, 21⟩ [⟨0, 10, 17, 13⟩] rfl (fun z hz => absurd hz List.not_mem_nil) rfl (by decide) tw5_24 dL_loaf_5 (fun q => ?_)
  refine j_astore C2 [(4, .ref q), (0, .ref (n0 + 0)), (1, .int x1), (2, .int x2), (3, .ref (n0 + 185))] dL_loaf_13 (by decide) rfl ?_
  refine j_iconst C2 (1 : Int32) rfl dL_loaf_15 ?_
  exact (hret _ _ dL_loaf_16).2
set_option maxRecDepth 100000 in
set_option maxHeartbeats 1000000 in
theorem ct_L_loaf_2 (l : Launch) (hfl : l.stackTraces = false) (G : Gx) (n0 : Nat) {x1 : Int32} {x2 : Int32} {M : Mem} (hf : fX11_loaf x1 x2 M = some (Sum.inl 2)) : CtW l yL_loaf cL_loaf 5 hL_loaf rL_loaf G n0 [.ref (n0 + 0), .int x1, .int x2, .ref (n0 + 185)] M 2 M := by
  refine ctw (cc := cL_loaf) (maxL := 5) rfl (Nat.le_of_ble_eq_true rfl) ⟨rfl, rfl⟩ ?_
  intro K C C2 X hret
  have C : Ok K l rL_loaf cL_loaf RL G n0 5 := C
  have C2 : Ok (kup K 1 6) l rL_loaf cL_loaf RL G n0 5 := C2
  show J K M 0 [(0, .ref (n0 + 0)), (1, .int x1), (2, .int x2), (3, .ref (n0 + 185))] []
  refine j_aload_n C 3 dL_loaf_0 rfl rfl ?_
  refine j_iconst C (0 : Int32) rfl dL_loaf_1 ?_
  refine j_aload_n C 0 dL_loaf_2 rfl rfl ?_
  refine j_iload_n C 1 dL_loaf_3 rfl rfl ?_
  refine j_iload_n C 2 dL_loaf_4 rfl rfl ?_
  refine j_catch (k := 2) (E := "java/lang/IllegalArgumentException") C X 2 (t_X11_loaf l hfl G n0 hf) gv_RL_58 ⟨rfl, rfl⟩ (by decide +kernel) ⟨Nat.le_of_ble_eq_true rfl, Nat.le_of_ble_eq_true rfl⟩ C2 rfl rfl (Nat.le_of_ble_eq_true rfl) rfl (by decide) [⟨0, 10, 13, 21⟩] ⟨0, 10, 17, 13⟩ [] rfl (List.forall_mem_cons.mpr ⟨⟨by decide, "java/lang/IndexOutOfBoundsException", tw5_24, by decide, by decide⟩, fun _ h => absurd h List.not_mem_nil⟩) rfl (by decide) tw5_15 dL_loaf_5 (fun q => ?_)
  refine j_astore C2 [(4, .ref q), (0, .ref (n0 + 0)), (1, .int x1), (2, .int x2), (3, .ref (n0 + 185))] dL_loaf_17 (by decide) rfl ?_
  refine j_iconst C2 (2 : Int32) rfl dL_loaf_19 ?_
  exact (hret _ _ dL_loaf_20).2
abbrev hL_load : List (Nat × Nat × Nat × Nat) := [(0, 10, 13, 13)]
theorem cwL_load : Cond.codeWith yL_load cL_load 5 (some .int) hL_load ∈ TB := tbm5 120 rfl rfl
def rL_load : Room := { frames := 8, cells := 1, slots := 6, locals := 132 }
set_option maxRecDepth 100000 in
set_option maxHeartbeats 1000000 in
theorem cr_L_load (l : Launch) (G : Gx) (n0 : Nat) {x1 : Int32} {x2 : Int32} {M : Mem} {r : Int32} {M' : Mem} (hf : fX11_load x1 x2 M = some (Sum.inr r)) (hM : mputL M 185 0 r.toInt64 = M') : CtW l yL_load cL_load 5 hL_load rL_load G n0 [.ref (n0 + 0), .int x1, .int x2, .ref (n0 + 185)] M 0 M' := by
  refine ctw (cc := cL_load) (maxL := 5) rfl (Nat.le_of_ble_eq_true rfl) ⟨rfl, rfl⟩ ?_
  intro K C C2 X hret
  have C : Ok K l rL_load cL_load RL G n0 5 := C
  have C2 : Ok (kup K 1 6) l rL_load cL_load RL G n0 5 := C2
  show J K M 0 [(0, .ref (n0 + 0)), (1, .int x1), (2, .int x2), (3, .ref (n0 + 185))] []
  refine j_aload_n C 3 dL_load_0 rfl rfl ?_
  refine j_iconst C (0 : Int32) rfl dL_load_1 ?_
  refine j_aload_n C 0 dL_load_2 rfl rfl ?_
  refine j_iload_n C 1 dL_load_3 rfl rfl ?_
  refine j_iload_n C 2 dL_load_4 rfl rfl ?_
  refine j_callV C 2 lc0 (ent_K _ _ _ _ _ _) rfl (c_X11_load l G n0 hf) gv_RL_61 ⟨rfl, rfl⟩ (by decide +kernel) ⟨Nat.le_of_ble_eq_true rfl, Nat.le_of_ble_eq_true rfl⟩ rfl rfl (Nat.le_of_ble_eq_true rfl) dL_load_5 ?_
  refine j_i2l C dL_load_8 ?_
  refine j_last C hM dL_load_9 ?_
  refine j_goto C 17 dL_load_10 (by decide) ?_
  refine j_iconst C (0 : Int32) rfl dL_load_17 ?_
  exact (hret _ _ dL_load_18).1
set_option maxRecDepth 100000 in
set_option maxHeartbeats 1000000 in
theorem ct_L_load_2 (l : Launch) (hfl : l.stackTraces = false) (G : Gx) (n0 : Nat) {x1 : Int32} {x2 : Int32} {M : Mem} (hf : fX11_load x1 x2 M = some (Sum.inl 2)) : CtW l yL_load cL_load 5 hL_load rL_load G n0 [.ref (n0 + 0), .int x1, .int x2, .ref (n0 + 185)] M 1 M := by
  refine ctw (cc := cL_load) (maxL := 5) rfl (Nat.le_of_ble_eq_true rfl) ⟨rfl, rfl⟩ ?_
  intro K C C2 X hret
  have C : Ok K l rL_load cL_load RL G n0 5 := C
  have C2 : Ok (kup K 1 6) l rL_load cL_load RL G n0 5 := C2
  show J K M 0 [(0, .ref (n0 + 0)), (1, .int x1), (2, .int x2), (3, .ref (n0 + 185))] []
  refine j_aload_n C 3 dL_load_0 rfl rfl ?_
  refine j_iconst C (0 : Int32) rfl dL_load_1 ?_
  refine j_aload_n C 0 dL_load_2 rfl rfl ?_
  refine j_iload_n C 1 dL_load_3 rfl rfl ?_
  refine j_iload_n C 2 dL_load_4 rfl rfl ?_
  refine j_catch (k := 2) (E := "java/lang/IllegalArgumentException") C X 2 (t_X11_load l hfl G n0 hf) gv_RL_61 ⟨rfl, rfl⟩ (by decide +kernel) ⟨Nat.le_of_ble_eq_true rfl, Nat.le_of_ble_eq_true rfl⟩ C2 rfl rfl (Nat.le_of_ble_eq_true rfl) rfl (by decide) [] ⟨0, 10, 13, 13⟩ [] rfl (fun z hz => absurd hz List.not_mem_nil) rfl (by decide) tw5_15 dL_load_5 (fun q => ?_)
  refine j_astore C2 [(4, .ref q), (0, .ref (n0 + 0)), (1, .int x1), (2, .int x2), (3, .ref (n0 + 185))] dL_load_13 (by decide) rfl ?_
  refine j_iconst C2 (1 : Int32) rfl dL_load_15 ?_
  exact (hret _ _ dL_load_16).2
abbrev hL_whole : List (Nat × Nat × Nat × Nat) := [(0, 9, 12, 13)]
theorem cwL_whole : Cond.codeWith yL_whole cL_whole 4 (some .int) hL_whole ∈ TB := tbm5 124 rfl rfl
def rL_whole : Room := { frames := 8, cells := 1, slots := 6, locals := 131 }
set_option maxRecDepth 100000 in
set_option maxHeartbeats 1000000 in
theorem cr_L_whole (l : Launch) (G : Gx) (n0 : Nat) {x1 : Int32} {M : Mem} {r : Int32} {M' : Mem} (hf : fX11_whole x1 M = some (Sum.inr r)) (hM : mputL M 185 0 r.toInt64 = M') : CtW l yL_whole cL_whole 4 hL_whole rL_whole G n0 [.ref (n0 + 0), .int x1, .ref (n0 + 185)] M 0 M' := by
  refine ctw (cc := cL_whole) (maxL := 4) rfl (Nat.le_of_ble_eq_true rfl) ⟨rfl, rfl⟩ ?_
  intro K C C2 X hret
  have C : Ok K l rL_whole cL_whole RL G n0 4 := C
  have C2 : Ok (kup K 1 6) l rL_whole cL_whole RL G n0 4 := C2
  show J K M 0 [(0, .ref (n0 + 0)), (1, .int x1), (2, .ref (n0 + 185))] []
  refine j_aload_n C 2 dL_whole_0 rfl rfl ?_
  refine j_iconst C (0 : Int32) rfl dL_whole_1 ?_
  refine j_aload_n C 0 dL_whole_2 rfl rfl ?_
  refine j_iload_n C 1 dL_whole_3 rfl rfl ?_
  refine j_callV C 1 lc0 (ent_K _ _ _ _ _ _) rfl (c_X11_whole l G n0 hf) gv_RL_64 ⟨rfl, rfl⟩ (by decide +kernel) ⟨Nat.le_of_ble_eq_true rfl, Nat.le_of_ble_eq_true rfl⟩ rfl rfl (Nat.le_of_ble_eq_true rfl) dL_whole_4 ?_
  refine j_i2l C dL_whole_7 ?_
  refine j_last C hM dL_whole_8 ?_
  refine j_goto C 15 dL_whole_9 (by decide) ?_
  refine j_iconst C (0 : Int32) rfl dL_whole_15 ?_
  exact (hret _ _ dL_whole_16).1
set_option maxRecDepth 100000 in
set_option maxHeartbeats 1000000 in
theorem ct_L_whole_2 (l : Launch) (hfl : l.stackTraces = false) (G : Gx) (n0 : Nat) {x1 : Int32} {M : Mem} (hf : fX11_whole x1 M = some (Sum.inl 2)) : CtW l yL_whole cL_whole 4 hL_whole rL_whole G n0 [.ref (n0 + 0), .int x1, .ref (n0 + 185)] M 1 M := by
  refine ctw (cc := cL_whole) (maxL := 4) rfl (Nat.le_of_ble_eq_true rfl) ⟨rfl, rfl⟩ ?_
  intro K C C2 X hret
  have C : Ok K l rL_whole cL_whole RL G n0 4 := C
  have C2 : Ok (kup K 1 6) l rL_whole cL_whole RL G n0 4 := C2
  show J K M 0 [(0, .ref (n0 + 0)), (1, .int x1), (2, .ref (n0 + 185))] []
  refine j_aload_n C 2 dL_whole_0 rfl rfl ?_
  refine j_iconst C (0 : Int32) rfl dL_whole_1 ?_
  refine j_aload_n C 0 dL_whole_2 rfl rfl ?_
  refine j_iload_n C 1 dL_whole_3 rfl rfl ?_
  refine j_catch (k := 2) (E := "java/lang/IllegalArgumentException") C X 1 (t_X11_whole l hfl G n0 hf) gv_RL_64 ⟨rfl, rfl⟩ (by decide +kernel) ⟨Nat.le_of_ble_eq_true rfl, Nat.le_of_ble_eq_true rfl⟩ C2 rfl rfl (Nat.le_of_ble_eq_true rfl) rfl (by decide) [] ⟨0, 9, 12, 13⟩ [] rfl (fun z hz => absurd hz List.not_mem_nil) rfl (by decide) tw5_15 dL_whole_4 (fun q => ?_)
  refine j_astore_n C2 [(3, .ref q), (0, .ref (n0 + 0)), (1, .int x1), (2, .ref (n0 + 185))] dL_whole_12 rfl (by decide) rfl ?_
  refine j_iconst C2 (1 : Int32) rfl dL_whole_13 ?_
  exact (hret _ _ dL_whole_14).2
abbrev hL_doughWith : List (Nat × Nat × Nat × Nat) := [(0, 9, 12, 13)]
theorem cwL_doughWith : Cond.codeWith yL_doughWith cL_doughWith 4 (some .int) hL_doughWith ∈ TB := tbm5 128 rfl rfl
def rL_doughWith : Room := { frames := 8, cells := 1, slots := 6, locals := 142 }
set_option maxRecDepth 100000 in
set_option maxHeartbeats 1000000 in
theorem cr_L_doughWith (l : Launch) (G : Gx) (n0 : Nat) {x1 : Int32} {M : Mem} {r : Int32} {M1 M' : Mem} (hf : fX11_doughWith x1 M = some (Sum.inr (r, M1))) (hM : mputL M1 185 0 r.toInt64 = M') : CtW l yL_doughWith cL_doughWith 4 hL_doughWith rL_doughWith G n0 [.ref (n0 + 0), .int x1, .ref (n0 + 185)] M 0 M' := by
  refine ctw (cc := cL_doughWith) (maxL := 4) rfl (Nat.le_of_ble_eq_true rfl) ⟨rfl, rfl⟩ ?_
  intro K C C2 X hret
  have C : Ok K l rL_doughWith cL_doughWith RL G n0 4 := C
  have C2 : Ok (kup K 1 6) l rL_doughWith cL_doughWith RL G n0 4 := C2
  show J K M 0 [(0, .ref (n0 + 0)), (1, .int x1), (2, .ref (n0 + 185))] []
  refine j_aload_n C 2 dL_doughWith_0 rfl rfl ?_
  refine j_iconst C (0 : Int32) rfl dL_doughWith_1 ?_
  refine j_aload_n C 0 dL_doughWith_2 rfl rfl ?_
  refine j_iload_n C 1 dL_doughWith_3 rfl rfl ?_
  refine j_callV C 1 lc0 (ent_K _ _ _ _ _ _) rfl (c_X11_doughWith l G n0 hf) gv_RL_67 ⟨rfl, rfl⟩ (by decide +kernel) ⟨Nat.le_of_ble_eq_true rfl, Nat.le_of_ble_eq_true rfl⟩ rfl rfl (Nat.le_of_ble_eq_true rfl) dL_doughWith_4 ?_
  refine j_i2l C dL_doughWith_7 ?_
  refine j_last C hM dL_doughWith_8 ?_
  refine j_goto C 15 dL_doughWith_9 (by decide) ?_
  refine j_iconst C (0 : Int32) rfl dL_doughWith_15 ?_
  exact (hret _ _ dL_doughWith_16).1
set_option maxRecDepth 100000 in
set_option maxHeartbeats 1000000 in
theorem ct_L_doughWith_2 (l : Launch) (hfl : l.stackTraces = false) (G : Gx) (n0 : Nat) {x1 : Int32} {M : Mem} (hf : fX11_doughWith x1 M = some (Sum.inl 2)) : CtW l yL_doughWith cL_doughWith 4 hL_doughWith rL_doughWith G n0 [.ref (n0 + 0), .int x1, .ref (n0 + 185)] M 1 M := by
  refine ctw (cc := cL_doughWith) (maxL := 4) rfl (Nat.le_of_ble_eq_true rfl) ⟨rfl, rfl⟩ ?_
  intro K C C2 X hret
  have C : Ok K l rL_doughWith cL_doughWith RL G n0 4 := C
  have C2 : Ok (kup K 1 6) l rL_doughWith cL_doughWith RL G n0 4 := C2
  show J K M 0 [(0, .ref (n0 + 0)), (1, .int x1), (2, .ref (n0 + 185))] []
  refine j_aload_n C 2 dL_doughWith_0 rfl rfl ?_
  refine j_iconst C (0 : Int32) rfl dL_doughWith_1 ?_
  refine j_aload_n C 0 dL_doughWith_2 rfl rfl ?_
  refine j_iload_n C 1 dL_doughWith_3 rfl rfl ?_
  refine j_catch (k := 2) (E := "java/lang/IllegalArgumentException") C X 1 (t_X11_doughWith l hfl G n0 hf) gv_RL_67 ⟨rfl, rfl⟩ (by decide +kernel) ⟨Nat.le_of_ble_eq_true rfl, Nat.le_of_ble_eq_true rfl⟩ C2 rfl rfl (Nat.le_of_ble_eq_true rfl) rfl (by decide) [] ⟨0, 9, 12, 13⟩ [] rfl (fun z hz => absurd hz List.not_mem_nil) rfl (by decide) tw5_15 dL_doughWith_4 (fun q => ?_)
  refine j_astore_n C2 [(3, .ref q), (0, .ref (n0 + 0)), (1, .int x1), (2, .ref (n0 + 185))] dL_doughWith_12 rfl (by decide) rfl ?_
  refine j_iconst C2 (1 : Int32) rfl dL_doughWith_13 ?_
  exact (hret _ _ dL_doughWith_14).2
abbrev hL_freeMark : List (Nat × Nat × Nat × Nat) := [(0, 9, 12, 13)]
theorem cwL_freeMark : Cond.codeWith yL_freeMark cL_freeMark 4 (some .int) hL_freeMark ∈ TB := tbm5 135 rfl rfl
def rL_freeMark : Room := { frames := 8, cells := 1, slots := 6, locals := 133 }
set_option maxRecDepth 100000 in
set_option maxHeartbeats 1000000 in
theorem cr_L_freeMark (l : Launch) (G : Gx) (n0 : Nat) {x1 : Int32} {M : Mem} {r : Int32} {M' : Mem} (hf : fX11_freeMark x1 M = some (Sum.inr r)) (hM : mputL M 185 0 r.toInt64 = M') : CtW l yL_freeMark cL_freeMark 4 hL_freeMark rL_freeMark G n0 [.ref (n0 + 0), .int x1, .ref (n0 + 185)] M 0 M' := by
  refine ctw (cc := cL_freeMark) (maxL := 4) rfl (Nat.le_of_ble_eq_true rfl) ⟨rfl, rfl⟩ ?_
  intro K C C2 X hret
  have C : Ok K l rL_freeMark cL_freeMark RL G n0 4 := C
  have C2 : Ok (kup K 1 6) l rL_freeMark cL_freeMark RL G n0 4 := C2
  show J K M 0 [(0, .ref (n0 + 0)), (1, .int x1), (2, .ref (n0 + 185))] []
  refine j_aload_n C 2 dL_freeMark_0 rfl rfl ?_
  refine j_iconst C (0 : Int32) rfl dL_freeMark_1 ?_
  refine j_aload_n C 0 dL_freeMark_2 rfl rfl ?_
  refine j_iload_n C 1 dL_freeMark_3 rfl rfl ?_
  refine j_callV C 1 lc0 (ent_K _ _ _ _ _ _) rfl (c_X11_freeMark l G n0 hf) gv_RL_70 ⟨rfl, rfl⟩ (by decide +kernel) ⟨Nat.le_of_ble_eq_true rfl, Nat.le_of_ble_eq_true rfl⟩ rfl rfl (Nat.le_of_ble_eq_true rfl) dL_freeMark_4 ?_
  refine j_i2l C dL_freeMark_7 ?_
  refine j_last C hM dL_freeMark_8 ?_
  refine j_goto C 15 dL_freeMark_9 (by decide) ?_
  refine j_iconst C (0 : Int32) rfl dL_freeMark_15 ?_
  exact (hret _ _ dL_freeMark_16).1
set_option maxRecDepth 100000 in
set_option maxHeartbeats 1000000 in
theorem ct_L_freeMark_2 (l : Launch) (hfl : l.stackTraces = false) (G : Gx) (n0 : Nat) {x1 : Int32} {M : Mem} (hf : fX11_freeMark x1 M = some (Sum.inl 2)) : CtW l yL_freeMark cL_freeMark 4 hL_freeMark rL_freeMark G n0 [.ref (n0 + 0), .int x1, .ref (n0 + 185)] M 1 M := by
  refine ctw (cc := cL_freeMark) (maxL := 4) rfl (Nat.le_of_ble_eq_true rfl) ⟨rfl, rfl⟩ ?_
  intro K C C2 X hret
  have C : Ok K l rL_freeMark cL_freeMark RL G n0 4 := C
  have C2 : Ok (kup K 1 6) l rL_freeMark cL_freeMark RL G n0 4 := C2
  show J K M 0 [(0, .ref (n0 + 0)), (1, .int x1), (2, .ref (n0 + 185))] []
  refine j_aload_n C 2 dL_freeMark_0 rfl rfl ?_
  refine j_iconst C (0 : Int32) rfl dL_freeMark_1 ?_
  refine j_aload_n C 0 dL_freeMark_2 rfl rfl ?_
  refine j_iload_n C 1 dL_freeMark_3 rfl rfl ?_
  refine j_catch (k := 2) (E := "java/lang/IllegalArgumentException") C X 1 (t_X11_freeMark l hfl G n0 hf) gv_RL_70 ⟨rfl, rfl⟩ (by decide +kernel) ⟨Nat.le_of_ble_eq_true rfl, Nat.le_of_ble_eq_true rfl⟩ C2 rfl rfl (Nat.le_of_ble_eq_true rfl) rfl (by decide) [] ⟨0, 9, 12, 13⟩ [] rfl (fun z hz => absurd hz List.not_mem_nil) rfl (by decide) tw5_15 dL_freeMark_4 (fun q => ?_)
  refine j_astore_n C2 [(3, .ref q), (0, .ref (n0 + 0)), (1, .int x1), (2, .ref (n0 + 185))] dL_freeMark_12 rfl (by decide) rfl ?_
  refine j_iconst C2 (1 : Int32) rfl dL_freeMark_13 ?_
  exact (hret _ _ dL_freeMark_14).2
abbrev hL_type : List (Nat × Nat × Nat × Nat) := [(0, 9, 12, 13), (0, 9, 15, 15)]
theorem cwL_type : Cond.codeWith yL_type cL_type 4 (some .int) hL_type ∈ TB := tbm5 151 rfl rfl
def rL_type : Room := { frames := 8, cells := 1, slots := 6, locals := 131 }
set_option maxRecDepth 100000 in
set_option maxHeartbeats 1000000 in
theorem cr_L_type (l : Launch) (G : Gx) (n0 : Nat) {x1 : Int32} {M : Mem} {r : Int32} {M1 M' : Mem} (hf : fX11_type x1 M = some (Sum.inr (r, M1))) (hM : mputL M1 185 0 r.toInt64 = M') : CtW l yL_type cL_type 4 hL_type rL_type G n0 [.ref (n0 + 0), .int x1, .ref (n0 + 185)] M 0 M' := by
  refine ctw (cc := cL_type) (maxL := 4) rfl (Nat.le_of_ble_eq_true rfl) ⟨rfl, rfl⟩ ?_
  intro K C C2 X hret
  have C : Ok K l rL_type cL_type RL G n0 4 := C
  have C2 : Ok (kup K 1 6) l rL_type cL_type RL G n0 4 := C2
  show J K M 0 [(0, .ref (n0 + 0)), (1, .int x1), (2, .ref (n0 + 185))] []
  refine j_aload_n C 2 dL_type_0 rfl rfl ?_
  refine j_iconst C (0 : Int32) rfl dL_type_1 ?_
  refine j_aload_n C 0 dL_type_2 rfl rfl ?_
  refine j_iload_n C 1 dL_type_3 rfl rfl ?_
  refine j_callV C 1 lc0 (ent_K _ _ _ _ _ _) rfl (c_X11_type l G n0 hf) gv_RL_73 ⟨rfl, rfl⟩ (by decide +kernel) ⟨Nat.le_of_ble_eq_true rfl, Nat.le_of_ble_eq_true rfl⟩ rfl rfl (Nat.le_of_ble_eq_true rfl) dL_type_4 ?_
  refine j_i2l C dL_type_7 ?_
  refine j_last C hM dL_type_8 ?_
  refine j_goto C 18 dL_type_9 (by decide) ?_
  refine j_iconst C (0 : Int32) rfl dL_type_18 ?_
  exact (hret _ _ dL_type_19).1
set_option maxRecDepth 100000 in
set_option maxHeartbeats 1000000 in
theorem ct_L_type_2 (l : Launch) (hfl : l.stackTraces = false) (G : Gx) (n0 : Nat) {x1 : Int32} {M : Mem} (hf : fX11_type x1 M = some (Sum.inl 2)) : CtW l yL_type cL_type 4 hL_type rL_type G n0 [.ref (n0 + 0), .int x1, .ref (n0 + 185)] M 1 M := by
  refine ctw (cc := cL_type) (maxL := 4) rfl (Nat.le_of_ble_eq_true rfl) ⟨rfl, rfl⟩ ?_
  intro K C C2 X hret
  have C : Ok K l rL_type cL_type RL G n0 4 := C
  have C2 : Ok (kup K 1 6) l rL_type cL_type RL G n0 4 := C2
  show J K M 0 [(0, .ref (n0 + 0)), (1, .int x1), (2, .ref (n0 + 185))] []
  refine j_aload_n C 2 dL_type_0 rfl rfl ?_
  refine j_iconst C (0 : Int32) rfl dL_type_1 ?_
  refine j_aload_n C 0 dL_type_2 rfl rfl ?_
  refine j_iload_n C 1 dL_type_3 rfl rfl ?_
  refine j_catch (k := 2) (E := "java/lang/IllegalArgumentException") C X 1 (t_X11_type l hfl G n0 hf) gv_RL_73 ⟨rfl, rfl⟩ (by decide +kernel) ⟨Nat.le_of_ble_eq_true rfl, Nat.le_of_ble_eq_true rfl⟩ C2 rfl rfl (Nat.le_of_ble_eq_true rfl) rfl (by decide) [] ⟨0, 9, 12, 13⟩ [⟨0, 9, 15, 15⟩] rfl (fun z hz => absurd hz List.not_mem_nil) rfl (by decide) tw5_15 dL_type_4 (fun q => ?_)
  refine j_astore_n C2 [(3, .ref q), (0, .ref (n0 + 0)), (1, .int x1), (2, .ref (n0 + 185))] dL_type_12 rfl (by decide) rfl ?_
  refine j_iconst C2 (1 : Int32) rfl dL_type_13 ?_
  exact (hret _ _ dL_type_14).2
set_option maxRecDepth 100000 in
set_option maxHeartbeats 1000000 in
theorem ct_L_type_3 (l : Launch) (hfl : l.stackTraces = false) (G : Gx) (n0 : Nat) {x1 : Int32} {M : Mem} (hf : fX11_type x1 M = some (Sum.inl 3)) : CtW l yL_type cL_type 4 hL_type rL_type G n0 [.ref (n0 + 0), .int x1, .ref (n0 + 185)] M 2 M := by
  refine ctw (cc := cL_type) (maxL := 4) rfl (Nat.le_of_ble_eq_true rfl) ⟨rfl, rfl⟩ ?_
  intro K C C2 X hret
  have C : Ok K l rL_type cL_type RL G n0 4 := C
  have C2 : Ok (kup K 1 6) l rL_type cL_type RL G n0 4 := C2
  show J K M 0 [(0, .ref (n0 + 0)), (1, .int x1), (2, .ref (n0 + 185))] []
  refine j_aload_n C 2 dL_type_0 rfl rfl ?_
  refine j_iconst C (0 : Int32) rfl dL_type_1 ?_
  refine j_aload_n C 0 dL_type_2 rfl rfl ?_
  refine j_iload_n C 1 dL_type_3 rfl rfl ?_
  refine j_catch (k := 3) (E := "java/lang/IllegalStateException") C X 1 (t_X11_type l hfl G n0 hf) gv_RL_73 ⟨rfl, rfl⟩ (by decide +kernel) ⟨Nat.le_of_ble_eq_true rfl, Nat.le_of_ble_eq_true rfl⟩ C2 rfl rfl (Nat.le_of_ble_eq_true rfl) rfl (by decide) [⟨0, 9, 12, 13⟩] ⟨0, 9, 15, 15⟩ [] rfl (List.forall_mem_cons.mpr ⟨⟨by decide, "java/lang/IllegalArgumentException", tw5_15, by decide, by decide⟩, fun _ h => absurd h List.not_mem_nil⟩) rfl (by decide) tw5_16 dL_type_4 (fun q => ?_)
  refine j_astore_n C2 [(3, .ref q), (0, .ref (n0 + 0)), (1, .int x1), (2, .ref (n0 + 185))] dL_type_15 rfl (by decide) rfl ?_
  refine j_iconst C2 (2 : Int32) rfl dL_type_16 ?_
  exact (hret _ _ dL_type_17).2
abbrev hL_undo : List (Nat × Nat × Nat × Nat) := [(0, 8, 11, 15)]
theorem cwL_undo : Cond.codeWith yL_undo cL_undo 3 (some .int) hL_undo ∈ TB := tbm5 167 rfl rfl
def rL_undo : Room := { frames := 8, cells := 1, slots := 6, locals := 147 }
set_option maxRecDepth 100000 in
set_option maxHeartbeats 1000000 in
theorem cr_L_undo (l : Launch) (G : Gx) (n0 : Nat) {M : Mem} {r : Int32} {M1 M' : Mem} (hf : fX11_undo M = some (Sum.inr (r, M1))) (hM : mputL M1 185 0 r.toInt64 = M') : CtW l yL_undo cL_undo 3 hL_undo rL_undo G n0 [.ref (n0 + 0), .ref (n0 + 185)] M 0 M' := by
  refine ctw (cc := cL_undo) (maxL := 3) rfl (Nat.le_of_ble_eq_true rfl) ⟨rfl, rfl⟩ ?_
  intro K C C2 X hret
  have C : Ok K l rL_undo cL_undo RL G n0 3 := C
  have C2 : Ok (kup K 1 6) l rL_undo cL_undo RL G n0 3 := C2
  show J K M 0 [(0, .ref (n0 + 0)), (1, .ref (n0 + 185))] []
  refine j_aload_n C 1 dL_undo_0 rfl rfl ?_
  refine j_iconst C (0 : Int32) rfl dL_undo_1 ?_
  refine j_aload_n C 0 dL_undo_2 rfl rfl ?_
  refine j_callV C 0 lc0 (ent_K _ _ _ _ _ _) rfl (c_X11_undo l G n0 hf) gv_RL_76 ⟨rfl, rfl⟩ (by decide +kernel) ⟨Nat.le_of_ble_eq_true rfl, Nat.le_of_ble_eq_true rfl⟩ rfl rfl (Nat.le_of_ble_eq_true rfl) dL_undo_3 ?_
  refine j_i2l C dL_undo_6 ?_
  refine j_last C hM dL_undo_7 ?_
  refine j_goto C 14 dL_undo_8 (by decide) ?_
  refine j_iconst C (0 : Int32) rfl dL_undo_14 ?_
  exact (hret _ _ dL_undo_15).1
set_option maxRecDepth 100000 in
set_option maxHeartbeats 1000000 in
theorem ct_L_undo_3 (l : Launch) (hfl : l.stackTraces = false) (G : Gx) (n0 : Nat) {M : Mem} (hf : fX11_undo M = some (Sum.inl 3)) : CtW l yL_undo cL_undo 3 hL_undo rL_undo G n0 [.ref (n0 + 0), .ref (n0 + 185)] M 1 M := by
  refine ctw (cc := cL_undo) (maxL := 3) rfl (Nat.le_of_ble_eq_true rfl) ⟨rfl, rfl⟩ ?_
  intro K C C2 X hret
  have C : Ok K l rL_undo cL_undo RL G n0 3 := C
  have C2 : Ok (kup K 1 6) l rL_undo cL_undo RL G n0 3 := C2
  show J K M 0 [(0, .ref (n0 + 0)), (1, .ref (n0 + 185))] []
  refine j_aload_n C 1 dL_undo_0 rfl rfl ?_
  refine j_iconst C (0 : Int32) rfl dL_undo_1 ?_
  refine j_aload_n C 0 dL_undo_2 rfl rfl ?_
  refine j_catch (k := 3) (E := "java/lang/IllegalStateException") C X 0 (t_X11_undo l hfl G n0 hf) gv_RL_76 ⟨rfl, rfl⟩ (by decide +kernel) ⟨Nat.le_of_ble_eq_true rfl, Nat.le_of_ble_eq_true rfl⟩ C2 rfl rfl (Nat.le_of_ble_eq_true rfl) rfl (by decide) [] ⟨0, 8, 11, 15⟩ [] rfl (fun z hz => absurd hz List.not_mem_nil) rfl (by decide) tw5_16 dL_undo_3 (fun q => ?_)
  refine j_astore_n C2 [(2, .ref q), (0, .ref (n0 + 0)), (1, .ref (n0 + 185))] dL_undo_11 rfl (by decide) rfl ?_
  refine j_iconst C2 (1 : Int32) rfl dL_undo_12 ?_
  exact (hret _ _ dL_undo_13).2
