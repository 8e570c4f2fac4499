def fX11_join (x1 : Int32) (M : Mem) : Option (Nat ⊕ (Int32 × Mem)) :=
  (fX9_whyNoJoining 1 x1 M).bind fun v2 =>
  (fX11_refuse v2).bind fun o4 => xc o4 (fun k => some (Sum.inl k))
  (fun _ => (fX8_push 1 M).bind fun M6 =>
  (fX4_add 2 x1 M6).bind (un2 fun v8 M9 =>
  some (Sum.inr (v8, M9))))

def rX11_join : Room := { frames := 5, cells := 0, slots := 0, locals := 127 }
set_option maxRecDepth 100000 in
set_option maxHeartbeats 4000000 in
theorem c_X11_join (l : Launch) (G : Gx) (n0 : Nat) {x1 : Int32} {M : Mem} {r : Int32} {M' : Mem} (hf : fX11_join x1 M = some (Sum.inr (r, M'))) : Ct l yX11_join cX11_join 2 (some .int) rX11_join G n0 [.ref (n0 + 0), .int x1] M (some (.int r)) M' := by
  refine ct_int (cc := cX11_join) (maxL := 2) rfl (Nat.le_of_ble_eq_true rfl) ?_
  intro K C hret
  have C : Ok K l rX11_join cX11_join RX11 G n0 2 := C
  show J K M 0 [(0, .ref (n0 + 0)), (1, .int x1)] []
  unfold fX11_join at hf
  refine j_aload_n C 0 dX11_join_0 rfl rfl ?_
  refine g_X11_village C tw1_228 lc0 1 rfl dX11_join_1 ?_
  refine j_iload_n C 1 dX11_join_4 rfl rfl ?_
  obtain ⟨v2, e1, hf⟩ := bd hf
  refine j_callV C 1 lc1 (ent_K _ _ _ _ _ _) rfl (c_X9_whyNoJoining l G n0 lc1 e1) gv_RX11_41 ⟨rfl, rfl⟩ (by decide +kernel) ⟨Nat.le_of_ble_eq_true rfl, Nat.le_of_ble_eq_true rfl⟩ rfl rfl (Nat.le_of_ble_eq_true rfl) dX11_join_5 ?_
  obtain ⟨o4, e3, hf⟩ := bd hf
  rcases o4 with kx | _
  · replace hf : some _ = some _ := hf
    cases hf
  · replace hf := xcr hf
    refine j_callS C 1 (c_X11_refuse l G n0 (M := M) e3) gs_RX11_45 ⟨rfl, rfl⟩ (by decide +kernel) ⟨Nat.le_of_ble_eq_true rfl, Nat.le_of_ble_eq_true rfl⟩ rfl rfl (Nat.le_of_ble_eq_true rfl) dX11_join_8 ?_
    refine j_aload_n C 0 dX11_join_11 rfl rfl ?_
    refine g_X11_undoStack C tw1_230 lc0 45 rfl dX11_join_12 ?_
    refine j_aload_n C 0 dX11_join_15 rfl rfl ?_
    refine g_X11_village C tw1_228 lc0 1 rfl dX11_join_16 ?_
    obtain ⟨M6, e5, hf⟩ := bd hf
    refine j_callV C 1 lc45 (ent_K _ _ _ _ _ _) rfl (c_X8_push l G n0 lc1 e5) gv_RX11_49 ⟨rfl, rfl⟩ (by decide +kernel) ⟨Nat.le_of_ble_eq_true rfl, Nat.le_of_ble_eq_true rfl⟩ rfl rfl (Nat.le_of_ble_eq_true rfl) dX11_join_19 ?_
    refine j_aload_n C 0 dX11_join_22 rfl rfl ?_
    refine g_X11_village C tw1_228 lc0 1 rfl dX11_join_23 ?_
    refine gN_X9_households C (nxf_RX11_households) lc1 2 rfl dX11_join_26 ?_
    refine j_iload_n C 1 dX11_join_29 rfl rfl ?_
    obtain ⟨⟨v8, M9⟩, e7, hf⟩ := bd hf
    replace hf := un2e hf
    refine j_callV C 1 lc2 (ent_K _ _ _ _ _ _) rfl (c_X4_add l G n0 lc2 e7) gv_RX11_57 ⟨rfl, rfl⟩ (by decide +kernel) ⟨Nat.le_of_ble_eq_true rfl, Nat.le_of_ble_eq_true rfl⟩ rfl rfl (Nat.le_of_ble_eq_true rfl) dX11_join_30 ?_
    obtain ⟨rfl, rfl⟩ := Prod.mk.inj (Sum.inr.inj (Option.some.inj hf))
    exact hret _ _ dX11_join_33
def qX11_join : Room := { frames := 7, cells := 1, slots := 6, locals := 127 }
set_option maxRecDepth 100000 in
set_option maxHeartbeats 4000000 in
theorem t_X11_join (l : Launch) (hfl : l.stackTraces = false) (G : Gx) (n0 : Nat) {x1 : Int32} {M : Mem} {k : Nat} (hf : fX11_join x1 M = some (Sum.inl k)) : CtT l yX11_join cX11_join 2 (some .int) qX11_join G n0 [.ref (n0 + 0), .int x1] M k := by
  refine ct_thr (cc := cX11_join) (maxL := 2) rfl (Nat.le_of_ble_eq_true rfl) ⟨Nat.le_of_ble_eq_true rfl, Nat.le_of_ble_eq_true rfl⟩ ?_
  intro K C hthr
  have C : Ok K l qX11_join cX11_join RX11 G n0 2 := C
  show J K M 0 [(0, .ref (n0 + 0)), (1, .int x1)] []
  unfold fX11_join at hf
  refine j_aload_n C 0 dX11_join_0 rfl rfl ?_
  refine g_X11_village C tw1_228 lc0 1 rfl dX11_join_1 ?_
  refine j_iload_n C 1 dX11_join_4 rfl rfl ?_
  obtain ⟨v2, e1, hf⟩ := bd hf
  refine j_callV C 1 lc1 (ent_K _ _ _ _ _ _) rfl (c_X9_whyNoJoining l G n0 lc1 e1) gv_RX11_41 ⟨rfl, rfl⟩ (by decide +kernel) ⟨Nat.le_of_ble_eq_true rfl, Nat.le_of_ble_eq_true rfl⟩ rfl rfl (Nat.le_of_ble_eq_true rfl) dX11_join_5 ?_
  obtain ⟨o4, e3, hf⟩ := bd hf
  rcases o4 with kx | _
  · replace hf : some _ = some _ := hf
    cases hf
    exact j_callTS C 1 hthr (t_X11_refuse l hfl G n0 (M := M) e3) gs_RX11_45 ⟨rfl, rfl⟩ (by decide +kernel) ⟨Nat.le_of_ble_eq_true rfl, Nat.le_of_ble_eq_true rfl⟩ rfl rfl (Nat.le_of_ble_eq_true rfl) dX11_join_8
  · replace hf := xcr hf
    refine j_callS C 1 (c_X11_refuse l G n0 (M := M) e3) gs_RX11_45 ⟨rfl, rfl⟩ (by decide +kernel) ⟨Nat.le_of_ble_eq_true rfl, Nat.le_of_ble_eq_true rfl⟩ rfl rfl (Nat.le_of_ble_eq_true rfl) dX11_join_8 ?_
    refine j_aload_n C 0 dX11_join_11 rfl rfl ?_
    refine g_X11_undoStack C tw1_230 lc0 45 rfl dX11_join_12 ?_
    refine j_aload_n C 0 dX11_join_15 rfl rfl ?_
    refine g_X11_village C tw1_228 lc0 1 rfl dX11_join_16 ?_
    obtain ⟨M6, e5, hf⟩ := bd hf
    refine j_callV C 1 lc45 (ent_K _ _ _ _ _ _) rfl (c_X8_push l G n0 lc1 e5) gv_RX11_49 ⟨rfl, rfl⟩ (by decide +kernel) ⟨Nat.le_of_ble_eq_true rfl, Nat.le_of_ble_eq_true rfl⟩ rfl rfl (Nat.le_of_ble_eq_true rfl) dX11_join_19 ?_
    refine j_aload_n C 0 dX11_join_22 rfl rfl ?_
    refine g_X11_village C tw1_228 lc0 1 rfl dX11_join_23 ?_
    refine gN_X9_households C (nxf_RX11_households) lc1 2 rfl dX11_join_26 ?_
    refine j_iload_n C 1 dX11_join_29 rfl rfl ?_
    obtain ⟨⟨v8, M9⟩, e7, hf⟩ := bd hf
    replace hf := un2e hf
    refine j_callV C 1 lc2 (ent_K _ _ _ _ _ _) rfl (c_X4_add l G n0 lc2 e7) gv_RX11_57 ⟨rfl, rfl⟩ (by decide +kernel) ⟨Nat.le_of_ble_eq_true rfl, Nat.le_of_ble_eq_true rfl⟩ rfl rfl (Nat.le_of_ble_eq_true rfl) dX11_join_30 ?_
    cases hf
def fX11_remark (x1 : Int32) (x2 : Int32) (M : Mem) : Option (Nat ⊕ (Int32 × Mem)) :=
  (fX9_whyNoOtherMark 1 x1 x2 M).bind fun v2 =>
  (fX11_refuse v2).bind fun o4 => xc o4 (fun k => some (Sum.inl k))
  (fun _ => (fX8_push 1 M).bind fun M6 =>
  (fX4_changeMark 2 x1 x2 M6).bind (un2 fun v8 M9 =>
  some (Sum.inr (v8, M9))))

def rX11_remark : Room := { frames := 5, cells := 0, slots := 0, locals := 127 }
set_option maxRecDepth 100000 in
set_option maxHeartbeats 4000000 in
theorem c_X11_remark (l : Launch) (G : Gx) (n0 : Nat) {x1 : Int32} {x2 : Int32} {M : Mem} {r : Int32} {M' : Mem} (hf : fX11_remark x1 x2 M = some (Sum.inr (r, M'))) : Ct l yX11_remark cX11_remark 3 (some .int) rX11_remark G n0 [.ref (n0 + 0), .int x1, .int x2] M (some (.int r)) M' := by
  refine ct_int (cc := cX11_remark) (maxL := 3) rfl (Nat.le_of_ble_eq_true rfl) ?_
  intro K C hret
  have C : Ok K l rX11_remark cX11_remark RX11 G n0 3 := C
  show J K M 0 [(0, .ref (n0 + 0)), (1, .int x1), (2, .int x2)] []
  unfold fX11_remark at hf
  refine j_aload_n C 0 dX11_remark_0 rfl rfl ?_
  refine g_X11_village C tw1_228 lc0 1 rfl dX11_remark_1 ?_
  refine j_iload_n C 1 dX11_remark_4 rfl rfl ?_
  refine j_iload_n C 2 dX11_remark_5 rfl rfl ?_
  obtain ⟨v2, e1, hf⟩ := bd hf
  refine j_callV C 2 lc1 (ent_K _ _ _ _ _ _) rfl (c_X9_whyNoOtherMark l G n0 lc1 e1) gv_RX11_62 ⟨rfl, rfl⟩ (by decide +kernel) ⟨Nat.le_of_ble_eq_true rfl, Nat.le_of_ble_eq_true rfl⟩ rfl rfl (Nat.le_of_ble_eq_true rfl) dX11_remark_6 ?_
  obtain ⟨o4, e3, hf⟩ := bd hf
  rcases o4 with kx | _
  · replace hf : some _ = some _ := hf
    cases hf
  · replace hf := xcr hf
    refine j_callS C 1 (c_X11_refuse l G n0 (M := M) e3) gs_RX11_45 ⟨rfl, rfl⟩ (by decide +kernel) ⟨Nat.le_of_ble_eq_true rfl, Nat.le_of_ble_eq_true rfl⟩ rfl rfl (Nat.le_of_ble_eq_true rfl) dX11_remark_9 ?_
    refine j_aload_n C 0 dX11_remark_12 rfl rfl ?_
    refine g_X11_undoStack C tw1_230 lc0 45 rfl dX11_remark_13 ?_
    refine j_aload_n C 0 dX11_remark_16 rfl rfl ?_
    refine g_X11_village C tw1_228 lc0 1 rfl dX11_remark_17 ?_
    obtain ⟨M6, e5, hf⟩ := bd hf
    refine j_callV C 1 lc45 (ent_K _ _ _ _ _ _) rfl (c_X8_push l G n0 lc1 e5) gv_RX11_49 ⟨rfl, rfl⟩ (by decide +kernel) ⟨Nat.le_of_ble_eq_true rfl, Nat.le_of_ble_eq_true rfl⟩ rfl rfl (Nat.le_of_ble_eq_true rfl) dX11_remark_20 ?_
    refine j_aload_n C 0 dX11_remark_23 rfl rfl ?_
    refine g_X11_village C tw1_228 lc0 1 rfl dX11_remark_24 ?_
    refine gN_X9_households C (nxf_RX11_households) lc1 2 rfl dX11_remark_27 ?_
    refine j_iload_n C 1 dX11_remark_30 rfl rfl ?_
    refine j_iload_n C 2 dX11_remark_31 rfl rfl ?_
    obtain ⟨⟨v8, M9⟩, e7, hf⟩ := bd hf
    replace hf := un2e hf
    refine j_callV C 2 lc2 (ent_K _ _ _ _ _ _) rfl (c_X4_changeMark l G n0 lc2 e7) gv_RX11_66 ⟨rfl, rfl⟩ (by decide +kernel) ⟨Nat.le_of_ble_eq_true rfl, Nat.le_of_ble_eq_true rfl⟩ rfl rfl (Nat.le_of_ble_eq_true rfl) dX11_remark_32 ?_
    obtain ⟨rfl, rfl⟩ := Prod.mk.inj (Sum.inr.inj (Option.some.inj hf))
    exact hret _ _ dX11_remark_35
def qX11_remark : Room := { frames := 7, cells := 1, slots := 6, locals := 127 }
set_option maxRecDepth 100000 in
set_option maxHeartbeats 4000000 in
theorem t_X11_remark (l : Launch) (hfl : l.stackTraces = false) (G : Gx) (n0 : Nat) {x1 : Int32} {x2 : Int32} {M : Mem} {k : Nat} (hf : fX11_remark x1 x2 M = some (Sum.inl k)) : CtT l yX11_remark cX11_remark 3 (some .int) qX11_remark G n0 [.ref (n0 + 0), .int x1, .int x2] M k := by
  refine ct_thr (cc := cX11_remark) (maxL := 3) rfl (Nat.le_of_ble_eq_true rfl) ⟨Nat.le_of_ble_eq_true rfl, Nat.le_of_ble_eq_true rfl⟩ ?_
  intro K C hthr
  have C : Ok K l qX11_remark cX11_remark RX11 G n0 3 := C
  show J K M 0 [(0, .ref (n0 + 0)), (1, .int x1), (2, .int x2)] []
  unfold fX11_remark at hf
  refine j_aload_n C 0 dX11_remark_0 rfl rfl ?_
  refine g_X11_village C tw1_228 lc0 1 rfl dX11_remark_1 ?_
  refine j_iload_n C 1 dX11_remark_4 rfl rfl ?_
  refine j_iload_n C 2 dX11_remark_5 rfl rfl ?_
  obtain ⟨v2, e1, hf⟩ := bd hf
  refine j_callV C 2 lc1 (ent_K _ _ _ _ _ _) rfl (c_X9_whyNoOtherMark l G n0 lc1 e1) gv_RX11_62 ⟨rfl, rfl⟩ (by decide +kernel) ⟨Nat.le_of_ble_eq_true rfl, Nat.le_of_ble_eq_true rfl⟩ rfl rfl (Nat.le_of_ble_eq_true rfl) dX11_remark_6 ?_
  obtain ⟨o4, e3, hf⟩ := bd hf
  rcases o4 with kx | _
  · replace hf : some _ = some _ := hf
    cases hf
    exact j_callTS C 1 hthr (t_X11_refuse l hfl G n0 (M := M) e3) gs_RX11_45 ⟨rfl, rfl⟩ (by decide +kernel) ⟨Nat.le_of_ble_eq_true rfl, Nat.le_of_ble_eq_true rfl⟩ rfl rfl (Nat.le_of_ble_eq_true rfl) dX11_remark_9
  · replace hf := xcr hf
    refine j_callS C 1 (c_X11_refuse l G n0 (M := M) e3) gs_RX11_45 ⟨rfl, rfl⟩ (by decide +kernel) ⟨Nat.le_of_ble_eq_true rfl, Nat.le_of_ble_eq_true rfl⟩ rfl rfl (Nat.le_of_ble_eq_true rfl) dX11_remark_9 ?_
    refine j_aload_n C 0 dX11_remark_12 rfl rfl ?_
    refine g_X11_undoStack C tw1_230 lc0 45 rfl dX11_remark_13 ?_
    refine j_aload_n C 0 dX11_remark_16 rfl rfl ?_
    refine g_X11_village C tw1_228 lc0 1 rfl dX11_remark_17 ?_
    obtain ⟨M6, e5, hf⟩ := bd hf
    refine j_callV C 1 lc45 (ent_K _ _ _ _ _ _) rfl (c_X8_push l G n0 lc1 e5) gv_RX11_49 ⟨rfl, rfl⟩ (by decide +kernel) ⟨Nat.le_of_ble_eq_true rfl, Nat.le_of_ble_eq_true rfl⟩ rfl rfl (Nat.le_of_ble_eq_true rfl) dX11_remark_20 ?_
    refine j_aload_n C 0 dX11_remark_23 rfl rfl ?_
    refine g_X11_village C tw1_228 lc0 1 rfl dX11_remark_24 ?_
    refine gN_X9_households C (nxf_RX11_households) lc1 2 rfl dX11_remark_27 ?_
    refine j_iload_n C 1 dX11_remark_30 rfl rfl ?_
    refine j_iload_n C 2 dX11_remark_31 rfl rfl ?_
    obtain ⟨⟨v8, M9⟩, e7, hf⟩ := bd hf
    replace hf := un2e hf
    refine j_callV C 2 lc2 (ent_K _ _ _ _ _ _) rfl (c_X4_changeMark l G n0 lc2 e7) gv_RX11_66 ⟨rfl, rfl⟩ (by decide +kernel) ⟨Nat.le_of_ble_eq_true rfl, Nat.le_of_ble_eq_true rfl⟩ rfl rfl (Nat.le_of_ble_eq_true rfl) dX11_remark_32 ?_
    cases hf
def fX11_excuse (x1 : Int32) (M : Mem) : Option (Nat ⊕ (Int32 × Mem)) :=
  (fX9_whyNoHousehold 1 x1 M).bind fun v2 =>
  (fX11_refuse v2).bind fun o4 => xc o4 (fun k => some (Sum.inl k))
  (fun _ => (fX8_push 1 M).bind fun M6 =>
  (fX4_excuseOne 2 x1 M6).bind (un2 fun v8 M9 =>
  some (Sum.inr (v8, M9))))

def rX11_excuse : Room := { frames := 5, cells := 0, slots := 0, locals := 127 }
set_option maxRecDepth 100000 in
set_option maxHeartbeats 4000000 in
theorem c_X11_excuse (l : Launch) (G : Gx) (n0 : Nat) {x1 : Int32} {M : Mem} {r : Int32} {M' : Mem} (hf : fX11_excuse x1 M = some (Sum.inr (r, M'))) : Ct l yX11_excuse cX11_excuse 2 (some .int) rX11_excuse G n0 [.ref (n0 + 0), .int x1] M (some (.int r)) M' := by
  refine ct_int (cc := cX11_excuse) (maxL := 2) rfl (Nat.le_of_ble_eq_true rfl) ?_
  intro K C hret
  have C : Ok K l rX11_excuse cX11_excuse RX11 G n0 2 := C
  show J K M 0 [(0, .ref (n0 + 0)), (1, .int x1)] []
  unfold fX11_excuse at hf
  refine j_aload_n C 0 dX11_excuse_0 rfl rfl ?_
  refine g_X11_village C tw1_228 lc0 1 rfl dX11_excuse_1 ?_
  refine j_iload_n C 1 dX11_excuse_4 rfl rfl ?_
  obtain ⟨v2, e1, hf⟩ := bd hf
  refine j_callV C 1 lc1 (ent_K _ _ _ _ _ _) rfl (c_X9_whyNoHousehold l G n0 lc1 e1) gv_RX11_69 ⟨rfl, rfl⟩ (by decide +kernel) ⟨Nat.le_of_ble_eq_true rfl, Nat.le_of_ble_eq_true rfl⟩ rfl rfl (Nat.le_of_ble_eq_true rfl) dX11_excuse_5 ?_
  obtain ⟨o4, e3, hf⟩ := bd hf
  rcases o4 with kx | _
  · replace hf : some _ = some _ := hf
    cases hf
  · replace hf := xcr hf
    refine j_callS C 1 (c_X11_refuse l G n0 (M := M) e3) gs_RX11_45 ⟨rfl, rfl⟩ (by decide +kernel) ⟨Nat.le_of_ble_eq_true rfl, Nat.le_of_ble_eq_true rfl⟩ rfl rfl (Nat.le_of_ble_eq_true rfl) dX11_excuse_8 ?_
    refine j_aload_n C 0 dX11_excuse_11 rfl rfl ?_
    refine g_X11_undoStack C tw1_230 lc0 45 rfl dX11_excuse_12 ?_
    refine j_aload_n C 0 dX11_excuse_15 rfl rfl ?_
    refine g_X11_village C tw1_228 lc0 1 rfl dX11_excuse_16 ?_
    obtain ⟨M6, e5, hf⟩ := bd hf
    refine j_callV C 1 lc45 (ent_K _ _ _ _ _ _) rfl (c_X8_push l G n0 lc1 e5) gv_RX11_49 ⟨rfl, rfl⟩ (by decide +kernel) ⟨Nat.le_of_ble_eq_true rfl, Nat.le_of_ble_eq_true rfl⟩ rfl rfl (Nat.le_of_ble_eq_true rfl) dX11_excuse_19 ?_
    refine j_aload_n C 0 dX11_excuse_22 rfl rfl ?_
    refine g_X11_village C tw1_228 lc0 1 rfl dX11_excuse_23 ?_
    refine gN_X9_households C (nxf_RX11_households) lc1 2 rfl dX11_excuse_26 ?_
    refine j_iload_n C 1 dX11_excuse_29 rfl rfl ?_
    obtain ⟨⟨v8, M9⟩, e7, hf⟩ := bd hf
    replace hf := un2e hf
    refine j_callV C 1 lc2 (ent_K _ _ _ _ _ _) rfl (c_X4_excuseOne l G n0 lc2 e7) gv_RX11_72 ⟨rfl, rfl⟩ (by decide +kernel) ⟨Nat.le_of_ble_eq_true rfl, Nat.le_of_ble_eq_true rfl⟩ rfl rfl (Nat.le_of_ble_eq_true rfl) dX11_excuse_30 ?_
    obtain ⟨rfl, rfl⟩ := Prod.mk.inj (Sum.inr.inj (Option.some.inj hf))
    exact hret _ _ dX11_excuse_33
def qX11_excuse : Room := { frames := 7, cells := 1, slots := 6, locals := 127 }
set_option maxRecDepth 100000 in
set_option maxHeartbeats 4000000 in
theorem t_X11_excuse (l : Launch) (hfl : l.stackTraces = false) (G : Gx) (n0 : Nat) {x1 : Int32} {M : Mem} {k : Nat} (hf : fX11_excuse x1 M = some (Sum.inl k)) : CtT l yX11_excuse cX11_excuse 2 (some .int) qX11_excuse G n0 [.ref (n0 + 0), .int x1] M k := by
  refine ct_thr (cc := cX11_excuse) (maxL := 2) rfl (Nat.le_of_ble_eq_true rfl) ⟨Nat.le_of_ble_eq_true rfl, Nat.le_of_ble_eq_true rfl⟩ ?_
  intro K C hthr
  have C : Ok K l qX11_excuse cX11_excuse RX11 G n0 2 := C
  show J K M 0 [(0, .ref (n0 + 0)), (1, .int x1)] []
  unfold fX11_excuse at hf
  refine j_aload_n C 0 dX11_excuse_0 rfl rfl ?_
  refine g_X11_village C tw1_228 lc0 1 rfl dX11_excuse_1 ?_
  refine j_iload_n C 1 dX11_excuse_4 rfl rfl ?_
  obtain ⟨v2, e1, hf⟩ := bd hf
  refine j_callV C 1 lc1 (ent_K _ _ _ _ _ _) rfl (c_X9_whyNoHousehold l G n0 lc1 e1) gv_RX11_69 ⟨rfl, rfl⟩ (by decide +kernel) ⟨Nat.le_of_ble_eq_true rfl, Nat.le_of_ble_eq_true rfl⟩ rfl rfl (Nat.le_of_ble_eq_true rfl) dX11_excuse_5 ?_
  obtain ⟨o4, e3, hf⟩ := bd hf
  rcases o4 with kx | _
  · replace hf : some _ = some _ := hf
    cases hf
    exact j_callTS C 1 hthr (t_X11_refuse l hfl G n0 (M := M) e3) gs_RX11_45 ⟨rfl, rfl⟩ (by decide +kernel) ⟨Nat.le_of_ble_eq_true rfl, Nat.le_of_ble_eq_true rfl⟩ rfl rfl (Nat.le_of_ble_eq_true rfl) dX11_excuse_8
  · replace hf := xcr hf
    refine j_callS C 1 (c_X11_refuse l G n0 (M := M) e3) gs_RX11_45 ⟨rfl, rfl⟩ (by decide +kernel) ⟨Nat.le_of_ble_eq_true rfl, Nat.le_of_ble_eq_true rfl⟩ rfl rfl (Nat.le_of_ble_eq_true rfl) dX11_excuse_8 ?_
    refine j_aload_n C 0 dX11_excuse_11 rfl rfl ?_
    refine g_X11_undoStack C tw1_230 lc0 45 rfl dX11_excuse_12 ?_
    refine j_aload_n C 0 dX11_excuse_15 rfl rfl ?_
    refine g_X11_village C tw1_228 lc0 1 rfl dX11_excuse_16 ?_
    obtain ⟨M6, e5, hf⟩ := bd hf
    refine j_callV C 1 lc45 (ent_K _ _ _ _ _ _) rfl (c_X8_push l G n0 lc1 e5) gv_RX11_49 ⟨rfl, rfl⟩ (by decide +kernel) ⟨Nat.le_of_ble_eq_true rfl, Nat.le_of_ble_eq_true rfl⟩ rfl rfl (Nat.le_of_ble_eq_true rfl) dX11_excuse_19 ?_
    refine j_aload_n C 0 dX11_excuse_22 rfl rfl ?_
    refine g_X11_village C tw1_228 lc0 1 rfl dX11_excuse_23 ?_
    refine gN_X9_households C (nxf_RX11_households) lc1 2 rfl dX11_excuse_26 ?_
    refine j_iload_n C 1 dX11_excuse_29 rfl rfl ?_
    obtain ⟨⟨v8, M9⟩, e7, hf⟩ := bd hf
    replace hf := un2e hf
    refine j_callV C 1 lc2 (ent_K _ _ _ _ _ _) rfl (c_X4_excuseOne l G n0 lc2 e7) gv_RX11_72 ⟨rfl, rfl⟩ (by decide +kernel) ⟨Nat.le_of_ble_eq_true rfl, Nat.le_of_ble_eq_true rfl⟩ rfl rfl (Nat.le_of_ble_eq_true rfl) dX11_excuse_30 ?_
    cases hf
def fX11_bring (x1 : Int32) (x2 : Int32) (x3 : Int32) (M : Mem) : Option (Nat ⊕ (Int32 × Mem)) :=
  (fX9_whyNoBatch 1 x1 x2 x3 M).bind fun v2 =>
  (fX11_refuse v2).bind fun o4 => xc o4 (fun k => some (Sum.inl k))
  (fun _ => (fX8_push 1 M).bind fun M6 =>
  (fX1_add 9 x1 x2 x3 M6).bind (un2 fun v8 M9 =>
  some (Sum.inr (v8, M9))))

def rX11_bring : Room := { frames := 5, cells := 0, slots := 0, locals := 127 }
set_option maxRecDepth 100000 in
set_option maxHeartbeats 4000000 in
theorem c_X11_bring (l : Launch) (G : Gx) (n0 : Nat) {x1 : Int32} {x2 : Int32} {x3 : Int32} {M : Mem} {r : Int32} {M' : Mem} (hf : fX11_bring x1 x2 x3 M = some (Sum.inr (r, M'))) : Ct l yX11_bring cX11_bring 4 (some .int) rX11_bring G n0 [.ref (n0 + 0), .int x1, .int x2, .int x3] M (some (.int r)) M' := by
  refine ct_int (cc := cX11_bring) (maxL := 4) rfl (Nat.le_of_ble_eq_true rfl) ?_
  intro K C hret
  have C : Ok K l rX11_bring cX11_bring RX11 G n0 4 := C
  show J K M 0 [(0, .ref (n0 + 0)), (1, .int x1), (2, .int x2), (3, .int x3)] []
  unfold fX11_bring at hf
  refine j_aload_n C 0 dX11_bring_0 rfl rfl ?_
  refine g_X11_village C tw1_228 lc0 1 rfl dX11_bring_1 ?_
  refine j_iload_n C 1 dX11_bring_4 rfl rfl ?_
  refine j_iload_n C 2 dX11_bring_5 rfl rfl ?_
  refine j_iload_n C 3 dX11_bring_6 rfl rfl ?_
  obtain ⟨v2, e1, hf⟩ := bd hf
  refine j_callV C 3 lc1 (ent_K _ _ _ _ _ _) rfl (c_X9_whyNoBatch l G n0 lc1 e1) gv_RX11_75 ⟨rfl, rfl⟩ (by decide +kernel) ⟨Nat.le_of_ble_eq_true rfl, Nat.le_of_ble_eq_true rfl⟩ rfl rfl (Nat.le_of_ble_eq_true rfl) dX11_bring_7 ?_
  obtain ⟨o4, e3, hf⟩ := bd hf
  rcases o4 with kx | _
  · replace hf : some _ = some _ := hf
    cases hf
  · replace hf := xcr hf
    refine j_callS C 1 (c_X11_refuse l G n0 (M := M) e3) gs_RX11_45 ⟨rfl, rfl⟩ (by decide +kernel) ⟨Nat.le_of_ble_eq_true rfl, Nat.le_of_ble_eq_true rfl⟩ rfl rfl (Nat.le_of_ble_eq_true rfl) dX11_bring_10 ?_
    refine j_aload_n C 0 dX11_bring_13 rfl rfl ?_
    refine g_X11_undoStack C tw1_230 lc0 45 rfl dX11_bring_14 ?_
    refine j_aload_n C 0 dX11_bring_17 rfl rfl ?_
    refine g_X11_village C tw1_228 lc0 1 rfl dX11_bring_18 ?_
    obtain ⟨M6, e5, hf⟩ := bd hf
    refine j_callV C 1 lc45 (ent_K _ _ _ _ _ _) rfl (c_X8_push l G n0 lc1 e5) gv_RX11_49 ⟨rfl, rfl⟩ (by decide +kernel) ⟨Nat.le_of_ble_eq_true rfl, Nat.le_of_ble_eq_true rfl⟩ rfl rfl (Nat.le_of_ble_eq_true rfl) dX11_bring_21 ?_
    refine j_aload_n C 0 dX11_bring_24 rfl rfl ?_
    refine g_X11_village C tw1_228 lc0 1 rfl dX11_bring_25 ?_
    refine gN_X9_batches C (nxf_RX11_batches) lc1 9 rfl dX11_bring_28 ?_
    refine j_iload_n C 1 dX11_bring_31 rfl rfl ?_
    refine j_iload_n C 2 dX11_bring_32 rfl rfl ?_
    refine j_iload_n C 3 dX11_bring_33 rfl rfl ?_
    obtain ⟨⟨v8, M9⟩, e7, hf⟩ := bd hf
    replace hf := un2e hf
    refine j_callV C 3 lc9 (ent_K _ _ _ _ _ _) rfl (c_X1_add l G n0 lc9 e7) gv_RX11_83 ⟨rfl, rfl⟩ (by decide +kernel) ⟨Nat.le_of_ble_eq_true rfl, Nat.le_of_ble_eq_true rfl⟩ rfl rfl (Nat.le_of_ble_eq_true rfl) dX11_bring_34 ?_
    obtain ⟨rfl, rfl⟩ := Prod.mk.inj (Sum.inr.inj (Option.some.inj hf))
    exact hret _ _ dX11_bring_37
def qX11_bring : Room := { frames := 7, cells := 1, slots := 6, locals := 127 }
set_option maxRecDepth 100000 in
set_option maxHeartbeats 4000000 in
theorem t_X11_bring (l : Launch) (hfl : l.stackTraces = false) (G : Gx) (n0 : Nat) {x1 : Int32} {x2 : Int32} {x3 : Int32} {M : Mem} {k : Nat} (hf : fX11_bring x1 x2 x3 M = some (Sum.inl k)) : CtT l yX11_bring cX11_bring 4 (some .int) qX11_bring G n0 [.ref (n0 + 0), .int x1, .int x2, .int x3] M k := by
  refine ct_thr (cc := cX11_bring) (maxL := 4) rfl (Nat.le_of_ble_eq_true rfl) ⟨Nat.le_of_ble_eq_true rfl, Nat.le_of_ble_eq_true rfl⟩ ?_
  intro K C hthr
  have C : Ok K l qX11_bring cX11_bring RX11 G n0 4 := C
  show J K M 0 [(0, .ref (n0 + 0)), (1, .int x1), (2, .int x2), (3, .int x3)] []
  unfold fX11_bring at hf
  refine j_aload_n C 0 dX11_bring_0 rfl rfl ?_
  refine g_X11_village C tw1_228 lc0 1 rfl dX11_bring_1 ?_
  refine j_iload_n C 1 dX11_bring_4 rfl rfl ?_
  refine j_iload_n C 2 dX11_bring_5 rfl rfl ?_
  refine j_iload_n C 3 dX11_bring_6 rfl rfl ?_
  obtain ⟨v2, e1, hf⟩ := bd hf
  refine j_callV C 3 lc1 (ent_K _ _ _ _ _ _) rfl (c_X9_whyNoBatch l G n0 lc1 e1) gv_RX11_75 ⟨rfl, rfl⟩ (by decide +kernel) ⟨Nat.le_of_ble_eq_true rfl, Nat.le_of_ble_eq_true rfl⟩ rfl rfl (Nat.le_of_ble_eq_true rfl) dX11_bring_7 ?_
  obtain ⟨o4, e3, hf⟩ := bd hf
  rcases o4 with kx | _
  · replace hf : some _ = some _ := hf
    cases hf
    exact j_callTS C 1 hthr (t_X11_refuse l hfl G n0 (M := M) e3) gs_RX11_45 ⟨rfl, rfl⟩ (by decide +kernel) ⟨Nat.le_of_ble_eq_true rfl, Nat.le_of_ble_eq_true rfl⟩ rfl rfl (Nat.le_of_ble_eq_true rfl) dX11_bring_10
  · replace hf := xcr hf
    refine j_callS C 1 (c_X11_refuse l G n0 (M := M) e3) gs_RX11_45 ⟨rfl, rfl⟩ (by decide +kernel) ⟨Nat.le_of_ble_eq_true rfl, Nat.le_of_ble_eq_true rfl⟩ rfl rfl (Nat.le_of_ble_eq_true rfl) dX11_bring_10 ?_
    refine j_aload_n C 0 dX11_bring_13 rfl rfl ?_
    refine g_X11_undoStack C tw1_230 lc0 45 rfl dX11_bring_14 ?_
    refine j_aload_n C 0 dX11_bring_17 rfl rfl ?_
    refine g_X11_village C tw1_228 lc0 1 rfl dX11_bring_18 ?_
    obtain ⟨M6, e5, hf⟩ := bd hf
    refine j_callV C 1 lc45 (ent_K _ _ _ _ _ _) rfl (c_X8_push l G n0 lc1 e5) gv_RX11_49 ⟨rfl, rfl⟩ (by decide +kernel) ⟨Nat.le_of_ble_eq_true rfl, Nat.le_of_ble_eq_true rfl⟩ rfl rfl (Nat.le_of_ble_eq_true rfl) dX11_bring_21 ?_
    refine j_aload_n C 0 dX11_bring_24 rfl rfl ?_
    refine g_X11_village C tw1_228 lc0 1 rfl dX11_bring_25 ?_
    refine gN_X9_batches C (nxf_RX11_batches) lc1 9 rfl dX11_bring_28 ?_
    refine j_iload_n C 1 dX11_bring_31 rfl rfl ?_
    refine j_iload_n C 2 dX11_bring_32 rfl rfl ?_
    refine j_iload_n C 3 dX11_bring_33 rfl rfl ?_
    obtain ⟨⟨v8, M9⟩, e7, hf⟩ := bd hf
    replace hf := un2e hf
    refine j_callV C 3 lc9 (ent_K _ _ _ _ _ _) rfl (c_X1_add l G n0 lc9 e7) gv_RX11_83 ⟨rfl, rfl⟩ (by decide +kernel) ⟨Nat.le_of_ble_eq_true rfl, Nat.le_of_ble_eq_true rfl⟩ rfl rfl (Nat.le_of_ble_eq_true rfl) dX11_bring_34 ?_
    cases hf
def fX11_takeBack (x1 : Int32) (M : Mem) : Option (Nat ⊕ (Int32 × Mem)) :=
  (fX1_has 9 x1 M).bind fun b2 =>
  (if b2 = true then (some (0 : Int32))
  else (some (1 : Int32))).bind (fun z4 => (fX11_refuse z4).bind fun o6 => xc o6 (fun k => some (Sum.inl k))
  (fun _ => (fX8_push 1 M).bind fun M8 =>
  (fX1_remove 9 x1 M8).bind (un2 fun v10 M11 =>
  some (Sum.inr (v10, M11)))))

def rX11_takeBack : Room := { frames := 5, cells := 0, slots := 0, locals := 127 }
set_option maxRecDepth 100000 in
set_option maxHeartbeats 4000000 in
theorem c_X11_takeBack (l : Launch) (G : Gx) (n0 : Nat) {x1 : Int32} {M : Mem} {r : Int32} {M' : Mem} (hf : fX11_takeBack x1 M = some (Sum.inr (r, M'))) : Ct l yX11_takeBack cX11_takeBack 2 (some .int) rX11_takeBack G n0 [.ref (n0 + 0), .int x1] M (some (.int r)) M' := by
  refine ct_int (cc := cX11_takeBack) (maxL := 2) rfl (Nat.le_of_ble_eq_true rfl) ?_
  intro K C hret
  have C : Ok K l rX11_takeBack cX11_takeBack RX11 G n0 2 := C
  show J K M 0 [(0, .ref (n0 + 0)), (1, .int x1)] []
  unfold fX11_takeBack at hf
  refine j_aload_n C 0 dX11_takeBack_0 rfl rfl ?_
  refine g_X11_village C tw1_228 lc0 1 rfl dX11_takeBack_1 ?_
  refine gN_X9_batches C (nxf_RX11_batches) lc1 9 rfl dX11_takeBack_4 ?_
  refine j_iload_n C 1 dX11_takeBack_7 rfl rfl ?_
  obtain ⟨b2, e1, hf⟩ := bd hf
  refine j_callV C 1 lc9 (ent_K _ _ _ _ _ _) rfl (c_X1_has l G n0 lc9 e1) gv_RX11_87 ⟨rfl, rfl⟩ (by decide +kernel) ⟨Nat.le_of_ble_eq_true rfl, Nat.le_of_ble_eq_true rfl⟩ rfl rfl (Nat.le_of_ble_eq_true rfl) dX11_takeBack_8 ?_
  obtain ⟨z4, e12, hf⟩ := bd hf
  have hj13 : J K M 19 [(0, .ref (n0 + 0)), (1, .int x1)] [.int z4] := by
    obtain ⟨o6, e5, hf⟩ := bd hf
    rcases o6 with kx | _
    · replace hf : some _ = some _ := hf
      cases hf
    · replace hf := xcr hf
      refine j_callS C 1 (c_X11_refuse l G n0 (M := M) e5) gs_RX11_45 ⟨rfl, rfl⟩ (by decide +kernel) ⟨Nat.le_of_ble_eq_true rfl, Nat.le_of_ble_eq_true rfl⟩ rfl rfl (Nat.le_of_ble_eq_true rfl) dX11_takeBack_19 ?_
      refine j_aload_n C 0 dX11_takeBack_22 rfl rfl ?_
      refine g_X11_undoStack C tw1_230 lc0 45 rfl dX11_takeBack_23 ?_
      refine j_aload_n C 0 dX11_takeBack_26 rfl rfl ?_
      refine g_X11_village C tw1_228 lc0 1 rfl dX11_takeBack_27 ?_
      obtain ⟨M8, e7, hf⟩ := bd hf
      refine j_callV C 1 lc45 (ent_K _ _ _ _ _ _) rfl (c_X8_push l G n0 lc1 e7) gv_RX11_49 ⟨rfl, rfl⟩ (by decide +kernel) ⟨Nat.le_of_ble_eq_true rfl, Nat.le_of_ble_eq_true rfl⟩ rfl rfl (Nat.le_of_ble_eq_true rfl) dX11_takeBack_30 ?_
      refine j_aload_n C 0 dX11_takeBack_33 rfl rfl ?_
      refine g_X11_village C tw1_228 lc0 1 rfl dX11_takeBack_34 ?_
      refine gN_X9_batches C (nxf_RX11_batches) lc1 9 rfl dX11_takeBack_37 ?_
      refine j_iload_n C 1 dX11_takeBack_40 rfl rfl ?_
      obtain ⟨⟨v10, M11⟩, e9, hf⟩ := bd hf
      replace hf := un2e hf
      refine j_callV C 1 lc9 (ent_K _ _ _ _ _ _) rfl (c_X1_remove l G n0 lc9 e9) gv_RX11_91 ⟨rfl, rfl⟩ (by decide +kernel) ⟨Nat.le_of_ble_eq_true rfl, Nat.le_of_ble_eq_true rfl⟩ rfl rfl (Nat.le_of_ble_eq_true rfl) dX11_takeBack_41 ?_
      obtain ⟨rfl, rfl⟩ := Prod.mk.inj (Sum.inr.inj (Option.some.inj hf))
      exact hret _ _ dX11_takeBack_44
  clear hf
  have hf := e12
  refine j_ifz_eq C 18 dX11_takeBack_11 (by decide) (fun c3 => ?_) (fun c3 => ?_)
  · replace hf := ine c3 hf
    refine j_iconst C (1 : Int32) rfl dX11_takeBack_18 ?_
    cases hf
    refine j_sub [0, 1] rfl ?_
    exact hj13
  · replace hf := ip c3 hf
    refine j_iconst C (0 : Int32) rfl dX11_takeBack_14 ?_
    refine j_goto C 19 dX11_takeBack_15 (by decide) ?_
    cases hf
    refine j_sub [0, 1] rfl ?_
    exact hj13
def qX11_takeBack : Room := { frames := 7, cells := 1, slots := 6, locals := 127 }
set_option maxRecDepth 100000 in
set_option maxHeartbeats 4000000 in
theorem t_X11_takeBack (l : Launch) (hfl : l.stackTraces = false) (G : Gx) (n0 : Nat) {x1 : Int32} {M : Mem} {k : Nat} (hf : fX11_takeBack x1 M = some (Sum.inl k)) : CtT l yX11_takeBack cX11_takeBack 2 (some .int) qX11_takeBack G n0 [.ref (n0 + 0), .int x1] M k := by
  refine ct_thr (cc := cX11_takeBack) (maxL := 2) rfl (Nat.le_of_ble_eq_true rfl) ⟨Nat.le_of_ble_eq_true rfl, Nat.le_of_ble_eq_true rfl⟩ ?_
  intro K C hthr
  have C : Ok K l qX11_takeBack cX11_takeBack RX11 G n0 2 := C
  show J K M 0 [(0, .ref (n0 + 0)), (1, .int x1)] []
  unfold fX11_takeBack at hf
  refine j_aload_n C 0 dX11_takeBack_0 rfl rfl ?_
  refine g_X11_village C tw1_228 lc0 1 rfl dX11_takeBack_1 ?_
  refine gN_X9_batches C (nxf_RX11_batches) lc1 9 rfl dX11_takeBack_4 ?_
  refine j_iload_n C 1 dX11_takeBack_7 rfl rfl ?_
  obtain ⟨b2, e1, hf⟩ := bd hf
  refine j_callV C 1 lc9 (ent_K _ _ _ _ _ _) rfl (c_X1_has l G n0 lc9 e1) gv_RX11_87 ⟨rfl, rfl⟩ (by decide +kernel) ⟨Nat.le_of_ble_eq_true rfl, Nat.le_of_ble_eq_true rfl⟩ rfl rfl (Nat.le_of_ble_eq_true rfl) dX11_takeBack_8 ?_
  obtain ⟨z4, e14, hf⟩ := bd hf
  have hj15 : J K M 19 [(0, .ref (n0 + 0)), (1, .int x1)] [.int z4] := by
    obtain ⟨o6, e5, hf⟩ := bd hf
    rcases o6 with kx | _
    · replace hf : some _ = some _ := hf
      cases hf
      exact j_callTS C 1 hthr (t_X11_refuse l hfl G n0 (M := M) e5) gs_RX11_45 ⟨rfl, rfl⟩ (by decide +kernel) ⟨Nat.le_of_ble_eq_true rfl, Nat.le_of_ble_eq_true rfl⟩ rfl rfl (Nat.le_of_ble_eq_true rfl) dX11_takeBack_19
    · replace hf := xcr hf
      refine j_callS C 1 (c_X11_refuse l G n0 (M := M) e5) gs_RX11_45 ⟨rfl, rfl⟩ (by decide +kernel) ⟨Nat.le_of_ble_eq_true rfl, Nat.le_of_ble_eq_true rfl⟩ rfl rfl (Nat.le_of_ble_eq_true rfl) dX11_takeBack_19 ?_
      refine j_aload_n C 0 dX11_takeBack_22 rfl rfl ?_
      refine g_X11_undoStack C tw1_230 lc0 45 rfl dX11_takeBack_23 ?_
      refine j_aload_n C 0 dX11_takeBack_26 rfl rfl ?_
      refine g_X11_village C tw1_228 lc0 1 rfl dX11_takeBack_27 ?_
      obtain ⟨M8, e7, hf⟩ := bd hf
      refine j_callV C 1 lc45 (ent_K _ _ _ _ _ _) rfl (c_X8_push l G n0 lc1 e7) gv_RX11_49 ⟨rfl, rfl⟩ (by decide +kernel) ⟨Nat.le_of_ble_eq_true rfl, Nat.le_of_ble_eq_true rfl⟩ rfl rfl (Nat.le_of_ble_eq_true rfl) dX11_takeBack_30 ?_
      refine j_aload_n C 0 dX11_takeBack_33 rfl rfl ?_
      refine g_X11_village C tw1_228 lc0 1 rfl dX11_takeBack_34 ?_
      refine gN_X9_batches C (nxf_RX11_batches) lc1 9 rfl dX11_takeBack_37 ?_
      refine j_iload_n C 1 dX11_takeBack_40 rfl rfl ?_
      obtain ⟨⟨v10, M11⟩, e9, hf⟩ := bd hf
      replace hf := un2e hf
      refine j_callV C 1 lc9 (ent_K _ _ _ _ _ _) rfl (c_X1_remove l G n0 lc9 e9) gv_RX11_91 ⟨rfl, rfl⟩ (by decide +kernel) ⟨Nat.le_of_ble_eq_true rfl, Nat.le_of_ble_eq_true rfl⟩ rfl rfl (Nat.le_of_ble_eq_true rfl) dX11_takeBack_41 ?_
      cases hf
  clear hf
  have hf := e14
  refine j_ifz_eq C 18 dX11_takeBack_11 (by decide) (fun c3 => ?_) (fun c3 => ?_)
  · replace hf := ine c3 hf
    refine j_iconst C (1 : Int32) rfl dX11_takeBack_18 ?_
    cases hf
    refine j_sub [0, 1] rfl ?_
    exact hj15
  · replace hf := ip c3 hf
    refine j_iconst C (0 : Int32) rfl dX11_takeBack_14 ?_
    refine j_goto C 19 dX11_takeBack_15 (by decide) ?_
    cases hf
    refine j_sub [0, 1] rfl ?_
    exact hj15
def fX11_setS (x1 : Int32) (M : Mem) : Option (Nat ⊕ (Int32 × Mem)) :=
  (if 0 ≤ x1 then (some (0 : Int32))
  else (some (2 : Int32))).bind (fun z2 => (fX11_refuse z2).bind fun o4 => xc o4 (fun k => some (Sum.inl k))
  (fun _ => (fX8_push 1 M).bind fun M6 =>
  (fX9_changeS 1 x1 M6).bind (un2 fun v8 M9 =>
  some (Sum.inr (v8, M9)))))

def rX11_setS : Room := { frames := 5, cells := 0, slots := 0, locals := 127 }
set_option maxRecDepth 100000 in
set_option maxHeartbeats 4000000 in
theorem c_X11_setS (l : Launch) (G : Gx) (n0 : Nat) {x1 : Int32} {M : Mem} {r : Int32} {M' : Mem} (hf : fX11_setS x1 M = some (Sum.inr (r, M'))) : Ct l yX11_setS cX11_setS 2 (some .int) rX11_setS G n0 [.ref (n0 + 0), .int x1] M (some (.int r)) M' := by
  refine ct_int (cc := cX11_setS) (maxL := 2) rfl (Nat.le_of_ble_eq_true rfl) ?_
  intro K C hret
  have C : Ok K l rX11_setS cX11_setS RX11 G n0 2 := C
  show J K M 0 [(0, .ref (n0 + 0)), (1, .int x1)] []
  unfold fX11_setS at hf
  refine j_iload_n C 1 dX11_setS_0 rfl rfl ?_
  obtain ⟨z2, e10, hf⟩ := bd hf
  have hj11 : J K M 9 [(0, .ref (n0 + 0)), (1, .int x1)] [.int z2] := by
    obtain ⟨o4, e3, hf⟩ := bd hf
    rcases o4 with kx | _
    · replace hf : some _ = some _ := hf
      cases hf
    · replace hf := xcr hf
      refine j_callS C 1 (c_X11_refuse l G n0 (M := M) e3) gs_RX11_45 ⟨rfl, rfl⟩ (by decide +kernel) ⟨Nat.le_of_ble_eq_true rfl, Nat.le_of_ble_eq_true rfl⟩ rfl rfl (Nat.le_of_ble_eq_true rfl) dX11_setS_9 ?_
      refine j_aload_n C 0 dX11_setS_12 rfl rfl ?_
      refine g_X11_undoStack C tw1_230 lc0 45 rfl dX11_setS_13 ?_
      refine j_aload_n C 0 dX11_setS_16 rfl rfl ?_
      refine g_X11_village C tw1_228 lc0 1 rfl dX11_setS_17 ?_
      obtain ⟨M6, e5, hf⟩ := bd hf
      refine j_callV C 1 lc45 (ent_K _ _ _ _ _ _) rfl (c_X8_push l G n0 lc1 e5) gv_RX11_49 ⟨rfl, rfl⟩ (by decide +kernel) ⟨Nat.le_of_ble_eq_true rfl, Nat.le_of_ble_eq_true rfl⟩ rfl rfl (Nat.le_of_ble_eq_true rfl) dX11_setS_20 ?_
      refine j_aload_n C 0 dX11_setS_23 rfl rfl ?_
      refine g_X11_village C tw1_228 lc0 1 rfl dX11_setS_24 ?_
      refine j_iload_n C 1 dX11_setS_27 rfl rfl ?_
      obtain ⟨⟨v8, M9⟩, e7, hf⟩ := bd hf
      replace hf := un2e hf
      refine j_callV C 1 lc1 (ent_K _ _ _ _ _ _) rfl (c_X9_changeS l G n0 lc1 e7) gv_RX11_94 ⟨rfl, rfl⟩ (by decide +kernel) ⟨Nat.le_of_ble_eq_true rfl, Nat.le_of_ble_eq_true rfl⟩ rfl rfl (Nat.le_of_ble_eq_true rfl) dX11_setS_28 ?_
      obtain ⟨rfl, rfl⟩ := Prod.mk.inj (Sum.inr.inj (Option.some.inj hf))
      exact hret _ _ dX11_setS_31
  clear hf
  have hf := e10
  refine j_if_ge C 8 dX11_setS_1 (by decide) (fun c1 => ?_) (fun c1 => ?_)
  · replace hf := ip c1 hf
    refine j_iconst C (0 : Int32) rfl dX11_setS_8 ?_
    cases hf
    refine j_sub [0, 1] rfl ?_
    exact hj11
  · replace hf := ine c1 hf
    refine j_iconst C (2 : Int32) rfl dX11_setS_4 ?_
    refine j_goto C 9 dX11_setS_5 (by decide) ?_
    cases hf
    refine j_sub [0, 1] rfl ?_
    exact hj11
def qX11_setS : Room := { frames := 7, cells := 1, slots := 6, locals := 127 }
set_option maxRecDepth 100000 in
set_option maxHeartbeats 4000000 in
theorem t_X11_setS (l : Launch) (hfl : l.stackTraces = false) (G : Gx) (n0 : Nat) {x1 : Int32} {M : Mem} {k : Nat} (hf : fX11_setS x1 M = some (Sum.inl k)) : CtT l yX11_setS cX11_setS 2 (some .int) qX11_setS G n0 [.ref (n0 + 0), .int x1] M k := by
  refine ct_thr (cc := cX11_setS) (maxL := 2) rfl (Nat.le_of_ble_eq_true rfl) ⟨Nat.le_of_ble_eq_true rfl, Nat.le_of_ble_eq_true rfl⟩ ?_
  intro K C hthr
  have C : Ok K l qX11_setS cX11_setS RX11 G n0 2 := C
  show J K M 0 [(0, .ref (n0 + 0)), (1, .int x1)] []
  unfold fX11_setS at hf
  refine j_iload_n C 1 dX11_setS_0 rfl rfl ?_
  obtain ⟨z2, e12, hf⟩ := bd hf
  have hj13 : J K M 9 [(0, .ref (n0 + 0)), (1, .int x1)] [.int z2] := by
    obtain ⟨o4, e3, hf⟩ := bd hf
    rcases o4 with kx | _
    · replace hf : some _ = some _ := hf
      cases hf
      exact j_callTS C 1 hthr (t_X11_refuse l hfl G n0 (M := M) e3) gs_RX11_45 ⟨rfl, rfl⟩ (by decide +kernel) ⟨Nat.le_of_ble_eq_true rfl, Nat.le_of_ble_eq_true rfl⟩ rfl rfl (Nat.le_of_ble_eq_true rfl) dX11_setS_9
    · replace hf := xcr hf
      refine j_callS C 1 (c_X11_refuse l G n0 (M := M) e3) gs_RX11_45 ⟨rfl, rfl⟩ (by decide +kernel) ⟨Nat.le_of_ble_eq_true rfl, Nat.le_of_ble_eq_true rfl⟩ rfl rfl (Nat.le_of_ble_eq_true rfl) dX11_setS_9 ?_
      refine j_aload_n C 0 dX11_setS_12 rfl rfl ?_
      refine g_X11_undoStack C tw1_230 lc0 45 rfl dX11_setS_13 ?_
      refine j_aload_n C 0 dX11_setS_16 rfl rfl ?_
      refine g_X11_village C tw1_228 lc0 1 rfl dX11_setS_17 ?_
      obtain ⟨M6, e5, hf⟩ := bd hf
      refine j_callV C 1 lc45 (ent_K _ _ _ _ _ _) rfl (c_X8_push l G n0 lc1 e5) gv_RX11_49 ⟨rfl, rfl⟩ (by decide +kernel) ⟨Nat.le_of_ble_eq_true rfl, Nat.le_of_ble_eq_true rfl⟩ rfl rfl (Nat.le_of_ble_eq_true rfl) dX11_setS_20 ?_
      refine j_aload_n C 0 dX11_setS_23 rfl rfl ?_
      refine g_X11_village C tw1_228 lc0 1 rfl dX11_setS_24 ?_
      refine j_iload_n C 1 dX11_setS_27 rfl rfl ?_
      obtain ⟨⟨v8, M9⟩, e7, hf⟩ := bd hf
      replace hf := un2e hf
      refine j_callV C 1 lc1 (ent_K _ _ _ _ _ _) rfl (c_X9_changeS l G n0 lc1 e7) gv_RX11_94 ⟨rfl, rfl⟩ (by decide +kernel) ⟨Nat.le_of_ble_eq_true rfl, Nat.le_of_ble_eq_true rfl⟩ rfl rfl (Nat.le_of_ble_eq_true rfl) dX11_setS_28 ?_
      cases hf
  clear hf
  have hf := e12
  refine j_if_ge C 8 dX11_setS_1 (by decide) (fun c1 => ?_) (fun c1 => ?_)
  · replace hf := ip c1 hf
    refine j_iconst C (0 : Int32) rfl dX11_setS_8 ?_
    cases hf
    refine j_sub [0, 1] rfl ?_
    exact hj13
  · replace hf := ine c1 hf
    refine j_iconst C (2 : Int32) rfl dX11_setS_4 ?_
    refine j_goto C 9 dX11_setS_5 (by decide) ?_
    cases hf
    refine j_sub [0, 1] rfl ?_
    exact hj13
def fX11_bake (x1 : Int32) (M : Mem) : Option (Nat ⊕ (Int32 × Mem)) :=
  (fX9_whyNoDay 1 x1 M).bind fun v2 =>
  (fX11_refuse v2).bind fun o4 => xc o4 (fun k => some (Sum.inl k))
  (fun _ => (fX8_push 1 M).bind fun M6 =>
  (fX9_haveDay 1 x1 M6).bind (un2 fun v8 M9 =>
  some (Sum.inr (v8, M9))))

def rX11_bake : Room := { frames := 5, cells := 0, slots := 0, locals := 127 }
set_option maxRecDepth 100000 in
set_option maxHeartbeats 4000000 in
theorem c_X11_bake (l : Launch) (G : Gx) (n0 : Nat) {x1 : Int32} {M : Mem} {r : Int32} {M' : Mem} (hf : fX11_bake x1 M = some (Sum.inr (r, M'))) : Ct l yX11_bake cX11_bake 2 (some .int) rX11_bake G n0 [.ref (n0 + 0), .int x1] M (some (.int r)) M' := by
  refine ct_int (cc := cX11_bake) (maxL := 2) rfl (Nat.le_of_ble_eq_true rfl) ?_
  intro K C hret
  have C : Ok K l rX11_bake cX11_bake RX11 G n0 2 := C
  show J K M 0 [(0, .ref (n0 + 0)), (1, .int x1)] []
  unfold fX11_bake at hf
  refine j_aload_n C 0 dX11_bake_0 rfl rfl ?_
  refine g_X11_village C tw1_228 lc0 1 rfl dX11_bake_1 ?_
  refine j_iload_n C 1 dX11_bake_4 rfl rfl ?_
  obtain ⟨v2, e1, hf⟩ := bd hf
  refine j_callV C 1 lc1 (ent_K _ _ _ _ _ _) rfl (c_X9_whyNoDay l G n0 lc1 e1) gv_RX11_97 ⟨rfl, rfl⟩ (by decide +kernel) ⟨Nat.le_of_ble_eq_true rfl, Nat.le_of_ble_eq_true rfl⟩ rfl rfl (Nat.le_of_ble_eq_true rfl) dX11_bake_5 ?_
  obtain ⟨o4, e3, hf⟩ := bd hf
  rcases o4 with kx | _
  · replace hf : some _ = some _ := hf
    cases hf
  · replace hf := xcr hf
    refine j_callS C 1 (c_X11_refuse l G n0 (M := M) e3) gs_RX11_45 ⟨rfl, rfl⟩ (by decide +kernel) ⟨Nat.le_of_ble_eq_true rfl, Nat.le_of_ble_eq_true rfl⟩ rfl rfl (Nat.le_of_ble_eq_true rfl) dX11_bake_8 ?_
    refine j_aload_n C 0 dX11_bake_11 rfl rfl ?_
    refine g_X11_undoStack C tw1_230 lc0 45 rfl dX11_bake_12 ?_
    refine j_aload_n C 0 dX11_bake_15 rfl rfl ?_
    refine g_X11_village C tw1_228 lc0 1 rfl dX11_bake_16 ?_
    obtain ⟨M6, e5, hf⟩ := bd hf
    refine j_callV C 1 lc45 (ent_K _ _ _ _ _ _) rfl (c_X8_push l G n0 lc1 e5) gv_RX11_49 ⟨rfl, rfl⟩ (by decide +kernel) ⟨Nat.le_of_ble_eq_true rfl, Nat.le_of_ble_eq_true rfl⟩ rfl rfl (Nat.le_of_ble_eq_true rfl) dX11_bake_19 ?_
    refine j_aload_n C 0 dX11_bake_22 rfl rfl ?_
    refine g_X11_village C tw1_228 lc0 1 rfl dX11_bake_23 ?_
    refine j_iload_n C 1 dX11_bake_26 rfl rfl ?_
    refine j_aload_n C 0 dX11_bake_27 rfl rfl ?_
    refine g_X11_plan C tw1_229 lc0 33 rfl dX11_bake_28 ?_
    obtain ⟨⟨v8, M9⟩, e7, hf⟩ := bd hf
    replace hf := un2e hf
    refine j_callV C 2 lc1 (ent_K _ _ _ _ _ _) rfl (c_X9_haveDay l G n0 lc1 e7) gv_RX11_100 ⟨rfl, rfl⟩ (by decide +kernel) ⟨Nat.le_of_ble_eq_true rfl, Nat.le_of_ble_eq_true rfl⟩ rfl rfl (Nat.le_of_ble_eq_true rfl) dX11_bake_31 ?_
    obtain ⟨rfl, rfl⟩ := Prod.mk.inj (Sum.inr.inj (Option.some.inj hf))
    exact hret _ _ dX11_bake_34
def qX11_bake : Room := { frames := 7, cells := 1, slots := 6, locals := 127 }
set_option maxRecDepth 100000 in
set_option maxHeartbeats 4000000 in
theorem t_X11_bake (l : Launch) (hfl : l.stackTraces = false) (G : Gx) (n0 : Nat) {x1 : Int32} {M : Mem} {k : Nat} (hf : fX11_bake x1 M = some (Sum.inl k)) : CtT l yX11_bake cX11_bake 2 (some .int) qX11_bake G n0 [.ref (n0 + 0), .int x1] M k := by
  refine ct_thr (cc := cX11_bake) (maxL := 2) rfl (Nat.le_of_ble_eq_true rfl) ⟨Nat.le_of_ble_eq_true rfl, Nat.le_of_ble_eq_true rfl⟩ ?_
  intro K C hthr
  have C : Ok K l qX11_bake cX11_bake RX11 G n0 2 := C
  show J K M 0 [(0, .ref (n0 + 0)), (1, .int x1)] []
  unfold fX11_bake at hf
  refine j_aload_n C 0 dX11_bake_0 rfl rfl ?_
  refine g_X11_village C tw1_228 lc0 1 rfl dX11_bake_1 ?_
  refine j_iload_n C 1 dX11_bake_4 rfl rfl ?_
  obtain ⟨v2, e1, hf⟩ := bd hf
  refine j_callV C 1 lc1 (ent_K _ _ _ _ _ _) rfl (c_X9_whyNoDay l G n0 lc1 e1) gv_RX11_97 ⟨rfl, rfl⟩ (by decide +kernel) ⟨Nat.le_of_ble_eq_true rfl, Nat.le_of_ble_eq_true rfl⟩ rfl rfl (Nat.le_of_ble_eq_true rfl) dX11_bake_5 ?_
  obtain ⟨o4, e3, hf⟩ := bd hf
  rcases o4 with kx | _
  · replace hf : some _ = some _ := hf
    cases hf
    exact j_callTS C 1 hthr (t_X11_refuse l hfl G n0 (M := M) e3) gs_RX11_45 ⟨rfl, rfl⟩ (by decide +kernel) ⟨Nat.le_of_ble_eq_true rfl, Nat.le_of_ble_eq_true rfl⟩ rfl rfl (Nat.le_of_ble_eq_true rfl) dX11_bake_8
  · replace hf := xcr hf
    refine j_callS C 1 (c_X11_refuse l G n0 (M := M) e3) gs_RX11_45 ⟨rfl, rfl⟩ (by decide +kernel) ⟨Nat.le_of_ble_eq_true rfl, Nat.le_of_ble_eq_true rfl⟩ rfl rfl (Nat.le_of_ble_eq_true rfl) dX11_bake_8 ?_
    refine j_aload_n C 0 dX11_bake_11 rfl rfl ?_
    refine g_X11_undoStack C tw1_230 lc0 45 rfl dX11_bake_12 ?_
    refine j_aload_n C 0 dX11_bake_15 rfl rfl ?_
    refine g_X11_village C tw1_228 lc0 1 rfl dX11_bake_16 ?_
    obtain ⟨M6, e5, hf⟩ := bd hf
    refine j_callV C 1 lc45 (ent_K _ _ _ _ _ _) rfl (c_X8_push l G n0 lc1 e5) gv_RX11_49 ⟨rfl, rfl⟩ (by decide +kernel) ⟨Nat.le_of_ble_eq_true rfl, Nat.le_of_ble_eq_true rfl⟩ rfl rfl (Nat.le_of_ble_eq_true rfl) dX11_bake_19 ?_
    refine j_aload_n C 0 dX11_bake_22 rfl rfl ?_
    refine g_X11_village C tw1_228 lc0 1 rfl dX11_bake_23 ?_
    refine j_iload_n C 1 dX11_bake_26 rfl rfl ?_
    refine j_aload_n C 0 dX11_bake_27 rfl rfl ?_
    refine g_X11_plan C tw1_229 lc0 33 rfl dX11_bake_28 ?_
    obtain ⟨⟨v8, M9⟩, e7, hf⟩ := bd hf
    replace hf := un2e hf
    refine j_callV C 2 lc1 (ent_K _ _ _ _ _ _) rfl (c_X9_haveDay l G n0 lc1 e7) gv_RX11_100 ⟨rfl, rfl⟩ (by decide +kernel) ⟨Nat.le_of_ble_eq_true rfl, Nat.le_of_ble_eq_true rfl⟩ rfl rfl (Nat.le_of_ble_eq_true rfl) dX11_bake_31 ?_
    cases hf
def fX11_claim (x1 : Int32) (M : Mem) : Option (Nat ⊕ (Int32 × Mem)) :=
  (fX9_whyNoHousehold 1 x1 M).bind fun v2 =>
  (fX11_refuse v2).bind fun o4 => xc o4 (fun k => some (Sum.inl k))
  (fun _ => (fX8_push 1 M).bind fun M6 =>
  (fX9_letClaim 1 x1 M6).bind (un2 fun v8 M9 =>
  some (Sum.inr (v8, M9))))

def rX11_claim : Room := { frames := 6, cells := 0, slots := 0, locals := 127 }
set_option maxRecDepth 100000 in
set_option maxHeartbeats 4000000 in
theorem c_X11_claim (l : Launch) (G : Gx) (n0 : Nat) {x1 : Int32} {M : Mem} {r : Int32} {M' : Mem} (hf : fX11_claim x1 M = some (Sum.inr (r, M'))) : Ct l yX11_claim cX11_claim 2 (some .int) rX11_claim G n0 [.ref (n0 + 0), .int x1] M (some (.int r)) M' := by
  refine ct_int (cc := cX11_claim) (maxL := 2) rfl (Nat.le_of_ble_eq_true rfl) ?_
  intro K C hret
  have C : Ok K l rX11_claim cX11_claim RX11 G n0 2 := C
  show J K M 0 [(0, .ref (n0 + 0)), (1, .int x1)] []
  unfold fX11_claim at hf
  refine j_aload_n C 0 dX11_claim_0 rfl rfl ?_
  refine g_X11_village C tw1_228 lc0 1 rfl dX11_claim_1 ?_
  refine j_iload_n C 1 dX11_claim_4 rfl rfl ?_
  obtain ⟨v2, e1, hf⟩ := bd hf
  refine j_callV C 1 lc1 (ent_K _ _ _ _ _ _) rfl (c_X9_whyNoHousehold l G n0 lc1 e1) gv_RX11_69 ⟨rfl, rfl⟩ (by decide +kernel) ⟨Nat.le_of_ble_eq_true rfl, Nat.le_of_ble_eq_true rfl⟩ rfl rfl (Nat.le_of_ble_eq_true rfl) dX11_claim_5 ?_
  obtain ⟨o4, e3, hf⟩ := bd hf
  rcases o4 with kx | _
  · replace hf : some _ = some _ := hf
    cases hf
  · replace hf := xcr hf
    refine j_callS C 1 (c_X11_refuse l G n0 (M := M) e3) gs_RX11_45 ⟨rfl, rfl⟩ (by decide +kernel) ⟨Nat.le_of_ble_eq_true rfl, Nat.le_of_ble_eq_true rfl⟩ rfl rfl (Nat.le_of_ble_eq_true rfl) dX11_claim_8 ?_
    refine j_aload_n C 0 dX11_claim_11 rfl rfl ?_
    refine g_X11_undoStack C tw1_230 lc0 45 rfl dX11_claim_12 ?_
    refine j_aload_n C 0 dX11_claim_15 rfl rfl ?_
    refine g_X11_village C tw1_228 lc0 1 rfl dX11_claim_16 ?_
    obtain ⟨M6, e5, hf⟩ := bd hf
    refine j_callV C 1 lc45 (ent_K _ _ _ _ _ _) rfl (c_X8_push l G n0 lc1 e5) gv_RX11_49 ⟨rfl, rfl⟩ (by decide +kernel) ⟨Nat.le_of_ble_eq_true rfl, Nat.le_of_ble_eq_true rfl⟩ rfl rfl (Nat.le_of_ble_eq_true rfl) dX11_claim_19 ?_
    refine j_aload_n C 0 dX11_claim_22 rfl rfl ?_
    refine g_X11_village C tw1_228 lc0 1 rfl dX11_claim_23 ?_
    refine j_iload_n C 1 dX11_claim_26 rfl rfl ?_
    obtain ⟨⟨v8, M9⟩, e7, hf⟩ := bd hf
    replace hf := un2e hf
    refine j_callV C 1 lc1 (ent_K _ _ _ _ _ _) rfl (c_X9_letClaim l G n0 lc1 e7) gv_RX11_104 ⟨rfl, rfl⟩ (by decide +kernel) ⟨Nat.le_of_ble_eq_true rfl, Nat.le_of_ble_eq_true rfl⟩ rfl rfl (Nat.le_of_ble_eq_true rfl) dX11_claim_27 ?_
    obtain ⟨rfl, rfl⟩ := Prod.mk.inj (Sum.inr.inj (Option.some.inj hf))
    exact hret _ _ dX11_claim_30
def qX11_claim : Room := { frames := 7, cells := 1, slots := 6, locals := 127 }
set_option maxRecDepth 100000 in
set_option maxHeartbeats 4000000 in
theorem t_X11_claim (l : Launch) (hfl : l.stackTraces = false) (G : Gx) (n0 : Nat) {x1 : Int32} {M : Mem} {k : Nat} (hf : fX11_claim x1 M = some (Sum.inl k)) : CtT l yX11_claim cX11_claim 2 (some .int) qX11_claim G n0 [.ref (n0 + 0), .int x1] M k := by
  refine ct_thr (cc := cX11_claim) (maxL := 2) rfl (Nat.le_of_ble_eq_true rfl) ⟨Nat.le_of_ble_eq_true rfl, Nat.le_of_ble_eq_true rfl⟩ ?_
  intro K C hthr
  have C : Ok K l qX11_claim cX11_claim RX11 G n0 2 := C
  show J K M 0 [(0, .ref (n0 + 0)), (1, .int x1)] []
  unfold fX11_claim at hf
  refine j_aload_n C 0 dX11_claim_0 rfl rfl ?_
  refine g_X11_village C tw1_228 lc0 1 rfl dX11_claim_1 ?_
  refine j_iload_n C 1 dX11_claim_4 rfl rfl ?_
  obtain ⟨v2, e1, hf⟩ := bd hf
  refine j_callV C 1 lc1 (ent_K _ _ _ _ _ _) rfl (c_X9_whyNoHousehold l G n0 lc1 e1) gv_RX11_69 ⟨rfl, rfl⟩ (by decide +kernel) ⟨Nat.le_of_ble_eq_true rfl, Nat.le_of_ble_eq_true rfl⟩ rfl rfl (Nat.le_of_ble_eq_true rfl) dX11_claim_5 ?_
  obtain ⟨o4, e3, hf⟩ := bd hf
  rcases o4 with kx | _
  · replace hf : some _ = some _ := hf
    cases hf
    exact j_callTS C 1 hthr (t_X11_refuse l hfl G n0 (M := M) e3) gs_RX11_45 ⟨rfl, rfl⟩ (by decide +kernel) ⟨Nat.le_of_ble_eq_true rfl, Nat.le_of_ble_eq_true rfl⟩ rfl rfl (Nat.le_of_ble_eq_true rfl) dX11_claim_8
  · replace hf := xcr hf
    refine j_callS C 1 (c_X11_refuse l G n0 (M := M) e3) gs_RX11_45 ⟨rfl, rfl⟩ (by decide +kernel) ⟨Nat.le_of_ble_eq_true rfl, Nat.le_of_ble_eq_true rfl⟩ rfl rfl (Nat.le_of_ble_eq_true rfl) dX11_claim_8 ?_
    refine j_aload_n C 0 dX11_claim_11 rfl rfl ?_
    refine g_X11_undoStack C tw1_230 lc0 45 rfl dX11_claim_12 ?_
    refine j_aload_n C 0 dX11_claim_15 rfl rfl ?_
    refine g_X11_village C tw1_228 lc0 1 rfl dX11_claim_16 ?_
    obtain ⟨M6, e5, hf⟩ := bd hf
    refine j_callV C 1 lc45 (ent_K _ _ _ _ _ _) rfl (c_X8_push l G n0 lc1 e5) gv_RX11_49 ⟨rfl, rfl⟩ (by decide +kernel) ⟨Nat.le_of_ble_eq_true rfl, Nat.le_of_ble_eq_true rfl⟩ rfl rfl (Nat.le_of_ble_eq_true rfl) dX11_claim_19 ?_
    refine j_aload_n C 0 dX11_claim_22 rfl rfl ?_
    refine g_X11_village C tw1_228 lc0 1 rfl dX11_claim_23 ?_
    refine j_iload_n C 1 dX11_claim_26 rfl rfl ?_
    obtain ⟨⟨v8, M9⟩, e7, hf⟩ := bd hf
    replace hf := un2e hf
    refine j_callV C 1 lc1 (ent_K _ _ _ _ _ _) rfl (c_X9_letClaim l G n0 lc1 e7) gv_RX11_104 ⟨rfl, rfl⟩ (by decide +kernel) ⟨Nat.le_of_ble_eq_true rfl, Nat.le_of_ble_eq_true rfl⟩ rfl rfl (Nat.le_of_ble_eq_true rfl) dX11_claim_27 ?_
    cases hf
def fX11_returnLoaves (x1 : Int32) (M : Mem) : Option (Nat ⊕ (Int32 × Mem)) :=
  (fX9_whyNoHousehold 1 x1 M).bind fun v2 =>
  (fX11_refuse v2).bind fun o4 => xc o4 (fun k => some (Sum.inl k))
  (fun _ => (fX8_push 1 M).bind fun M6 =>
  (fX6_moveToShelf 23 x1 M6).bind (un2 fun v8 M9 =>
  some (Sum.inr (v8, M9))))

def rX11_returnLoaves : Room := { frames := 5, cells := 0, slots := 0, locals := 127 }
set_option maxRecDepth 100000 in
set_option maxHeartbeats 4000000 in
theorem c_X11_returnLoaves (l : Launch) (G : Gx) (n0 : Nat) {x1 : Int32} {M : Mem} {r : Int32} {M' : Mem} (hf : fX11_returnLoaves x1 M = some (Sum.inr (r, M'))) : Ct l yX11_returnLoaves cX11_returnLoaves 2 (some .int) rX11_returnLoaves G n0 [.ref (n0 + 0), .int x1] M (some (.int r)) M' := by
  refine ct_int (cc := cX11_returnLoaves) (maxL := 2) rfl (Nat.le_of_ble_eq_true rfl) ?_
  intro K C hret
  have C : Ok K l rX11_returnLoaves cX11_returnLoaves RX11 G n0 2 := C
  show J K M 0 [(0, .ref (n0 + 0)), (1, .int x1)] []
  unfold fX11_returnLoaves at hf
  refine j_aload_n C 0 dX11_returnLoaves_0 rfl rfl ?_
  refine g_X11_village C tw1_228 lc0 1 rfl dX11_returnLoaves_1 ?_
  refine j_iload_n C 1 dX11_returnLoaves_4 rfl rfl ?_
  obtain ⟨v2, e1, hf⟩ := bd hf
  refine j_callV C 1 lc1 (ent_K _ _ _ _ _ _) rfl (c_X9_whyNoHousehold l G n0 lc1 e1) gv_RX11_69 ⟨rfl, rfl⟩ (by decide +kernel) ⟨Nat.le_of_ble_eq_true rfl, Nat.le_of_ble_eq_true rfl⟩ rfl rfl (Nat.le_of_ble_eq_true rfl) dX11_returnLoaves_5 ?_
  obtain ⟨o4, e3, hf⟩ := bd hf
  rcases o4 with kx | _
  · replace hf : some _ = some _ := hf
    cases hf
  · replace hf := xcr hf
    refine j_callS C 1 (c_X11_refuse l G n0 (M := M) e3) gs_RX11_45 ⟨rfl, rfl⟩ (by decide +kernel) ⟨Nat.le_of_ble_eq_true rfl, Nat.le_of_ble_eq_true rfl⟩ rfl rfl (Nat.le_of_ble_eq_true rfl) dX11_returnLoaves_8 ?_
    refine j_aload_n C 0 dX11_returnLoaves_11 rfl rfl ?_
    refine g_X11_undoStack C tw1_230 lc0 45 rfl dX11_returnLoaves_12 ?_
    refine j_aload_n C 0 dX11_returnLoaves_15 rfl rfl ?_
    refine g_X11_village C tw1_228 lc0 1 rfl dX11_returnLoaves_16 ?_
    obtain ⟨M6, e5, hf⟩ := bd hf
    refine j_callV C 1 lc45 (ent_K _ _ _ _ _ _) rfl (c_X8_push l G n0 lc1 e5) gv_RX11_49 ⟨rfl, rfl⟩ (by decide +kernel) ⟨Nat.le_of_ble_eq_true rfl, Nat.le_of_ble_eq_true rfl⟩ rfl rfl (Nat.le_of_ble_eq_true rfl) dX11_returnLoaves_19 ?_
    refine j_aload_n C 0 dX11_returnLoaves_22 rfl rfl ?_
    refine g_X11_village C tw1_228 lc0 1 rfl dX11_returnLoaves_23 ?_
    refine gN_X9_loaves C (nxf_RX11_loaves) lc1 23 rfl dX11_returnLoaves_26 ?_
    refine j_iload_n C 1 dX11_returnLoaves_29 rfl rfl ?_
    obtain ⟨⟨v8, M9⟩, e7, hf⟩ := bd hf
    replace hf := un2e hf
    refine j_callV C 1 lc23 (ent_K _ _ _ _ _ _) rfl (c_X6_moveToShelf l G n0 lc23 e7) gv_RX11_111 ⟨rfl, rfl⟩ (by decide +kernel) ⟨Nat.le_of_ble_eq_true rfl, Nat.le_of_ble_eq_true rfl⟩ rfl rfl (Nat.le_of_ble_eq_true rfl) dX11_returnLoaves_30 ?_
    obtain ⟨rfl, rfl⟩ := Prod.mk.inj (Sum.inr.inj (Option.some.inj hf))
    exact hret _ _ dX11_returnLoaves_33
def qX11_returnLoaves : Room := { frames := 7, cells := 1, slots := 6, locals := 127 }
set_option maxRecDepth 100000 in
set_option maxHeartbeats 4000000 in
theorem t_X11_returnLoaves (l : Launch) (hfl : l.stackTraces = false) (G : Gx) (n0 : Nat) {x1 : Int32} {M : Mem} {k : Nat} (hf : fX11_returnLoaves x1 M = some (Sum.inl k)) : CtT l yX11_returnLoaves cX11_returnLoaves 2 (some .int) qX11_returnLoaves G n0 [.ref (n0 + 0), .int x1] M k := by
  refine ct_thr (cc := cX11_returnLoaves) (maxL := 2) rfl (Nat.le_of_ble_eq_true rfl) ⟨Nat.le_of_ble_eq_true rfl, Nat.le_of_ble_eq_true rfl⟩ ?_
  intro K C hthr
  have C : Ok K l qX11_returnLoaves cX11_returnLoaves RX11 G n0 2 := C
  show J K M 0 [(0, .ref (n0 + 0)), (1, .int x1)] []
  unfold fX11_returnLoaves at hf
  refine j_aload_n C 0 dX11_returnLoaves_0 rfl rfl ?_
  refine g_X11_village C tw1_228 lc0 1 rfl dX11_returnLoaves_1 ?_
  refine j_iload_n C 1 dX11_returnLoaves_4 rfl rfl ?_
  obtain ⟨v2, e1, hf⟩ := bd hf
  refine j_callV C 1 lc1 (ent_K _ _ _ _ _ _) rfl (c_X9_whyNoHousehold l G n0 lc1 e1) gv_RX11_69 ⟨rfl, rfl⟩ (by decide +kernel) ⟨Nat.le_of_ble_eq_true rfl, Nat.le_of_ble_eq_true rfl⟩ rfl rfl (Nat.le_of_ble_eq_true rfl) dX11_returnLoaves_5 ?_
  obtain ⟨o4, e3, hf⟩ := bd hf
  rcases o4 with kx | _
  · replace hf : some _ = some _ := hf
    cases hf
    exact j_callTS C 1 hthr (t_X11_refuse l hfl G n0 (M := M) e3) gs_RX11_45 ⟨rfl, rfl⟩ (by decide +kernel) ⟨Nat.le_of_ble_eq_true rfl, Nat.le_of_ble_eq_true rfl⟩ rfl rfl (Nat.le_of_ble_eq_true rfl) dX11_returnLoaves_8
  · replace hf := xcr hf
    refine j_callS C 1 (c_X11_refuse l G n0 (M := M) e3) gs_RX11_45 ⟨rfl, rfl⟩ (by decide +kernel) ⟨Nat.le_of_ble_eq_true rfl, Nat.le_of_ble_eq_true rfl⟩ rfl rfl (Nat.le_of_ble_eq_true rfl) dX11_returnLoaves_8 ?_
    refine j_aload_n C 0 dX11_returnLoaves_11 rfl rfl ?_
    refine g_X11_undoStack C tw1_230 lc0 45 rfl dX11_returnLoaves_12 ?_
    refine j_aload_n C 0 dX11_returnLoaves_15 rfl rfl ?_
    refine g_X11_village C tw1_228 lc0 1 rfl dX11_returnLoaves_16 ?_
    obtain ⟨M6, e5, hf⟩ := bd hf
    refine j_callV C 1 lc45 (ent_K _ _ _ _ _ _) rfl (c_X8_push l G n0 lc1 e5) gv_RX11_49 ⟨rfl, rfl⟩ (by decide +kernel) ⟨Nat.le_of_ble_eq_true rfl, Nat.le_of_ble_eq_true rfl⟩ rfl rfl (Nat.le_of_ble_eq_true rfl) dX11_returnLoaves_19 ?_
    refine j_aload_n C 0 dX11_returnLoaves_22 rfl rfl ?_
    refine g_X11_village C tw1_228 lc0 1 rfl dX11_returnLoaves_23 ?_
    refine gN_X9_loaves C (nxf_RX11_loaves) lc1 23 rfl dX11_returnLoaves_26 ?_
    refine j_iload_n C 1 dX11_returnLoaves_29 rfl rfl ?_
    obtain ⟨⟨v8, M9⟩, e7, hf⟩ := bd hf
    replace hf := un2e hf
    refine j_callV C 1 lc23 (ent_K _ _ _ _ _ _) rfl (c_X6_moveToShelf l G n0 lc23 e7) gv_RX11_111 ⟨rfl, rfl⟩ (by decide +kernel) ⟨Nat.le_of_ble_eq_true rfl, Nat.le_of_ble_eq_true rfl⟩ rfl rfl (Nat.le_of_ble_eq_true rfl) dX11_returnLoaves_30 ?_
    cases hf
def fX11_giveAway  (M : Mem) : Option (Int32 × Mem) :=
  (fX8_push 1 M).bind fun M2 =>
  (fX6_emptyShelf 23 M2).bind (un2 fun v4 M5 =>
  some (v4, M5))

def rX11_giveAway : Room := { frames := 5, cells := 0, slots := 0, locals := 127 }
set_option maxRecDepth 100000 in
set_option maxHeartbeats 4000000 in
theorem c_X11_giveAway (l : Launch) (G : Gx) (n0 : Nat) {M : Mem} {r : Int32} {M' : Mem} (hf : fX11_giveAway M = some (r, M')) : Ct l yX11_giveAway cX11_giveAway 1 (some .int) rX11_giveAway G n0 [.ref (n0 + 0)] M (some (.int r)) M' := by
  refine ct_int (cc := cX11_giveAway) (maxL := 1) rfl (Nat.le_of_ble_eq_true rfl) ?_
  intro K C hret
  have C : Ok K l rX11_giveAway cX11_giveAway RX11 G n0 1 := C
  show J K M 0 [(0, .ref (n0 + 0))] []
  unfold fX11_giveAway at hf
  refine j_aload_n C 0 dX11_giveAway_0 rfl rfl ?_
  refine g_X11_undoStack C tw1_230 lc0 45 rfl dX11_giveAway_1 ?_
  refine j_aload_n C 0 dX11_giveAway_4 rfl rfl ?_
  refine g_X11_village C tw1_228 lc0 1 rfl dX11_giveAway_5 ?_
  obtain ⟨M2, e1, hf⟩ := bd hf
  refine j_callV C 1 lc45 (ent_K _ _ _ _ _ _) rfl (c_X8_push l G n0 lc1 e1) gv_RX11_49 ⟨rfl, rfl⟩ (by decide +kernel) ⟨Nat.le_of_ble_eq_true rfl, Nat.le_of_ble_eq_true rfl⟩ rfl rfl (Nat.le_of_ble_eq_true rfl) dX11_giveAway_8 ?_
  refine j_aload_n C 0 dX11_giveAway_11 rfl rfl ?_
  refine g_X11_village C tw1_228 lc0 1 rfl dX11_giveAway_12 ?_
  refine gN_X9_loaves C (nxf_RX11_loaves) lc1 23 rfl dX11_giveAway_15 ?_
  obtain ⟨⟨v4, M5⟩, e3, hf⟩ := bd hf
  replace hf := un2e hf
  refine j_callV C 0 lc23 (ent_K _ _ _ _ _ _) rfl (c_X6_emptyShelf l G n0 lc23 e3) gv_RX11_116 ⟨rfl, rfl⟩ (by decide +kernel) ⟨Nat.le_of_ble_eq_true rfl, Nat.le_of_ble_eq_true rfl⟩ rfl rfl (Nat.le_of_ble_eq_true rfl) dX11_giveAway_18 ?_
  obtain ⟨rfl, rfl⟩ := Prod.mk.inj (Option.some.inj hf)
  exact hret _ _ dX11_giveAway_21
def fX11_household (x1 : Int32) (x2 : Int32) (M : Mem) : Option (Nat ⊕ Int32) :=
  (fX9_whyNoHousehold 1 x1 M).bind fun v2 =>
  (fX11_refuse v2).bind fun o4 => xc o4 (fun k => some (Sum.inl k))
  (fun _ => (fX11_whyNotBelow x2 (8 : Int32)).bind fun v6 =>
  (fX11_refuse v6).bind fun o8 => xc o8 (fun k => some (Sum.inl k))
  (fun _ => if x2 = 4 then ((fX6_countWith 23 (0 : Int32) x1 M).bind fun v10 =>
  some (Sum.inr v10))
  else if x2 = 5 then ((fX6_countWith 23 (5 : Int32) x1 M).bind fun v12 =>
  some (Sum.inr v12))
  else if x2 = 6 then ((fX6_countWithBoth 23 (0 : Int32) x1 (5 : Int32) x1 M).bind fun v14 =>
  some (Sum.inr v14))
  else if x2 = 7 then ((fX1_countOf 9 x1 M).bind fun v16 =>
  some (Sum.inr v16))
  else ((fX4_value 2 x1 x2 M).bind fun v18 =>
  some (Sum.inr v18))))

def rX11_household : Room := { frames := 3, cells := 0, slots := 0, locals := 74 }
set_option maxRecDepth 100000 in
set_option maxHeartbeats 4000000 in
theorem c_X11_household (l : Launch) (G : Gx) (n0 : Nat) {x1 : Int32} {x2 : Int32} {M : Mem} {r : Int32} (hf : fX11_household x1 x2 M = some (Sum.inr r)) : Ct l yX11_household cX11_household 3 (some .int) rX11_household G n0 [.ref (n0 + 0), .int x1, .int x2] M (some (.int r)) M := by
  refine ct_int (cc := cX11_household) (maxL := 3) rfl (Nat.le_of_ble_eq_true rfl) ?_
  intro K C hret
  have C : Ok K l rX11_household cX11_household RX11 G n0 3 := C
  show J K M 0 [(0, .ref (n0 + 0)), (1, .int x1), (2, .int x2)] []
  unfold fX11_household at hf
  refine j_aload_n C 0 dX11_household_0 rfl rfl ?_
  refine g_X11_village C tw1_228 lc0 1 rfl dX11_household_1 ?_
  refine j_iload_n C 1 dX11_household_4 rfl rfl ?_
  obtain ⟨v2, e1, hf⟩ := bd hf
  refine j_callV C 1 lc1 (ent_K _ _ _ _ _ _) rfl (c_X9_whyNoHousehold l G n0 lc1 e1) gv_RX11_69 ⟨rfl, rfl⟩ (by decide +kernel) ⟨Nat.le_of_ble_eq_true rfl, Nat.le_of_ble_eq_true rfl⟩ rfl rfl (Nat.le_of_ble_eq_true rfl) dX11_household_5 ?_
  obtain ⟨o4, e3, hf⟩ := bd hf
  rcases o4 with kx | _
  · replace hf : some _ = some _ := hf
    cases hf
  · replace hf := xcr hf
    refine j_callS C 1 (c_X11_refuse l G n0 (M := M) e3) gs_RX11_45 ⟨rfl, rfl⟩ (by decide +kernel) ⟨Nat.le_of_ble_eq_true rfl, Nat.le_of_ble_eq_true rfl⟩ rfl rfl (Nat.le_of_ble_eq_true rfl) dX11_household_8 ?_
    refine j_iload_n C 2 dX11_household_11 rfl rfl ?_
    refine j_bipush C (8 : Int32) rfl dX11_household_12 ?_
    obtain ⟨v6, e5, hf⟩ := bd hf
    refine j_callS C 2 (c_X11_whyNotBelow l G n0 (M := M) e5) gs_RX11_120 ⟨rfl, rfl⟩ (by decide +kernel) ⟨Nat.le_of_ble_eq_true rfl, Nat.le_of_ble_eq_true rfl⟩ rfl rfl (Nat.le_of_ble_eq_true rfl) dX11_household_14 ?_
    obtain ⟨o8, e7, hf⟩ := bd hf
    rcases o8 with kx | _
    · replace hf : some _ = some _ := hf
      cases hf
    · replace hf := xcr hf
      refine j_callS C 1 (c_X11_refuse l G n0 (M := M) e7) gs_RX11_45 ⟨rfl, rfl⟩ (by decide +kernel) ⟨Nat.le_of_ble_eq_true rfl, Nat.le_of_ble_eq_true rfl⟩ rfl rfl (Nat.le_of_ble_eq_true rfl) dX11_household_17 ?_
      refine j_iload_n C 2 dX11_household_20 rfl rfl ?_
      by_cases c19_4 : x2 = 4
      · replace hf := ip c19_4 hf
        refine j_tsw C 52 c19_4 dX11_household_21 (by decide) rfl (by decide) ?_
        refine j_aload_n C 0 dX11_household_52 rfl rfl ?_
        refine g_X11_village C tw1_228 lc0 1 rfl dX11_household_53 ?_
        refine gN_X9_loaves C (nxf_RX11_loaves) lc1 23 rfl dX11_household_56 ?_
        refine j_iconst C (0 : Int32) rfl dX11_household_59 ?_
        refine j_iload_n C 1 dX11_household_60 rfl rfl ?_
        obtain ⟨v10, e9, hf⟩ := bd hf
        refine j_callV C 2 lc23 (ent_K _ _ _ _ _ _) rfl (c_X6_countWith l G n0 lc23 e9) gv_RX11_123 ⟨rfl, rfl⟩ (by decide +kernel) ⟨Nat.le_of_ble_eq_true rfl, Nat.le_of_ble_eq_true rfl⟩ rfl rfl (Nat.le_of_ble_eq_true rfl) dX11_household_61 ?_
        obtain rfl := Sum.inr.inj (Option.some.inj hf)
        exact hret _ _ dX11_household_64
      · replace hf := ine c19_4 hf
        by_cases c19_5 : x2 = 5
        · replace hf := ip c19_5 hf
          refine j_tsw C 65 c19_5 dX11_household_21 (by decide) rfl (by decide) ?_
          refine j_aload_n C 0 dX11_household_65 rfl rfl ?_
          refine g_X11_village C tw1_228 lc0 1 rfl dX11_household_66 ?_
          refine gN_X9_loaves C (nxf_RX11_loaves) lc1 23 rfl dX11_household_69 ?_
          refine j_iconst C (5 : Int32) rfl dX11_household_72 ?_
          refine j_iload_n C 1 dX11_household_73 rfl rfl ?_
          obtain ⟨v12, e11, hf⟩ := bd hf
          refine j_callV C 2 lc23 (ent_K _ _ _ _ _ _) rfl (c_X6_countWith l G n0 lc23 e11) gv_RX11_123 ⟨rfl, rfl⟩ (by decide +kernel) ⟨Nat.le_of_ble_eq_true rfl, Nat.le_of_ble_eq_true rfl⟩ rfl rfl (Nat.le_of_ble_eq_true rfl) dX11_household_74 ?_
          obtain rfl := Sum.inr.inj (Option.some.inj hf)
          exact hret _ _ dX11_household_77
        · replace hf := ine c19_5 hf
          by_cases c19_6 : x2 = 6
          · replace hf := ip c19_6 hf
            refine j_tsw C 78 c19_6 dX11_household_21 (by decide) rfl (by decide) ?_
            refine j_aload_n C 0 dX11_household_78 rfl rfl ?_
            refine g_X11_village C tw1_228 lc0 1 rfl dX11_household_79 ?_
            refine gN_X9_loaves C (nxf_RX11_loaves) lc1 23 rfl dX11_household_82 ?_
            refine j_iconst C (0 : Int32) rfl dX11_household_85 ?_
            refine j_iload_n C 1 dX11_household_86 rfl rfl ?_
            refine j_iconst C (5 : Int32) rfl dX11_household_87 ?_
            refine j_iload_n C 1 dX11_household_88 rfl rfl ?_
            obtain ⟨v14, e13, hf⟩ := bd hf
            refine j_callV C 4 lc23 (ent_K _ _ _ _ _ _) rfl (c_X6_countWithBoth l G n0 lc23 e13) gv_RX11_126 ⟨rfl, rfl⟩ (by decide +kernel) ⟨Nat.le_of_ble_eq_true rfl, Nat.le_of_ble_eq_true rfl⟩ rfl rfl (Nat.le_of_ble_eq_true rfl) dX11_household_89 ?_
            obtain rfl := Sum.inr.inj (Option.some.inj hf)
            exact hret _ _ dX11_household_92
          · replace hf := ine c19_6 hf
            by_cases c19_7 : x2 = 7
            · replace hf := ip c19_7 hf
              refine j_tsw C 93 c19_7 dX11_household_21 (by decide) rfl (by decide) ?_
              refine j_aload_n C 0 dX11_household_93 rfl rfl ?_
              refine g_X11_village C tw1_228 lc0 1 rfl dX11_household_94 ?_
              refine gN_X9_batches C (nxf_RX11_batches) lc1 9 rfl dX11_household_97 ?_
              refine j_iload_n C 1 dX11_household_100 rfl rfl ?_
              obtain ⟨v16, e15, hf⟩ := bd hf
              refine j_callV C 1 lc9 (ent_K _ _ _ _ _ _) rfl (c_X1_countOf l G n0 lc9 e15) gv_RX11_130 ⟨rfl, rfl⟩ (by decide +kernel) ⟨Nat.le_of_ble_eq_true rfl, Nat.le_of_ble_eq_true rfl⟩ rfl rfl (Nat.le_of_ble_eq_true rfl) dX11_household_101 ?_
              obtain rfl := Sum.inr.inj (Option.some.inj hf)
              exact hret _ _ dX11_household_104
            · replace hf := ine c19_7 hf
              refine j_tswD C 105 (by have g4 := lv_neT c19_4 (show (4 : Int32).toInt = 4 by decide); have g5 := lv_neT c19_5 (show (5 : Int32).toInt = 5 by decide); have g6 := lv_neT c19_6 (show (6 : Int32).toInt = 6 by decide); have g7 := lv_neT c19_7 (show (7 : Int32).toInt = 7 by decide); omega) dX11_household_21 (by decide) ?_
              refine j_aload_n C 0 dX11_household_105 rfl rfl ?_
              refine g_X11_village C tw1_228 lc0 1 rfl dX11_household_106 ?_
              refine gN_X9_households C (nxf_RX11_households) lc1 2 rfl dX11_household_109 ?_
              refine j_iload_n C 1 dX11_household_112 rfl rfl ?_
              refine j_iload_n C 2 dX11_household_113 rfl rfl ?_
              obtain ⟨v18, e17, hf⟩ := bd hf
              refine j_callV C 2 lc2 (ent_K _ _ _ _ _ _) rfl (c_X4_value l G n0 lc2 e17) gv_RX11_133 ⟨rfl, rfl⟩ (by decide +kernel) ⟨Nat.le_of_ble_eq_true rfl, Nat.le_of_ble_eq_true rfl⟩ rfl rfl (Nat.le_of_ble_eq_true rfl) dX11_household_114 ?_
              obtain rfl := Sum.inr.inj (Option.some.inj hf)
              exact hret _ _ dX11_household_117
def qX11_household : Room := { frames := 7, cells := 1, slots := 6, locals := 110 }
set_option maxRecDepth 100000 in
set_option maxHeartbeats 4000000 in
theorem t_X11_household (l : Launch) (hfl : l.stackTraces = false) (G : Gx) (n0 : Nat) {x1 : Int32} {x2 : Int32} {M : Mem} {k : Nat} (hf : fX11_household x1 x2 M = some (Sum.inl k)) : CtT l yX11_household cX11_household 3 (some .int) qX11_household G n0 [.ref (n0 + 0), .int x1, .int x2] M k := by
  refine ct_thr (cc := cX11_household) (maxL := 3) rfl (Nat.le_of_ble_eq_true rfl) ⟨Nat.le_of_ble_eq_true rfl, Nat.le_of_ble_eq_true rfl⟩ ?_
  intro K C hthr
  have C : Ok K l qX11_household cX11_household RX11 G n0 3 := C
  show J K M 0 [(0, .ref (n0 + 0)), (1, .int x1), (2, .int x2)] []
  unfold fX11_household at hf
  refine j_aload_n C 0 dX11_household_0 rfl rfl ?_
  refine g_X11_village C tw1_228 lc0 1 rfl dX11_household_1 ?_
  refine j_iload_n C 1 dX11_household_4 rfl rfl ?_
  obtain ⟨v2, e1, hf⟩ := bd hf
  refine j_callV C 1 lc1 (ent_K _ _ _ _ _ _) rfl (c_X9_whyNoHousehold l G n0 lc1 e1) gv_RX11_69 ⟨rfl, rfl⟩ (by decide +kernel) ⟨Nat.le_of_ble_eq_true rfl, Nat.le_of_ble_eq_true rfl⟩ rfl rfl (Nat.le_of_ble_eq_true rfl) dX11_household_5 ?_
  obtain ⟨o4, e3, hf⟩ := bd hf
  rcases o4 with kx | _
  · replace hf : some _ = some _ := hf
    cases hf
    exact j_callTS C 1 hthr (t_X11_refuse l hfl G n0 (M := M) e3) gs_RX11_45 ⟨rfl, rfl⟩ (by decide +kernel) ⟨Nat.le_of_ble_eq_true rfl, Nat.le_of_ble_eq_true rfl⟩ rfl rfl (Nat.le_of_ble_eq_true rfl) dX11_household_8
  · replace hf := xcr hf
    refine j_callS C 1 (c_X11_refuse l G n0 (M := M) e3) gs_RX11_45 ⟨rfl, rfl⟩ (by decide +kernel) ⟨Nat.le_of_ble_eq_true rfl, Nat.le_of_ble_eq_true rfl⟩ rfl rfl (Nat.le_of_ble_eq_true rfl) dX11_household_8 ?_
    refine j_iload_n C 2 dX11_household_11 rfl rfl ?_
    refine j_bipush C (8 : Int32) rfl dX11_household_12 ?_
    obtain ⟨v6, e5, hf⟩ := bd hf
    refine j_callS C 2 (c_X11_whyNotBelow l G n0 (M := M) e5) gs_RX11_120 ⟨rfl, rfl⟩ (by decide +kernel) ⟨Nat.le_of_ble_eq_true rfl, Nat.le_of_ble_eq_true rfl⟩ rfl rfl (Nat.le_of_ble_eq_true rfl) dX11_household_14 ?_
    obtain ⟨o8, e7, hf⟩ := bd hf
    rcases o8 with kx | _
    · replace hf : some _ = some _ := hf
      cases hf
      exact j_callTS C 1 hthr (t_X11_refuse l hfl G n0 (M := M) e7) gs_RX11_45 ⟨rfl, rfl⟩ (by decide +kernel) ⟨Nat.le_of_ble_eq_true rfl, Nat.le_of_ble_eq_true rfl⟩ rfl rfl (Nat.le_of_ble_eq_true rfl) dX11_household_17
    · replace hf := xcr hf
      refine j_callS C 1 (c_X11_refuse l G n0 (M := M) e7) gs_RX11_45 ⟨rfl, rfl⟩ (by decide +kernel) ⟨Nat.le_of_ble_eq_true rfl, Nat.le_of_ble_eq_true rfl⟩ rfl rfl (Nat.le_of_ble_eq_true rfl) dX11_household_17 ?_
      refine j_iload_n C 2 dX11_household_20 rfl rfl ?_
      by_cases c19_4 : x2 = 4
      · replace hf := ip c19_4 hf
        refine j_tsw C 52 c19_4 dX11_household_21 (by decide) rfl (by decide) ?_
        refine j_aload_n C 0 dX11_household_52 rfl rfl ?_
        refine g_X11_village C tw1_228 lc0 1 rfl dX11_household_53 ?_
        refine gN_X9_loaves C (nxf_RX11_loaves) lc1 23 rfl dX11_household_56 ?_
        refine j_iconst C (0 : Int32) rfl dX11_household_59 ?_
        refine j_iload_n C 1 dX11_household_60 rfl rfl ?_
        obtain ⟨v10, e9, hf⟩ := bd hf
        refine j_callV C 2 lc23 (ent_K _ _ _ _ _ _) rfl (c_X6_countWith l G n0 lc23 e9) gv_RX11_123 ⟨rfl, rfl⟩ (by decide +kernel) ⟨Nat.le_of_ble_eq_true rfl, Nat.le_of_ble_eq_true rfl⟩ rfl rfl (Nat.le_of_ble_eq_true rfl) dX11_household_61 ?_
        cases hf
      · replace hf := ine c19_4 hf
        by_cases c19_5 : x2 = 5
        · replace hf := ip c19_5 hf
          refine j_tsw C 65 c19_5 dX11_household_21 (by decide) rfl (by decide) ?_
          refine j_aload_n C 0 dX11_household_65 rfl rfl ?_
          refine g_X11_village C tw1_228 lc0 1 rfl dX11_household_66 ?_
          refine gN_X9_loaves C (nxf_RX11_loaves) lc1 23 rfl dX11_household_69 ?_
          refine j_iconst C (5 : Int32) rfl dX11_household_72 ?_
          refine j_iload_n C 1 dX11_household_73 rfl rfl ?_
          obtain ⟨v12, e11, hf⟩ := bd hf
          refine j_callV C 2 lc23 (ent_K _ _ _ _ _ _) rfl (c_X6_countWith l G n0 lc23 e11) gv_RX11_123 ⟨rfl, rfl⟩ (by decide +kernel) ⟨Nat.le_of_ble_eq_true rfl, Nat.le_of_ble_eq_true rfl⟩ rfl rfl (Nat.le_of_ble_eq_true rfl) dX11_household_74 ?_
          cases hf
        · replace hf := ine c19_5 hf
          by_cases c19_6 : x2 = 6
          · replace hf := ip c19_6 hf
            refine j_tsw C 78 c19_6 dX11_household_21 (by decide) rfl (by decide) ?_
            refine j_aload_n C 0 dX11_household_78 rfl rfl ?_
            refine g_X11_village C tw1_228 lc0 1 rfl dX11_household_79 ?_
            refine gN_X9_loaves C (nxf_RX11_loaves) lc1 23 rfl dX11_household_82 ?_
            refine j_iconst C (0 : Int32) rfl dX11_household_85 ?_
            refine j_iload_n C 1 dX11_household_86 rfl rfl ?_
            refine j_iconst C (5 : Int32) rfl dX11_household_87 ?_
            refine j_iload_n C 1 dX11_household_88 rfl rfl ?_
            obtain ⟨v14, e13, hf⟩ := bd hf
            refine j_callV C 4 lc23 (ent_K _ _ _ _ _ _) rfl (c_X6_countWithBoth l G n0 lc23 e13) gv_RX11_126 ⟨rfl, rfl⟩ (by decide +kernel) ⟨Nat.le_of_ble_eq_true rfl, Nat.le_of_ble_eq_true rfl⟩ rfl rfl (Nat.le_of_ble_eq_true rfl) dX11_household_89 ?_
            cases hf
          · replace hf := ine c19_6 hf
            by_cases c19_7 : x2 = 7
            · replace hf := ip c19_7 hf
              refine j_tsw C 93 c19_7 dX11_household_21 (by decide) rfl (by decide) ?_
              refine j_aload_n C 0 dX11_household_93 rfl rfl ?_
              refine g_X11_village C tw1_228 lc0 1 rfl dX11_household_94 ?_
              refine gN_X9_batches C (nxf_RX11_batches) lc1 9 rfl dX11_household_97 ?_
              refine j_iload_n C 1 dX11_household_100 rfl rfl ?_
              obtain ⟨v16, e15, hf⟩ := bd hf
              refine j_callV C 1 lc9 (ent_K _ _ _ _ _ _) rfl (c_X1_countOf l G n0 lc9 e15) gv_RX11_130 ⟨rfl, rfl⟩ (by decide +kernel) ⟨Nat.le_of_ble_eq_true rfl, Nat.le_of_ble_eq_true rfl⟩ rfl rfl (Nat.le_of_ble_eq_true rfl) dX11_household_101 ?_
              cases hf
            · replace hf := ine c19_7 hf
              refine j_tswD C 105 (by have g4 := lv_neT c19_4 (show (4 : Int32).toInt = 4 by decide); have g5 := lv_neT c19_5 (show (5 : Int32).toInt = 5 by decide); have g6 := lv_neT c19_6 (show (6 : Int32).toInt = 6 by decide); have g7 := lv_neT c19_7 (show (7 : Int32).toInt = 7 by decide); omega) dX11_household_21 (by decide) ?_
              refine j_aload_n C 0 dX11_household_105 rfl rfl ?_
              refine g_X11_village C tw1_228 lc0 1 rfl dX11_household_106 ?_
              refine gN_X9_households C (nxf_RX11_households) lc1 2 rfl dX11_household_109 ?_
              refine j_iload_n C 1 dX11_household_112 rfl rfl ?_
              refine j_iload_n C 2 dX11_household_113 rfl rfl ?_
              obtain ⟨v18, e17, hf⟩ := bd hf
              refine j_callV C 2 lc2 (ent_K _ _ _ _ _ _) rfl (c_X4_value l G n0 lc2 e17) gv_RX11_133 ⟨rfl, rfl⟩ (by decide +kernel) ⟨Nat.le_of_ble_eq_true rfl, Nat.le_of_ble_eq_true rfl⟩ rfl rfl (Nat.le_of_ble_eq_true rfl) dX11_household_114 ?_
              cases hf
def fX11_due (x1 : Int32) (M : Mem) : Option (Nat ⊕ Int64) :=
  (fX9_whyNoHousehold 1 x1 M).bind fun v2 =>
  (fX11_refuse v2).bind fun o4 => xc o4 (fun k => some (Sum.inl k))
  (fun _ => (fX4_dueOf 2 x1 M).bind fun v6 =>
  some (Sum.inr v6))

def rX11_due : Room := { frames := 2, cells := 0, slots := 0, locals := 50 }
set_option maxRecDepth 100000 in
set_option maxHeartbeats 4000000 in
theorem c_X11_due (l : Launch) (G : Gx) (n0 : Nat) {x1 : Int32} {M : Mem} {r : Int64} (hf : fX11_due x1 M = some (Sum.inr r)) : Ct l yX11_due cX11_due 2 (some .long) rX11_due G n0 [.ref (n0 + 0), .int x1] M (some (.long r)) M := by
  refine ct_long (cc := cX11_due) (maxL := 2) rfl (Nat.le_of_ble_eq_true rfl) ?_
  intro K C hret
  have C : Ok K l rX11_due cX11_due RX11 G n0 2 := C
  show J K M 0 [(0, .ref (n0 + 0)), (1, .int x1)] []
  unfold fX11_due at hf
  refine j_aload_n C 0 dX11_due_0 rfl rfl ?_
  refine g_X11_village C tw1_228 lc0 1 rfl dX11_due_1 ?_
  refine j_iload_n C 1 dX11_due_4 rfl rfl ?_
  obtain ⟨v2, e1, hf⟩ := bd hf
  refine j_callV C 1 lc1 (ent_K _ _ _ _ _ _) rfl (c_X9_whyNoHousehold l G n0 lc1 e1) gv_RX11_69 ⟨rfl, rfl⟩ (by decide +kernel) ⟨Nat.le_of_ble_eq_true rfl, Nat.le_of_ble_eq_true rfl⟩ rfl rfl (Nat.le_of_ble_eq_true rfl) dX11_due_5 ?_
  obtain ⟨o4, e3, hf⟩ := bd hf
  rcases o4 with kx | _
  · replace hf : some _ = some _ := hf
    cases hf
  · replace hf := xcr hf
    refine j_callS C 1 (c_X11_refuse l G n0 (M := M) e3) gs_RX11_45 ⟨rfl, rfl⟩ (by decide +kernel) ⟨Nat.le_of_ble_eq_true rfl, Nat.le_of_ble_eq_true rfl⟩ rfl rfl (Nat.le_of_ble_eq_true rfl) dX11_due_8 ?_
    refine j_aload_n C 0 dX11_due_11 rfl rfl ?_
    refine g_X11_village C tw1_228 lc0 1 rfl dX11_due_12 ?_
    refine gN_X9_households C (nxf_RX11_households) lc1 2 rfl dX11_due_15 ?_
    refine j_iload_n C 1 dX11_due_18 rfl rfl ?_
    obtain ⟨v6, e5, hf⟩ := bd hf
    refine j_callV C 1 lc2 (ent_K _ _ _ _ _ _) rfl (c_X4_dueOf l G n0 lc2 e5) gv_RX11_136 ⟨rfl, rfl⟩ (by decide +kernel) ⟨Nat.le_of_ble_eq_true rfl, Nat.le_of_ble_eq_true rfl⟩ rfl rfl (Nat.le_of_ble_eq_true rfl) dX11_due_19 ?_
    obtain rfl := Sum.inr.inj (Option.some.inj hf)
    exact hret _ _ dX11_due_22
def qX11_due : Room := { frames := 7, cells := 1, slots := 6, locals := 110 }
set_option maxRecDepth 100000 in
set_option maxHeartbeats 4000000 in
theorem t_X11_due (l : Launch) (hfl : l.stackTraces = false) (G : Gx) (n0 : Nat) {x1 : Int32} {M : Mem} {k : Nat} (hf : fX11_due x1 M = some (Sum.inl k)) : CtT l yX11_due cX11_due 2 (some .long) qX11_due G n0 [.ref (n0 + 0), .int x1] M k := by
  refine ct_thr (cc := cX11_due) (maxL := 2) rfl (Nat.le_of_ble_eq_true rfl) ⟨Nat.le_of_ble_eq_true rfl, Nat.le_of_ble_eq_true rfl⟩ ?_
  intro K C hthr
  have C : Ok K l qX11_due cX11_due RX11 G n0 2 := C
  show J K M 0 [(0, .ref (n0 + 0)), (1, .int x1)] []
  unfold fX11_due at hf
  refine j_aload_n C 0 dX11_due_0 rfl rfl ?_
  refine g_X11_village C tw1_228 lc0 1 rfl dX11_due_1 ?_
  refine j_iload_n C 1 dX11_due_4 rfl rfl ?_
  obtain ⟨v2, e1, hf⟩ := bd hf
  refine j_callV C 1 lc1 (ent_K _ _ _ _ _ _) rfl (c_X9_whyNoHousehold l G n0 lc1 e1) gv_RX11_69 ⟨rfl, rfl⟩ (by decide +kernel) ⟨Nat.le_of_ble_eq_true rfl, Nat.le_of_ble_eq_true rfl⟩ rfl rfl (Nat.le_of_ble_eq_true rfl) dX11_due_5 ?_
  obtain ⟨o4, e3, hf⟩ := bd hf
  rcases o4 with kx | _
  · replace hf : some _ = some _ := hf
    cases hf
    exact j_callTS C 1 hthr (t_X11_refuse l hfl G n0 (M := M) e3) gs_RX11_45 ⟨rfl, rfl⟩ (by decide +kernel) ⟨Nat.le_of_ble_eq_true rfl, Nat.le_of_ble_eq_true rfl⟩ rfl rfl (Nat.le_of_ble_eq_true rfl) dX11_due_8
  · replace hf := xcr hf
    refine j_callS C 1 (c_X11_refuse l G n0 (M := M) e3) gs_RX11_45 ⟨rfl, rfl⟩ (by decide +kernel) ⟨Nat.le_of_ble_eq_true rfl, Nat.le_of_ble_eq_true rfl⟩ rfl rfl (Nat.le_of_ble_eq_true rfl) dX11_due_8 ?_
    refine j_aload_n C 0 dX11_due_11 rfl rfl ?_
    refine g_X11_village C tw1_228 lc0 1 rfl dX11_due_12 ?_
    refine gN_X9_households C (nxf_RX11_households) lc1 2 rfl dX11_due_15 ?_
    refine j_iload_n C 1 dX11_due_18 rfl rfl ?_
    obtain ⟨v6, e5, hf⟩ := bd hf
    refine j_callV C 1 lc2 (ent_K _ _ _ _ _ _) rfl (c_X4_dueOf l G n0 lc2 e5) gv_RX11_136 ⟨rfl, rfl⟩ (by decide +kernel) ⟨Nat.le_of_ble_eq_true rfl, Nat.le_of_ble_eq_true rfl⟩ rfl rfl (Nat.le_of_ble_eq_true rfl) dX11_due_19 ?_
    cases hf
def fX11_balance (x1 : Int32) (x2 : Int32) (M : Mem) : Option (Nat ⊕ Int32) :=
  (fX9_whyNoHousehold 1 x1 M).bind fun v2 =>
  (fX11_refuse v2).bind fun o4 => xc o4 (fun k => some (Sum.inl k))
  (fun _ => (fX11_whyNotBelow x2 (3 : Int32)).bind fun v6 =>
  (fX11_refuse v6).bind fun o8 => xc o8 (fun k => some (Sum.inl k))
  (fun _ => (fX6_balanceOf 23 x1 x2 M).bind fun v10 =>
  some (Sum.inr v10)))

def rX11_balance : Room := { frames := 4, cells := 0, slots := 0, locals := 79 }
set_option maxRecDepth 100000 in
set_option maxHeartbeats 4000000 in
theorem c_X11_balance (l : Launch) (G : Gx) (n0 : Nat) {x1 : Int32} {x2 : Int32} {M : Mem} {r : Int32} (hf : fX11_balance x1 x2 M = some (Sum.inr r)) : Ct l yX11_balance cX11_balance 3 (some .int) rX11_balance G n0 [.ref (n0 + 0), .int x1, .int x2] M (some (.int r)) M := by
  refine ct_int (cc := cX11_balance) (maxL := 3) rfl (Nat.le_of_ble_eq_true rfl) ?_
  intro K C hret
  have C : Ok K l rX11_balance cX11_balance RX11 G n0 3 := C
  show J K M 0 [(0, .ref (n0 + 0)), (1, .int x1), (2, .int x2)] []
  unfold fX11_balance at hf
  refine j_aload_n C 0 dX11_balance_0 rfl rfl ?_
  refine g_X11_village C tw1_228 lc0 1 rfl dX11_balance_1 ?_
  refine j_iload_n C 1 dX11_balance_4 rfl rfl ?_
  obtain ⟨v2, e1, hf⟩ := bd hf
  refine j_callV C 1 lc1 (ent_K _ _ _ _ _ _) rfl (c_X9_whyNoHousehold l G n0 lc1 e1) gv_RX11_69 ⟨rfl, rfl⟩ (by decide +kernel) ⟨Nat.le_of_ble_eq_true rfl, Nat.le_of_ble_eq_true rfl⟩ rfl rfl (Nat.le_of_ble_eq_true rfl) dX11_balance_5 ?_
  obtain ⟨o4, e3, hf⟩ := bd hf
  rcases o4 with kx | _
  · replace hf : some _ = some _ := hf
    cases hf
  · replace hf := xcr hf
    refine j_callS C 1 (c_X11_refuse l G n0 (M := M) e3) gs_RX11_45 ⟨rfl, rfl⟩ (by decide +kernel) ⟨Nat.le_of_ble_eq_true rfl, Nat.le_of_ble_eq_true rfl⟩ rfl rfl (Nat.le_of_ble_eq_true rfl) dX11_balance_8 ?_
    refine j_iload_n C 2 dX11_balance_11 rfl rfl ?_
    refine j_iconst C (3 : Int32) rfl dX11_balance_12 ?_
    obtain ⟨v6, e5, hf⟩ := bd hf
    refine j_callS C 2 (c_X11_whyNotBelow l G n0 (M := M) e5) gs_RX11_120 ⟨rfl, rfl⟩ (by decide +kernel) ⟨Nat.le_of_ble_eq_true rfl, Nat.le_of_ble_eq_true rfl⟩ rfl rfl (Nat.le_of_ble_eq_true rfl) dX11_balance_13 ?_
    obtain ⟨o8, e7, hf⟩ := bd hf
    rcases o8 with kx | _
    · replace hf : some _ = some _ := hf
      cases hf
    · replace hf := xcr hf
      refine j_callS C 1 (c_X11_refuse l G n0 (M := M) e7) gs_RX11_45 ⟨rfl, rfl⟩ (by decide +kernel) ⟨Nat.le_of_ble_eq_true rfl, Nat.le_of_ble_eq_true rfl⟩ rfl rfl (Nat.le_of_ble_eq_true rfl) dX11_balance_16 ?_
      refine j_aload_n C 0 dX11_balance_19 rfl rfl ?_
      refine g_X11_village C tw1_228 lc0 1 rfl dX11_balance_20 ?_
      refine gN_X9_loaves C (nxf_RX11_loaves) lc1 23 rfl dX11_balance_23 ?_
      refine j_iload_n C 1 dX11_balance_26 rfl rfl ?_
      refine j_iload_n C 2 dX11_balance_27 rfl rfl ?_
      obtain ⟨v10, e9, hf⟩ := bd hf
      refine j_callV C 2 lc23 (ent_K _ _ _ _ _ _) rfl (c_X6_balanceOf l G n0 lc23 e9) gv_RX11_143 ⟨rfl, rfl⟩ (by decide +kernel) ⟨Nat.le_of_ble_eq_true rfl, Nat.le_of_ble_eq_true rfl⟩ rfl rfl (Nat.le_of_ble_eq_true rfl) dX11_balance_28 ?_
      obtain rfl := Sum.inr.inj (Option.some.inj hf)
      exact hret _ _ dX11_balance_31
def qX11_balance : Room := { frames := 7, cells := 1, slots := 6, locals := 110 }
set_option maxRecDepth 100000 in
set_option maxHeartbeats 4000000 in
theorem t_X11_balance (l : Launch) (hfl : l.stackTraces = false) (G : Gx) (n0 : Nat) {x1 : Int32} {x2 : Int32} {M : Mem} {k : Nat} (hf : fX11_balance x1 x2 M = some (Sum.inl k)) : CtT l yX11_balance cX11_balance 3 (some .int) qX11_balance G n0 [.ref (n0 + 0), .int x1, .int x2] M k := by
  refine ct_thr (cc := cX11_balance) (maxL := 3) rfl (Nat.le_of_ble_eq_true rfl) ⟨Nat.le_of_ble_eq_true rfl, Nat.le_of_ble_eq_true rfl⟩ ?_
  intro K C hthr
  have C : Ok K l qX11_balance cX11_balance RX11 G n0 3 := C
  show J K M 0 [(0, .ref (n0 + 0)), (1, .int x1), (2, .int x2)] []
  unfold fX11_balance at hf
  refine j_aload_n C 0 dX11_balance_0 rfl rfl ?_
  refine g_X11_village C tw1_228 lc0 1 rfl dX11_balance_1 ?_
  refine j_iload_n C 1 dX11_balance_4 rfl rfl ?_
  obtain ⟨v2, e1, hf⟩ := bd hf
  refine j_callV C 1 lc1 (ent_K _ _ _ _ _ _) rfl (c_X9_whyNoHousehold l G n0 lc1 e1) gv_RX11_69 ⟨rfl, rfl⟩ (by decide +kernel) ⟨Nat.le_of_ble_eq_true rfl, Nat.le_of_ble_eq_true rfl⟩ rfl rfl (Nat.le_of_ble_eq_true rfl) dX11_balance_5 ?_
  obtain ⟨o4, e3, hf⟩ := bd hf
  rcases o4 with kx | _
  · replace hf : some _ = some _ := hf
    cases hf
    exact j_callTS C 1 hthr (t_X11_refuse l hfl G n0 (M := M) e3) gs_RX11_45 ⟨rfl, rfl⟩ (by decide +kernel) ⟨Nat.le_of_ble_eq_true rfl, Nat.le_of_ble_eq_true rfl⟩ rfl rfl (Nat.le_of_ble_eq_true rfl) dX11_balance_8
  · replace hf := xcr hf
    refine j_callS C 1 (c_X11_refuse l G n0 (M := M) e3) gs_RX11_45 ⟨rfl, rfl⟩ (by decide +kernel) ⟨Nat.le_of_ble_eq_true rfl, Nat.le_of_ble_eq_true rfl⟩ rfl rfl (Nat.le_of_ble_eq_true rfl) dX11_balance_8 ?_
    refine j_iload_n C 2 dX11_balance_11 rfl rfl ?_
    refine j_iconst C (3 : Int32) rfl dX11_balance_12 ?_
    obtain ⟨v6, e5, hf⟩ := bd hf
    refine j_callS C 2 (c_X11_whyNotBelow l G n0 (M := M) e5) gs_RX11_120 ⟨rfl, rfl⟩ (by decide +kernel) ⟨Nat.le_of_ble_eq_true rfl, Nat.le_of_ble_eq_true rfl⟩ rfl rfl (Nat.le_of_ble_eq_true rfl) dX11_balance_13 ?_
    obtain ⟨o8, e7, hf⟩ := bd hf
    rcases o8 with kx | _
    · replace hf : some _ = some _ := hf
      cases hf
      exact j_callTS C 1 hthr (t_X11_refuse l hfl G n0 (M := M) e7) gs_RX11_45 ⟨rfl, rfl⟩ (by decide +kernel) ⟨Nat.le_of_ble_eq_true rfl, Nat.le_of_ble_eq_true rfl⟩ rfl rfl (Nat.le_of_ble_eq_true rfl) dX11_balance_16
    · replace hf := xcr hf
      refine j_callS C 1 (c_X11_refuse l G n0 (M := M) e7) gs_RX11_45 ⟨rfl, rfl⟩ (by decide +kernel) ⟨Nat.le_of_ble_eq_true rfl, Nat.le_of_ble_eq_true rfl⟩ rfl rfl (Nat.le_of_ble_eq_true rfl) dX11_balance_16 ?_
      refine j_aload_n C 0 dX11_balance_19 rfl rfl ?_
      refine g_X11_village C tw1_228 lc0 1 rfl dX11_balance_20 ?_
      refine gN_X9_loaves C (nxf_RX11_loaves) lc1 23 rfl dX11_balance_23 ?_
      refine j_iload_n C 1 dX11_balance_26 rfl rfl ?_
      refine j_iload_n C 2 dX11_balance_27 rfl rfl ?_
      obtain ⟨v10, e9, hf⟩ := bd hf
      refine j_callV C 2 lc23 (ent_K _ _ _ _ _ _) rfl (c_X6_balanceOf l G n0 lc23 e9) gv_RX11_143 ⟨rfl, rfl⟩ (by decide +kernel) ⟨Nat.le_of_ble_eq_true rfl, Nat.le_of_ble_eq_true rfl⟩ rfl rfl (Nat.le_of_ble_eq_true rfl) dX11_balance_28 ?_
      cases hf
def fX11_batch (x1 : Int32) (x2 : Int32) (M : Mem) : Option (Nat ⊕ (Int32 × Mem)) :=
  (if 0 ≤ x1 then ((fX11_whyNotBelow x2 (4 : Int32)).bind fun v3 =>
  some v3)
  else (some (2 : Int32))).bind (fun z4 => (fX11_refuse z4).bind fun o6 => xc o6 (fun k => some (Sum.inl k))
  (fun _ => (fX1_has 9 x1 M).bind fun b8 =>
  if b8 = true then (if (3 : Int32) ≤ x2 then ((fX9_arrangeNextDay 1 M).bind fun M12 =>
  (fX3_placeOf x1 M12).bind fun v14 =>
  some (Sum.inr (v14, M12)))
  else ((fX1_value 9 x1 x2 M).bind fun v16 =>
  some (Sum.inr (v16, M))))
  else (some (Sum.inr ((-1 : Int32), M)))))

def rX11_batch : Room := { frames := 4, cells := 0, slots := 0, locals := 100 }
set_option maxRecDepth 100000 in
set_option maxHeartbeats 4000000 in
theorem c_X11_batch (l : Launch) (G : Gx) (n0 : Nat) {x1 : Int32} {x2 : Int32} {M : Mem} {r : Int32} {M' : Mem} (hf : fX11_batch x1 x2 M = some (Sum.inr (r, M'))) : Ct l yX11_batch cX11_batch 3 (some .int) rX11_batch G n0 [.ref (n0 + 0), .int x1, .int x2] M (some (.int r)) M' := by
  refine ct_int (cc := cX11_batch) (maxL := 3) rfl (Nat.le_of_ble_eq_true rfl) ?_
  intro K C hret
  have C : Ok K l rX11_batch cX11_batch RX11 G n0 3 := C
  show J K M 0 [(0, .ref (n0 + 0)), (1, .int x1), (2, .int x2)] []
  unfold fX11_batch at hf
  refine j_iload_n C 1 dX11_batch_0 rfl rfl ?_
  obtain ⟨z4, e17, hf⟩ := bd hf
  have hj18 : J K M 13 [(0, .ref (n0 + 0)), (1, .int x1), (2, .int x2)] [.int z4] := by
    obtain ⟨o6, e5, hf⟩ := bd hf
    rcases o6 with kx | _
    · replace hf : some _ = some _ := hf
      cases hf
    · replace hf := xcr hf
      refine j_callS C 1 (c_X11_refuse l G n0 (M := M) e5) gs_RX11_45 ⟨rfl, rfl⟩ (by decide +kernel) ⟨Nat.le_of_ble_eq_true rfl, Nat.le_of_ble_eq_true rfl⟩ rfl rfl (Nat.le_of_ble_eq_true rfl) dX11_batch_13 ?_
      refine j_aload_n C 0 dX11_batch_16 rfl rfl ?_
      refine g_X11_village C tw1_228 lc0 1 rfl dX11_batch_17 ?_
      refine gN_X9_batches C (nxf_RX11_batches) lc1 9 rfl dX11_batch_20 ?_
      refine j_iload_n C 1 dX11_batch_23 rfl rfl ?_
      obtain ⟨b8, e7, hf⟩ := bd hf
      refine j_callV C 1 lc9 (ent_K _ _ _ _ _ _) rfl (c_X1_has l G n0 lc9 e7) gv_RX11_87 ⟨rfl, rfl⟩ (by decide +kernel) ⟨Nat.le_of_ble_eq_true rfl, Nat.le_of_ble_eq_true rfl⟩ rfl rfl (Nat.le_of_ble_eq_true rfl) dX11_batch_24 ?_
      refine j_ifz_ne C 32 dX11_batch_27 (by decide) (fun c9 => ?_) (fun c9 => ?_)
      · replace hf := ip c9 hf
        refine j_iload_n C 2 dX11_batch_32 rfl rfl ?_
        refine j_iconst C (3 : Int32) rfl dX11_batch_33 ?_
        refine j_icmp_ge C 50 dX11_batch_34 (by decide) (fun c10 => ?_) (fun c10 => ?_)
        · replace hf := ip c10 hf
          refine j_aload_n C 0 dX11_batch_50 rfl rfl ?_
          refine g_X11_village C tw1_228 lc0 1 rfl dX11_batch_51 ?_
          refine j_aload_n C 0 dX11_batch_54 rfl rfl ?_
          refine g_X11_plan C tw1_229 lc0 33 rfl dX11_batch_55 ?_
          obtain ⟨M12, e11, hf⟩ := bd hf
          refine j_callV C 1 lc1 (ent_K _ _ _ _ _ _) rfl (c_X9_arrangeNextDay l G n0 lc1 e11) gv_RX11_147 ⟨rfl, rfl⟩ (by decide +kernel) ⟨Nat.le_of_ble_eq_true rfl, Nat.le_of_ble_eq_true rfl⟩ rfl rfl (Nat.le_of_ble_eq_true rfl) dX11_batch_58 ?_
          refine j_aload_n C 0 dX11_batch_61 rfl rfl ?_
          refine g_X11_plan C tw1_229 lc0 33 rfl dX11_batch_62 ?_
          refine j_iload_n C 1 dX11_batch_65 rfl rfl ?_
          obtain ⟨v14, e13, hf⟩ := bd hf
          refine j_callV C 1 lc33 (ent_K _ _ _ _ _ _) rfl (c_X3_placeOf l G n0 e13) gv_RX11_151 ⟨rfl, rfl⟩ (by decide +kernel) ⟨Nat.le_of_ble_eq_true rfl, Nat.le_of_ble_eq_true rfl⟩ rfl rfl (Nat.le_of_ble_eq_true rfl) dX11_batch_66 ?_
          obtain ⟨rfl, rfl⟩ := Prod.mk.inj (Sum.inr.inj (Option.some.inj hf))
          exact hret _ _ dX11_batch_69
        · replace hf := ine c10 hf
          refine j_aload_n C 0 dX11_batch_37 rfl rfl ?_
          refine g_X11_village C tw1_228 lc0 1 rfl dX11_batch_38 ?_
          refine gN_X9_batches C (nxf_RX11_batches) lc1 9 rfl dX11_batch_41 ?_
          refine j_iload_n C 1 dX11_batch_44 rfl rfl ?_
          refine j_iload_n C 2 dX11_batch_45 rfl rfl ?_
          obtain ⟨v16, e15, hf⟩ := bd hf
          refine j_callV C 2 lc9 (ent_K _ _ _ _ _ _) rfl (c_X1_value l G n0 lc9 e15) gv_RX11_146 ⟨rfl, rfl⟩ (by decide +kernel) ⟨Nat.le_of_ble_eq_true rfl, Nat.le_of_ble_eq_true rfl⟩ rfl rfl (Nat.le_of_ble_eq_true rfl) dX11_batch_46 ?_
          obtain ⟨rfl, rfl⟩ := Prod.mk.inj (Sum.inr.inj (Option.some.inj hf))
          exact hret _ _ dX11_batch_49
      · replace hf := ine c9 hf
        refine j_iconst C (-1 : Int32) rfl dX11_batch_30 ?_
        obtain ⟨rfl, rfl⟩ := Prod.mk.inj (Sum.inr.inj (Option.some.inj hf))
        exact hret _ _ dX11_batch_31
  clear hf
  have hf := e17
  refine j_if_ge C 8 dX11_batch_1 (by decide) (fun c1 => ?_) (fun c1 => ?_)
  · replace hf := ip c1 hf
    refine j_iload_n C 2 dX11_batch_8 rfl rfl ?_
    refine j_iconst C (4 : Int32) rfl dX11_batch_9 ?_
    obtain ⟨v3, e2, hf⟩ := bd hf
    refine j_callS C 2 (c_X11_whyNotBelow l G n0 (M := M) e2) gs_RX11_120 ⟨rfl, rfl⟩ (by decide +kernel) ⟨Nat.le_of_ble_eq_true rfl, Nat.le_of_ble_eq_true rfl⟩ rfl rfl (Nat.le_of_ble_eq_true rfl) dX11_batch_10 ?_
    cases hf
    refine j_sub [0, 1, 2] rfl ?_
    exact hj18
  · replace hf := ine c1 hf
    refine j_iconst C (2 : Int32) rfl dX11_batch_4 ?_
    refine j_goto C 13 dX11_batch_5 (by decide) ?_
    cases hf
    refine j_sub [0, 1, 2] rfl ?_
    exact hj18
def qX11_batch : Room := { frames := 7, cells := 1, slots := 6, locals := 110 }
set_option maxRecDepth 100000 in
set_option maxHeartbeats 4000000 in
theorem t_X11_batch (l : Launch) (hfl : l.stackTraces = false) (G : Gx) (n0 : Nat) {x1 : Int32} {x2 : Int32} {M : Mem} {k : Nat} (hf : fX11_batch x1 x2 M = some (Sum.inl k)) : CtT l yX11_batch cX11_batch 3 (some .int) qX11_batch G n0 [.ref (n0 + 0), .int x1, .int x2] M k := by
  refine ct_thr (cc := cX11_batch) (maxL := 3) rfl (Nat.le_of_ble_eq_true rfl) ⟨Nat.le_of_ble_eq_true rfl, Nat.le_of_ble_eq_true rfl⟩ ?_
  intro K C hthr
  have C : Ok K l qX11_batch cX11_batch RX11 G n0 3 := C
  show J K M 0 [(0, .ref (n0 + 0)), (1, .int x1), (2, .int x2)] []
  unfold fX11_batch at hf
  refine j_iload_n C 1 dX11_batch_0 rfl rfl ?_
  obtain ⟨z4, e19, hf⟩ := bd hf
  have hj20 : J K M 13 [(0, .ref (n0 + 0)), (1, .int x1), (2, .int x2)] [.int z4] := by
    obtain ⟨o6, e5, hf⟩ := bd hf
    rcases o6 with kx | _
    · replace hf : some _ = some _ := hf
      cases hf
      exact j_callTS C 1 hthr (t_X11_refuse l hfl G n0 (M := M) e5) gs_RX11_45 ⟨rfl, rfl⟩ (by decide +kernel) ⟨Nat.le_of_ble_eq_true rfl, Nat.le_of_ble_eq_true rfl⟩ rfl rfl (Nat.le_of_ble_eq_true rfl) dX11_batch_13
    · replace hf := xcr hf
      refine j_callS C 1 (c_X11_refuse l G n0 (M := M) e5) gs_RX11_45 ⟨rfl, rfl⟩ (by decide +kernel) ⟨Nat.le_of_ble_eq_true rfl, Nat.le_of_ble_eq_true rfl⟩ rfl rfl (Nat.le_of_ble_eq_true rfl) dX11_batch_13 ?_
      refine j_aload_n C 0 dX11_batch_16 rfl rfl ?_
      refine g_X11_village C tw1_228 lc0 1 rfl dX11_batch_17 ?_
      refine gN_X9_batches C (nxf_RX11_batches) lc1 9 rfl dX11_batch_20 ?_
      refine j_iload_n C 1 dX11_batch_23 rfl rfl ?_
      obtain ⟨b8, e7, hf⟩ := bd hf
      refine j_callV C 1 lc9 (ent_K _ _ _ _ _ _) rfl (c_X1_has l G n0 lc9 e7) gv_RX11_87 ⟨rfl, rfl⟩ (by decide +kernel) ⟨Nat.le_of_ble_eq_true rfl, Nat.le_of_ble_eq_true rfl⟩ rfl rfl (Nat.le_of_ble_eq_true rfl) dX11_batch_24 ?_
      refine j_ifz_ne C 32 dX11_batch_27 (by decide) (fun c9 => ?_) (fun c9 => ?_)
      · replace hf := ip c9 hf
        refine j_iload_n C 2 dX11_batch_32 rfl rfl ?_
        refine j_iconst C (3 : Int32) rfl dX11_batch_33 ?_
        refine j_icmp_ge C 50 dX11_batch_34 (by decide) (fun c10 => ?_) (fun c10 => ?_)
        · replace hf := ip c10 hf
          refine j_aload_n C 0 dX11_batch_50 rfl rfl ?_
          refine g_X11_village C tw1_228 lc0 1 rfl dX11_batch_51 ?_
          refine j_aload_n C 0 dX11_batch_54 rfl rfl ?_
          refine g_X11_plan C tw1_229 lc0 33 rfl dX11_batch_55 ?_
          obtain ⟨M12, e11, hf⟩ := bd hf
          refine j_callV C 1 lc1 (ent_K _ _ _ _ _ _) rfl (c_X9_arrangeNextDay l G n0 lc1 e11) gv_RX11_147 ⟨rfl, rfl⟩ (by decide +kernel) ⟨Nat.le_of_ble_eq_true rfl, Nat.le_of_ble_eq_true rfl⟩ rfl rfl (Nat.le_of_ble_eq_true rfl) dX11_batch_58 ?_
          refine j_aload_n C 0 dX11_batch_61 rfl rfl ?_
          refine g_X11_plan C tw1_229 lc0 33 rfl dX11_batch_62 ?_
          refine j_iload_n C 1 dX11_batch_65 rfl rfl ?_
          obtain ⟨v14, e13, hf⟩ := bd hf
          refine j_callV C 1 lc33 (ent_K _ _ _ _ _ _) rfl (c_X3_placeOf l G n0 e13) gv_RX11_151 ⟨rfl, rfl⟩ (by decide +kernel) ⟨Nat.le_of_ble_eq_true rfl, Nat.le_of_ble_eq_true rfl⟩ rfl rfl (Nat.le_of_ble_eq_true rfl) dX11_batch_66 ?_
          cases hf
        · replace hf := ine c10 hf
          refine j_aload_n C 0 dX11_batch_37 rfl rfl ?_
          refine g_X11_village C tw1_228 lc0 1 rfl dX11_batch_38 ?_
          refine gN_X9_batches C (nxf_RX11_batches) lc1 9 rfl dX11_batch_41 ?_
          refine j_iload_n C 1 dX11_batch_44 rfl rfl ?_
          refine j_iload_n C 2 dX11_batch_45 rfl rfl ?_
          obtain ⟨v16, e15, hf⟩ := bd hf
          refine j_callV C 2 lc9 (ent_K _ _ _ _ _ _) rfl (c_X1_value l G n0 lc9 e15) gv_RX11_146 ⟨rfl, rfl⟩ (by decide +kernel) ⟨Nat.le_of_ble_eq_true rfl, Nat.le_of_ble_eq_true rfl⟩ rfl rfl (Nat.le_of_ble_eq_true rfl) dX11_batch_46 ?_
          cases hf
      · replace hf := ine c9 hf
        refine j_iconst C (-1 : Int32) rfl dX11_batch_30 ?_
        cases hf
  clear hf
  have hf := e19
  refine j_if_ge C 8 dX11_batch_1 (by decide) (fun c1 => ?_) (fun c1 => ?_)
  · replace hf := ip c1 hf
    refine j_iload_n C 2 dX11_batch_8 rfl rfl ?_
    refine j_iconst C (4 : Int32) rfl dX11_batch_9 ?_
    obtain ⟨v3, e2, hf⟩ := bd hf
    refine j_callS C 2 (c_X11_whyNotBelow l G n0 (M := M) e2) gs_RX11_120 ⟨rfl, rfl⟩ (by decide +kernel) ⟨Nat.le_of_ble_eq_true rfl, Nat.le_of_ble_eq_true rfl⟩ rfl rfl (Nat.le_of_ble_eq_true rfl) dX11_batch_10 ?_
    cases hf
    refine j_sub [0, 1, 2] rfl ?_
    exact hj20
  · replace hf := ine c1 hf
    refine j_iconst C (2 : Int32) rfl dX11_batch_4 ?_
    refine j_goto C 13 dX11_batch_5 (by decide) ?_
    cases hf
    refine j_sub [0, 1, 2] rfl ?_
    exact hj20
def fX11_loaf (x1 : Int32) (x2 : Int32) (M : Mem) : Option (Nat ⊕ Int32) :=
  (fX6_keeps 23 x1 M).bind fun b2 =>
  (if b2 = true then (some (0 : Int32))
  else (some (1 : Int32))).bind (fun z4 => (fX11_refuse z4).bind fun o6 => xc o6 (fun k => some (Sum.inl k))
  (fun _ => (fX11_whyNotBelow x2 (7 : Int32)).bind fun v8 =>
  (fX11_refuse v8).bind fun o10 => xc o10 (fun k => some (Sum.inl k))
  (fun _ => (fX6_value 23 x1 x2 M).bind fun v12 =>
  some (Sum.inr v12))))

def rX11_loaf : Room := { frames := 4, cells := 0, slots := 0, locals := 74 }
set_option maxRecDepth 100000 in
set_option maxHeartbeats 4000000 in
theorem c_X11_loaf (l : Launch) (G : Gx) (n0 : Nat) {x1 : Int32} {x2 : Int32} {M : Mem} {r : Int32} (hf : fX11_loaf x1 x2 M = some (Sum.inr r)) : Ct l yX11_loaf cX11_loaf 3 (some .int) rX11_loaf G n0 [.ref (n0 + 0), .int x1, .int x2] M (some (.int r)) M := by
  refine ct_int (cc := cX11_loaf) (maxL := 3) rfl (Nat.le_of_ble_eq_true rfl) ?_
  intro K C hret
  have C : Ok K l rX11_loaf cX11_loaf RX11 G n0 3 := C
  show J K M 0 [(0, .ref (n0 + 0)), (1, .int x1), (2, .int x2)] []
  unfold fX11_loaf at hf
  refine j_aload_n C 0 dX11_loaf_0 rfl rfl ?_
  refine g_X11_village C tw1_228 lc0 1 rfl dX11_loaf_1 ?_
  refine gN_X9_loaves C (nxf_RX11_loaves) lc1 23 rfl dX11_loaf_4 ?_
  refine j_iload_n C 1 dX11_loaf_7 rfl rfl ?_
  obtain ⟨b2, e1, hf⟩ := bd hf
  refine j_callV C 1 lc23 (ent_K _ _ _ _ _ _) rfl (c_X6_keeps l G n0 lc23 e1) gv_RX11_154 ⟨rfl, rfl⟩ (by decide +kernel) ⟨Nat.le_of_ble_eq_true rfl, Nat.le_of_ble_eq_true rfl⟩ rfl rfl (Nat.le_of_ble_eq_true rfl) dX11_loaf_8 ?_
  obtain ⟨z4, e13, hf⟩ := bd hf
  have hj14 : J K M 19 [(0, .ref (n0 + 0)), (1, .int x1), (2, .int x2)] [.int z4] := by
    obtain ⟨o6, e5, hf⟩ := bd hf
    rcases o6 with kx | _
    · replace hf : some _ = some _ := hf
      cases hf
    · replace hf := xcr hf
      refine j_callS C 1 (c_X11_refuse l G n0 (M := M) e5) gs_RX11_45 ⟨rfl, rfl⟩ (by decide +kernel) ⟨Nat.le_of_ble_eq_true rfl, Nat.le_of_ble_eq_true rfl⟩ rfl rfl (Nat.le_of_ble_eq_true rfl) dX11_loaf_19 ?_
      refine j_iload_n C 2 dX11_loaf_22 rfl rfl ?_
      refine j_bipush C (7 : Int32) rfl dX11_loaf_23 ?_
      obtain ⟨v8, e7, hf⟩ := bd hf
      refine j_callS C 2 (c_X11_whyNotBelow l G n0 (M := M) e7) gs_RX11_120 ⟨rfl, rfl⟩ (by decide +kernel) ⟨Nat.le_of_ble_eq_true rfl, Nat.le_of_ble_eq_true rfl⟩ rfl rfl (Nat.le_of_ble_eq_true rfl) dX11_loaf_25 ?_
      obtain ⟨o10, e9, hf⟩ := bd hf
      rcases o10 with kx | _
      · replace hf : some _ = some _ := hf
        cases hf
      · replace hf := xcr hf
        refine j_callS C 1 (c_X11_refuse l G n0 (M := M) e9) gs_RX11_45 ⟨rfl, rfl⟩ (by decide +kernel) ⟨Nat.le_of_ble_eq_true rfl, Nat.le_of_ble_eq_true rfl⟩ rfl rfl (Nat.le_of_ble_eq_true rfl) dX11_loaf_28 ?_
        refine j_aload_n C 0 dX11_loaf_31 rfl rfl ?_
        refine g_X11_village C tw1_228 lc0 1 rfl dX11_loaf_32 ?_
        refine gN_X9_loaves C (nxf_RX11_loaves) lc1 23 rfl dX11_loaf_35 ?_
        refine j_iload_n C 1 dX11_loaf_38 rfl rfl ?_
        refine j_iload_n C 2 dX11_loaf_39 rfl rfl ?_
        obtain ⟨v12, e11, hf⟩ := bd hf
        refine j_callV C 2 lc23 (ent_K _ _ _ _ _ _) rfl (c_X6_value l G n0 lc23 e11) gv_RX11_157 ⟨rfl, rfl⟩ (by decide +kernel) ⟨Nat.le_of_ble_eq_true rfl, Nat.le_of_ble_eq_true rfl⟩ rfl rfl (Nat.le_of_ble_eq_true rfl) dX11_loaf_40 ?_
        obtain rfl := Sum.inr.inj (Option.some.inj hf)
        exact hret _ _ dX11_loaf_43
  clear hf
  have hf := e13
  refine j_ifz_eq C 18 dX11_loaf_11 (by decide) (fun c3 => ?_) (fun c3 => ?_)
  · replace hf := ine c3 hf
    refine j_iconst C (1 : Int32) rfl dX11_loaf_18 ?_
    cases hf
    refine j_sub [0, 1, 2] rfl ?_
    exact hj14
  · replace hf := ip c3 hf
    refine j_iconst C (0 : Int32) rfl dX11_loaf_14 ?_
    refine j_goto C 19 dX11_loaf_15 (by decide) ?_
    cases hf
    refine j_sub [0, 1, 2] rfl ?_
    exact hj14
def qX11_loaf : Room := { frames := 7, cells := 1, slots := 6, locals := 110 }
set_option maxRecDepth 100000 in
set_option maxHeartbeats 4000000 in
theorem t_X11_loaf (l : Launch) (hfl : l.stackTraces = false) (G : Gx) (n0 : Nat) {x1 : Int32} {x2 : Int32} {M : Mem} {k : Nat} (hf : fX11_loaf x1 x2 M = some (Sum.inl k)) : CtT l yX11_loaf cX11_loaf 3 (some .int) qX11_loaf G n0 [.ref (n0 + 0), .int x1, .int x2] M k := by
  refine ct_thr (cc := cX11_loaf) (maxL := 3) rfl (Nat.le_of_ble_eq_true rfl) ⟨Nat.le_of_ble_eq_true rfl, Nat.le_of_ble_eq_true rfl⟩ ?_
  intro K C hthr
  have C : Ok K l qX11_loaf cX11_loaf RX11 G n0 3 := C
  show J K M 0 [(0, .ref (n0 + 0)), (1, .int x1), (2, .int x2)] []
  unfold fX11_loaf at hf
  refine j_aload_n C 0 dX11_loaf_0 rfl rfl ?_
  refine g_X11_village C tw1_228 lc0 1 rfl dX11_loaf_1 ?_
  refine gN_X9_loaves C (nxf_RX11_loaves) lc1 23 rfl dX11_loaf_4 ?_
  refine j_iload_n C 1 dX11_loaf_7 rfl rfl ?_
  obtain ⟨b2, e1, hf⟩ := bd hf
  refine j_callV C 1 lc23 (ent_K _ _ _ _ _ _) rfl (c_X6_keeps l G n0 lc23 e1) gv_RX11_154 ⟨rfl, rfl⟩ (by decide +kernel) ⟨Nat.le_of_ble_eq_true rfl, Nat.le_of_ble_eq_true rfl⟩ rfl rfl (Nat.le_of_ble_eq_true rfl) dX11_loaf_8 ?_
  obtain ⟨z4, e15, hf⟩ := bd hf
  have hj16 : J K M 19 [(0, .ref (n0 + 0)), (1, .int x1), (2, .int x2)] [.int z4] := by
    obtain ⟨o6, e5, hf⟩ := bd hf
    rcases o6 with kx | _
    · replace hf : some _ = some _ := hf
      cases hf
      exact j_callTS C 1 hthr (t_X11_refuse l hfl G n0 (M := M) e5) gs_RX11_45 ⟨rfl, rfl⟩ (by decide +kernel) ⟨Nat.le_of_ble_eq_true rfl, Nat.le_of_ble_eq_true rfl⟩ rfl rfl (Nat.le_of_ble_eq_true rfl) dX11_loaf_19
    · replace hf := xcr hf
      refine j_callS C 1 (c_X11_refuse l G n0 (M := M) e5) gs_RX11_45 ⟨rfl, rfl⟩ (by decide +kernel) ⟨Nat.le_of_ble_eq_true rfl, Nat.le_of_ble_eq_true rfl⟩ rfl rfl (Nat.le_of_ble_eq_true rfl) dX11_loaf_19 ?_
      refine j_iload_n C 2 dX11_loaf_22 rfl rfl ?_
      refine j_bipush C (7 : Int32) rfl dX11_loaf_23 ?_
      obtain ⟨v8, e7, hf⟩ := bd hf
      refine j_callS C 2 (c_X11_whyNotBelow l G n0 (M := M) e7) gs_RX11_120 ⟨rfl, rfl⟩ (by decide +kernel) ⟨Nat.le_of_ble_eq_true rfl, Nat.le_of_ble_eq_true rfl⟩ rfl rfl (Nat.le_of_ble_eq_true rfl) dX11_loaf_25 ?_
      obtain ⟨o10, e9, hf⟩ := bd hf
      rcases o10 with kx | _
      · replace hf : some _ = some _ := hf
        cases hf
        exact j_callTS C 1 hthr (t_X11_refuse l hfl G n0 (M := M) e9) gs_RX11_45 ⟨rfl, rfl⟩ (by decide +kernel) ⟨Nat.le_of_ble_eq_true rfl, Nat.le_of_ble_eq_true rfl⟩ rfl rfl (Nat.le_of_ble_eq_true rfl) dX11_loaf_28
      · replace hf := xcr hf
        refine j_callS C 1 (c_X11_refuse l G n0 (M := M) e9) gs_RX11_45 ⟨rfl, rfl⟩ (by decide +kernel) ⟨Nat.le_of_ble_eq_true rfl, Nat.le_of_ble_eq_true rfl⟩ rfl rfl (Nat.le_of_ble_eq_true rfl) dX11_loaf_28 ?_
        refine j_aload_n C 0 dX11_loaf_31 rfl rfl ?_
        refine g_X11_village C tw1_228 lc0 1 rfl dX11_loaf_32 ?_
        refine gN_X9_loaves C (nxf_RX11_loaves) lc1 23 rfl dX11_loaf_35 ?_
        refine j_iload_n C 1 dX11_loaf_38 rfl rfl ?_
        refine j_iload_n C 2 dX11_loaf_39 rfl rfl ?_
        obtain ⟨v12, e11, hf⟩ := bd hf
        refine j_callV C 2 lc23 (ent_K _ _ _ _ _ _) rfl (c_X6_value l G n0 lc23 e11) gv_RX11_157 ⟨rfl, rfl⟩ (by decide +kernel) ⟨Nat.le_of_ble_eq_true rfl, Nat.le_of_ble_eq_true rfl⟩ rfl rfl (Nat.le_of_ble_eq_true rfl) dX11_loaf_40 ?_
        cases hf
  clear hf
  have hf := e15
  refine j_ifz_eq C 18 dX11_loaf_11 (by decide) (fun c3 => ?_) (fun c3 => ?_)
  · replace hf := ine c3 hf
    refine j_iconst C (1 : Int32) rfl dX11_loaf_18 ?_
    cases hf
    refine j_sub [0, 1, 2] rfl ?_
    exact hj16
  · replace hf := ip c3 hf
    refine j_iconst C (0 : Int32) rfl dX11_loaf_14 ?_
    refine j_goto C 19 dX11_loaf_15 (by decide) ?_
    cases hf
    refine j_sub [0, 1, 2] rfl ?_
    exact hj16
def fX11_load (x1 : Int32) (x2 : Int32) (M : Mem) : Option (Nat ⊕ Int32) :=
  (if 0 ≤ x1 then ((fX11_whyNotBelow x2 (5 : Int32)).bind fun v3 =>
  some v3)
  else (some (2 : Int32))).bind (fun z4 => (fX11_refuse z4).bind fun o6 => xc o6 (fun k => some (Sum.inl k))
  (fun _ => (fX5_size 15 M).bind fun v8 =>
  if v8 ≤ x1 then (some (Sum.inr (-1 : Int32)))
  else ((fX5_value 15 x1 x2 M).bind fun v11 =>
  some (Sum.inr v11))))

def rX11_load : Room := { frames := 2, cells := 0, slots := 0, locals := 44 }
set_option maxRecDepth 100000 in
set_option maxHeartbeats 4000000 in
theorem c_X11_load (l : Launch) (G : Gx) (n0 : Nat) {x1 : Int32} {x2 : Int32} {M : Mem} {r : Int32} (hf : fX11_load x1 x2 M = some (Sum.inr r)) : Ct l yX11_load cX11_load 3 (some .int) rX11_load G n0 [.ref (n0 + 0), .int x1, .int x2] M (some (.int r)) M := by
  refine ct_int (cc := cX11_load) (maxL := 3) rfl (Nat.le_of_ble_eq_true rfl) ?_
  intro K C hret
  have C : Ok K l rX11_load cX11_load RX11 G n0 3 := C
  show J K M 0 [(0, .ref (n0 + 0)), (1, .int x1), (2, .int x2)] []
  unfold fX11_load at hf
  refine j_iload_n C 1 dX11_load_0 rfl rfl ?_
  obtain ⟨z4, e12, hf⟩ := bd hf
  have hj13 : J K M 13 [(0, .ref (n0 + 0)), (1, .int x1), (2, .int x2)] [.int z4] := by
    obtain ⟨o6, e5, hf⟩ := bd hf
    rcases o6 with kx | _
    · replace hf : some _ = some _ := hf
      cases hf
    · replace hf := xcr hf
      refine j_callS C 1 (c_X11_refuse l G n0 (M := M) e5) gs_RX11_45 ⟨rfl, rfl⟩ (by decide +kernel) ⟨Nat.le_of_ble_eq_true rfl, Nat.le_of_ble_eq_true rfl⟩ rfl rfl (Nat.le_of_ble_eq_true rfl) dX11_load_13 ?_
      refine j_iload_n C 1 dX11_load_16 rfl rfl ?_
      refine j_aload_n C 0 dX11_load_17 rfl rfl ?_
      refine g_X11_village C tw1_228 lc0 1 rfl dX11_load_18 ?_
      refine gN_X9_loads C (nxf_RX11_loads) lc1 15 rfl dX11_load_21 ?_
      obtain ⟨v8, e7, hf⟩ := bd hf
      refine j_callV C 0 lc15 (ent_K _ _ _ _ _ _) rfl (c_X5_size l G n0 lc15 e7) gv_RX11_162 ⟨rfl, rfl⟩ (by decide +kernel) ⟨Nat.le_of_ble_eq_true rfl, Nat.le_of_ble_eq_true rfl⟩ rfl rfl (Nat.le_of_ble_eq_true rfl) dX11_load_24 ?_
      refine j_icmp_ge C 45 dX11_load_27 (by decide) (fun c9 => ?_) (fun c9 => ?_)
      · replace hf := ip c9 hf
        refine j_iconst C (-1 : Int32) rfl dX11_load_45 ?_
        obtain rfl := Sum.inr.inj (Option.some.inj hf)
        exact hret _ _ dX11_load_46
      · replace hf := ine c9 hf
        refine j_aload_n C 0 dX11_load_30 rfl rfl ?_
        refine g_X11_village C tw1_228 lc0 1 rfl dX11_load_31 ?_
        refine gN_X9_loads C (nxf_RX11_loads) lc1 15 rfl dX11_load_34 ?_
        refine j_iload_n C 1 dX11_load_37 rfl rfl ?_
        refine j_iload_n C 2 dX11_load_38 rfl rfl ?_
        obtain ⟨v11, e10, hf⟩ := bd hf
        refine j_callV C 2 lc15 (ent_K _ _ _ _ _ _) rfl (c_X5_value l G n0 lc15 e10) gv_RX11_167 ⟨rfl, rfl⟩ (by decide +kernel) ⟨Nat.le_of_ble_eq_true rfl, Nat.le_of_ble_eq_true rfl⟩ rfl rfl (Nat.le_of_ble_eq_true rfl) dX11_load_39 ?_
        refine j_goto C 46 dX11_load_42 (by decide) ?_
        obtain rfl := Sum.inr.inj (Option.some.inj hf)
        exact hret _ _ dX11_load_46
  clear hf
  have hf := e12
  refine j_if_ge C 8 dX11_load_1 (by decide) (fun c1 => ?_) (fun c1 => ?_)
  · replace hf := ip c1 hf
    refine j_iload_n C 2 dX11_load_8 rfl rfl ?_
    refine j_iconst C (5 : Int32) rfl dX11_load_9 ?_
    obtain ⟨v3, e2, hf⟩ := bd hf
    refine j_callS C 2 (c_X11_whyNotBelow l G n0 (M := M) e2) gs_RX11_120 ⟨rfl, rfl⟩ (by decide +kernel) ⟨Nat.le_of_ble_eq_true rfl, Nat.le_of_ble_eq_true rfl⟩ rfl rfl (Nat.le_of_ble_eq_true rfl) dX11_load_10 ?_
    cases hf
    refine j_sub [0, 1, 2] rfl ?_
    exact hj13
  · replace hf := ine c1 hf
    refine j_iconst C (2 : Int32) rfl dX11_load_4 ?_
    refine j_goto C 13 dX11_load_5 (by decide) ?_
    cases hf
    refine j_sub [0, 1, 2] rfl ?_
    exact hj13
def qX11_load : Room := { frames := 7, cells := 1, slots := 6, locals := 110 }
set_option maxRecDepth 100000 in
set_option maxHeartbeats 4000000 in
theorem t_X11_load (l : Launch) (hfl : l.stackTraces = false) (G : Gx) (n0 : Nat) {x1 : Int32} {x2 : Int32} {M : Mem} {k : Nat} (hf : fX11_load x1 x2 M = some (Sum.inl k)) : CtT l yX11_load cX11_load 3 (some .int) qX11_load G n0 [.ref (n0 + 0), .int x1, .int x2] M k := by
  refine ct_thr (cc := cX11_load) (maxL := 3) rfl (Nat.le_of_ble_eq_true rfl) ⟨Nat.le_of_ble_eq_true rfl, Nat.le_of_ble_eq_true rfl⟩ ?_
  intro K C hthr
  have C : Ok K l qX11_load cX11_load RX11 G n0 3 := C
  show J K M 0 [(0, .ref (n0 + 0)), (1, .int x1), (2, .int x2)] []
  unfold fX11_load at hf
  refine j_iload_n C 1 dX11_load_0 rfl rfl ?_
  obtain ⟨z4, e14, hf⟩ := bd hf
  have hj15 : J K M 13 [(0, .ref (n0 + 0)), (1, .int x1), (2, .int x2)] [.int z4] := by
    obtain ⟨o6, e5, hf⟩ := bd hf
    rcases o6 with kx | _
    · replace hf : some _ = some _ := hf
      cases hf
      exact j_callTS C 1 hthr (t_X11_refuse l hfl G n0 (M := M) e5) gs_RX11_45 ⟨rfl, rfl⟩ (by decide +kernel) ⟨Nat.le_of_ble_eq_true rfl, Nat.le_of_ble_eq_true rfl⟩ rfl rfl (Nat.le_of_ble_eq_true rfl) dX11_load_13
    · replace hf := xcr hf
      refine j_callS C 1 (c_X11_refuse l G n0 (M := M) e5) gs_RX11_45 ⟨rfl, rfl⟩ (by decide +kernel) ⟨Nat.le_of_ble_eq_true rfl, Nat.le_of_ble_eq_true rfl⟩ rfl rfl (Nat.le_of_ble_eq_true rfl) dX11_load_13 ?_
      refine j_iload_n C 1 dX11_load_16 rfl rfl ?_
      refine j_aload_n C 0 dX11_load_17 rfl rfl ?_
      refine g_X11_village C tw1_228 lc0 1 rfl dX11_load_18 ?_
      refine gN_X9_loads C (nxf_RX11_loads) lc1 15 rfl dX11_load_21 ?_
      obtain ⟨v8, e7, hf⟩ := bd hf
      refine j_callV C 0 lc15 (ent_K _ _ _ _ _ _) rfl (c_X5_size l G n0 lc15 e7) gv_RX11_162 ⟨rfl, rfl⟩ (by decide +kernel) ⟨Nat.le_of_ble_eq_true rfl, Nat.le_of_ble_eq_true rfl⟩ rfl rfl (Nat.le_of_ble_eq_true rfl) dX11_load_24 ?_
      refine j_icmp_ge C 45 dX11_load_27 (by decide) (fun c9 => ?_) (fun c9 => ?_)
      · replace hf := ip c9 hf
        refine j_iconst C (-1 : Int32) rfl dX11_load_45 ?_
        cases hf
      · replace hf := ine c9 hf
        refine j_aload_n C 0 dX11_load_30 rfl rfl ?_
        refine g_X11_village C tw1_228 lc0 1 rfl dX11_load_31 ?_
        refine gN_X9_loads C (nxf_RX11_loads) lc1 15 rfl dX11_load_34 ?_
        refine j_iload_n C 1 dX11_load_37 rfl rfl ?_
        refine j_iload_n C 2 dX11_load_38 rfl rfl ?_
        obtain ⟨v11, e10, hf⟩ := bd hf
        refine j_callV C 2 lc15 (ent_K _ _ _ _ _ _) rfl (c_X5_value l G n0 lc15 e10) gv_RX11_167 ⟨rfl, rfl⟩ (by decide +kernel) ⟨Nat.le_of_ble_eq_true rfl, Nat.le_of_ble_eq_true rfl⟩ rfl rfl (Nat.le_of_ble_eq_true rfl) dX11_load_39 ?_
        refine j_goto C 46 dX11_load_42 (by decide) ?_
        cases hf
  clear hf
  have hf := e14
  refine j_if_ge C 8 dX11_load_1 (by decide) (fun c1 => ?_) (fun c1 => ?_)
  · replace hf := ip c1 hf
    refine j_iload_n C 2 dX11_load_8 rfl rfl ?_
    refine j_iconst C (5 : Int32) rfl dX11_load_9 ?_
    obtain ⟨v3, e2, hf⟩ := bd hf
    refine j_callS C 2 (c_X11_whyNotBelow l G n0 (M := M) e2) gs_RX11_120 ⟨rfl, rfl⟩ (by decide +kernel) ⟨Nat.le_of_ble_eq_true rfl, Nat.le_of_ble_eq_true rfl⟩ rfl rfl (Nat.le_of_ble_eq_true rfl) dX11_load_10 ?_
    cases hf
    refine j_sub [0, 1, 2] rfl ?_
    exact hj15
  · replace hf := ine c1 hf
    refine j_iconst C (2 : Int32) rfl dX11_load_4 ?_
    refine j_goto C 13 dX11_load_5 (by decide) ?_
    cases hf
    refine j_sub [0, 1, 2] rfl ?_
    exact hj15
def fX11_whole (x1 : Int32) (M : Mem) : Option (Nat ⊕ Int32) :=
  (fX11_whyNotBelow x1 (14 : Int32)).bind fun v2 =>
  (fX11_refuse v2).bind fun o4 => xc o4 (fun k => some (Sum.inl k))
  (fun _ => if x1 = 0 then ((fX4_size 2 M).bind fun v6 =>
  some (Sum.inr v6))
  else if x1 = 1 then (some (Sum.inr (M.1 1 6)))
  else if x1 = 2 then (some (Sum.inr (M.1 1 4)))
  else if x1 = 3 then ((fX1_size 9 M).bind fun v8 =>
  some (Sum.inr v8))
  else if x1 = 4 then ((fX4_sumOf 2 (1 : Int32) M).bind fun v10 =>
  some (Sum.inr v10))
  else if x1 = 5 then ((fX4_sumOf 2 (2 : Int32) M).bind fun v12 =>
  some (Sum.inr v12))
  else if x1 = 6 then (some (Sum.inr (M.1 1 7)))
  else if x1 = 7 then ((fX6_cameOut 23 M).bind fun v14 =>
  some (Sum.inr v14))
  else if x1 = 8 then ((fX6_pale 23 M).bind fun v16 =>
  some (Sum.inr v16))
  else if x1 = 9 then ((fX6_kept 23 M).bind fun v18 =>
  some (Sum.inr v18))
  else if x1 = 10 then ((fX6_countWith 23 (5 : Int32) (8 : Int32) M).bind fun v20 =>
  some (Sum.inr v20))
  else if x1 = 11 then ((fX6_countWithOthers 23 M).bind fun v22 =>
  some (Sum.inr v22))
  else if x1 = 12 then ((fX5_size 15 M).bind fun v24 =>
  some (Sum.inr v24))
  else (some (Sum.inr (M.1 1 5))))

def rX11_whole : Room := { frames := 3, cells := 0, slots := 0, locals := 74 }
set_option maxRecDepth 100000 in
set_option maxHeartbeats 4000000 in
theorem c_X11_whole (l : Launch) (G : Gx) (n0 : Nat) {x1 : Int32} {M : Mem} {r : Int32} (hf : fX11_whole x1 M = some (Sum.inr r)) : Ct l yX11_whole cX11_whole 2 (some .int) rX11_whole G n0 [.ref (n0 + 0), .int x1] M (some (.int r)) M := by
  refine ct_int (cc := cX11_whole) (maxL := 2) rfl (Nat.le_of_ble_eq_true rfl) ?_
  intro K C hret
  have C : Ok K l rX11_whole cX11_whole RX11 G n0 2 := C
  show J K M 0 [(0, .ref (n0 + 0)), (1, .int x1)] []
  unfold fX11_whole at hf
  refine j_iload_n C 1 dX11_whole_0 rfl rfl ?_
  refine j_bipush C (14 : Int32) rfl dX11_whole_1 ?_
  obtain ⟨v2, e1, hf⟩ := bd hf
  refine j_callS C 2 (c_X11_whyNotBelow l G n0 (M := M) e1) gs_RX11_120 ⟨rfl, rfl⟩ (by decide +kernel) ⟨Nat.le_of_ble_eq_true rfl, Nat.le_of_ble_eq_true rfl⟩ rfl rfl (Nat.le_of_ble_eq_true rfl) dX11_whole_3 ?_
  obtain ⟨o4, e3, hf⟩ := bd hf
  rcases o4 with kx | _
  · replace hf : some _ = some _ := hf
    cases hf
  · replace hf := xcr hf
    refine j_callS C 1 (c_X11_refuse l G n0 (M := M) e3) gs_RX11_45 ⟨rfl, rfl⟩ (by decide +kernel) ⟨Nat.le_of_ble_eq_true rfl, Nat.le_of_ble_eq_true rfl⟩ rfl rfl (Nat.le_of_ble_eq_true rfl) dX11_whole_6 ?_
    refine j_iload_n C 1 dX11_whole_9 rfl rfl ?_
    by_cases c25_0 : x1 = 0
    · replace hf := ip c25_0 hf
      refine j_tsw C 76 c25_0 dX11_whole_10 (by decide) rfl (by decide) ?_
      refine j_aload_n C 0 dX11_whole_76 rfl rfl ?_
      refine g_X11_village C tw1_228 lc0 1 rfl dX11_whole_77 ?_
      refine gN_X9_households C (nxf_RX11_households) lc1 2 rfl dX11_whole_80 ?_
      obtain ⟨v6, e5, hf⟩ := bd hf
      refine j_callV C 0 lc2 (ent_K _ _ _ _ _ _) rfl (c_X4_size l G n0 lc2 e5) gv_RX11_168 ⟨rfl, rfl⟩ (by decide +kernel) ⟨Nat.le_of_ble_eq_true rfl, Nat.le_of_ble_eq_true rfl⟩ rfl rfl (Nat.le_of_ble_eq_true rfl) dX11_whole_83 ?_
      obtain rfl := Sum.inr.inj (Option.some.inj hf)
      exact hret _ _ dX11_whole_86
    · replace hf := ine c25_0 hf
      by_cases c25_1 : x1 = 1
      · replace hf := ip c25_1 hf
        refine j_tsw C 87 c25_1 dX11_whole_10 (by decide) rfl (by decide) ?_
        refine j_aload_n C 0 dX11_whole_87 rfl rfl ?_
        refine g_X11_village C tw1_228 lc0 1 rfl dX11_whole_88 ?_
        refine gN_X9_days C (nxf_RX11_days) lc1 dX11_whole_91 ?_
        obtain rfl := Sum.inr.inj (Option.some.inj hf)
        exact hret _ _ dX11_whole_94
      · replace hf := ine c25_1 hf
        by_cases c25_2 : x1 = 2
        · replace hf := ip c25_2 hf
          refine j_tsw C 95 c25_2 dX11_whole_10 (by decide) rfl (by decide) ?_
          refine j_aload_n C 0 dX11_whole_95 rfl rfl ?_
          refine g_X11_village C tw1_228 lc0 1 rfl dX11_whole_96 ?_
          refine gN_X9_heat C (nxf_RX11_heat) lc1 dX11_whole_99 ?_
          obtain rfl := Sum.inr.inj (Option.some.inj hf)
          exact hret _ _ dX11_whole_102
        · replace hf := ine c25_2 hf
          by_cases c25_3 : x1 = 3
          · replace hf := ip c25_3 hf
            refine j_tsw C 103 c25_3 dX11_whole_10 (by decide) rfl (by decide) ?_
            refine j_aload_n C 0 dX11_whole_103 rfl rfl ?_
            refine g_X11_village C tw1_228 lc0 1 rfl dX11_whole_104 ?_
            refine gN_X9_batches C (nxf_RX11_batches) lc1 9 rfl dX11_whole_107 ?_
            obtain ⟨v8, e7, hf⟩ := bd hf
            refine j_callV C 0 lc9 (ent_K _ _ _ _ _ _) rfl (c_X1_size l G n0 lc9 e7) gv_RX11_175 ⟨rfl, rfl⟩ (by decide +kernel) ⟨Nat.le_of_ble_eq_true rfl, Nat.le_of_ble_eq_true rfl⟩ rfl rfl (Nat.le_of_ble_eq_true rfl) dX11_whole_110 ?_
            obtain rfl := Sum.inr.inj (Option.some.inj hf)
            exact hret _ _ dX11_whole_113
          · replace hf := ine c25_3 hf
            by_cases c25_4 : x1 = 4
            · replace hf := ip c25_4 hf
              refine j_tsw C 114 c25_4 dX11_whole_10 (by decide) rfl (by decide) ?_
              refine j_aload_n C 0 dX11_whole_114 rfl rfl ?_
              refine g_X11_village C tw1_228 lc0 1 rfl dX11_whole_115 ?_
              refine gN_X9_households C (nxf_RX11_households) lc1 2 rfl dX11_whole_118 ?_
              refine j_iconst C (1 : Int32) rfl dX11_whole_121 ?_
              obtain ⟨v10, e9, hf⟩ := bd hf
              refine j_callV C 1 lc2 (ent_K _ _ _ _ _ _) rfl (c_X4_sumOf l G n0 lc2 e9) gv_RX11_176 ⟨rfl, rfl⟩ (by decide +kernel) ⟨Nat.le_of_ble_eq_true rfl, Nat.le_of_ble_eq_true rfl⟩ rfl rfl (Nat.le_of_ble_eq_true rfl) dX11_whole_122 ?_
              obtain rfl := Sum.inr.inj (Option.some.inj hf)
              exact hret _ _ dX11_whole_125
            · replace hf := ine c25_4 hf
              by_cases c25_5 : x1 = 5
              · replace hf := ip c25_5 hf
                refine j_tsw C 126 c25_5 dX11_whole_10 (by decide) rfl (by decide) ?_
                refine j_aload_n C 0 dX11_whole_126 rfl rfl ?_
                refine g_X11_village C tw1_228 lc0 1 rfl dX11_whole_127 ?_
                refine gN_X9_households C (nxf_RX11_households) lc1 2 rfl dX11_whole_130 ?_
                refine j_iconst C (2 : Int32) rfl dX11_whole_133 ?_
                obtain ⟨v12, e11, hf⟩ := bd hf
                refine j_callV C 1 lc2 (ent_K _ _ _ _ _ _) rfl (c_X4_sumOf l G n0 lc2 e11) gv_RX11_176 ⟨rfl, rfl⟩ (by decide +kernel) ⟨Nat.le_of_ble_eq_true rfl, Nat.le_of_ble_eq_true rfl⟩ rfl rfl (Nat.le_of_ble_eq_true rfl) dX11_whole_134 ?_
                obtain rfl := Sum.inr.inj (Option.some.inj hf)
                exact hret _ _ dX11_whole_137
              · replace hf := ine c25_5 hf
                by_cases c25_6 : x1 = 6
                · replace hf := ip c25_6 hf
                  refine j_tsw C 138 c25_6 dX11_whole_10 (by decide) rfl (by decide) ?_
                  refine j_aload_n C 0 dX11_whole_138 rfl rfl ?_
                  refine g_X11_village C tw1_228 lc0 1 rfl dX11_whole_139 ?_
                  refine gN_X9_dough C (nxf_RX11_dough) lc1 dX11_whole_142 ?_
                  obtain rfl := Sum.inr.inj (Option.some.inj hf)
                  exact hret _ _ dX11_whole_145
                · replace hf := ine c25_6 hf
                  by_cases c25_7 : x1 = 7
                  · replace hf := ip c25_7 hf
                    refine j_tsw C 146 c25_7 dX11_whole_10 (by decide) rfl (by decide) ?_
                    refine j_aload_n C 0 dX11_whole_146 rfl rfl ?_
                    refine g_X11_village C tw1_228 lc0 1 rfl dX11_whole_147 ?_
                    refine gN_X9_loaves C (nxf_RX11_loaves) lc1 23 rfl dX11_whole_150 ?_
                    obtain ⟨v14, e13, hf⟩ := bd hf
                    refine j_callV C 0 lc23 (ent_K _ _ _ _ _ _) rfl (c_X6_cameOut l G n0 lc23 e13) gv_RX11_182 ⟨rfl, rfl⟩ (by decide +kernel) ⟨Nat.le_of_ble_eq_true rfl, Nat.le_of_ble_eq_true rfl⟩ rfl rfl (Nat.le_of_ble_eq_true rfl) dX11_whole_153 ?_
                    obtain rfl := Sum.inr.inj (Option.some.inj hf)
                    exact hret _ _ dX11_whole_156
                  · replace hf := ine c25_7 hf
                    by_cases c25_8 : x1 = 8
                    · replace hf := ip c25_8 hf
                      refine j_tsw C 157 c25_8 dX11_whole_10 (by decide) rfl (by decide) ?_
                      refine j_aload_n C 0 dX11_whole_157 rfl rfl ?_
                      refine g_X11_village C tw1_228 lc0 1 rfl dX11_whole_158 ?_
                      refine gN_X9_loaves C (nxf_RX11_loaves) lc1 23 rfl dX11_whole_161 ?_
                      obtain ⟨v16, e15, hf⟩ := bd hf
                      refine j_callV C 0 lc23 (ent_K _ _ _ _ _ _) rfl (c_X6_pale l G n0 lc23 e15) gv_RX11_185 ⟨rfl, rfl⟩ (by decide +kernel) ⟨Nat.le_of_ble_eq_true rfl, Nat.le_of_ble_eq_true rfl⟩ rfl rfl (Nat.le_of_ble_eq_true rfl) dX11_whole_164 ?_
                      obtain rfl := Sum.inr.inj (Option.some.inj hf)
                      exact hret _ _ dX11_whole_167
                    · replace hf := ine c25_8 hf
                      by_cases c25_9 : x1 = 9
                      · replace hf := ip c25_9 hf
                        refine j_tsw C 168 c25_9 dX11_whole_10 (by decide) rfl (by decide) ?_
                        refine j_aload_n C 0 dX11_whole_168 rfl rfl ?_
                        refine g_X11_village C tw1_228 lc0 1 rfl dX11_whole_169 ?_
                        refine gN_X9_loaves C (nxf_RX11_loaves) lc1 23 rfl dX11_whole_172 ?_
                        obtain ⟨v18, e17, hf⟩ := bd hf
                        refine j_callV C 0 lc23 (ent_K _ _ _ _ _ _) rfl (c_X6_kept l G n0 lc23 e17) gv_RX11_188 ⟨rfl, rfl⟩ (by decide +kernel) ⟨Nat.le_of_ble_eq_true rfl, Nat.le_of_ble_eq_true rfl⟩ rfl rfl (Nat.le_of_ble_eq_true rfl) dX11_whole_175 ?_
                        obtain rfl := Sum.inr.inj (Option.some.inj hf)
                        exact hret _ _ dX11_whole_178
                      · replace hf := ine c25_9 hf
                        by_cases c25_10 : x1 = 10
                        · replace hf := ip c25_10 hf
                          refine j_tsw C 179 c25_10 dX11_whole_10 (by decide) rfl (by decide) ?_
                          refine j_aload_n C 0 dX11_whole_179 rfl rfl ?_
                          refine g_X11_village C tw1_228 lc0 1 rfl dX11_whole_180 ?_
                          refine gN_X9_loaves C (nxf_RX11_loaves) lc1 23 rfl dX11_whole_183 ?_
                          refine j_iconst C (5 : Int32) rfl dX11_whole_186 ?_
                          refine j_bipush C (8 : Int32) rfl dX11_whole_187 ?_
                          obtain ⟨v20, e19, hf⟩ := bd hf
                          refine j_callV C 2 lc23 (ent_K _ _ _ _ _ _) rfl (c_X6_countWith l G n0 lc23 e19) gv_RX11_123 ⟨rfl, rfl⟩ (by decide +kernel) ⟨Nat.le_of_ble_eq_true rfl, Nat.le_of_ble_eq_true rfl⟩ rfl rfl (Nat.le_of_ble_eq_true rfl) dX11_whole_189 ?_
                          obtain rfl := Sum.inr.inj (Option.some.inj hf)
                          exact hret _ _ dX11_whole_192
                        · replace hf := ine c25_10 hf
                          by_cases c25_11 : x1 = 11
                          · replace hf := ip c25_11 hf
                            refine j_tsw C 193 c25_11 dX11_whole_10 (by decide) rfl (by decide) ?_
                            refine j_aload_n C 0 dX11_whole_193 rfl rfl ?_
                            refine g_X11_village C tw1_228 lc0 1 rfl dX11_whole_194 ?_
                            refine gN_X9_loaves C (nxf_RX11_loaves) lc1 23 rfl dX11_whole_197 ?_
                            obtain ⟨v22, e21, hf⟩ := bd hf
                            refine j_callV C 0 lc23 (ent_K _ _ _ _ _ _) rfl (c_X6_countWithOthers l G n0 lc23 e21) gv_RX11_191 ⟨rfl, rfl⟩ (by decide +kernel) ⟨Nat.le_of_ble_eq_true rfl, Nat.le_of_ble_eq_true rfl⟩ rfl rfl (Nat.le_of_ble_eq_true rfl) dX11_whole_200 ?_
                            obtain rfl := Sum.inr.inj (Option.some.inj hf)
                            exact hret _ _ dX11_whole_203
                          · replace hf := ine c25_11 hf
                            by_cases c25_12 : x1 = 12
                            · replace hf := ip c25_12 hf
                              refine j_tsw C 204 c25_12 dX11_whole_10 (by decide) rfl (by decide) ?_
                              refine j_aload_n C 0 dX11_whole_204 rfl rfl ?_
                              refine g_X11_village C tw1_228 lc0 1 rfl dX11_whole_205 ?_
                              refine gN_X9_loads C (nxf_RX11_loads) lc1 15 rfl dX11_whole_208 ?_
                              obtain ⟨v24, e23, hf⟩ := bd hf
                              refine j_callV C 0 lc15 (ent_K _ _ _ _ _ _) rfl (c_X5_size l G n0 lc15 e23) gv_RX11_162 ⟨rfl, rfl⟩ (by decide +kernel) ⟨Nat.le_of_ble_eq_true rfl, Nat.le_of_ble_eq_true rfl⟩ rfl rfl (Nat.le_of_ble_eq_true rfl) dX11_whole_211 ?_
                              obtain rfl := Sum.inr.inj (Option.some.inj hf)
                              exact hret _ _ dX11_whole_214
                            · replace hf := ine c25_12 hf
                              refine j_tswD C 215 (by have g0 := lv_neT c25_0 (show (0 : Int32).toInt = 0 by decide); have g1 := lv_neT c25_1 (show (1 : Int32).toInt = 1 by decide); have g2 := lv_neT c25_2 (show (2 : Int32).toInt = 2 by decide); have g3 := lv_neT c25_3 (show (3 : Int32).toInt = 3 by decide); have g4 := lv_neT c25_4 (show (4 : Int32).toInt = 4 by decide); have g5 := lv_neT c25_5 (show (5 : Int32).toInt = 5 by decide); have g6 := lv_neT c25_6 (show (6 : Int32).toInt = 6 by decide); have g7 := lv_neT c25_7 (show (7 : Int32).toInt = 7 by decide); have g8 := lv_neT c25_8 (show (8 : Int32).toInt = 8 by decide); have g9 := lv_neT c25_9 (show (9 : Int32).toInt = 9 by decide); have g10 := lv_neT c25_10 (show (10 : Int32).toInt = 10 by decide); have g11 := lv_neT c25_11 (show (11 : Int32).toInt = 11 by decide); have g12 := lv_neT c25_12 (show (12 : Int32).toInt = 12 by decide); omega) dX11_whole_10 (by decide) ?_
                              refine j_aload_n C 0 dX11_whole_215 rfl rfl ?_
                              refine g_X11_village C tw1_228 lc0 1 rfl dX11_whole_216 ?_
                              refine gN_X9_s C (nxf_RX11_s) lc1 dX11_whole_219 ?_
                              obtain rfl := Sum.inr.inj (Option.some.inj hf)
                              exact hret _ _ dX11_whole_222
def qX11_whole : Room := { frames := 7, cells := 1, slots := 6, locals := 110 }
set_option maxRecDepth 100000 in
set_option maxHeartbeats 4000000 in
theorem t_X11_whole (l : Launch) (hfl : l.stackTraces = false) (G : Gx) (n0 : Nat) {x1 : Int32} {M : Mem} {k : Nat} (hf : fX11_whole x1 M = some (Sum.inl k)) : CtT l yX11_whole cX11_whole 2 (some .int) qX11_whole G n0 [.ref (n0 + 0), .int x1] M k := by
  refine ct_thr (cc := cX11_whole) (maxL := 2) rfl (Nat.le_of_ble_eq_true rfl) ⟨Nat.le_of_ble_eq_true rfl, Nat.le_of_ble_eq_true rfl⟩ ?_
  intro K C hthr
  have C : Ok K l qX11_whole cX11_whole RX11 G n0 2 := C
  show J K M 0 [(0, .ref (n0 + 0)), (1, .int x1)] []
  unfold fX11_whole at hf
  refine j_iload_n C 1 dX11_whole_0 rfl rfl ?_
  refine j_bipush C (14 : Int32) rfl dX11_whole_1 ?_
  obtain ⟨v2, e1, hf⟩ := bd hf
  refine j_callS C 2 (c_X11_whyNotBelow l G n0 (M := M) e1) gs_RX11_120 ⟨rfl, rfl⟩ (by decide +kernel) ⟨Nat.le_of_ble_eq_true rfl, Nat.le_of_ble_eq_true rfl⟩ rfl rfl (Nat.le_of_ble_eq_true rfl) dX11_whole_3 ?_
  obtain ⟨o4, e3, hf⟩ := bd hf
  rcases o4 with kx | _
  · replace hf : some _ = some _ := hf
    cases hf
    exact j_callTS C 1 hthr (t_X11_refuse l hfl G n0 (M := M) e3) gs_RX11_45 ⟨rfl, rfl⟩ (by decide +kernel) ⟨Nat.le_of_ble_eq_true rfl, Nat.le_of_ble_eq_true rfl⟩ rfl rfl (Nat.le_of_ble_eq_true rfl) dX11_whole_6
  · replace hf := xcr hf
    refine j_callS C 1 (c_X11_refuse l G n0 (M := M) e3) gs_RX11_45 ⟨rfl, rfl⟩ (by decide +kernel) ⟨Nat.le_of_ble_eq_true rfl, Nat.le_of_ble_eq_true rfl⟩ rfl rfl (Nat.le_of_ble_eq_true rfl) dX11_whole_6 ?_
    refine j_iload_n C 1 dX11_whole_9 rfl rfl ?_
    by_cases c25_0 : x1 = 0
    · replace hf := ip c25_0 hf
      refine j_tsw C 76 c25_0 dX11_whole_10 (by decide) rfl (by decide) ?_
      refine j_aload_n C 0 dX11_whole_76 rfl rfl ?_
      refine g_X11_village C tw1_228 lc0 1 rfl dX11_whole_77 ?_
      refine gN_X9_households C (nxf_RX11_households) lc1 2 rfl dX11_whole_80 ?_
      obtain ⟨v6, e5, hf⟩ := bd hf
      refine j_callV C 0 lc2 (ent_K _ _ _ _ _ _) rfl (c_X4_size l G n0 lc2 e5) gv_RX11_168 ⟨rfl, rfl⟩ (by decide +kernel) ⟨Nat.le_of_ble_eq_true rfl, Nat.le_of_ble_eq_true rfl⟩ rfl rfl (Nat.le_of_ble_eq_true rfl) dX11_whole_83 ?_
      cases hf
    · replace hf := ine c25_0 hf
      by_cases c25_1 : x1 = 1
      · replace hf := ip c25_1 hf
        refine j_tsw C 87 c25_1 dX11_whole_10 (by decide) rfl (by decide) ?_
        refine j_aload_n C 0 dX11_whole_87 rfl rfl ?_
        refine g_X11_village C tw1_228 lc0 1 rfl dX11_whole_88 ?_
        refine gN_X9_days C (nxf_RX11_days) lc1 dX11_whole_91 ?_
        cases hf
      · replace hf := ine c25_1 hf
        by_cases c25_2 : x1 = 2
        · replace hf := ip c25_2 hf
          refine j_tsw C 95 c25_2 dX11_whole_10 (by decide) rfl (by decide) ?_
          refine j_aload_n C 0 dX11_whole_95 rfl rfl ?_
          refine g_X11_village C tw1_228 lc0 1 rfl dX11_whole_96 ?_
          refine gN_X9_heat C (nxf_RX11_heat) lc1 dX11_whole_99 ?_
          cases hf
        · replace hf := ine c25_2 hf
          by_cases c25_3 : x1 = 3
          · replace hf := ip c25_3 hf
            refine j_tsw C 103 c25_3 dX11_whole_10 (by decide) rfl (by decide) ?_
            refine j_aload_n C 0 dX11_whole_103 rfl rfl ?_
            refine g_X11_village C tw1_228 lc0 1 rfl dX11_whole_104 ?_
            refine gN_X9_batches C (nxf_RX11_batches) lc1 9 rfl dX11_whole_107 ?_
            obtain ⟨v8, e7, hf⟩ := bd hf
            refine j_callV C 0 lc9 (ent_K _ _ _ _ _ _) rfl (c_X1_size l G n0 lc9 e7) gv_RX11_175 ⟨rfl, rfl⟩ (by decide +kernel) ⟨Nat.le_of_ble_eq_true rfl, Nat.le_of_ble_eq_true rfl⟩ rfl rfl (Nat.le_of_ble_eq_true rfl) dX11_whole_110 ?_
            cases hf
          · replace hf := ine c25_3 hf
            by_cases c25_4 : x1 = 4
            · replace hf := ip c25_4 hf
              refine j_tsw C 114 c25_4 dX11_whole_10 (by decide) rfl (by decide) ?_
              refine j_aload_n C 0 dX11_whole_114 rfl rfl ?_
              refine g_X11_village C tw1_228 lc0 1 rfl dX11_whole_115 ?_
              refine gN_X9_households C (nxf_RX11_households) lc1 2 rfl dX11_whole_118 ?_
              refine j_iconst C (1 : Int32) rfl dX11_whole_121 ?_
              obtain ⟨v10, e9, hf⟩ := bd hf
              refine j_callV C 1 lc2 (ent_K _ _ _ _ _ _) rfl (c_X4_sumOf l G n0 lc2 e9) gv_RX11_176 ⟨rfl, rfl⟩ (by decide +kernel) ⟨Nat.le_of_ble_eq_true rfl, Nat.le_of_ble_eq_true rfl⟩ rfl rfl (Nat.le_of_ble_eq_true rfl) dX11_whole_122 ?_
              cases hf
            · replace hf := ine c25_4 hf
              by_cases c25_5 : x1 = 5
              · replace hf := ip c25_5 hf
                refine j_tsw C 126 c25_5 dX11_whole_10 (by decide) rfl (by decide) ?_
                refine j_aload_n C 0 dX11_whole_126 rfl rfl ?_
                refine g_X11_village C tw1_228 lc0 1 rfl dX11_whole_127 ?_
                refine gN_X9_households C (nxf_RX11_households) lc1 2 rfl dX11_whole_130 ?_
                refine j_iconst C (2 : Int32) rfl dX11_whole_133 ?_
                obtain ⟨v12, e11, hf⟩ := bd hf
                refine j_callV C 1 lc2 (ent_K _ _ _ _ _ _) rfl (c_X4_sumOf l G n0 lc2 e11) gv_RX11_176 ⟨rfl, rfl⟩ (by decide +kernel) ⟨Nat.le_of_ble_eq_true rfl, Nat.le_of_ble_eq_true rfl⟩ rfl rfl (Nat.le_of_ble_eq_true rfl) dX11_whole_134 ?_
                cases hf
              · replace hf := ine c25_5 hf
                by_cases c25_6 : x1 = 6
                · replace hf := ip c25_6 hf
                  refine j_tsw C 138 c25_6 dX11_whole_10 (by decide) rfl (by decide) ?_
                  refine j_aload_n C 0 dX11_whole_138 rfl rfl ?_
                  refine g_X11_village C tw1_228 lc0 1 rfl dX11_whole_139 ?_
                  refine gN_X9_dough C (nxf_RX11_dough) lc1 dX11_whole_142 ?_
                  cases hf
                · replace hf := ine c25_6 hf
                  by_cases c25_7 : x1 = 7
                  · replace hf := ip c25_7 hf
                    refine j_tsw C 146 c25_7 dX11_whole_10 (by decide) rfl (by decide) ?_
                    refine j_aload_n C 0 dX11_whole_146 rfl rfl ?_
                    refine g_X11_village C tw1_228 lc0 1 rfl dX11_whole_147 ?_
                    refine gN_X9_loaves C (nxf_RX11_loaves) lc1 23 rfl dX11_whole_150 ?_
                    obtain ⟨v14, e13, hf⟩ := bd hf
                    refine j_callV C 0 lc23 (ent_K _ _ _ _ _ _) rfl (c_X6_cameOut l G n0 lc23 e13) gv_RX11_182 ⟨rfl, rfl⟩ (by decide +kernel) ⟨Nat.le_of_ble_eq_true rfl, Nat.le_of_ble_eq_true rfl⟩ rfl rfl (Nat.le_of_ble_eq_true rfl) dX11_whole_153 ?_
                    cases hf
                  · replace hf := ine c25_7 hf
                    by_cases c25_8 : x1 = 8
                    · replace hf := ip c25_8 hf
                      refine j_tsw C 157 c25_8 dX11_whole_10 (by decide) rfl (by decide) ?_
                      refine j_aload_n C 0 dX11_whole_157 rfl rfl ?_
                      refine g_X11_village C tw1_228 lc0 1 rfl dX11_whole_158 ?_
                      refine gN_X9_loaves C (nxf_RX11_loaves) lc1 23 rfl dX11_whole_161 ?_
                      obtain ⟨v16, e15, hf⟩ := bd hf
                      refine j_callV C 0 lc23 (ent_K _ _ _ _ _ _) rfl (c_X6_pale l G n0 lc23 e15) gv_RX11_185 ⟨rfl, rfl⟩ (by decide +kernel) ⟨Nat.le_of_ble_eq_true rfl, Nat.le_of_ble_eq_true rfl⟩ rfl rfl (Nat.le_of_ble_eq_true rfl) dX11_whole_164 ?_
                      cases hf
                    · replace hf := ine c25_8 hf
                      by_cases c25_9 : x1 = 9
                      · replace hf := ip c25_9 hf
                        refine j_tsw C 168 c25_9 dX11_whole_10 (by decide) rfl (by decide) ?_
                        refine j_aload_n C 0 dX11_whole_168 rfl rfl ?_
                        refine g_X11_village C tw1_228 lc0 1 rfl dX11_whole_169 ?_
                        refine gN_X9_loaves C (nxf_RX11_loaves) lc1 23 rfl dX11_whole_172 ?_
                        obtain ⟨v18, e17, hf⟩ := bd hf
                        refine j_callV C 0 lc23 (ent_K _ _ _ _ _ _) rfl (c_X6_kept l G n0 lc23 e17) gv_RX11_188 ⟨rfl, rfl⟩ (by decide +kernel) ⟨Nat.le_of_ble_eq_true rfl, Nat.le_of_ble_eq_true rfl⟩ rfl rfl (Nat.le_of_ble_eq_true rfl) dX11_whole_175 ?_
                        cases hf
                      · replace hf := ine c25_9 hf
                        by_cases c25_10 : x1 = 10
                        · replace hf := ip c25_10 hf
                          refine j_tsw C 179 c25_10 dX11_whole_10 (by decide) rfl (by decide) ?_
                          refine j_aload_n C 0 dX11_whole_179 rfl rfl ?_
                          refine g_X11_village C tw1_228 lc0 1 rfl dX11_whole_180 ?_
                          refine gN_X9_loaves C (nxf_RX11_loaves) lc1 23 rfl dX11_whole_183 ?_
                          refine j_iconst C (5 : Int32) rfl dX11_whole_186 ?_
                          refine j_bipush C (8 : Int32) rfl dX11_whole_187 ?_
                          obtain ⟨v20, e19, hf⟩ := bd hf
                          refine j_callV C 2 lc23 (ent_K _ _ _ _ _ _) rfl (c_X6_countWith l G n0 lc23 e19) gv_RX11_123 ⟨rfl, rfl⟩ (by decide +kernel) ⟨Nat.le_of_ble_eq_true rfl, Nat.le_of_ble_eq_true rfl⟩ rfl rfl (Nat.le_of_ble_eq_true rfl) dX11_whole_189 ?_
                          cases hf
                        · replace hf := ine c25_10 hf
                          by_cases c25_11 : x1 = 11
                          · replace hf := ip c25_11 hf
                            refine j_tsw C 193 c25_11 dX11_whole_10 (by decide) rfl (by decide) ?_
                            refine j_aload_n C 0 dX11_whole_193 rfl rfl ?_
                            refine g_X11_village C tw1_228 lc0 1 rfl dX11_whole_194 ?_
                            refine gN_X9_loaves C (nxf_RX11_loaves) lc1 23 rfl dX11_whole_197 ?_
                            obtain ⟨v22, e21, hf⟩ := bd hf
                            refine j_callV C 0 lc23 (ent_K _ _ _ _ _ _) rfl (c_X6_countWithOthers l G n0 lc23 e21) gv_RX11_191 ⟨rfl, rfl⟩ (by decide +kernel) ⟨Nat.le_of_ble_eq_true rfl, Nat.le_of_ble_eq_true rfl⟩ rfl rfl (Nat.le_of_ble_eq_true rfl) dX11_whole_200 ?_
                            cases hf
                          · replace hf := ine c25_11 hf
                            by_cases c25_12 : x1 = 12
                            · replace hf := ip c25_12 hf
                              refine j_tsw C 204 c25_12 dX11_whole_10 (by decide) rfl (by decide) ?_
                              refine j_aload_n C 0 dX11_whole_204 rfl rfl ?_
                              refine g_X11_village C tw1_228 lc0 1 rfl dX11_whole_205 ?_
                              refine gN_X9_loads C (nxf_RX11_loads) lc1 15 rfl dX11_whole_208 ?_
                              obtain ⟨v24, e23, hf⟩ := bd hf
                              refine j_callV C 0 lc15 (ent_K _ _ _ _ _ _) rfl (c_X5_size l G n0 lc15 e23) gv_RX11_162 ⟨rfl, rfl⟩ (by decide +kernel) ⟨Nat.le_of_ble_eq_true rfl, Nat.le_of_ble_eq_true rfl⟩ rfl rfl (Nat.le_of_ble_eq_true rfl) dX11_whole_211 ?_
                              cases hf
                            · replace hf := ine c25_12 hf
                              refine j_tswD C 215 (by have g0 := lv_neT c25_0 (show (0 : Int32).toInt = 0 by decide); have g1 := lv_neT c25_1 (show (1 : Int32).toInt = 1 by decide); have g2 := lv_neT c25_2 (show (2 : Int32).toInt = 2 by decide); have g3 := lv_neT c25_3 (show (3 : Int32).toInt = 3 by decide); have g4 := lv_neT c25_4 (show (4 : Int32).toInt = 4 by decide); have g5 := lv_neT c25_5 (show (5 : Int32).toInt = 5 by decide); have g6 := lv_neT c25_6 (show (6 : Int32).toInt = 6 by decide); have g7 := lv_neT c25_7 (show (7 : Int32).toInt = 7 by decide); have g8 := lv_neT c25_8 (show (8 : Int32).toInt = 8 by decide); have g9 := lv_neT c25_9 (show (9 : Int32).toInt = 9 by decide); have g10 := lv_neT c25_10 (show (10 : Int32).toInt = 10 by decide); have g11 := lv_neT c25_11 (show (11 : Int32).toInt = 11 by decide); have g12 := lv_neT c25_12 (show (12 : Int32).toInt = 12 by decide); omega) dX11_whole_10 (by decide) ?_
                              refine j_aload_n C 0 dX11_whole_215 rfl rfl ?_
                              refine g_X11_village C tw1_228 lc0 1 rfl dX11_whole_216 ?_
                              refine gN_X9_s C (nxf_RX11_s) lc1 dX11_whole_219 ?_
                              cases hf
def fX11_doughWith (x1 : Int32) (M : Mem) : Option (Nat ⊕ (Int32 × Mem)) :=
  (fX11_whyNotWithin x1 (1 : Int32) (40 : Int32)).bind fun v2 =>
  (fX11_refuse v2).bind fun o4 => xc o4 (fun k => some (Sum.inl k))
  (fun _ => (fX9_arrangeNextDay 1 M).bind fun M6 =>
  (fX11_doughOfArrangedDay x1 M6).bind (un2 fun v8 M9 =>
  some (Sum.inr (v8, M9))))

def rX11_doughWith : Room := { frames := 5, cells := 0, slots := 0, locals := 121 }
set_option maxRecDepth 100000 in
set_option maxHeartbeats 4000000 in
theorem c_X11_doughWith (l : Launch) (G : Gx) (n0 : Nat) {x1 : Int32} {M : Mem} {r : Int32} {M' : Mem} (hf : fX11_doughWith x1 M = some (Sum.inr (r, M'))) : Ct l yX11_doughWith cX11_doughWith 2 (some .int) rX11_doughWith G n0 [.ref (n0 + 0), .int x1] M (some (.int r)) M' := by
  refine ct_int (cc := cX11_doughWith) (maxL := 2) rfl (Nat.le_of_ble_eq_true rfl) ?_
  intro K C hret
  have C : Ok K l rX11_doughWith cX11_doughWith RX11 G n0 2 := C
  show J K M 0 [(0, .ref (n0 + 0)), (1, .int x1)] []
  unfold fX11_doughWith at hf
  refine j_iload_n C 1 dX11_doughWith_0 rfl rfl ?_
  refine j_iconst C (1 : Int32) rfl dX11_doughWith_1 ?_
  refine j_bipush C (40 : Int32) rfl dX11_doughWith_2 ?_
  obtain ⟨v2, e1, hf⟩ := bd hf
  refine j_callS C 3 (c_X11_whyNotWithin l G n0 (M := M) e1) gs_RX11_197 ⟨rfl, rfl⟩ (by decide +kernel) ⟨Nat.le_of_ble_eq_true rfl, Nat.le_of_ble_eq_true rfl⟩ rfl rfl (Nat.le_of_ble_eq_true rfl) dX11_doughWith_4 ?_
  obtain ⟨o4, e3, hf⟩ := bd hf
  rcases o4 with kx | _
  · replace hf : some _ = some _ := hf
    cases hf
  · replace hf := xcr hf
    refine j_callS C 1 (c_X11_refuse l G n0 (M := M) e3) gs_RX11_45 ⟨rfl, rfl⟩ (by decide +kernel) ⟨Nat.le_of_ble_eq_true rfl, Nat.le_of_ble_eq_true rfl⟩ rfl rfl (Nat.le_of_ble_eq_true rfl) dX11_doughWith_7 ?_
    refine j_aload_n C 0 dX11_doughWith_10 rfl rfl ?_
    refine g_X11_village C tw1_228 lc0 1 rfl dX11_doughWith_11 ?_
    refine j_aload_n C 0 dX11_doughWith_14 rfl rfl ?_
    refine g_X11_plan C tw1_229 lc0 33 rfl dX11_doughWith_15 ?_
    obtain ⟨M6, e5, hf⟩ := bd hf
    refine j_callV C 1 lc1 (ent_K _ _ _ _ _ _) rfl (c_X9_arrangeNextDay l G n0 lc1 e5) gv_RX11_147 ⟨rfl, rfl⟩ (by decide +kernel) ⟨Nat.le_of_ble_eq_true rfl, Nat.le_of_ble_eq_true rfl⟩ rfl rfl (Nat.le_of_ble_eq_true rfl) dX11_doughWith_18 ?_
    refine j_aload_n C 0 dX11_doughWith_21 rfl rfl ?_
    refine j_iload_n C 1 dX11_doughWith_22 rfl rfl ?_
    obtain ⟨⟨v8, M9⟩, e7, hf⟩ := bd hf
    replace hf := un2e hf
    refine j_callV C 1 lc0 (ent_K _ _ _ _ _ _) rfl (c_X11_doughOfArrangedDay l G n0 e7) gv_RX11_200 ⟨rfl, rfl⟩ (by decide +kernel) ⟨Nat.le_of_ble_eq_true rfl, Nat.le_of_ble_eq_true rfl⟩ rfl rfl (Nat.le_of_ble_eq_true rfl) dX11_doughWith_23 ?_
    obtain ⟨rfl, rfl⟩ := Prod.mk.inj (Sum.inr.inj (Option.some.inj hf))
    exact hret _ _ dX11_doughWith_26
def qX11_doughWith : Room := { frames := 7, cells := 1, slots := 6, locals := 121 }
set_option maxRecDepth 100000 in
set_option maxHeartbeats 4000000 in
theorem t_X11_doughWith (l : Launch) (hfl : l.stackTraces = false) (G : Gx) (n0 : Nat) {x1 : Int32} {M : Mem} {k : Nat} (hf : fX11_doughWith x1 M = some (Sum.inl k)) : CtT l yX11_doughWith cX11_doughWith 2 (some .int) qX11_doughWith G n0 [.ref (n0 + 0), .int x1] M k := by
  refine ct_thr (cc := cX11_doughWith) (maxL := 2) rfl (Nat.le_of_ble_eq_true rfl) ⟨Nat.le_of_ble_eq_true rfl, Nat.le_of_ble_eq_true rfl⟩ ?_
  intro K C hthr
  have C : Ok K l qX11_doughWith cX11_doughWith RX11 G n0 2 := C
  show J K M 0 [(0, .ref (n0 + 0)), (1, .int x1)] []
  unfold fX11_doughWith at hf
  refine j_iload_n C 1 dX11_doughWith_0 rfl rfl ?_
  refine j_iconst C (1 : Int32) rfl dX11_doughWith_1 ?_
  refine j_bipush C (40 : Int32) rfl dX11_doughWith_2 ?_
  obtain ⟨v2, e1, hf⟩ := bd hf
  refine j_callS C 3 (c_X11_whyNotWithin l G n0 (M := M) e1) gs_RX11_197 ⟨rfl, rfl⟩ (by decide +kernel) ⟨Nat.le_of_ble_eq_true rfl, Nat.le_of_ble_eq_true rfl⟩ rfl rfl (Nat.le_of_ble_eq_true rfl) dX11_doughWith_4 ?_
  obtain ⟨o4, e3, hf⟩ := bd hf
  rcases o4 with kx | _
  · replace hf : some _ = some _ := hf
    cases hf
    exact j_callTS C 1 hthr (t_X11_refuse l hfl G n0 (M := M) e3) gs_RX11_45 ⟨rfl, rfl⟩ (by decide +kernel) ⟨Nat.le_of_ble_eq_true rfl, Nat.le_of_ble_eq_true rfl⟩ rfl rfl (Nat.le_of_ble_eq_true rfl) dX11_doughWith_7
  · replace hf := xcr hf
    refine j_callS C 1 (c_X11_refuse l G n0 (M := M) e3) gs_RX11_45 ⟨rfl, rfl⟩ (by decide +kernel) ⟨Nat.le_of_ble_eq_true rfl, Nat.le_of_ble_eq_true rfl⟩ rfl rfl (Nat.le_of_ble_eq_true rfl) dX11_doughWith_7 ?_
    refine j_aload_n C 0 dX11_doughWith_10 rfl rfl ?_
    refine g_X11_village C tw1_228 lc0 1 rfl dX11_doughWith_11 ?_
    refine j_aload_n C 0 dX11_doughWith_14 rfl rfl ?_
    refine g_X11_plan C tw1_229 lc0 33 rfl dX11_doughWith_15 ?_
    obtain ⟨M6, e5, hf⟩ := bd hf
    refine j_callV C 1 lc1 (ent_K _ _ _ _ _ _) rfl (c_X9_arrangeNextDay l G n0 lc1 e5) gv_RX11_147 ⟨rfl, rfl⟩ (by decide +kernel) ⟨Nat.le_of_ble_eq_true rfl, Nat.le_of_ble_eq_true rfl⟩ rfl rfl (Nat.le_of_ble_eq_true rfl) dX11_doughWith_18 ?_
    refine j_aload_n C 0 dX11_doughWith_21 rfl rfl ?_
    refine j_iload_n C 1 dX11_doughWith_22 rfl rfl ?_
    obtain ⟨⟨v8, M9⟩, e7, hf⟩ := bd hf
    replace hf := un2e hf
    refine j_callV C 1 lc0 (ent_K _ _ _ _ _ _) rfl (c_X11_doughOfArrangedDay l G n0 e7) gv_RX11_200 ⟨rfl, rfl⟩ (by decide +kernel) ⟨Nat.le_of_ble_eq_true rfl, Nat.le_of_ble_eq_true rfl⟩ rfl rfl (Nat.le_of_ble_eq_true rfl) dX11_doughWith_23 ?_
    cases hf
def lX11_freeMark_18 (M : Mem) : Nat → Int32 → Int32 → Option ((Nat ⊕ Int32) ⊕ Unit)
  | 0, _, _ => none
  | n + 1, a5, a6 =>
  if (65535 : Int32) ≤ a6 then (some (Sum.inr ()))
  else (if (65535 : Int32) < a5 then (some (Sum.inr ()))
  else ((fX4_hasLike 2 a5 M).bind fun b10 =>
  if b10 = true then ((fX11_nextWithAsMany a5).bind fun v13 =>
  lX11_freeMark_18 M n v13 (a6 + 1))
  else (some (Sum.inl (Sum.inr a5)))))

def fX11_freeMark (x1 : Int32) (M : Mem) : Option (Nat ⊕ Int32) :=
  (fX11_whyNotWithin x1 (1 : Int32) (16 : Int32)).bind fun v2 =>
  (fX11_refuse v2).bind fun o4 => xc o4 (fun k => some (Sum.inl k))
  (fun _ => (lX11_freeMark_18 M FUEL (((1 : Int32) <<< (x1 &&& 31)) - (1 : Int32)) (0 : Int32)).bind fun o => s0 o (fun _ => some (Sum.inr (-1 : Int32))))

def rX11_freeMark : Room := { frames := 3, cells := 0, slots := 0, locals := 64 }
set_option maxRecDepth 100000 in
set_option maxHeartbeats 4000000 in
theorem c_X11_freeMark (l : Launch) (G : Gx) (n0 : Nat) {x1 : Int32} {M : Mem} {r : Int32} (hf : fX11_freeMark x1 M = some (Sum.inr r)) : Ct l yX11_freeMark cX11_freeMark 4 (some .int) rX11_freeMark G n0 [.ref (n0 + 0), .int x1] M (some (.int r)) M := by
  refine ct_int (cc := cX11_freeMark) (maxL := 4) rfl (Nat.le_of_ble_eq_true rfl) ?_
  intro K C hret
  have C : Ok K l rX11_freeMark cX11_freeMark RX11 G n0 4 := C
  show J K M 0 [(0, .ref (n0 + 0)), (1, .int x1)] []
  unfold fX11_freeMark at hf
  refine j_iload_n C 1 dX11_freeMark_0 rfl rfl ?_
  refine j_iconst C (1 : Int32) rfl dX11_freeMark_1 ?_
  refine j_bipush C (16 : Int32) rfl dX11_freeMark_2 ?_
  obtain ⟨v2, e1, hf⟩ := bd hf
  refine j_callS C 3 (c_X11_whyNotWithin l G n0 (M := M) e1) gs_RX11_197 ⟨rfl, rfl⟩ (by decide +kernel) ⟨Nat.le_of_ble_eq_true rfl, Nat.le_of_ble_eq_true rfl⟩ rfl rfl (Nat.le_of_ble_eq_true rfl) dX11_freeMark_4 ?_
  obtain ⟨o4, e3, hf⟩ := bd hf
  rcases o4 with kx | _
  · replace hf : some _ = some _ := hf
    cases hf
  · replace hf := xcr hf
    refine j_callS C 1 (c_X11_refuse l G n0 (M := M) e3) gs_RX11_45 ⟨rfl, rfl⟩ (by decide +kernel) ⟨Nat.le_of_ble_eq_true rfl, Nat.le_of_ble_eq_true rfl⟩ rfl rfl (Nat.le_of_ble_eq_true rfl) dX11_freeMark_7 ?_
    refine j_iconst C (1 : Int32) rfl dX11_freeMark_10 ?_
    refine j_iload_n C 1 dX11_freeMark_11 rfl rfl ?_
    refine j_ishl C dX11_freeMark_12 ?_
    refine j_iconst C (1 : Int32) rfl dX11_freeMark_13 ?_
    refine j_isub C dX11_freeMark_14 ?_
    refine j_istore_n C [(2, .int (((1 : Int32) <<< (x1 &&& 31)) - (1 : Int32))), (0, .ref (n0 + 0)), (1, .int x1)] dX11_freeMark_15 rfl (Nat.le_of_ble_eq_true rfl) rfl ?_
    refine j_iconst C (0 : Int32) rfl dX11_freeMark_16 ?_
    refine j_istore_n C [(3, .int (0 : Int32)), (2, .int (((1 : Int32) <<< (x1 &&& 31)) - (1 : Int32))), (0, .ref (n0 + 0)), (1, .int x1)] dX11_freeMark_17 rfl (Nat.le_of_ble_eq_true rfl) rfl ?_
    obtain ⟨o18, e14, hg17⟩ := bd hf
    have hx15 : o18 = Sum.inr () → J K M 57 [] [] := by
      intro ho
      rw [ho] at hg17
      replace hf := s0r hg17
      refine j_iconst C (-1 : Int32) rfl dX11_freeMark_57 ?_
      obtain rfl := Sum.inr.inj (Option.some.inj hf)
      exact hret _ _ dX11_freeMark_58
    have hl16 : ∀ (n : Nat) (a5 : Int32) (a6 : Int32), lX11_freeMark_18 M n a5 a6 = some o18 → J K M 18 [(0, .ref (n0 + 0)), (2, .int a5), (3, .int a6)] [] := by
      intro n
      induction n with
      | zero =>
        intro a5 a6 hf
        exact absurd hf (by rw [lX11_freeMark_18]; exact fun h => by cases h)
      | succ n ih =>
        intro a5 a6 hf
        rw [lX11_freeMark_18] at hf
        refine j_iload_n C 2 dX11_freeMark_18 rfl rfl ?_
        refine j_ldc C tw5_140 dX11_freeMark_19 ?_
        refine j_icmp_ge C 57 dX11_freeMark_21 (by decide) (fun c7 => ?_) (fun c7 => ?_)
        · replace hf := ip c7 hf
          refine j_sub [] rfl ?_
          exact hx15 (Option.some.inj hf).symm
        · replace hf := ine c7 hf
          refine j_iload_n C 1 dX11_freeMark_24 rfl rfl ?_
          refine j_ldc C tw5_140 dX11_freeMark_25 ?_
          refine j_icmp_gt C 57 dX11_freeMark_27 (by decide) (fun c8 => ?_) (fun c8 => ?_)
          · replace hf := ip c8 hf
            refine j_sub [] rfl ?_
            exact hx15 (Option.some.inj hf).symm
          · replace hf := ine c8 hf
            refine j_aload_n C 0 dX11_freeMark_30 rfl rfl ?_
            refine g_X11_village C tw1_228 lc0 1 rfl dX11_freeMark_31 ?_
            refine gN_X9_households C (nxf_RX11_households) lc1 2 rfl dX11_freeMark_34 ?_
            refine j_iload_n C 1 dX11_freeMark_37 rfl rfl ?_
            obtain ⟨b10, e9, hf⟩ := bd hf
            refine j_callV C 1 lc2 (ent_K _ _ _ _ _ _) rfl (c_X4_hasLike l G n0 lc2 e9) gv_RX11_207 ⟨rfl, rfl⟩ (by decide +kernel) ⟨Nat.le_of_ble_eq_true rfl, Nat.le_of_ble_eq_true rfl⟩ rfl rfl (Nat.le_of_ble_eq_true rfl) dX11_freeMark_38 ?_
            refine j_ifz_ne C 46 dX11_freeMark_41 (by decide) (fun c11 => ?_) (fun c11 => ?_)
            · replace hf := ip c11 hf
              refine j_iload_n C 1 dX11_freeMark_46 rfl rfl ?_
              obtain ⟨v13, e12, hf⟩ := bd hf
              refine j_callS C 1 (c_X11_nextWithAsMany l G n0 (M := M) e12) gs_RX11_210 ⟨rfl, rfl⟩ (by decide +kernel) ⟨Nat.le_of_ble_eq_true rfl, Nat.le_of_ble_eq_true rfl⟩ rfl rfl (Nat.le_of_ble_eq_true rfl) dX11_freeMark_47 ?_
              refine j_istore_n C [(2, .int v13), (0, .ref (n0 + 0)), (3, .int a6)] dX11_freeMark_50 rfl (Nat.le_of_ble_eq_true rfl) rfl ?_
              refine j_iinc C 2 (a6 + 1) [(3, .int (a6 + 1)), (2, .int v13), (0, .ref (n0 + 0))] dX11_freeMark_51 rfl rfl (Nat.le_of_ble_eq_true rfl) rfl ?_
              refine j_goto C 18 dX11_freeMark_54 (by decide) ?_
              refine j_sub [2, 1, 0] rfl ?_
              exact ih _ _ hf
            · replace hf := ine c11 hf
              refine j_iload_n C 1 dX11_freeMark_44 rfl rfl ?_
              rw [← Option.some.inj hf] at hg17
              have hf := hg17
              replace hf : some _ = some _ := hf
              obtain rfl := Sum.inr.inj (Option.some.inj hf)
              exact hret _ _ dX11_freeMark_45
    refine j_sub [2, 1, 0] rfl ?_
    exact hl16 FUEL (((1 : Int32) <<< (x1 &&& 31)) - (1 : Int32)) (0 : Int32) e14
def qX11_freeMark : Room := { frames := 7, cells := 1, slots := 6, locals := 110 }
set_option maxRecDepth 100000 in
set_option maxHeartbeats 4000000 in
theorem t_X11_freeMark (l : Launch) (hfl : l.stackTraces = false) (G : Gx) (n0 : Nat) {x1 : Int32} {M : Mem} {k : Nat} (hf : fX11_freeMark x1 M = some (Sum.inl k)) : CtT l yX11_freeMark cX11_freeMark 4 (some .int) qX11_freeMark G n0 [.ref (n0 + 0), .int x1] M k := by
  refine ct_thr (cc := cX11_freeMark) (maxL := 4) rfl (Nat.le_of_ble_eq_true rfl) ⟨Nat.le_of_ble_eq_true rfl, Nat.le_of_ble_eq_true rfl⟩ ?_
  intro K C hthr
  have C : Ok K l qX11_freeMark cX11_freeMark RX11 G n0 4 := C
  show J K M 0 [(0, .ref (n0 + 0)), (1, .int x1)] []
  unfold fX11_freeMark at hf
  refine j_iload_n C 1 dX11_freeMark_0 rfl rfl ?_
  refine j_iconst C (1 : Int32) rfl dX11_freeMark_1 ?_
  refine j_bipush C (16 : Int32) rfl dX11_freeMark_2 ?_
  obtain ⟨v2, e1, hf⟩ := bd hf
  refine j_callS C 3 (c_X11_whyNotWithin l G n0 (M := M) e1) gs_RX11_197 ⟨rfl, rfl⟩ (by decide +kernel) ⟨Nat.le_of_ble_eq_true rfl, Nat.le_of_ble_eq_true rfl⟩ rfl rfl (Nat.le_of_ble_eq_true rfl) dX11_freeMark_4 ?_
  obtain ⟨o4, e3, hf⟩ := bd hf
  rcases o4 with kx | _
  · replace hf : some _ = some _ := hf
    cases hf
    exact j_callTS C 1 hthr (t_X11_refuse l hfl G n0 (M := M) e3) gs_RX11_45 ⟨rfl, rfl⟩ (by decide +kernel) ⟨Nat.le_of_ble_eq_true rfl, Nat.le_of_ble_eq_true rfl⟩ rfl rfl (Nat.le_of_ble_eq_true rfl) dX11_freeMark_7
  · replace hf := xcr hf
    refine j_callS C 1 (c_X11_refuse l G n0 (M := M) e3) gs_RX11_45 ⟨rfl, rfl⟩ (by decide +kernel) ⟨Nat.le_of_ble_eq_true rfl, Nat.le_of_ble_eq_true rfl⟩ rfl rfl (Nat.le_of_ble_eq_true rfl) dX11_freeMark_7 ?_
    refine j_iconst C (1 : Int32) rfl dX11_freeMark_10 ?_
    refine j_iload_n C 1 dX11_freeMark_11 rfl rfl ?_
    refine j_ishl C dX11_freeMark_12 ?_
    refine j_iconst C (1 : Int32) rfl dX11_freeMark_13 ?_
    refine j_isub C dX11_freeMark_14 ?_
    refine j_istore_n C [(2, .int (((1 : Int32) <<< (x1 &&& 31)) - (1 : Int32))), (0, .ref (n0 + 0)), (1, .int x1)] dX11_freeMark_15 rfl (Nat.le_of_ble_eq_true rfl) rfl ?_
    refine j_iconst C (0 : Int32) rfl dX11_freeMark_16 ?_
    refine j_istore_n C [(3, .int (0 : Int32)), (2, .int (((1 : Int32) <<< (x1 &&& 31)) - (1 : Int32))), (0, .ref (n0 + 0)), (1, .int x1)] dX11_freeMark_17 rfl (Nat.le_of_ble_eq_true rfl) rfl ?_
    obtain ⟨o23, e19, hg22⟩ := bd hf
    have hx20 : o23 = Sum.inr () → J K M 57 [] [] := by
      intro ho
      rw [ho] at hg22
      replace hf := s0r hg22
      refine j_iconst C (-1 : Int32) rfl dX11_freeMark_57 ?_
      cases hf
    have hl21 : ∀ (n : Nat) (a5 : Int32) (a6 : Int32), lX11_freeMark_18 M n a5 a6 = some o23 → J K M 18 [(0, .ref (n0 + 0)), (2, .int a5), (3, .int a6)] [] := by
      intro n
      induction n with
      | zero =>
        intro a5 a6 hf
        exact absurd hf (by rw [lX11_freeMark_18]; exact fun h => by cases h)
      | succ n ih =>
        intro a5 a6 hf
        rw [lX11_freeMark_18] at hf
        refine j_iload_n C 2 dX11_freeMark_18 rfl rfl ?_
        refine j_ldc C tw5_140 dX11_freeMark_19 ?_
        refine j_icmp_ge C 57 dX11_freeMark_21 (by decide) (fun c7 => ?_) (fun c7 => ?_)
        · replace hf := ip c7 hf
          refine j_sub [] rfl ?_
          exact hx20 (Option.some.inj hf).symm
        · replace hf := ine c7 hf
          refine j_iload_n C 1 dX11_freeMark_24 rfl rfl ?_
          refine j_ldc C tw5_140 dX11_freeMark_25 ?_
          refine j_icmp_gt C 57 dX11_freeMark_27 (by decide) (fun c8 => ?_) (fun c8 => ?_)
          · replace hf := ip c8 hf
            refine j_sub [] rfl ?_
            exact hx20 (Option.some.inj hf).symm
          · replace hf := ine c8 hf
            refine j_aload_n C 0 dX11_freeMark_30 rfl rfl ?_
            refine g_X11_village C tw1_228 lc0 1 rfl dX11_freeMark_31 ?_
            refine gN_X9_households C (nxf_RX11_households) lc1 2 rfl dX11_freeMark_34 ?_
            refine j_iload_n C 1 dX11_freeMark_37 rfl rfl ?_
            obtain ⟨b10, e9, hf⟩ := bd hf
            refine j_callV C 1 lc2 (ent_K _ _ _ _ _ _) rfl (c_X4_hasLike l G n0 lc2 e9) gv_RX11_207 ⟨rfl, rfl⟩ (by decide +kernel) ⟨Nat.le_of_ble_eq_true rfl, Nat.le_of_ble_eq_true rfl⟩ rfl rfl (Nat.le_of_ble_eq_true rfl) dX11_freeMark_38 ?_
            refine j_ifz_ne C 46 dX11_freeMark_41 (by decide) (fun c11 => ?_) (fun c11 => ?_)
            · replace hf := ip c11 hf
              refine j_iload_n C 1 dX11_freeMark_46 rfl rfl ?_
              obtain ⟨v13, e12, hf⟩ := bd hf
              refine j_callS C 1 (c_X11_nextWithAsMany l G n0 (M := M) e12) gs_RX11_210 ⟨rfl, rfl⟩ (by decide +kernel) ⟨Nat.le_of_ble_eq_true rfl, Nat.le_of_ble_eq_true rfl⟩ rfl rfl (Nat.le_of_ble_eq_true rfl) dX11_freeMark_47 ?_
              refine j_istore_n C [(2, .int v13), (0, .ref (n0 + 0)), (3, .int a6)] dX11_freeMark_50 rfl (Nat.le_of_ble_eq_true rfl) rfl ?_
              refine j_iinc C 2 (a6 + 1) [(3, .int (a6 + 1)), (2, .int v13), (0, .ref (n0 + 0))] dX11_freeMark_51 rfl rfl (Nat.le_of_ble_eq_true rfl) rfl ?_
              refine j_goto C 18 dX11_freeMark_54 (by decide) ?_
              refine j_sub [2, 1, 0] rfl ?_
              exact ih _ _ hf
            · replace hf := ine c11 hf
              refine j_iload_n C 1 dX11_freeMark_44 rfl rfl ?_
              rw [← Option.some.inj hf] at hg22
              have hf := hg22
              replace hf : some _ = some _ := hf
              cases hf
    refine j_sub [2, 1, 0] rfl ?_
    exact hl21 FUEL (((1 : Int32) <<< (x1 &&& 31)) - (1 : Int32)) (0 : Int32) e19
def fX11_type (x1 : Int32) (M : Mem) : Option (Nat ⊕ (Int32 × Mem)) :=
  (fX11_whyNotWithin x1 (0 : Int32) (127 : Int32)).bind fun v2 =>
  (fX11_refuse v2).bind fun o4 => xc o4 (fun k => some (Sum.inl k))
  (fun _ => (fX2_isFull M).bind fun b6 =>
  if b6 = true then ((fX11_refuse (3 : Int32)).bind fun o14 => xc o14 (fun k => some (Sum.inl k))
  (fun _ => (fX2_append x1 M).bind (un2 fun v16 M17 =>
  some (Sum.inr (v16, M17)))))
  else ((fX11_refuse (0 : Int32)).bind fun o9 => xc o9 (fun k => some (Sum.inl k))
  (fun _ => (fX2_append x1 M).bind (un2 fun v11 M12 =>
  some (Sum.inr (v11, M12))))))

def rX11_type : Room := { frames := 2, cells := 0, slots := 0, locals := 41 }
set_option maxRecDepth 100000 in
set_option maxHeartbeats 4000000 in
theorem c_X11_type (l : Launch) (G : Gx) (n0 : Nat) {x1 : Int32} {M : Mem} {r : Int32} {M' : Mem} (hf : fX11_type x1 M = some (Sum.inr (r, M'))) : Ct l yX11_type cX11_type 2 (some .int) rX11_type G n0 [.ref (n0 + 0), .int x1] M (some (.int r)) M' := by
  refine ct_int (cc := cX11_type) (maxL := 2) rfl (Nat.le_of_ble_eq_true rfl) ?_
  intro K C hret
  have C : Ok K l rX11_type cX11_type RX11 G n0 2 := C
  show J K M 0 [(0, .ref (n0 + 0)), (1, .int x1)] []
  unfold fX11_type at hf
  refine j_iload_n C 1 dX11_type_0 rfl rfl ?_
  refine j_iconst C (0 : Int32) rfl dX11_type_1 ?_
  refine j_bipush C (127 : Int32) rfl dX11_type_2 ?_
  obtain ⟨v2, e1, hf⟩ := bd hf
  refine j_callS C 3 (c_X11_whyNotWithin l G n0 (M := M) e1) gs_RX11_197 ⟨rfl, rfl⟩ (by decide +kernel) ⟨Nat.le_of_ble_eq_true rfl, Nat.le_of_ble_eq_true rfl⟩ rfl rfl (Nat.le_of_ble_eq_true rfl) dX11_type_4 ?_
  obtain ⟨o4, e3, hf⟩ := bd hf
  rcases o4 with kx | _
  · replace hf : some _ = some _ := hf
    cases hf
  · replace hf := xcr hf
    refine j_callS C 1 (c_X11_refuse l G n0 (M := M) e3) gs_RX11_45 ⟨rfl, rfl⟩ (by decide +kernel) ⟨Nat.le_of_ble_eq_true rfl, Nat.le_of_ble_eq_true rfl⟩ rfl rfl (Nat.le_of_ble_eq_true rfl) dX11_type_7 ?_
    refine j_aload_n C 0 dX11_type_10 rfl rfl ?_
    refine g_X11_text C tw1_231 lc0 175 rfl dX11_type_11 ?_
    obtain ⟨b6, e5, hf⟩ := bd hf
    refine j_callV C 0 lc175 (ent_K _ _ _ _ _ _) rfl (c_X2_isFull l G n0 e5) gv_RX11_213 ⟨rfl, rfl⟩ (by decide +kernel) ⟨Nat.le_of_ble_eq_true rfl, Nat.le_of_ble_eq_true rfl⟩ rfl rfl (Nat.le_of_ble_eq_true rfl) dX11_type_14 ?_
    refine j_ifz_eq C 24 dX11_type_17 (by decide) (fun c7 => ?_) (fun c7 => ?_)
    · replace hf := ine c7 hf
      refine j_iconst C (0 : Int32) rfl dX11_type_24 ?_
      obtain ⟨o9, e8, hf⟩ := bd hf
      rcases o9 with kx | _
      · replace hf : some _ = some _ := hf
        cases hf
      · replace hf := xcr hf
        refine j_callS C 1 (c_X11_refuse l G n0 (M := M) e8) gs_RX11_45 ⟨rfl, rfl⟩ (by decide +kernel) ⟨Nat.le_of_ble_eq_true rfl, Nat.le_of_ble_eq_true rfl⟩ rfl rfl (Nat.le_of_ble_eq_true rfl) dX11_type_25 ?_
        refine j_aload_n C 0 dX11_type_28 rfl rfl ?_
        refine g_X11_text C tw1_231 lc0 175 rfl dX11_type_29 ?_
        refine j_iload_n C 1 dX11_type_32 rfl rfl ?_
        obtain ⟨⟨v11, M12⟩, e10, hf⟩ := bd hf
        replace hf := un2e hf
        refine j_callV C 1 lc175 (ent_K _ _ _ _ _ _) rfl (c_X2_append l G n0 e10) gv_RX11_217 ⟨rfl, rfl⟩ (by decide +kernel) ⟨Nat.le_of_ble_eq_true rfl, Nat.le_of_ble_eq_true rfl⟩ rfl rfl (Nat.le_of_ble_eq_true rfl) dX11_type_33 ?_
        obtain ⟨rfl, rfl⟩ := Prod.mk.inj (Sum.inr.inj (Option.some.inj hf))
        exact hret _ _ dX11_type_36
    · replace hf := ip c7 hf
      refine j_iconst C (3 : Int32) rfl dX11_type_20 ?_
      refine j_goto C 25 dX11_type_21 (by decide) ?_
      obtain ⟨o14, e13, hf⟩ := bd hf
      rcases o14 with kx | _
      · replace hf : some _ = some _ := hf
        cases hf
      · replace hf := xcr hf
        refine j_callS C 1 (c_X11_refuse l G n0 (M := M) e13) gs_RX11_45 ⟨rfl, rfl⟩ (by decide +kernel) ⟨Nat.le_of_ble_eq_true rfl, Nat.le_of_ble_eq_true rfl⟩ rfl rfl (Nat.le_of_ble_eq_true rfl) dX11_type_25 ?_
        refine j_aload_n C 0 dX11_type_28 rfl rfl ?_
        refine g_X11_text C tw1_231 lc0 175 rfl dX11_type_29 ?_
        refine j_iload_n C 1 dX11_type_32 rfl rfl ?_
        obtain ⟨⟨v16, M17⟩, e15, hf⟩ := bd hf
        replace hf := un2e hf
        refine j_callV C 1 lc175 (ent_K _ _ _ _ _ _) rfl (c_X2_append l G n0 e15) gv_RX11_217 ⟨rfl, rfl⟩ (by decide +kernel) ⟨Nat.le_of_ble_eq_true rfl, Nat.le_of_ble_eq_true rfl⟩ rfl rfl (Nat.le_of_ble_eq_true rfl) dX11_type_33 ?_
        obtain ⟨rfl, rfl⟩ := Prod.mk.inj (Sum.inr.inj (Option.some.inj hf))
        exact hret _ _ dX11_type_36
def qX11_type : Room := { frames := 7, cells := 1, slots := 6, locals := 110 }
set_option maxRecDepth 100000 in
set_option maxHeartbeats 4000000 in
theorem t_X11_type (l : Launch) (hfl : l.stackTraces = false) (G : Gx) (n0 : Nat) {x1 : Int32} {M : Mem} {k : Nat} (hf : fX11_type x1 M = some (Sum.inl k)) : CtT l yX11_type cX11_type 2 (some .int) qX11_type G n0 [.ref (n0 + 0), .int x1] M k := by
  refine ct_thr (cc := cX11_type) (maxL := 2) rfl (Nat.le_of_ble_eq_true rfl) ⟨Nat.le_of_ble_eq_true rfl, Nat.le_of_ble_eq_true rfl⟩ ?_
  intro K C hthr
  have C : Ok K l qX11_type cX11_type RX11 G n0 2 := C
  show J K M 0 [(0, .ref (n0 + 0)), (1, .int x1)] []
  unfold fX11_type at hf
  refine j_iload_n C 1 dX11_type_0 rfl rfl ?_
  refine j_iconst C (0 : Int32) rfl dX11_type_1 ?_
  refine j_bipush C (127 : Int32) rfl dX11_type_2 ?_
  obtain ⟨v2, e1, hf⟩ := bd hf
  refine j_callS C 3 (c_X11_whyNotWithin l G n0 (M := M) e1) gs_RX11_197 ⟨rfl, rfl⟩ (by decide +kernel) ⟨Nat.le_of_ble_eq_true rfl, Nat.le_of_ble_eq_true rfl⟩ rfl rfl (Nat.le_of_ble_eq_true rfl) dX11_type_4 ?_
  obtain ⟨o4, e3, hf⟩ := bd hf
  rcases o4 with kx | _
  · replace hf : some _ = some _ := hf
    cases hf
    exact j_callTS C 1 hthr (t_X11_refuse l hfl G n0 (M := M) e3) gs_RX11_45 ⟨rfl, rfl⟩ (by decide +kernel) ⟨Nat.le_of_ble_eq_true rfl, Nat.le_of_ble_eq_true rfl⟩ rfl rfl (Nat.le_of_ble_eq_true rfl) dX11_type_7
  · replace hf := xcr hf
    refine j_callS C 1 (c_X11_refuse l G n0 (M := M) e3) gs_RX11_45 ⟨rfl, rfl⟩ (by decide +kernel) ⟨Nat.le_of_ble_eq_true rfl, Nat.le_of_ble_eq_true rfl⟩ rfl rfl (Nat.le_of_ble_eq_true rfl) dX11_type_7 ?_
    refine j_aload_n C 0 dX11_type_10 rfl rfl ?_
    refine g_X11_text C tw1_231 lc0 175 rfl dX11_type_11 ?_
    obtain ⟨b6, e5, hf⟩ := bd hf
    refine j_callV C 0 lc175 (ent_K _ _ _ _ _ _) rfl (c_X2_isFull l G n0 e5) gv_RX11_213 ⟨rfl, rfl⟩ (by decide +kernel) ⟨Nat.le_of_ble_eq_true rfl, Nat.le_of_ble_eq_true rfl⟩ rfl rfl (Nat.le_of_ble_eq_true rfl) dX11_type_14 ?_
    refine j_ifz_eq C 24 dX11_type_17 (by decide) (fun c7 => ?_) (fun c7 => ?_)
    · replace hf := ine c7 hf
      refine j_iconst C (0 : Int32) rfl dX11_type_24 ?_
      obtain ⟨o9, e8, hf⟩ := bd hf
      rcases o9 with kx | _
      · replace hf : some _ = some _ := hf
        cases hf
        exact j_callTS C 1 hthr (t_X11_refuse l hfl G n0 (M := M) e8) gs_RX11_45 ⟨rfl, rfl⟩ (by decide +kernel) ⟨Nat.le_of_ble_eq_true rfl, Nat.le_of_ble_eq_true rfl⟩ rfl rfl (Nat.le_of_ble_eq_true rfl) dX11_type_25
      · replace hf := xcr hf
        refine j_callS C 1 (c_X11_refuse l G n0 (M := M) e8) gs_RX11_45 ⟨rfl, rfl⟩ (by decide +kernel) ⟨Nat.le_of_ble_eq_true rfl, Nat.le_of_ble_eq_true rfl⟩ rfl rfl (Nat.le_of_ble_eq_true rfl) dX11_type_25 ?_
        refine j_aload_n C 0 dX11_type_28 rfl rfl ?_
        refine g_X11_text C tw1_231 lc0 175 rfl dX11_type_29 ?_
        refine j_iload_n C 1 dX11_type_32 rfl rfl ?_
        obtain ⟨⟨v11, M12⟩, e10, hf⟩ := bd hf
        replace hf := un2e hf
        refine j_callV C 1 lc175 (ent_K _ _ _ _ _ _) rfl (c_X2_append l G n0 e10) gv_RX11_217 ⟨rfl, rfl⟩ (by decide +kernel) ⟨Nat.le_of_ble_eq_true rfl, Nat.le_of_ble_eq_true rfl⟩ rfl rfl (Nat.le_of_ble_eq_true rfl) dX11_type_33 ?_
        cases hf
    · replace hf := ip c7 hf
      refine j_iconst C (3 : Int32) rfl dX11_type_20 ?_
      refine j_goto C 25 dX11_type_21 (by decide) ?_
      obtain ⟨o14, e13, hf⟩ := bd hf
      rcases o14 with kx | _
      · replace hf : some _ = some _ := hf
        cases hf
        exact j_callTS C 1 hthr (t_X11_refuse l hfl G n0 (M := M) e13) gs_RX11_45 ⟨rfl, rfl⟩ (by decide +kernel) ⟨Nat.le_of_ble_eq_true rfl, Nat.le_of_ble_eq_true rfl⟩ rfl rfl (Nat.le_of_ble_eq_true rfl) dX11_type_25
      · replace hf := xcr hf
        refine j_callS C 1 (c_X11_refuse l G n0 (M := M) e13) gs_RX11_45 ⟨rfl, rfl⟩ (by decide +kernel) ⟨Nat.le_of_ble_eq_true rfl, Nat.le_of_ble_eq_true rfl⟩ rfl rfl (Nat.le_of_ble_eq_true rfl) dX11_type_25 ?_
        refine j_aload_n C 0 dX11_type_28 rfl rfl ?_
        refine g_X11_text C tw1_231 lc0 175 rfl dX11_type_29 ?_
        refine j_iload_n C 1 dX11_type_32 rfl rfl ?_
        obtain ⟨⟨v16, M17⟩, e15, hf⟩ := bd hf
        replace hf := un2e hf
        refine j_callV C 1 lc175 (ent_K _ _ _ _ _ _) rfl (c_X2_append l G n0 e15) gv_RX11_217 ⟨rfl, rfl⟩ (by decide +kernel) ⟨Nat.le_of_ble_eq_true rfl, Nat.le_of_ble_eq_true rfl⟩ rfl rfl (Nat.le_of_ble_eq_true rfl) dX11_type_33 ?_
        cases hf
def fX11_whyNoCommand (w1p : Option Nat) (x2 : Int32) (x3 : Int32) (x4 : Int32) (M : Mem) : Option Int32 :=
  oc w1p (some (0 : Int32))
  (fun w1 => if 7 ≤ w1 then none else
  (ald sSWMAP 7 (nI w1)).bind fun v6 =>
  if v6 = 1 then ((fX9_whyNoJoining 1 x2 M).bind fun v10 =>
  some v10)
  else if v6 = 2 then ((fX9_whyNoBatch 1 x2 x3 x4 M).bind fun v12 =>
  some v12)
  else if v6 = 3 then ((fX9_whyNoDay 1 x2 M).bind fun v14 =>
  some v14)
  else if v6 = 4 then ((fX9_whyNoHousehold 1 x2 M).bind fun v16 =>
  some v16)
  else if v6 = 5 then ((fX9_whyNoHousehold 1 x2 M).bind fun v18 =>
  some v18)
  else if v6 = 6 then ((fX9_whyNoHousehold 1 x2 M).bind fun v20 =>
  some v20)
  else (some (0 : Int32)))

def rX11_whyNoCommand : Room := { frames := 3, cells := 0, slots := 0, locals := 66 }
set_option maxRecDepth 100000 in
set_option maxHeartbeats 4000000 in
theorem c_X11_whyNoCommand (l : Launch) (G : Gx) (n0 : Nat) {w1p : Option Nat} {x2 : Int32} {x3 : Int32} {x4 : Int32} {M : Mem} {r : Int32} (hf : fX11_whyNoCommand w1p x2 x3 x4 M = some r) : Ct l yX11_whyNoCommand cX11_whyNoCommand 5 (some .int) rX11_whyNoCommand G n0 [.ref (n0 + 0), va_re G.2.2 w1p, .int x2, .int x3, .int x4] M (some (.int r)) M := by
  refine ct_int (cc := cX11_whyNoCommand) (maxL := 5) rfl (by cases w1p <;> exact Nat.le_of_ble_eq_true rfl) ?_
  intro K C hret
  have C : Ok K l rX11_whyNoCommand cX11_whyNoCommand RX11 G n0 5 := C
  have hL : lv_args 0 [.ref (n0 + 0), va_re G.2.2 w1p, .int x2, .int x3, .int x4] = [(0, .ref (n0 + 0)), (1, va_re G.2.2 w1p), (2, .int x2), (3, .int x3), (4, .int x4)] := by cases w1p <;> rfl
  rw [hL]
  unfold fX11_whyNoCommand at hf
  refine j_aloadO_n C 1 dX11_whyNoCommand_0 rfl rfl ?_
  rcases ocd hf with ⟨ho2, hf⟩ | ⟨w1, ho2, hf⟩
  · rw [ho2]
    refine j_ifnonnullF C dX11_whyNoCommand_1 ?_
    refine j_iconst C (0 : Int32) rfl dX11_whyNoCommand_4 ?_
    obtain rfl := Option.some.inj hf
    exact hret _ _ dX11_whyNoCommand_5
  · rw [ho2]
    refine j_ifnonnullT C 6 dX11_whyNoCommand_1 (by decide) ?_
    refine j_getsSWMAP C tw3_85 dX11_whyNoCommand_6 (fun aS3 hS4 => ?_)
    refine j_aload_n C 1 dX11_whyNoCommand_9 rfl rfl ?_
    obtain ⟨hx5, hf⟩ := gd hf
    refine j_callO C (Nat.not_le.mp hx5) gu_RX11_318 ⟨Nat.le_of_ble_eq_true rfl, Nat.le_of_ble_eq_true rfl⟩ rfl (Nat.le_of_ble_eq_true rfl) dX11_whyNoCommand_10 ?_
    obtain ⟨v6, e7, hf⟩ := bd hf
    obtain ⟨hx8, e7⟩ := ald_some e7
    refine j_sald C hS4 hx8 e7 dX11_whyNoCommand_13 ?_
    by_cases c21_1 : v6 = 1
    · replace hf := ip c21_1 hf
      refine j_tsw C 52 c21_1 dX11_whyNoCommand_14 (by decide) rfl (by decide) ?_
      refine j_aload_n C 0 dX11_whyNoCommand_52 rfl rfl ?_
      refine g_X11_village C tw1_228 lc0 1 rfl dX11_whyNoCommand_53 ?_
      refine j_iload_n C 2 dX11_whyNoCommand_56 rfl rfl ?_
      obtain ⟨v10, e9, hf⟩ := bd hf
      refine j_callV C 1 lc1 (ent_K _ _ _ _ _ _) rfl (c_X9_whyNoJoining l G n0 lc1 e9) gv_RX11_41 ⟨rfl, rfl⟩ (by decide +kernel) ⟨Nat.le_of_ble_eq_true rfl, Nat.le_of_ble_eq_true rfl⟩ rfl rfl (Nat.le_of_ble_eq_true rfl) dX11_whyNoCommand_57 ?_
      obtain rfl := Option.some.inj hf
      exact hret _ _ dX11_whyNoCommand_60
    · replace hf := ine c21_1 hf
      by_cases c21_2 : v6 = 2
      · replace hf := ip c21_2 hf
        refine j_tsw C 61 c21_2 dX11_whyNoCommand_14 (by decide) rfl (by decide) ?_
        refine j_aload_n C 0 dX11_whyNoCommand_61 rfl rfl ?_
        refine g_X11_village C tw1_228 lc0 1 rfl dX11_whyNoCommand_62 ?_
        refine j_iload_n C 2 dX11_whyNoCommand_65 rfl rfl ?_
        refine j_iload_n C 3 dX11_whyNoCommand_66 rfl rfl ?_
        refine j_iload C 4 dX11_whyNoCommand_67 rfl ?_
        obtain ⟨v12, e11, hf⟩ := bd hf
        refine j_callV C 3 lc1 (ent_K _ _ _ _ _ _) rfl (c_X9_whyNoBatch l G n0 lc1 e11) gv_RX11_75 ⟨rfl, rfl⟩ (by decide +kernel) ⟨Nat.le_of_ble_eq_true rfl, Nat.le_of_ble_eq_true rfl⟩ rfl rfl (Nat.le_of_ble_eq_true rfl) dX11_whyNoCommand_69 ?_
        obtain rfl := Option.some.inj hf
        exact hret _ _ dX11_whyNoCommand_72
      · replace hf := ine c21_2 hf
        by_cases c21_3 : v6 = 3
        · replace hf := ip c21_3 hf
          refine j_tsw C 73 c21_3 dX11_whyNoCommand_14 (by decide) rfl (by decide) ?_
          refine j_aload_n C 0 dX11_whyNoCommand_73 rfl rfl ?_
          refine g_X11_village C tw1_228 lc0 1 rfl dX11_whyNoCommand_74 ?_
          refine j_iload_n C 2 dX11_whyNoCommand_77 rfl rfl ?_
          obtain ⟨v14, e13, hf⟩ := bd hf
          refine j_callV C 1 lc1 (ent_K _ _ _ _ _ _) rfl (c_X9_whyNoDay l G n0 lc1 e13) gv_RX11_97 ⟨rfl, rfl⟩ (by decide +kernel) ⟨Nat.le_of_ble_eq_true rfl, Nat.le_of_ble_eq_true rfl⟩ rfl rfl (Nat.le_of_ble_eq_true rfl) dX11_whyNoCommand_78 ?_
          obtain rfl := Option.some.inj hf
          exact hret _ _ dX11_whyNoCommand_81
        · replace hf := ine c21_3 hf
          by_cases c21_4 : v6 = 4
          · replace hf := ip c21_4 hf
            refine j_tsw C 82 c21_4 dX11_whyNoCommand_14 (by decide) rfl (by decide) ?_
            refine j_aload_n C 0 dX11_whyNoCommand_82 rfl rfl ?_
            refine g_X11_village C tw1_228 lc0 1 rfl dX11_whyNoCommand_83 ?_
            refine j_iload_n C 2 dX11_whyNoCommand_86 rfl rfl ?_
            obtain ⟨v16, e15, hf⟩ := bd hf
            refine j_callV C 1 lc1 (ent_K _ _ _ _ _ _) rfl (c_X9_whyNoHousehold l G n0 lc1 e15) gv_RX11_69 ⟨rfl, rfl⟩ (by decide +kernel) ⟨Nat.le_of_ble_eq_true rfl, Nat.le_of_ble_eq_true rfl⟩ rfl rfl (Nat.le_of_ble_eq_true rfl) dX11_whyNoCommand_87 ?_
            obtain rfl := Option.some.inj hf
            exact hret _ _ dX11_whyNoCommand_90
          · replace hf := ine c21_4 hf
            by_cases c21_5 : v6 = 5
            · replace hf := ip c21_5 hf
              refine j_tsw C 82 c21_5 dX11_whyNoCommand_14 (by decide) rfl (by decide) ?_
              refine j_aload_n C 0 dX11_whyNoCommand_82 rfl rfl ?_
              refine g_X11_village C tw1_228 lc0 1 rfl dX11_whyNoCommand_83 ?_
              refine j_iload_n C 2 dX11_whyNoCommand_86 rfl rfl ?_
              obtain ⟨v18, e17, hf⟩ := bd hf
              refine j_callV C 1 lc1 (ent_K _ _ _ _ _ _) rfl (c_X9_whyNoHousehold l G n0 lc1 e17) gv_RX11_69 ⟨rfl, rfl⟩ (by decide +kernel) ⟨Nat.le_of_ble_eq_true rfl, Nat.le_of_ble_eq_true rfl⟩ rfl rfl (Nat.le_of_ble_eq_true rfl) dX11_whyNoCommand_87 ?_
              obtain rfl := Option.some.inj hf
              exact hret _ _ dX11_whyNoCommand_90
            · replace hf := ine c21_5 hf
              by_cases c21_6 : v6 = 6
              · replace hf := ip c21_6 hf
                refine j_tsw C 82 c21_6 dX11_whyNoCommand_14 (by decide) rfl (by decide) ?_
                refine j_aload_n C 0 dX11_whyNoCommand_82 rfl rfl ?_
                refine g_X11_village C tw1_228 lc0 1 rfl dX11_whyNoCommand_83 ?_
                refine j_iload_n C 2 dX11_whyNoCommand_86 rfl rfl ?_
                obtain ⟨v20, e19, hf⟩ := bd hf
                refine j_callV C 1 lc1 (ent_K _ _ _ _ _ _) rfl (c_X9_whyNoHousehold l G n0 lc1 e19) gv_RX11_69 ⟨rfl, rfl⟩ (by decide +kernel) ⟨Nat.le_of_ble_eq_true rfl, Nat.le_of_ble_eq_true rfl⟩ rfl rfl (Nat.le_of_ble_eq_true rfl) dX11_whyNoCommand_87 ?_
                obtain rfl := Option.some.inj hf
                exact hret _ _ dX11_whyNoCommand_90
              · replace hf := ine c21_6 hf
                refine j_tswD C 91 (by have g1 := lv_neT c21_1 (show (1 : Int32).toInt = 1 by decide); have g2 := lv_neT c21_2 (show (2 : Int32).toInt = 2 by decide); have g3 := lv_neT c21_3 (show (3 : Int32).toInt = 3 by decide); have g4 := lv_neT c21_4 (show (4 : Int32).toInt = 4 by decide); have g5 := lv_neT c21_5 (show (5 : Int32).toInt = 5 by decide); have g6 := lv_neT c21_6 (show (6 : Int32).toInt = 6 by decide); omega) dX11_whyNoCommand_14 (by decide) ?_
                refine j_iconst C (0 : Int32) rfl dX11_whyNoCommand_91 ?_
                obtain rfl := Option.some.inj hf
                exact hret _ _ dX11_whyNoCommand_92
def fX11_carryOut (w1p : Option Nat) (x2 : Int32) (x3 : Int32) (x4 : Int32) (M : Mem) : Option (Int32 × Mem) :=
  (fX11_whyNoCommand w1p x2 x3 x4 M).bind fun v2 =>
  oc w1p (some (v2, M))
  (fun w3 => if v2 = 0 then (if 7 ≤ w3 then none else
  (ald sSWMAP 7 (nI w3)).bind fun v9 =>
  if v9 = 1 then ((fX4_add 2 x2 M).bind (un2 fun v13 M14 =>
  some ((0 : Int32), M14)))
  else if v9 = 2 then ((fX1_add 9 x2 x3 x4 M).bind (un2 fun v16 M17 =>
  some ((0 : Int32), M17)))
  else if v9 = 3 then ((fX9_haveDay 1 x2 M).bind (un2 fun v19 M20 =>
  some ((0 : Int32), M20)))
  else if v9 = 4 then ((fX9_letClaim 1 x2 M).bind (un2 fun v22 M23 =>
  some ((0 : Int32), M23)))
  else if v9 = 5 then ((fX6_moveToShelf 23 x2 M).bind (un2 fun v25 M26 =>
  some ((0 : Int32), M26)))
  else if v9 = 6 then ((fX4_excuseOne 2 x2 M).bind (un2 fun v28 M29 =>
  some ((0 : Int32), M29)))
  else if v9 = 7 then ((fX6_emptyShelf 23 M).bind (un2 fun v31 M32 =>
  some ((0 : Int32), M32)))
  else (some ((0 : Int32), M)))
  else (some (v2, M)))

def rX11_carryOut : Room := { frames := 6, cells := 0, slots := 0, locals := 127 }
set_option maxRecDepth 100000 in
set_option maxHeartbeats 4000000 in
theorem c_X11_carryOut (l : Launch) (G : Gx) (n0 : Nat) {w1p : Option Nat} {x2 : Int32} {x3 : Int32} {x4 : Int32} {M : Mem} {r : Int32} {M' : Mem} (hf : fX11_carryOut w1p x2 x3 x4 M = some (r, M')) : Ct l yX11_carryOut cX11_carryOut 6 (some .int) rX11_carryOut G n0 [.ref (n0 + 0), va_re G.2.2 w1p, .int x2, .int x3, .int x4] M (some (.int r)) M' := by
  refine ct_int (cc := cX11_carryOut) (maxL := 6) rfl (by cases w1p <;> exact Nat.le_of_ble_eq_true rfl) ?_
  intro K C hret
  have C : Ok K l rX11_carryOut cX11_carryOut RX11 G n0 6 := C
  have hL : lv_args 0 [.ref (n0 + 0), va_re G.2.2 w1p, .int x2, .int x3, .int x4] = [(0, .ref (n0 + 0)), (1, va_re G.2.2 w1p), (2, .int x2), (3, .int x3), (4, .int x4)] := by cases w1p <;> rfl
  rw [hL]
  unfold fX11_carryOut at hf
  refine j_aload_n C 0 dX11_carryOut_0 rfl rfl ?_
  refine j_aloadO_n C 1 dX11_carryOut_1 rfl rfl ?_
  refine j_iload_n C 2 dX11_carryOut_2 rfl rfl ?_
  refine j_iload_n C 3 dX11_carryOut_3 rfl rfl ?_
  refine j_iload C 4 dX11_carryOut_4 rfl ?_
  obtain ⟨v2, e1, hf⟩ := bd hf
  refine j_callV C 4 lc0 (ent_K _ _ _ _ _ _) rfl (c_X11_whyNoCommand l G n0 e1) gv_RX11_309 ⟨rfl, rfl⟩ (by decide +kernel) ⟨Nat.le_of_ble_eq_true rfl, Nat.le_of_ble_eq_true rfl⟩ rfl rfl (Nat.le_of_ble_eq_true rfl) dX11_carryOut_6 ?_
  refine j_istore C [(5, .int v2), (0, .ref (n0 + 0)), (1, va_re G.2.2 w1p), (2, .int x2), (3, .int x3), (4, .int x4)] dX11_carryOut_9 (Nat.le_of_ble_eq_true rfl) rfl ?_
  refine j_aloadO_n C 2 dX11_carryOut_11 rfl rfl ?_
  rcases ocd hf with ⟨ho4, hf⟩ | ⟨w3, ho4, hf⟩
  · rw [ho4]
    refine j_ifnullT C 20 dX11_carryOut_12 (by decide) ?_
    refine j_iload C 0 dX11_carryOut_20 rfl ?_
    obtain ⟨rfl, rfl⟩ := Prod.mk.inj (Option.some.inj hf)
    exact hret _ _ dX11_carryOut_22
  · rw [ho4]
    refine j_ifnullF C dX11_carryOut_12 ?_
    refine j_iload C 0 dX11_carryOut_15 rfl ?_
    refine j_if_eq C 23 dX11_carryOut_17 (by decide) (fun c5 => ?_) (fun c5 => ?_)
    · replace hf := ip c5 hf
      refine j_getsSWMAP C tw3_85 dX11_carryOut_23 (fun aS6 hS7 => ?_)
      refine j_aload_n C 2 dX11_carryOut_26 rfl rfl ?_
      obtain ⟨hx8, hf⟩ := gd hf
      refine j_callO C (Nat.not_le.mp hx8) gu_RX11_318 ⟨Nat.le_of_ble_eq_true rfl, Nat.le_of_ble_eq_true rfl⟩ rfl (Nat.le_of_ble_eq_true rfl) dX11_carryOut_27 ?_
      obtain ⟨v9, e10, hf⟩ := bd hf
      obtain ⟨hx11, e10⟩ := ald_some e10
      refine j_sald C hS7 hx11 e10 dX11_carryOut_30 ?_
      by_cases c33_1 : v9 = 1
      · replace hf := ip c33_1 hf
        refine j_tsw C 72 c33_1 dX11_carryOut_31 (by decide) rfl (by decide) ?_
        refine j_aload_n C 1 dX11_carryOut_72 rfl rfl ?_
        refine g_X11_village C tw1_228 lc0 1 rfl dX11_carryOut_73 ?_
        refine gN_X9_households C (nxf_RX11_households) lc1 2 rfl dX11_carryOut_76 ?_
        refine j_iload_n C 3 dX11_carryOut_79 rfl rfl ?_
        obtain ⟨⟨v13, M14⟩, e12, hf⟩ := bd hf
        replace hf := un2e hf
        refine j_callV C 1 lc2 (ent_K _ _ _ _ _ _) rfl (c_X4_add l G n0 lc2 e12) gv_RX11_57 ⟨rfl, rfl⟩ (by decide +kernel) ⟨Nat.le_of_ble_eq_true rfl, Nat.le_of_ble_eq_true rfl⟩ rfl rfl (Nat.le_of_ble_eq_true rfl) dX11_carryOut_80 ?_
        refine j_pop C rfl dX11_carryOut_83 ?_
        refine j_goto C 177 dX11_carryOut_84 (by decide) ?_
        refine j_iconst C (0 : Int32) rfl dX11_carryOut_177 ?_
        obtain ⟨rfl, rfl⟩ := Prod.mk.inj (Option.some.inj hf)
        exact hret _ _ dX11_carryOut_178
      · replace hf := ine c33_1 hf
        by_cases c33_2 : v9 = 2
        · replace hf := ip c33_2 hf
          refine j_tsw C 87 c33_2 dX11_carryOut_31 (by decide) rfl (by decide) ?_
          refine j_aload_n C 1 dX11_carryOut_87 rfl rfl ?_
          refine g_X11_village C tw1_228 lc0 1 rfl dX11_carryOut_88 ?_
          refine gN_X9_batches C (nxf_RX11_batches) lc1 9 rfl dX11_carryOut_91 ?_
          refine j_iload_n C 3 dX11_carryOut_94 rfl rfl ?_
          refine j_iload_n C 4 dX11_carryOut_95 rfl rfl ?_
          refine j_iload C 5 dX11_carryOut_96 rfl ?_
          obtain ⟨⟨v16, M17⟩, e15, hf⟩ := bd hf
          replace hf := un2e hf
          refine j_callV C 3 lc9 (ent_K _ _ _ _ _ _) rfl (c_X1_add l G n0 lc9 e15) gv_RX11_83 ⟨rfl, rfl⟩ (by decide +kernel) ⟨Nat.le_of_ble_eq_true rfl, Nat.le_of_ble_eq_true rfl⟩ rfl rfl (Nat.le_of_ble_eq_true rfl) dX11_carryOut_98 ?_
          refine j_pop C rfl dX11_carryOut_101 ?_
          refine j_goto C 177 dX11_carryOut_102 (by decide) ?_
          refine j_iconst C (0 : Int32) rfl dX11_carryOut_177 ?_
          obtain ⟨rfl, rfl⟩ := Prod.mk.inj (Option.some.inj hf)
          exact hret _ _ dX11_carryOut_178
        · replace hf := ine c33_2 hf
          by_cases c33_3 : v9 = 3
          · replace hf := ip c33_3 hf
            refine j_tsw C 105 c33_3 dX11_carryOut_31 (by decide) rfl (by decide) ?_
            refine j_aload_n C 1 dX11_carryOut_105 rfl rfl ?_
            refine g_X11_village C tw1_228 lc0 1 rfl dX11_carryOut_106 ?_
            refine j_iload_n C 3 dX11_carryOut_109 rfl rfl ?_
            refine j_aload_n C 1 dX11_carryOut_110 rfl rfl ?_
            refine g_X11_plan C tw1_229 lc0 33 rfl dX11_carryOut_111 ?_
            obtain ⟨⟨v19, M20⟩, e18, hf⟩ := bd hf
            replace hf := un2e hf
            refine j_callV C 2 lc1 (ent_K _ _ _ _ _ _) rfl (c_X9_haveDay l G n0 lc1 e18) gv_RX11_100 ⟨rfl, rfl⟩ (by decide +kernel) ⟨Nat.le_of_ble_eq_true rfl, Nat.le_of_ble_eq_true rfl⟩ rfl rfl (Nat.le_of_ble_eq_true rfl) dX11_carryOut_114 ?_
            refine j_pop C rfl dX11_carryOut_117 ?_
            refine j_goto C 177 dX11_carryOut_118 (by decide) ?_
            refine j_iconst C (0 : Int32) rfl dX11_carryOut_177 ?_
            obtain ⟨rfl, rfl⟩ := Prod.mk.inj (Option.some.inj hf)
            exact hret _ _ dX11_carryOut_178
          · replace hf := ine c33_3 hf
            by_cases c33_4 : v9 = 4
            · replace hf := ip c33_4 hf
              refine j_tsw C 121 c33_4 dX11_carryOut_31 (by decide) rfl (by decide) ?_
              refine j_aload_n C 1 dX11_carryOut_121 rfl rfl ?_
              refine g_X11_village C tw1_228 lc0 1 rfl dX11_carryOut_122 ?_
              refine j_iload_n C 3 dX11_carryOut_125 rfl rfl ?_
              obtain ⟨⟨v22, M23⟩, e21, hf⟩ := bd hf
              replace hf := un2e hf
              refine j_callV C 1 lc1 (ent_K _ _ _ _ _ _) rfl (c_X9_letClaim l G n0 lc1 e21) gv_RX11_104 ⟨rfl, rfl⟩ (by decide +kernel) ⟨Nat.le_of_ble_eq_true rfl, Nat.le_of_ble_eq_true rfl⟩ rfl rfl (Nat.le_of_ble_eq_true rfl) dX11_carryOut_126 ?_
              refine j_pop C rfl dX11_carryOut_129 ?_
              refine j_goto C 177 dX11_carryOut_130 (by decide) ?_
              refine j_iconst C (0 : Int32) rfl dX11_carryOut_177 ?_
              obtain ⟨rfl, rfl⟩ := Prod.mk.inj (Option.some.inj hf)
              exact hret _ _ dX11_carryOut_178
            · replace hf := ine c33_4 hf
              by_cases c33_5 : v9 = 5
              · replace hf := ip c33_5 hf
                refine j_tsw C 133 c33_5 dX11_carryOut_31 (by decide) rfl (by decide) ?_
                refine j_aload_n C 1 dX11_carryOut_133 rfl rfl ?_
                refine g_X11_village C tw1_228 lc0 1 rfl dX11_carryOut_134 ?_
                refine gN_X9_loaves C (nxf_RX11_loaves) lc1 23 rfl dX11_carryOut_137 ?_
                refine j_iload_n C 3 dX11_carryOut_140 rfl rfl ?_
                obtain ⟨⟨v25, M26⟩, e24, hf⟩ := bd hf
                replace hf := un2e hf
                refine j_callV C 1 lc23 (ent_K _ _ _ _ _ _) rfl (c_X6_moveToShelf l G n0 lc23 e24) gv_RX11_111 ⟨rfl, rfl⟩ (by decide +kernel) ⟨Nat.le_of_ble_eq_true rfl, Nat.le_of_ble_eq_true rfl⟩ rfl rfl (Nat.le_of_ble_eq_true rfl) dX11_carryOut_141 ?_
                refine j_pop C rfl dX11_carryOut_144 ?_
                refine j_goto C 177 dX11_carryOut_145 (by decide) ?_
                refine j_iconst C (0 : Int32) rfl dX11_carryOut_177 ?_
                obtain ⟨rfl, rfl⟩ := Prod.mk.inj (Option.some.inj hf)
                exact hret _ _ dX11_carryOut_178
              · replace hf := ine c33_5 hf
                by_cases c33_6 : v9 = 6
                · replace hf := ip c33_6 hf
                  refine j_tsw C 148 c33_6 dX11_carryOut_31 (by decide) rfl (by decide) ?_
                  refine j_aload_n C 1 dX11_carryOut_148 rfl rfl ?_
                  refine g_X11_village C tw1_228 lc0 1 rfl dX11_carryOut_149 ?_
                  refine gN_X9_households C (nxf_RX11_households) lc1 2 rfl dX11_carryOut_152 ?_
                  refine j_iload_n C 3 dX11_carryOut_155 rfl rfl ?_
                  obtain ⟨⟨v28, M29⟩, e27, hf⟩ := bd hf
                  replace hf := un2e hf
                  refine j_callV C 1 lc2 (ent_K _ _ _ _ _ _) rfl (c_X4_excuseOne l G n0 lc2 e27) gv_RX11_72 ⟨rfl, rfl⟩ (by decide +kernel) ⟨Nat.le_of_ble_eq_true rfl, Nat.le_of_ble_eq_true rfl⟩ rfl rfl (Nat.le_of_ble_eq_true rfl) dX11_carryOut_156 ?_
                  refine j_pop C rfl dX11_carryOut_159 ?_
                  refine j_goto C 177 dX11_carryOut_160 (by decide) ?_
                  refine j_iconst C (0 : Int32) rfl dX11_carryOut_177 ?_
                  obtain ⟨rfl, rfl⟩ := Prod.mk.inj (Option.some.inj hf)
                  exact hret _ _ dX11_carryOut_178
                · replace hf := ine c33_6 hf
                  by_cases c33_7 : v9 = 7
                  · replace hf := ip c33_7 hf
                    refine j_tsw C 163 c33_7 dX11_carryOut_31 (by decide) rfl (by decide) ?_
                    refine j_aload_n C 1 dX11_carryOut_163 rfl rfl ?_
                    refine g_X11_village C tw1_228 lc0 1 rfl dX11_carryOut_164 ?_
                    refine gN_X9_loaves C (nxf_RX11_loaves) lc1 23 rfl dX11_carryOut_167 ?_
                    obtain ⟨⟨v31, M32⟩, e30, hf⟩ := bd hf
                    replace hf := un2e hf
                    refine j_callV C 0 lc23 (ent_K _ _ _ _ _ _) rfl (c_X6_emptyShelf l G n0 lc23 e30) gv_RX11_116 ⟨rfl, rfl⟩ (by decide +kernel) ⟨Nat.le_of_ble_eq_true rfl, Nat.le_of_ble_eq_true rfl⟩ rfl rfl (Nat.le_of_ble_eq_true rfl) dX11_carryOut_170 ?_
                    refine j_pop C rfl dX11_carryOut_173 ?_
                    refine j_goto C 177 dX11_carryOut_174 (by decide) ?_
                    refine j_iconst C (0 : Int32) rfl dX11_carryOut_177 ?_
                    obtain ⟨rfl, rfl⟩ := Prod.mk.inj (Option.some.inj hf)
                    exact hret _ _ dX11_carryOut_178
                  · replace hf := ine c33_7 hf
                    refine j_tswD C 177 (by have g1 := lv_neT c33_1 (show (1 : Int32).toInt = 1 by decide); have g2 := lv_neT c33_2 (show (2 : Int32).toInt = 2 by decide); have g3 := lv_neT c33_3 (show (3 : Int32).toInt = 3 by decide); have g4 := lv_neT c33_4 (show (4 : Int32).toInt = 4 by decide); have g5 := lv_neT c33_5 (show (5 : Int32).toInt = 5 by decide); have g6 := lv_neT c33_6 (show (6 : Int32).toInt = 6 by decide); have g7 := lv_neT c33_7 (show (7 : Int32).toInt = 7 by decide); omega) dX11_carryOut_31 (by decide) ?_
                    refine j_iconst C (0 : Int32) rfl dX11_carryOut_177 ?_
                    obtain ⟨rfl, rfl⟩ := Prod.mk.inj (Option.some.inj hf)
                    exact hret _ _ dX11_carryOut_178
    · replace hf := ine c5 hf
      refine j_iload C 0 dX11_carryOut_20 rfl ?_
      obtain ⟨rfl, rfl⟩ := Prod.mk.inj (Option.some.inj hf)
      exact hret _ _ dX11_carryOut_22
def lX11_runCommands_45  : Nat → Int32 → Int32 → Mem → Option ((Int32 × Mem) ⊕ (Int32 × Mem))
  | 0, _, _, _ => none
  | n + 1, a11, a12, M13 =>
  if (150 : Int32) ≤ a12 then (some (Sum.inr (a11, M13)))
  else ((fX2_readCommand M13).bind (un2 fun b16 M17 =>
  if b16 = true then ((fX2_word M17).bind fun w20 =>
  (fX2_number (0 : Int32) M17).bind fun v22 =>
  (fX2_number (1 : Int32) M17).bind fun v24 =>
  (fX2_number (2 : Int32) M17).bind fun v26 =>
  (fX11_carryOut w20 v22 v24 v26 M17).bind (un2 fun v28 M29 =>
  (pf M29 0 4 v28).bind fun M30 =>
  if (M30.1 0 4) = 0 then (lX11_runCommands_45  n (a11 + 1) (a12 + 1) M30)
  else (some (Sum.inl (a11, M30)))))
  else (some (Sum.inr (a11, M17)))))

def fX11_runCommands  (M : Mem) : Option (Int32 × Mem) :=
  (fX2_findFault M).bind (un2 fun v2 M3 =>
  if v2 = (-1 : Int32) then ((fX8_push 1 M3).bind fun M6 =>
  (pf M6 0 4 (0 : Int32)).bind fun M7 =>
  (fX2_rewind M7).bind fun M10 =>
  (lX11_runCommands_45 FUEL (0 : Int32) (0 : Int32) M10).bind fun o => s0 o (un2 fun a33 M34 => some (a33, M34)))
  else (some (((-10 : Int32) - v2), M3)))

def rX11_runCommands : Room := { frames := 11, cells := 0, slots := 0, locals := 281 }
set_option maxRecDepth 100000 in
set_option maxHeartbeats 4000000 in
theorem c_X11_runCommands (l : Launch) (G : Gx) (n0 : Nat) {M : Mem} {r : Int32} {M' : Mem} (hf : fX11_runCommands M = some (r, M')) : Ct l yX11_runCommands cX11_runCommands 4 (some .int) rX11_runCommands G n0 [.ref (n0 + 0)] M (some (.int r)) M' := by
  refine ct_int (cc := cX11_runCommands) (maxL := 4) rfl (Nat.le_of_ble_eq_true rfl) ?_
  intro K C hret
  have C : Ok K l rX11_runCommands cX11_runCommands RX11 G n0 4 := C
  show J K M 0 [(0, .ref (n0 + 0))] []
  unfold fX11_runCommands at hf
  refine j_aload_n C 0 dX11_runCommands_0 rfl rfl ?_
  refine g_X11_text C tw1_231 lc0 175 rfl dX11_runCommands_1 ?_
  obtain ⟨⟨v2, M3⟩, e1, hf⟩ := bd hf
  replace hf := un2e hf
  refine j_callV C 0 lc175 (ent_K _ _ _ _ _ _) rfl (c_X2_findFault l G n0 e1) gv_RX11_223 ⟨rfl, rfl⟩ (by decide +kernel) ⟨Nat.le_of_ble_eq_true rfl, Nat.le_of_ble_eq_true rfl⟩ rfl rfl (Nat.le_of_ble_eq_true rfl) dX11_runCommands_4 ?_
  refine j_istore_n C [(1, .int v2), (0, .ref (n0 + 0))] dX11_runCommands_7 rfl (Nat.le_of_ble_eq_true rfl) rfl ?_
  refine j_iload_n C 0 dX11_runCommands_8 rfl rfl ?_
  refine j_iconst C (-1 : Int32) rfl dX11_runCommands_9 ?_
  refine j_icmp_eq C 18 dX11_runCommands_10 (by decide) (fun c4 => ?_) (fun c4 => ?_)
  · replace hf := ip c4 hf
    refine j_aload_n C 1 dX11_runCommands_18 rfl rfl ?_
    refine g_X11_undoStack C tw1_230 lc0 45 rfl dX11_runCommands_19 ?_
    refine j_aload_n C 1 dX11_runCommands_22 rfl rfl ?_
    refine g_X11_village C tw1_228 lc0 1 rfl dX11_runCommands_23 ?_
    obtain ⟨M6, e5, hf⟩ := bd hf
    refine j_callV C 1 lc45 (ent_K _ _ _ _ _ _) rfl (c_X8_push l G n0 lc1 e5) gv_RX11_49 ⟨rfl, rfl⟩ (by decide +kernel) ⟨Nat.le_of_ble_eq_true rfl, Nat.le_of_ble_eq_true rfl⟩ rfl rfl (Nat.le_of_ble_eq_true rfl) dX11_runCommands_26 ?_
    refine j_aload_n C 1 dX11_runCommands_29 rfl rfl ?_
    refine j_iconst C (0 : Int32) rfl dX11_runCommands_30 ?_
    obtain ⟨M7, e8, hf⟩ := bd hf
    refine p_X11_stop C tw1_232 lc0 e8 dX11_runCommands_31 ?_
    refine j_iconst C (0 : Int32) rfl dX11_runCommands_34 ?_
    refine j_istore_n C [(2, .int (0 : Int32)), (1, .int v2), (0, .ref (n0 + 0))] dX11_runCommands_35 rfl (Nat.le_of_ble_eq_true rfl) rfl ?_
    refine j_aload_n C 2 dX11_runCommands_36 rfl rfl ?_
    refine g_X11_text C tw1_231 lc0 175 rfl dX11_runCommands_37 ?_
    obtain ⟨M10, e9, hf⟩ := bd hf
    refine j_callV C 0 lc175 (ent_K _ _ _ _ _ _) rfl (c_X2_rewind l G n0 e9) gv_RX11_226 ⟨rfl, rfl⟩ (by decide +kernel) ⟨Nat.le_of_ble_eq_true rfl, Nat.le_of_ble_eq_true rfl⟩ rfl rfl (Nat.le_of_ble_eq_true rfl) dX11_runCommands_40 ?_
    refine j_iconst C (0 : Int32) rfl dX11_runCommands_43 ?_
    refine j_istore_n C [(3, .int (0 : Int32)), (2, .int (0 : Int32)), (1, .int v2), (0, .ref (n0 + 0))] dX11_runCommands_44 rfl (Nat.le_of_ble_eq_true rfl) rfl ?_
    obtain ⟨o39, e35, hg38⟩ := bd hf
    have hx36 : ∀ (a33 : Int32) (M34 : Mem), o39 = Sum.inr (a33, M34) → J K M34 119 [(2, .int a33)] [] := by
      intro a33 M34 ho
      rw [ho] at hg38
      replace hf := un2e (s0r hg38)
      refine j_iload_n C 0 dX11_runCommands_119 rfl rfl ?_
      obtain ⟨rfl, rfl⟩ := Prod.mk.inj (Option.some.inj hf)
      exact hret _ _ dX11_runCommands_120
    have hl37 : ∀ (n : Nat) (a11 : Int32) (a12 : Int32) (M13 : Mem), lX11_runCommands_45 n a11 a12 M13 = some o39 → J K M13 45 [(0, .ref (n0 + 0)), (2, .int a11), (3, .int a12)] [] := by
      intro n
      induction n with
      | zero =>
        intro a11 a12 M13 hf
        exact absurd hf (by rw [lX11_runCommands_45]; exact fun h => by cases h)
      | succ n ih =>
        intro a11 a12 M13 hf
        rw [lX11_runCommands_45] at hf
        refine j_iload_n C 2 dX11_runCommands_45 rfl rfl ?_
        refine j_sipush C (150 : Int32) rfl dX11_runCommands_46 ?_
        refine j_icmp_ge C 119 dX11_runCommands_49 (by decide) (fun c14 => ?_) (fun c14 => ?_)
        · replace hf := ip c14 hf
          refine j_sub [1] rfl ?_
          exact hx36 _ _ (Option.some.inj hf).symm
        · replace hf := ine c14 hf
          refine j_aload_n C 0 dX11_runCommands_52 rfl rfl ?_
          refine g_X11_text C tw1_231 lc0 175 rfl dX11_runCommands_53 ?_
          obtain ⟨⟨b16, M17⟩, e15, hf⟩ := bd hf
          replace hf := un2e hf
          refine j_callV C 0 lc175 (ent_K _ _ _ _ _ _) rfl (c_X2_readCommand l G n0 e15) gv_RX11_229 ⟨rfl, rfl⟩ (by decide +kernel) ⟨Nat.le_of_ble_eq_true rfl, Nat.le_of_ble_eq_true rfl⟩ rfl rfl (Nat.le_of_ble_eq_true rfl) dX11_runCommands_56 ?_
          refine j_ifz_eq C 119 dX11_runCommands_59 (by decide) (fun c18 => ?_) (fun c18 => ?_)
          · replace hf := ine c18 hf
            refine j_sub [1] rfl ?_
            exact hx36 _ _ (Option.some.inj hf).symm
          · replace hf := ip c18 hf
            refine j_aload_n C 0 dX11_runCommands_62 rfl rfl ?_
            refine j_aload_n C 0 dX11_runCommands_63 rfl rfl ?_
            refine j_aload_n C 0 dX11_runCommands_64 rfl rfl ?_
            refine g_X11_text C tw1_231 lc0 175 rfl dX11_runCommands_65 ?_
            obtain ⟨w20, e19, hf⟩ := bd hf
            refine j_callV C 0 lc175 (ent_K _ _ _ _ _ _) rfl (c_X2_word l G n0 e19) gv_RX11_232 ⟨rfl, rfl⟩ (by decide +kernel) ⟨Nat.le_of_ble_eq_true rfl, Nat.le_of_ble_eq_true rfl⟩ rfl rfl (Nat.le_of_ble_eq_true rfl) dX11_runCommands_68 ?_
            refine j_aload_n C 0 dX11_runCommands_71 rfl rfl ?_
            refine g_X11_text C tw1_231 lc0 175 rfl dX11_runCommands_72 ?_
            refine j_iconst C (0 : Int32) rfl dX11_runCommands_75 ?_
            obtain ⟨v22, e21, hf⟩ := bd hf
            refine j_callV C 1 lc175 (ent_K _ _ _ _ _ _) rfl (c_X2_number l G n0 e21) gv_RX11_236 ⟨rfl, rfl⟩ (by decide +kernel) ⟨Nat.le_of_ble_eq_true rfl, Nat.le_of_ble_eq_true rfl⟩ rfl rfl (by cases w20 <;> exact Nat.le_of_ble_eq_true rfl) dX11_runCommands_76 ?_
            refine j_aload_n C 0 dX11_runCommands_79 rfl rfl ?_
            refine g_X11_text C tw1_231 lc0 175 rfl dX11_runCommands_80 ?_
            refine j_iconst C (1 : Int32) rfl dX11_runCommands_83 ?_
            obtain ⟨v24, e23, hf⟩ := bd hf
            refine j_callV C 1 lc175 (ent_K _ _ _ _ _ _) rfl (c_X2_number l G n0 e23) gv_RX11_236 ⟨rfl, rfl⟩ (by decide +kernel) ⟨Nat.le_of_ble_eq_true rfl, Nat.le_of_ble_eq_true rfl⟩ rfl rfl (by cases w20 <;> exact Nat.le_of_ble_eq_true rfl) dX11_runCommands_84 ?_
            refine j_aload_n C 0 dX11_runCommands_87 rfl rfl ?_
            refine g_X11_text C tw1_231 lc0 175 rfl dX11_runCommands_88 ?_
            refine j_iconst C (2 : Int32) rfl dX11_runCommands_91 ?_
            obtain ⟨v26, e25, hf⟩ := bd hf
            refine j_callV C 1 lc175 (ent_K _ _ _ _ _ _) rfl (c_X2_number l G n0 e25) gv_RX11_236 ⟨rfl, rfl⟩ (by decide +kernel) ⟨Nat.le_of_ble_eq_true rfl, Nat.le_of_ble_eq_true rfl⟩ rfl rfl (by cases w20 <;> exact Nat.le_of_ble_eq_true rfl) dX11_runCommands_92 ?_
            obtain ⟨⟨v28, M29⟩, e27, hf⟩ := bd hf
            replace hf := un2e hf
            refine j_callV C 4 lc0 (ent_K _ _ _ _ _ _) rfl (c_X11_carryOut l G n0 e27) gv_RX11_239 ⟨rfl, rfl⟩ (by decide +kernel) ⟨Nat.le_of_ble_eq_true rfl, Nat.le_of_ble_eq_true rfl⟩ rfl rfl (Nat.le_of_ble_eq_true rfl) dX11_runCommands_95 ?_
            obtain ⟨M30, e31, hf⟩ := bd hf
            refine p_X11_stop C tw1_232 lc0 e31 dX11_runCommands_98 ?_
            refine j_aload_n C 0 dX11_runCommands_101 rfl rfl ?_
            refine g_X11_stop C tw1_232 lc0 dX11_runCommands_102 ?_
            refine j_if_eq C 110 dX11_runCommands_105 (by decide) (fun c32 => ?_) (fun c32 => ?_)
            · replace hf := ip c32 hf
              refine j_iinc C 1 (a11 + 1) [(2, .int (a11 + 1)), (0, .ref (n0 + 0)), (3, .int a12)] dX11_runCommands_110 rfl rfl (Nat.le_of_ble_eq_true rfl) rfl ?_
              refine j_iinc C 2 (a12 + 1) [(3, .int (a12 + 1)), (2, .int (a11 + 1)), (0, .ref (n0 + 0))] dX11_runCommands_113 rfl rfl (Nat.le_of_ble_eq_true rfl) rfl ?_
              refine j_goto C 45 dX11_runCommands_116 (by decide) ?_
              refine j_sub [2, 1, 0] rfl ?_
              exact ih _ _ _ hf
            · replace hf := ine c32 hf
              refine j_iload_n C 1 dX11_runCommands_108 rfl rfl ?_
              rw [← Option.some.inj hf] at hg38
              have hf := hg38
              replace hf : some _ = some _ := hf
              obtain ⟨rfl, rfl⟩ := Prod.mk.inj (Option.some.inj hf)
              exact hret _ _ dX11_runCommands_109
    refine j_sub [3, 1, 0] rfl ?_
    exact hl37 FUEL (0 : Int32) (0 : Int32) M10 e35
  · replace hf := ine c4 hf
    refine j_bipush C (-10 : Int32) rfl dX11_runCommands_13 ?_
    refine j_iload_n C 0 dX11_runCommands_15 rfl rfl ?_
    refine j_isub C dX11_runCommands_16 ?_
    obtain ⟨rfl, rfl⟩ := Prod.mk.inj (Option.some.inj hf)
    exact hret _ _ dX11_runCommands_17
def fX11_undo  (M : Mem) : Option (Nat ⊕ (Int32 × Mem)) :=
  (fX8_size M).bind fun v2 =>
  (if v2 = 0 then (some (3 : Int32))
  else (some (0 : Int32))).bind (fun z4 => (fX11_refuse z4).bind fun o6 => xc o6 (fun k => some (Sum.inl k))
  (fun _ => (fX8_popInto 1 M).bind (un2 fun v8 M9 =>
  some (Sum.inr (v8, M9)))))

def rX11_undo : Room := { frames := 5, cells := 0, slots := 0, locals := 127 }
set_option maxRecDepth 100000 in
set_option maxHeartbeats 4000000 in
theorem c_X11_undo (l : Launch) (G : Gx) (n0 : Nat) {M : Mem} {r : Int32} {M' : Mem} (hf : fX11_undo M = some (Sum.inr (r, M'))) : Ct l yX11_undo cX11_undo 1 (some .int) rX11_undo G n0 [.ref (n0 + 0)] M (some (.int r)) M' := by
  refine ct_int (cc := cX11_undo) (maxL := 1) rfl (Nat.le_of_ble_eq_true rfl) ?_
  intro K C hret
  have C : Ok K l rX11_undo cX11_undo RX11 G n0 1 := C
  show J K M 0 [(0, .ref (n0 + 0))] []
  unfold fX11_undo at hf
  refine j_aload_n C 0 dX11_undo_0 rfl rfl ?_
  refine g_X11_undoStack C tw1_230 lc0 45 rfl dX11_undo_1 ?_
  obtain ⟨v2, e1, hf⟩ := bd hf
  refine j_callV C 0 lc45 (ent_K _ _ _ _ _ _) rfl (c_X8_size l G n0 e1) gv_RX11_243 ⟨rfl, rfl⟩ (by decide +kernel) ⟨Nat.le_of_ble_eq_true rfl, Nat.le_of_ble_eq_true rfl⟩ rfl rfl (Nat.le_of_ble_eq_true rfl) dX11_undo_4 ?_
  obtain ⟨z4, e10, hf⟩ := bd hf
  have hj11 : J K M 15 [(0, .ref (n0 + 0))] [.int z4] := by
    obtain ⟨o6, e5, hf⟩ := bd hf
    rcases o6 with kx | _
    · replace hf : some _ = some _ := hf
      cases hf
    · replace hf := xcr hf
      refine j_callS C 1 (c_X11_refuse l G n0 (M := M) e5) gs_RX11_45 ⟨rfl, rfl⟩ (by decide +kernel) ⟨Nat.le_of_ble_eq_true rfl, Nat.le_of_ble_eq_true rfl⟩ rfl rfl (Nat.le_of_ble_eq_true rfl) dX11_undo_15 ?_
      refine j_aload_n C 0 dX11_undo_18 rfl rfl ?_
      refine g_X11_undoStack C tw1_230 lc0 45 rfl dX11_undo_19 ?_
      refine j_aload_n C 0 dX11_undo_22 rfl rfl ?_
      refine g_X11_village C tw1_228 lc0 1 rfl dX11_undo_23 ?_
      obtain ⟨⟨v8, M9⟩, e7, hf⟩ := bd hf
      replace hf := un2e hf
      refine j_callV C 1 lc45 (ent_K _ _ _ _ _ _) rfl (c_X8_popInto l G n0 lc1 e7) gv_RX11_244 ⟨rfl, rfl⟩ (by decide +kernel) ⟨Nat.le_of_ble_eq_true rfl, Nat.le_of_ble_eq_true rfl⟩ rfl rfl (Nat.le_of_ble_eq_true rfl) dX11_undo_26 ?_
      obtain ⟨rfl, rfl⟩ := Prod.mk.inj (Sum.inr.inj (Option.some.inj hf))
      exact hret _ _ dX11_undo_29
  clear hf
  have hf := e10
  refine j_if_ne C 14 dX11_undo_7 (by decide) (fun c3 => ?_) (fun c3 => ?_)
  · replace hf := ine c3 hf
    refine j_iconst C (0 : Int32) rfl dX11_undo_14 ?_
    cases hf
    refine j_sub [0] rfl ?_
    exact hj11
  · replace hf := ip c3 hf
    refine j_iconst C (3 : Int32) rfl dX11_undo_10 ?_
    refine j_goto C 15 dX11_undo_11 (by decide) ?_
    cases hf
    refine j_sub [0] rfl ?_
    exact hj11
def qX11_undo : Room := { frames := 7, cells := 1, slots := 6, locals := 127 }
set_option maxRecDepth 100000 in
set_option maxHeartbeats 4000000 in
theorem t_X11_undo (l : Launch) (hfl : l.stackTraces = false) (G : Gx) (n0 : Nat) {M : Mem} {k : Nat} (hf : fX11_undo M = some (Sum.inl k)) : CtT l yX11_undo cX11_undo 1 (some .int) qX11_undo G n0 [.ref (n0 + 0)] M k := by
  refine ct_thr (cc := cX11_undo) (maxL := 1) rfl (Nat.le_of_ble_eq_true rfl) ⟨Nat.le_of_ble_eq_true rfl, Nat.le_of_ble_eq_true rfl⟩ ?_
  intro K C hthr
  have C : Ok K l qX11_undo cX11_undo RX11 G n0 1 := C
  show J K M 0 [(0, .ref (n0 + 0))] []
  unfold fX11_undo at hf
  refine j_aload_n C 0 dX11_undo_0 rfl rfl ?_
  refine g_X11_undoStack C tw1_230 lc0 45 rfl dX11_undo_1 ?_
  obtain ⟨v2, e1, hf⟩ := bd hf
  refine j_callV C 0 lc45 (ent_K _ _ _ _ _ _) rfl (c_X8_size l G n0 e1) gv_RX11_243 ⟨rfl, rfl⟩ (by decide +kernel) ⟨Nat.le_of_ble_eq_true rfl, Nat.le_of_ble_eq_true rfl⟩ rfl rfl (Nat.le_of_ble_eq_true rfl) dX11_undo_4 ?_
  obtain ⟨z4, e12, hf⟩ := bd hf
  have hj13 : J K M 15 [(0, .ref (n0 + 0))] [.int z4] := by
    obtain ⟨o6, e5, hf⟩ := bd hf
    rcases o6 with kx | _
    · replace hf : some _ = some _ := hf
      cases hf
      exact j_callTS C 1 hthr (t_X11_refuse l hfl G n0 (M := M) e5) gs_RX11_45 ⟨rfl, rfl⟩ (by decide +kernel) ⟨Nat.le_of_ble_eq_true rfl, Nat.le_of_ble_eq_true rfl⟩ rfl rfl (Nat.le_of_ble_eq_true rfl) dX11_undo_15
    · replace hf := xcr hf
      refine j_callS C 1 (c_X11_refuse l G n0 (M := M) e5) gs_RX11_45 ⟨rfl, rfl⟩ (by decide +kernel) ⟨Nat.le_of_ble_eq_true rfl, Nat.le_of_ble_eq_true rfl⟩ rfl rfl (Nat.le_of_ble_eq_true rfl) dX11_undo_15 ?_
      refine j_aload_n C 0 dX11_undo_18 rfl rfl ?_
      refine g_X11_undoStack C tw1_230 lc0 45 rfl dX11_undo_19 ?_
      refine j_aload_n C 0 dX11_undo_22 rfl rfl ?_
      refine g_X11_village C tw1_228 lc0 1 rfl dX11_undo_23 ?_
      obtain ⟨⟨v8, M9⟩, e7, hf⟩ := bd hf
      replace hf := un2e hf
      refine j_callV C 1 lc45 (ent_K _ _ _ _ _ _) rfl (c_X8_popInto l G n0 lc1 e7) gv_RX11_244 ⟨rfl, rfl⟩ (by decide +kernel) ⟨Nat.le_of_ble_eq_true rfl, Nat.le_of_ble_eq_true rfl⟩ rfl rfl (Nat.le_of_ble_eq_true rfl) dX11_undo_26 ?_
      cases hf
  clear hf
  have hf := e12
  refine j_if_ne C 14 dX11_undo_7 (by decide) (fun c3 => ?_) (fun c3 => ?_)
  · replace hf := ine c3 hf
    refine j_iconst C (0 : Int32) rfl dX11_undo_14 ?_
    cases hf
    refine j_sub [0] rfl ?_
    exact hj13
  · replace hf := ip c3 hf
    refine j_iconst C (3 : Int32) rfl dX11_undo_10 ?_
    refine j_goto C 15 dX11_undo_11 (by decide) ?_
    cases hf
    refine j_sub [0] rfl ?_
    exact hj13
def lX11_mixHouseholds_23 (M : Mem) (a2 : Int32) : Nat → Int64 → Int32 → Option ((Nat ⊕ Int64) ⊕ Int64)
  | 0, _, _ => none
  | n + 1, a6, a7 =>
  if (8 : Int32) ≤ a7 then (some (Sum.inr a6))
  else ((fX11_household a2 a7 M).bind fun o11 => xc o11 (fun k => some (Sum.inl (Sum.inl k)))
  (fun v10 => (fX11_mix a6 v10.toInt64).bind fun v13 =>
  lX11_mixHouseholds_23 M a2 n v13 (a7 + 1)))

def lX11_mixHouseholds_64 (M : Mem) (a2 : Int32) : Nat → Int64 → Int32 → Option ((Nat ⊕ Int64) ⊕ Int64)
  | 0, _, _ => none
  | n + 1, a20, a21 =>
  if (3 : Int32) ≤ a21 then (some (Sum.inr a20))
  else ((fX11_balance a2 a21 M).bind fun o25 => xc o25 (fun k => some (Sum.inl (Sum.inl k)))
  (fun v24 => (fX11_mix a20 v24.toInt64).bind fun v27 =>
  lX11_mixHouseholds_64 M a2 n v27 (a21 + 1)))

def lX11_mixHouseholds_5 (M : Mem) : Nat → Int64 → Int32 → Option ((Nat ⊕ Int64) ⊕ Int64)
  | 0, _, _ => none
  | n + 1, a1, a2 =>
  (fX4_size 2 M).bind fun v4 =>
  if v4 ≤ a2 then (some (Sum.inr a1))
  else ((lX11_mixHouseholds_23 M a2 FUEL a1 (0 : Int32)).bind fun o => sB o (fun a14 => (fX11_due a2 M).bind fun o17 => xc o17 (fun k => some (Sum.inl (Sum.inl k)))
  (fun v16 => (fX11_mix a14 v16).bind fun v19 =>
  (lX11_mixHouseholds_64 M a2 FUEL v19 (0 : Int32)).bind fun o => sB o (fun a28 => lX11_mixHouseholds_5 M n a28 (a2 + 1)))))

def fX11_mixHouseholds (y1 : Int64) (M : Mem) : Option (Nat ⊕ Int64) :=
  (lX11_mixHouseholds_5 M FUEL y1 (0 : Int32)).bind fun o => s0 o (fun a29 => some (Sum.inr a29))

def rX11_mixHouseholds : Room := { frames := 5, cells := 0, slots := 0, locals := 101 }
set_option maxRecDepth 100000 in
set_option maxHeartbeats 4000000 in
theorem c_X11_mixHouseholds (l : Launch) (G : Gx) (n0 : Nat) {y1 : Int64} {M : Mem} {r : Int64} (hf : fX11_mixHouseholds y1 M = some (Sum.inr r)) : Ct l yX11_mixHouseholds cX11_mixHouseholds 7 (some .long) rX11_mixHouseholds G n0 [.ref (n0 + 0), .long y1] M (some (.long r)) M := by
  refine ct_long (cc := cX11_mixHouseholds) (maxL := 7) rfl (Nat.le_of_ble_eq_true rfl) ?_
  intro K C hret
  have C : Ok K l rX11_mixHouseholds cX11_mixHouseholds RX11 G n0 7 := C
  show J K M 0 [(0, .ref (n0 + 0)), (1, .long y1)] []
  unfold fX11_mixHouseholds at hf
  refine j_lload_n C 1 dX11_mixHouseholds_0 rfl rfl ?_
  refine j_lstore_n C [(3, .long y1), (0, .ref (n0 + 0)), (1, .long y1)] dX11_mixHouseholds_1 rfl (Nat.le_of_ble_eq_true rfl) rfl ?_
  refine j_iconst C (0 : Int32) rfl dX11_mixHouseholds_2 ?_
  refine j_istore C [(5, .int (0 : Int32)), (3, .long y1), (0, .ref (n0 + 0)), (1, .long y1)] dX11_mixHouseholds_3 (Nat.le_of_ble_eq_true rfl) rfl ?_
  obtain ⟨o34, e30, hg33⟩ := bd hf
  have hx31 : ∀ (a29 : Int64), o34 = Sum.inr a29 → J K M 96 [(3, .long a29)] [] := by
    intro a29 ho
    rw [ho] at hg33
    replace hf := s0r hg33
    refine j_lload_n C 0 dX11_mixHouseholds_96 rfl rfl ?_
    obtain rfl := Sum.inr.inj (Option.some.inj hf)
    exact hret _ _ dX11_mixHouseholds_97
  have hl32 : ∀ (n : Nat) (a1 : Int64) (a2 : Int32), lX11_mixHouseholds_5 M n a1 a2 = some o34 → J K M 5 [(0, .ref (n0 + 0)), (3, .long a1), (5, .int a2)] [] := by
    intro n
    induction n with
    | zero =>
      intro a1 a2 hf
      exact absurd hf (by rw [lX11_mixHouseholds_5]; exact fun h => by cases h)
    | succ n ih =>
      intro a1 a2 hf
      rw [lX11_mixHouseholds_5] at hf
      refine j_iload C 2 dX11_mixHouseholds_5 rfl ?_
      refine j_aload_n C 0 dX11_mixHouseholds_7 rfl rfl ?_
      refine g_X11_village C tw1_228 lc0 1 rfl dX11_mixHouseholds_8 ?_
      refine gN_X9_households C (nxf_RX11_households) lc1 2 rfl dX11_mixHouseholds_11 ?_
      obtain ⟨v4, e3, hf⟩ := bd hf
      refine j_callV C 0 lc2 (ent_K _ _ _ _ _ _) rfl (c_X4_size l G n0 lc2 e3) gv_RX11_168 ⟨rfl, rfl⟩ (by decide +kernel) ⟨Nat.le_of_ble_eq_true rfl, Nat.le_of_ble_eq_true rfl⟩ rfl rfl (Nat.le_of_ble_eq_true rfl) dX11_mixHouseholds_14 ?_
      refine j_icmp_ge C 96 dX11_mixHouseholds_17 (by decide) (fun c5 => ?_) (fun c5 => ?_)
      · replace hf := ip c5 hf
        refine j_sub [1] rfl ?_
        exact hx31 _ (Option.some.inj hf).symm
      · replace hf := ine c5 hf
        refine j_iconst C (0 : Int32) rfl dX11_mixHouseholds_20 ?_
        refine j_istore C [(6, .int (0 : Int32)), (0, .ref (n0 + 0)), (3, .long a1), (5, .int a2)] dX11_mixHouseholds_21 (Nat.le_of_ble_eq_true rfl) rfl ?_
        obtain ⟨o39, e35, hg38⟩ := bd hf
        have hx36 : ∀ (a14 : Int64), o39 = Sum.inr a14 → J K M 50 [(0, .ref (n0 + 0)), (3, .long a14), (5, .int a2)] [] := by
          intro a14 ho
          rw [ho] at hg38
          replace hf := sBr hg38
          refine j_lload_n C 1 dX11_mixHouseholds_50 rfl rfl ?_
          refine j_aload_n C 0 dX11_mixHouseholds_51 rfl rfl ?_
          refine j_iload C 2 dX11_mixHouseholds_52 rfl ?_
          obtain ⟨o17, e15, hf⟩ := bd hf
          rcases o17 with kx | v16
          · replace hf : some _ = some _ := hf
            rw [← Option.some.inj hf] at hg33
            have hf := hg33
            replace hf : some _ = some _ := hf
            cases hf
          · replace hf := xcr hf
            refine j_callV C 1 lc0 (ent_K _ _ _ _ _ _) rfl (c_X11_due l G n0 e15) gv_RX11_328 ⟨rfl, rfl⟩ (by decide +kernel) ⟨Nat.le_of_ble_eq_true rfl, Nat.le_of_ble_eq_true rfl⟩ rfl rfl (Nat.le_of_ble_eq_true rfl) dX11_mixHouseholds_54 ?_
            obtain ⟨v19, e18, hf⟩ := bd hf
            refine j_callS C 2 (c_X11_mix l G n0 (M := M) e18) gs_RX11_250 ⟨rfl, rfl⟩ (by decide +kernel) ⟨Nat.le_of_ble_eq_true rfl, Nat.le_of_ble_eq_true rfl⟩ rfl rfl (Nat.le_of_ble_eq_true rfl) dX11_mixHouseholds_57 ?_
            refine j_lstore_n C [(3, .long v19), (0, .ref (n0 + 0)), (5, .int a2)] dX11_mixHouseholds_60 rfl (Nat.le_of_ble_eq_true rfl) rfl ?_
            refine j_iconst C (0 : Int32) rfl dX11_mixHouseholds_61 ?_
            refine j_istore C [(6, .int (0 : Int32)), (3, .long v19), (0, .ref (n0 + 0)), (5, .int a2)] dX11_mixHouseholds_62 (Nat.le_of_ble_eq_true rfl) rfl ?_
            obtain ⟨o44, e40, hg43⟩ := bd hf
            have hx41 : ∀ (a28 : Int64), o44 = Sum.inr a28 → J K M 90 [(0, .ref (n0 + 0)), (3, .long a28), (5, .int a2)] [] := by
              intro a28 ho
              rw [ho] at hg43
              replace hf := sBr hg43
              refine j_iinc C 2 (a2 + 1) [(5, .int (a2 + 1)), (0, .ref (n0 + 0)), (3, .long a28)] dX11_mixHouseholds_90 rfl rfl (Nat.le_of_ble_eq_true rfl) rfl ?_
              refine j_goto C 5 dX11_mixHouseholds_93 (by decide) ?_
              refine j_sub [1, 2, 0] rfl ?_
              exact ih _ _ hf
            have hl42 : ∀ (n : Nat) (a20 : Int64) (a21 : Int32), lX11_mixHouseholds_64 M a2 n a20 a21 = some o44 → J K M 64 [(0, .ref (n0 + 0)), (3, .long a20), (5, .int a2), (6, .int a21)] [] := by
              intro n
              induction n with
              | zero =>
                intro a20 a21 hf
                exact absurd hf (by rw [lX11_mixHouseholds_64]; exact fun h => by cases h)
              | succ n ih =>
                intro a20 a21 hf
                rw [lX11_mixHouseholds_64] at hf
                refine j_iload C 3 dX11_mixHouseholds_64 rfl ?_
                refine j_iconst C (3 : Int32) rfl dX11_mixHouseholds_66 ?_
                refine j_icmp_ge C 90 dX11_mixHouseholds_67 (by decide) (fun c22 => ?_) (fun c22 => ?_)
                · replace hf := ip c22 hf
                  refine j_sub [0, 1, 2] rfl ?_
                  exact hx41 _ (Option.some.inj hf).symm
                · replace hf := ine c22 hf
                  refine j_lload_n C 1 dX11_mixHouseholds_70 rfl rfl ?_
                  refine j_aload_n C 0 dX11_mixHouseholds_71 rfl rfl ?_
                  refine j_iload C 2 dX11_mixHouseholds_72 rfl ?_
                  refine j_iload C 3 dX11_mixHouseholds_74 rfl ?_
                  obtain ⟨o25, e23, hf⟩ := bd hf
                  rcases o25 with kx | v24
                  · replace hf : some _ = some _ := hf
                    rw [← Option.some.inj hf] at hg43
                    have hf := hg43
                    replace hf : some _ = some _ := hf
                    rw [← Option.some.inj hf] at hg33
                    have hf := hg33
                    replace hf : some _ = some _ := hf
                    cases hf
                  · replace hf := xcr hf
                    refine j_callV C 2 lc0 (ent_K _ _ _ _ _ _) rfl (c_X11_balance l G n0 e23) gv_RX11_331 ⟨rfl, rfl⟩ (by decide +kernel) ⟨Nat.le_of_ble_eq_true rfl, Nat.le_of_ble_eq_true rfl⟩ rfl rfl (Nat.le_of_ble_eq_true rfl) dX11_mixHouseholds_76 ?_
                    refine j_i2l C dX11_mixHouseholds_79 ?_
                    obtain ⟨v27, e26, hf⟩ := bd hf
                    refine j_callS C 2 (c_X11_mix l G n0 (M := M) e26) gs_RX11_250 ⟨rfl, rfl⟩ (by decide +kernel) ⟨Nat.le_of_ble_eq_true rfl, Nat.le_of_ble_eq_true rfl⟩ rfl rfl (Nat.le_of_ble_eq_true rfl) dX11_mixHouseholds_80 ?_
                    refine j_lstore_n C [(3, .long v27), (0, .ref (n0 + 0)), (5, .int a2), (6, .int a21)] dX11_mixHouseholds_83 rfl (Nat.le_of_ble_eq_true rfl) rfl ?_
                    refine j_iinc C 3 (a21 + 1) [(6, .int (a21 + 1)), (3, .long v27), (0, .ref (n0 + 0)), (5, .int a2)] dX11_mixHouseholds_84 rfl rfl (Nat.le_of_ble_eq_true rfl) rfl ?_
                    refine j_goto C 64 dX11_mixHouseholds_87 (by decide) ?_
                    refine j_sub [2, 1, 3, 0] rfl ?_
                    exact ih _ _ hf
            refine j_sub [2, 1, 3, 0] rfl ?_
            exact hl42 FUEL v19 (0 : Int32) e40
        have hl37 : ∀ (n : Nat) (a6 : Int64) (a7 : Int32), lX11_mixHouseholds_23 M a2 n a6 a7 = some o39 → J K M 23 [(0, .ref (n0 + 0)), (3, .long a6), (5, .int a2), (6, .int a7)] [] := by
          intro n
          induction n with
          | zero =>
            intro a6 a7 hf
            exact absurd hf (by rw [lX11_mixHouseholds_23]; exact fun h => by cases h)
          | succ n ih =>
            intro a6 a7 hf
            rw [lX11_mixHouseholds_23] at hf
            refine j_iload C 3 dX11_mixHouseholds_23 rfl ?_
            refine j_bipush C (8 : Int32) rfl dX11_mixHouseholds_25 ?_
            refine j_icmp_ge C 50 dX11_mixHouseholds_27 (by decide) (fun c8 => ?_) (fun c8 => ?_)
            · replace hf := ip c8 hf
              refine j_sub [0, 1, 2] rfl ?_
              exact hx36 _ (Option.some.inj hf).symm
            · replace hf := ine c8 hf
              refine j_lload_n C 1 dX11_mixHouseholds_30 rfl rfl ?_
              refine j_aload_n C 0 dX11_mixHouseholds_31 rfl rfl ?_
              refine j_iload C 2 dX11_mixHouseholds_32 rfl ?_
              refine j_iload C 3 dX11_mixHouseholds_34 rfl ?_
              obtain ⟨o11, e9, hf⟩ := bd hf
              rcases o11 with kx | v10
              · replace hf : some _ = some _ := hf
                rw [← Option.some.inj hf] at hg38
                have hf := hg38
                replace hf : some _ = some _ := hf
                rw [← Option.some.inj hf] at hg33
                have hf := hg33
                replace hf : some _ = some _ := hf
                cases hf
              · replace hf := xcr hf
                refine j_callV C 2 lc0 (ent_K _ _ _ _ _ _) rfl (c_X11_household l G n0 e9) gv_RX11_325 ⟨rfl, rfl⟩ (by decide +kernel) ⟨Nat.le_of_ble_eq_true rfl, Nat.le_of_ble_eq_true rfl⟩ rfl rfl (Nat.le_of_ble_eq_true rfl) dX11_mixHouseholds_36 ?_
                refine j_i2l C dX11_mixHouseholds_39 ?_
                obtain ⟨v13, e12, hf⟩ := bd hf
                refine j_callS C 2 (c_X11_mix l G n0 (M := M) e12) gs_RX11_250 ⟨rfl, rfl⟩ (by decide +kernel) ⟨Nat.le_of_ble_eq_true rfl, Nat.le_of_ble_eq_true rfl⟩ rfl rfl (Nat.le_of_ble_eq_true rfl) dX11_mixHouseholds_40 ?_
                refine j_lstore_n C [(3, .long v13), (0, .ref (n0 + 0)), (5, .int a2), (6, .int a7)] dX11_mixHouseholds_43 rfl (Nat.le_of_ble_eq_true rfl) rfl ?_
                refine j_iinc C 3 (a7 + 1) [(6, .int (a7 + 1)), (3, .long v13), (0, .ref (n0 + 0)), (5, .int a2)] dX11_mixHouseholds_44 rfl rfl (Nat.le_of_ble_eq_true rfl) rfl ?_
                refine j_goto C 23 dX11_mixHouseholds_47 (by decide) ?_
                refine j_sub [2, 1, 3, 0] rfl ?_
                exact ih _ _ hf
        refine j_sub [1, 2, 3, 0] rfl ?_
        exact hl37 FUEL a1 (0 : Int32) e35
  refine j_sub [2, 1, 0] rfl ?_
  exact hl32 FUEL y1 (0 : Int32) e30
def lX11_mixBatches_23 (a2 : Int32) : Nat → Int64 → Int32 → Mem → Option ((Nat ⊕ (Int64 × Mem)) ⊕ (Int64 × Mem))
  | 0, _, _, _ => none
  | n + 1, a7, a8, M9 =>
  if (4 : Int32) ≤ a8 then (some (Sum.inr (a7, M9)))
  else ((fX11_batch a2 a8 M9).bind fun o14 => xc o14 (fun k => some (Sum.inl (Sum.inl k)))
  (un2 fun v12 M13 => (fX11_mix a7 v12.toInt64).bind fun v16 =>
  lX11_mixBatches_23 a2 n v16 (a8 + 1) M13))

def lX11_mixBatches_5  : Nat → Int64 → Int32 → Mem → Option ((Nat ⊕ (Int64 × Mem)) ⊕ (Int64 × Mem))
  | 0, _, _, _ => none
  | n + 1, a1, a2, M3 =>
  (fX1_size 9 M3).bind fun v5 =>
  if v5 ≤ a2 then (some (Sum.inr (a1, M3)))
  else ((lX11_mixBatches_23 a2 FUEL a1 (0 : Int32) M3).bind fun o => sB o (un2 fun a17 M18 => lX11_mixBatches_5  n a17 (a2 + 1) M18))

def fX11_mixBatches (y1 : Int64) (M : Mem) : Option (Nat ⊕ (Int64 × Mem)) :=
  (lX11_mixBatches_5 FUEL y1 (0 : Int32) M).bind fun o => s0 o (un2 fun a19 M20 => some (Sum.inr (a19, M20)))

def rX11_mixBatches : Room := { frames := 5, cells := 0, slots := 0, locals := 122 }
set_option maxRecDepth 100000 in
set_option maxHeartbeats 4000000 in
theorem c_X11_mixBatches (l : Launch) (G : Gx) (n0 : Nat) {y1 : Int64} {M : Mem} {r : Int64} {M' : Mem} (hf : fX11_mixBatches y1 M = some (Sum.inr (r, M'))) : Ct l yX11_mixBatches cX11_mixBatches 7 (some .long) rX11_mixBatches G n0 [.ref (n0 + 0), .long y1] M (some (.long r)) M' := by
  refine ct_long (cc := cX11_mixBatches) (maxL := 7) rfl (Nat.le_of_ble_eq_true rfl) ?_
  intro K C hret
  have C : Ok K l rX11_mixBatches cX11_mixBatches RX11 G n0 7 := C
  show J K M 0 [(0, .ref (n0 + 0)), (1, .long y1)] []
  unfold fX11_mixBatches at hf
  refine j_lload_n C 1 dX11_mixBatches_0 rfl rfl ?_
  refine j_lstore_n C [(3, .long y1), (0, .ref (n0 + 0)), (1, .long y1)] dX11_mixBatches_1 rfl (Nat.le_of_ble_eq_true rfl) rfl ?_
  refine j_iconst C (0 : Int32) rfl dX11_mixBatches_2 ?_
  refine j_istore C [(5, .int (0 : Int32)), (3, .long y1), (0, .ref (n0 + 0)), (1, .long y1)] dX11_mixBatches_3 (Nat.le_of_ble_eq_true rfl) rfl ?_
  obtain ⟨o25, e21, hg24⟩ := bd hf
  have hx22 : ∀ (a19 : Int64) (M20 : Mem), o25 = Sum.inr (a19, M20) → J K M20 55 [(3, .long a19)] [] := by
    intro a19 M20 ho
    rw [ho] at hg24
    replace hf := un2e (s0r hg24)
    refine j_lload_n C 0 dX11_mixBatches_55 rfl rfl ?_
    obtain ⟨rfl, rfl⟩ := Prod.mk.inj (Sum.inr.inj (Option.some.inj hf))
    exact hret _ _ dX11_mixBatches_56
  have hl23 : ∀ (n : Nat) (a1 : Int64) (a2 : Int32) (M3 : Mem), lX11_mixBatches_5 n a1 a2 M3 = some o25 → J K M3 5 [(0, .ref (n0 + 0)), (3, .long a1), (5, .int a2)] [] := by
    intro n
    induction n with
    | zero =>
      intro a1 a2 M3 hf
      exact absurd hf (by rw [lX11_mixBatches_5]; exact fun h => by cases h)
    | succ n ih =>
      intro a1 a2 M3 hf
      rw [lX11_mixBatches_5] at hf
      refine j_iload C 2 dX11_mixBatches_5 rfl ?_
      refine j_aload_n C 0 dX11_mixBatches_7 rfl rfl ?_
      refine g_X11_village C tw1_228 lc0 1 rfl dX11_mixBatches_8 ?_
      refine gN_X9_batches C (nxf_RX11_batches) lc1 9 rfl dX11_mixBatches_11 ?_
      obtain ⟨v5, e4, hf⟩ := bd hf
      refine j_callV C 0 lc9 (ent_K _ _ _ _ _ _) rfl (c_X1_size l G n0 lc9 e4) gv_RX11_175 ⟨rfl, rfl⟩ (by decide +kernel) ⟨Nat.le_of_ble_eq_true rfl, Nat.le_of_ble_eq_true rfl⟩ rfl rfl (Nat.le_of_ble_eq_true rfl) dX11_mixBatches_14 ?_
      refine j_icmp_ge C 55 dX11_mixBatches_17 (by decide) (fun c6 => ?_) (fun c6 => ?_)
      · replace hf := ip c6 hf
        refine j_sub [1] rfl ?_
        exact hx22 _ _ (Option.some.inj hf).symm
      · replace hf := ine c6 hf
        refine j_iconst C (0 : Int32) rfl dX11_mixBatches_20 ?_
        refine j_istore C [(6, .int (0 : Int32)), (0, .ref (n0 + 0)), (3, .long a1), (5, .int a2)] dX11_mixBatches_21 (Nat.le_of_ble_eq_true rfl) rfl ?_
        obtain ⟨o30, e26, hg29⟩ := bd hf
        have hx27 : ∀ (a17 : Int64) (M18 : Mem), o30 = Sum.inr (a17, M18) → J K M18 49 [(0, .ref (n0 + 0)), (3, .long a17), (5, .int a2)] [] := by
          intro a17 M18 ho
          rw [ho] at hg29
          replace hf := un2e (sBr hg29)
          refine j_iinc C 2 (a2 + 1) [(5, .int (a2 + 1)), (0, .ref (n0 + 0)), (3, .long a17)] dX11_mixBatches_49 rfl rfl (Nat.le_of_ble_eq_true rfl) rfl ?_
          refine j_goto C 5 dX11_mixBatches_52 (by decide) ?_
          refine j_sub [1, 2, 0] rfl ?_
          exact ih _ _ _ hf
        have hl28 : ∀ (n : Nat) (a7 : Int64) (a8 : Int32) (M9 : Mem), lX11_mixBatches_23 a2 n a7 a8 M9 = some o30 → J K M9 23 [(0, .ref (n0 + 0)), (3, .long a7), (5, .int a2), (6, .int a8)] [] := by
          intro n
          induction n with
          | zero =>
            intro a7 a8 M9 hf
            exact absurd hf (by rw [lX11_mixBatches_23]; exact fun h => by cases h)
          | succ n ih =>
            intro a7 a8 M9 hf
            rw [lX11_mixBatches_23] at hf
            refine j_iload C 3 dX11_mixBatches_23 rfl ?_
            refine j_iconst C (4 : Int32) rfl dX11_mixBatches_25 ?_
            refine j_icmp_ge C 49 dX11_mixBatches_26 (by decide) (fun c10 => ?_) (fun c10 => ?_)
            · replace hf := ip c10 hf
              refine j_sub [0, 1, 2] rfl ?_
              exact hx27 _ _ (Option.some.inj hf).symm
            · replace hf := ine c10 hf
              refine j_lload_n C 1 dX11_mixBatches_29 rfl rfl ?_
              refine j_aload_n C 0 dX11_mixBatches_30 rfl rfl ?_
              refine j_iload C 2 dX11_mixBatches_31 rfl ?_
              refine j_iload C 3 dX11_mixBatches_33 rfl ?_
              obtain ⟨o14, e11, hf⟩ := bd hf
              rcases o14 with kx | ⟨v12, M13⟩
              · replace hf : some _ = some _ := hf
                rw [← Option.some.inj hf] at hg29
                have hf := hg29
                replace hf : some _ = some _ := hf
                rw [← Option.some.inj hf] at hg24
                have hf := hg24
                replace hf : some _ = some _ := hf
                cases hf
              · replace hf := un2e (xcr hf)
                refine j_callV C 2 lc0 (ent_K _ _ _ _ _ _) rfl (c_X11_batch l G n0 e11) gv_RX11_334 ⟨rfl, rfl⟩ (by decide +kernel) ⟨Nat.le_of_ble_eq_true rfl, Nat.le_of_ble_eq_true rfl⟩ rfl rfl (Nat.le_of_ble_eq_true rfl) dX11_mixBatches_35 ?_
                refine j_i2l C dX11_mixBatches_38 ?_
                obtain ⟨v16, e15, hf⟩ := bd hf
                refine j_callS C 2 (c_X11_mix l G n0 (M := M13) e15) gs_RX11_250 ⟨rfl, rfl⟩ (by decide +kernel) ⟨Nat.le_of_ble_eq_true rfl, Nat.le_of_ble_eq_true rfl⟩ rfl rfl (Nat.le_of_ble_eq_true rfl) dX11_mixBatches_39 ?_
                refine j_lstore_n C [(3, .long v16), (0, .ref (n0 + 0)), (5, .int a2), (6, .int a8)] dX11_mixBatches_42 rfl (Nat.le_of_ble_eq_true rfl) rfl ?_
                refine j_iinc C 3 (a8 + 1) [(6, .int (a8 + 1)), (3, .long v16), (0, .ref (n0 + 0)), (5, .int a2)] dX11_mixBatches_43 rfl rfl (Nat.le_of_ble_eq_true rfl) rfl ?_
                refine j_goto C 23 dX11_mixBatches_46 (by decide) ?_
                refine j_sub [2, 1, 3, 0] rfl ?_
                exact ih _ _ _ hf
        refine j_sub [1, 2, 3, 0] rfl ?_
        exact hl28 FUEL a1 (0 : Int32) M3 e26
  refine j_sub [2, 1, 0] rfl ?_
  exact hl23 FUEL y1 (0 : Int32) M e21
def lX11_mixLoaves_40 (M : Mem) (a4 : Int32) : Nat → Int64 → Int32 → Option ((Nat ⊕ Int64) ⊕ Int64)
  | 0, _, _ => none
  | n + 1, a10, a11 =>
  if (7 : Int32) ≤ a11 then (some (Sum.inr a10))
  else ((fX11_loaf a4 a11 M).bind fun o15 => xc o15 (fun k => some (Sum.inl (Sum.inl k)))
  (fun v14 => (fX11_mix a10 v14.toInt64).bind fun v17 =>
  lX11_mixLoaves_40 M a4 n v17 (a11 + 1)))

def lX11_mixLoaves_14 (M : Mem) : Nat → Int64 → Int32 → Option ((Nat ⊕ Int64) ⊕ Int64)
  | 0, _, _ => none
  | n + 1, a3, a4 =>
  (fX6_cameOut 23 M).bind fun v6 =>
  if v6 ≤ a4 then (some (Sum.inr a3))
  else ((fX11_mix a3 a4.toInt64).bind fun v9 =>
  (lX11_mixLoaves_40 M a4 FUEL v9 (0 : Int32)).bind fun o => sB o (fun a18 => lX11_mixLoaves_14 M n a18 (a4 + 1)))

def fX11_mixLoaves (y1 : Int64) (M : Mem) : Option (Nat ⊕ Int64) :=
  (fX6_firstKept 23 M).bind fun v2 =>
  (lX11_mixLoaves_14 M FUEL y1 v2).bind fun o => s0 o (fun a19 => some (Sum.inr a19))

def rX11_mixLoaves : Room := { frames := 5, cells := 0, slots := 0, locals := 96 }
set_option maxRecDepth 100000 in
set_option maxHeartbeats 4000000 in
theorem c_X11_mixLoaves (l : Launch) (G : Gx) (n0 : Nat) {y1 : Int64} {M : Mem} {r : Int64} (hf : fX11_mixLoaves y1 M = some (Sum.inr r)) : Ct l yX11_mixLoaves cX11_mixLoaves 7 (some .long) rX11_mixLoaves G n0 [.ref (n0 + 0), .long y1] M (some (.long r)) M := by
  refine ct_long (cc := cX11_mixLoaves) (maxL := 7) rfl (Nat.le_of_ble_eq_true rfl) ?_
  intro K C hret
  have C : Ok K l rX11_mixLoaves cX11_mixLoaves RX11 G n0 7 := C
  show J K M 0 [(0, .ref (n0 + 0)), (1, .long y1)] []
  unfold fX11_mixLoaves at hf
  refine j_lload_n C 1 dX11_mixLoaves_0 rfl rfl ?_
  refine j_lstore_n C [(3, .long y1), (0, .ref (n0 + 0)), (1, .long y1)] dX11_mixLoaves_1 rfl (Nat.le_of_ble_eq_true rfl) rfl ?_
  refine j_aload_n C 1 dX11_mixLoaves_2 rfl rfl ?_
  refine g_X11_village C tw1_228 lc0 1 rfl dX11_mixLoaves_3 ?_
  refine gN_X9_loaves C (nxf_RX11_loaves) lc1 23 rfl dX11_mixLoaves_6 ?_
  obtain ⟨v2, e1, hf⟩ := bd hf
  refine j_callV C 0 lc23 (ent_K _ _ _ _ _ _) rfl (c_X6_firstKept l G n0 lc23 e1) gv_RX11_337 ⟨rfl, rfl⟩ (by decide +kernel) ⟨Nat.le_of_ble_eq_true rfl, Nat.le_of_ble_eq_true rfl⟩ rfl rfl (Nat.le_of_ble_eq_true rfl) dX11_mixLoaves_9 ?_
  refine j_istore C [(5, .int v2), (3, .long y1), (0, .ref (n0 + 0)), (1, .long y1)] dX11_mixLoaves_12 (Nat.le_of_ble_eq_true rfl) rfl ?_
  obtain ⟨o24, e20, hg23⟩ := bd hf
  have hx21 : ∀ (a19 : Int64), o24 = Sum.inr a19 → J K M 73 [(3, .long a19)] [] := by
    intro a19 ho
    rw [ho] at hg23
    replace hf := s0r hg23
    refine j_lload_n C 0 dX11_mixLoaves_73 rfl rfl ?_
    obtain rfl := Sum.inr.inj (Option.some.inj hf)
    exact hret _ _ dX11_mixLoaves_74
  have hl22 : ∀ (n : Nat) (a3 : Int64) (a4 : Int32), lX11_mixLoaves_14 M n a3 a4 = some o24 → J K M 14 [(0, .ref (n0 + 0)), (3, .long a3), (5, .int a4)] [] := by
    intro n
    induction n with
    | zero =>
      intro a3 a4 hf
      exact absurd hf (by rw [lX11_mixLoaves_14]; exact fun h => by cases h)
    | succ n ih =>
      intro a3 a4 hf
      rw [lX11_mixLoaves_14] at hf
      refine j_iload C 2 dX11_mixLoaves_14 rfl ?_
      refine j_aload_n C 0 dX11_mixLoaves_16 rfl rfl ?_
      refine g_X11_village C tw1_228 lc0 1 rfl dX11_mixLoaves_17 ?_
      refine gN_X9_loaves C (nxf_RX11_loaves) lc1 23 rfl dX11_mixLoaves_20 ?_
      obtain ⟨v6, e5, hf⟩ := bd hf
      refine j_callV C 0 lc23 (ent_K _ _ _ _ _ _) rfl (c_X6_cameOut l G n0 lc23 e5) gv_RX11_182 ⟨rfl, rfl⟩ (by decide +kernel) ⟨Nat.le_of_ble_eq_true rfl, Nat.le_of_ble_eq_true rfl⟩ rfl rfl (Nat.le_of_ble_eq_true rfl) dX11_mixLoaves_23 ?_
      refine j_icmp_ge C 73 dX11_mixLoaves_26 (by decide) (fun c7 => ?_) (fun c7 => ?_)
      · replace hf := ip c7 hf
        refine j_sub [1] rfl ?_
        exact hx21 _ (Option.some.inj hf).symm
      · replace hf := ine c7 hf
        refine j_lload_n C 1 dX11_mixLoaves_29 rfl rfl ?_
        refine j_iload C 2 dX11_mixLoaves_30 rfl ?_
        refine j_i2l C dX11_mixLoaves_32 ?_
        obtain ⟨v9, e8, hf⟩ := bd hf
        refine j_callS C 2 (c_X11_mix l G n0 (M := M) e8) gs_RX11_250 ⟨rfl, rfl⟩ (by decide +kernel) ⟨Nat.le_of_ble_eq_true rfl, Nat.le_of_ble_eq_true rfl⟩ rfl rfl (Nat.le_of_ble_eq_true rfl) dX11_mixLoaves_33 ?_
        refine j_lstore_n C [(3, .long v9), (0, .ref (n0 + 0)), (5, .int a4)] dX11_mixLoaves_36 rfl (Nat.le_of_ble_eq_true rfl) rfl ?_
        refine j_iconst C (0 : Int32) rfl dX11_mixLoaves_37 ?_
        refine j_istore C [(6, .int (0 : Int32)), (3, .long v9), (0, .ref (n0 + 0)), (5, .int a4)] dX11_mixLoaves_38 (Nat.le_of_ble_eq_true rfl) rfl ?_
        obtain ⟨o29, e25, hg28⟩ := bd hf
        have hx26 : ∀ (a18 : Int64), o29 = Sum.inr a18 → J K M 67 [(0, .ref (n0 + 0)), (3, .long a18), (5, .int a4)] [] := by
          intro a18 ho
          rw [ho] at hg28
          replace hf := sBr hg28
          refine j_iinc C 2 (a4 + 1) [(5, .int (a4 + 1)), (0, .ref (n0 + 0)), (3, .long a18)] dX11_mixLoaves_67 rfl rfl (Nat.le_of_ble_eq_true rfl) rfl ?_
          refine j_goto C 14 dX11_mixLoaves_70 (by decide) ?_
          refine j_sub [1, 2, 0] rfl ?_
          exact ih _ _ hf
        have hl27 : ∀ (n : Nat) (a10 : Int64) (a11 : Int32), lX11_mixLoaves_40 M a4 n a10 a11 = some o29 → J K M 40 [(0, .ref (n0 + 0)), (3, .long a10), (5, .int a4), (6, .int a11)] [] := by
          intro n
          induction n with
          | zero =>
            intro a10 a11 hf
            exact absurd hf (by rw [lX11_mixLoaves_40]; exact fun h => by cases h)
          | succ n ih =>
            intro a10 a11 hf
            rw [lX11_mixLoaves_40] at hf
            refine j_iload C 3 dX11_mixLoaves_40 rfl ?_
            refine j_bipush C (7 : Int32) rfl dX11_mixLoaves_42 ?_
            refine j_icmp_ge C 67 dX11_mixLoaves_44 (by decide) (fun c12 => ?_) (fun c12 => ?_)
            · replace hf := ip c12 hf
              refine j_sub [0, 1, 2] rfl ?_
              exact hx26 _ (Option.some.inj hf).symm
            · replace hf := ine c12 hf
              refine j_lload_n C 1 dX11_mixLoaves_47 rfl rfl ?_
              refine j_aload_n C 0 dX11_mixLoaves_48 rfl rfl ?_
              refine j_iload C 2 dX11_mixLoaves_49 rfl ?_
              refine j_iload C 3 dX11_mixLoaves_51 rfl ?_
              obtain ⟨o15, e13, hf⟩ := bd hf
              rcases o15 with kx | v14
              · replace hf : some _ = some _ := hf
                rw [← Option.some.inj hf] at hg28
                have hf := hg28
                replace hf : some _ = some _ := hf
                rw [← Option.some.inj hf] at hg23
                have hf := hg23
                replace hf : some _ = some _ := hf
                cases hf
              · replace hf := xcr hf
                refine j_callV C 2 lc0 (ent_K _ _ _ _ _ _) rfl (c_X11_loaf l G n0 e13) gv_RX11_340 ⟨rfl, rfl⟩ (by decide +kernel) ⟨Nat.le_of_ble_eq_true rfl, Nat.le_of_ble_eq_true rfl⟩ rfl rfl (Nat.le_of_ble_eq_true rfl) dX11_mixLoaves_53 ?_
                refine j_i2l C dX11_mixLoaves_56 ?_
                obtain ⟨v17, e16, hf⟩ := bd hf
                refine j_callS C 2 (c_X11_mix l G n0 (M := M) e16) gs_RX11_250 ⟨rfl, rfl⟩ (by decide +kernel) ⟨Nat.le_of_ble_eq_true rfl, Nat.le_of_ble_eq_true rfl⟩ rfl rfl (Nat.le_of_ble_eq_true rfl) dX11_mixLoaves_57 ?_
                refine j_lstore_n C [(3, .long v17), (0, .ref (n0 + 0)), (5, .int a4), (6, .int a11)] dX11_mixLoaves_60 rfl (Nat.le_of_ble_eq_true rfl) rfl ?_
                refine j_iinc C 3 (a11 + 1) [(6, .int (a11 + 1)), (3, .long v17), (0, .ref (n0 + 0)), (5, .int a4)] dX11_mixLoaves_61 rfl rfl (Nat.le_of_ble_eq_true rfl) rfl ?_
                refine j_goto C 40 dX11_mixLoaves_64 (by decide) ?_
                refine j_sub [2, 1, 3, 0] rfl ?_
                exact ih _ _ hf
        refine j_sub [2, 1, 3, 0] rfl ?_
        exact hl27 FUEL v9 (0 : Int32) e25
  refine j_sub [2, 1, 0] rfl ?_
  exact hl22 FUEL y1 v2 e20
def lX11_mixLoads_23 (M : Mem) (a2 : Int32) : Nat → Int64 → Int32 → Option ((Nat ⊕ Int64) ⊕ Int64)
  | 0, _, _ => none
  | n + 1, a6, a7 =>
  if (5 : Int32) ≤ a7 then (some (Sum.inr a6))
  else ((fX11_load a2 a7 M).bind fun o11 => xc o11 (fun k => some (Sum.inl (Sum.inl k)))
  (fun v10 => (fX11_mix a6 v10.toInt64).bind fun v13 =>
  lX11_mixLoads_23 M a2 n v13 (a7 + 1)))

def lX11_mixLoads_5 (M : Mem) : Nat → Int64 → Int32 → Option ((Nat ⊕ Int64) ⊕ Int64)
  | 0, _, _ => none
  | n + 1, a1, a2 =>
  (fX5_size 15 M).bind fun v4 =>
  if v4 ≤ a2 then (some (Sum.inr a1))
  else ((lX11_mixLoads_23 M a2 FUEL a1 (0 : Int32)).bind fun o => sB o (fun a14 => lX11_mixLoads_5 M n a14 (a2 + 1)))

def fX11_mixLoads (y1 : Int64) (M : Mem) : Option (Nat ⊕ Int64) :=
  (lX11_mixLoads_5 M FUEL y1 (0 : Int32)).bind fun o => s0 o (fun a15 => some (Sum.inr a15))

def rX11_mixLoads : Room := { frames := 3, cells := 0, slots := 0, locals := 66 }
set_option maxRecDepth 100000 in
set_option maxHeartbeats 4000000 in
theorem c_X11_mixLoads (l : Launch) (G : Gx) (n0 : Nat) {y1 : Int64} {M : Mem} {r : Int64} (hf : fX11_mixLoads y1 M = some (Sum.inr r)) : Ct l yX11_mixLoads cX11_mixLoads 7 (some .long) rX11_mixLoads G n0 [.ref (n0 + 0), .long y1] M (some (.long r)) M := by
  refine ct_long (cc := cX11_mixLoads) (maxL := 7) rfl (Nat.le_of_ble_eq_true rfl) ?_
  intro K C hret
  have C : Ok K l rX11_mixLoads cX11_mixLoads RX11 G n0 7 := C
  show J K M 0 [(0, .ref (n0 + 0)), (1, .long y1)] []
  unfold fX11_mixLoads at hf
  refine j_lload_n C 1 dX11_mixLoads_0 rfl rfl ?_
  refine j_lstore_n C [(3, .long y1), (0, .ref (n0 + 0)), (1, .long y1)] dX11_mixLoads_1 rfl (Nat.le_of_ble_eq_true rfl) rfl ?_
  refine j_iconst C (0 : Int32) rfl dX11_mixLoads_2 ?_
  refine j_istore C [(5, .int (0 : Int32)), (3, .long y1), (0, .ref (n0 + 0)), (1, .long y1)] dX11_mixLoads_3 (Nat.le_of_ble_eq_true rfl) rfl ?_
  obtain ⟨o20, e16, hg19⟩ := bd hf
  have hx17 : ∀ (a15 : Int64), o20 = Sum.inr a15 → J K M 55 [(3, .long a15)] [] := by
    intro a15 ho
    rw [ho] at hg19
    replace hf := s0r hg19
    refine j_lload_n C 0 dX11_mixLoads_55 rfl rfl ?_
    obtain rfl := Sum.inr.inj (Option.some.inj hf)
    exact hret _ _ dX11_mixLoads_56
  have hl18 : ∀ (n : Nat) (a1 : Int64) (a2 : Int32), lX11_mixLoads_5 M n a1 a2 = some o20 → J K M 5 [(0, .ref (n0 + 0)), (3, .long a1), (5, .int a2)] [] := by
    intro n
    induction n with
    | zero =>
      intro a1 a2 hf
      exact absurd hf (by rw [lX11_mixLoads_5]; exact fun h => by cases h)
    | succ n ih =>
      intro a1 a2 hf
      rw [lX11_mixLoads_5] at hf
      refine j_iload C 2 dX11_mixLoads_5 rfl ?_
      refine j_aload_n C 0 dX11_mixLoads_7 rfl rfl ?_
      refine g_X11_village C tw1_228 lc0 1 rfl dX11_mixLoads_8 ?_
      refine gN_X9_loads C (nxf_RX11_loads) lc1 15 rfl dX11_mixLoads_11 ?_
      obtain ⟨v4, e3, hf⟩ := bd hf
      refine j_callV C 0 lc15 (ent_K _ _ _ _ _ _) rfl (c_X5_size l G n0 lc15 e3) gv_RX11_162 ⟨rfl, rfl⟩ (by decide +kernel) ⟨Nat.le_of_ble_eq_true rfl, Nat.le_of_ble_eq_true rfl⟩ rfl rfl (Nat.le_of_ble_eq_true rfl) dX11_mixLoads_14 ?_
      refine j_icmp_ge C 55 dX11_mixLoads_17 (by decide) (fun c5 => ?_) (fun c5 => ?_)
      · replace hf := ip c5 hf
        refine j_sub [1] rfl ?_
        exact hx17 _ (Option.some.inj hf).symm
      · replace hf := ine c5 hf
        refine j_iconst C (0 : Int32) rfl dX11_mixLoads_20 ?_
        refine j_istore C [(6, .int (0 : Int32)), (0, .ref (n0 + 0)), (3, .long a1), (5, .int a2)] dX11_mixLoads_21 (Nat.le_of_ble_eq_true rfl) rfl ?_
        obtain ⟨o25, e21, hg24⟩ := bd hf
        have hx22 : ∀ (a14 : Int64), o25 = Sum.inr a14 → J K M 49 [(0, .ref (n0 + 0)), (3, .long a14), (5, .int a2)] [] := by
          intro a14 ho
          rw [ho] at hg24
          replace hf := sBr hg24
          refine j_iinc C 2 (a2 + 1) [(5, .int (a2 + 1)), (0, .ref (n0 + 0)), (3, .long a14)] dX11_mixLoads_49 rfl rfl (Nat.le_of_ble_eq_true rfl) rfl ?_
          refine j_goto C 5 dX11_mixLoads_52 (by decide) ?_
          refine j_sub [1, 2, 0] rfl ?_
          exact ih _ _ hf
        have hl23 : ∀ (n : Nat) (a6 : Int64) (a7 : Int32), lX11_mixLoads_23 M a2 n a6 a7 = some o25 → J K M 23 [(0, .ref (n0 + 0)), (3, .long a6), (5, .int a2), (6, .int a7)] [] := by
          intro n
          induction n with
          | zero =>
            intro a6 a7 hf
            exact absurd hf (by rw [lX11_mixLoads_23]; exact fun h => by cases h)
          | succ n ih =>
            intro a6 a7 hf
            rw [lX11_mixLoads_23] at hf
            refine j_iload C 3 dX11_mixLoads_23 rfl ?_
            refine j_iconst C (5 : Int32) rfl dX11_mixLoads_25 ?_
            refine j_icmp_ge C 49 dX11_mixLoads_26 (by decide) (fun c8 => ?_) (fun c8 => ?_)
            · replace hf := ip c8 hf
              refine j_sub [0, 1, 2] rfl ?_
              exact hx22 _ (Option.some.inj hf).symm
            · replace hf := ine c8 hf
              refine j_lload_n C 1 dX11_mixLoads_29 rfl rfl ?_
              refine j_aload_n C 0 dX11_mixLoads_30 rfl rfl ?_
              refine j_iload C 2 dX11_mixLoads_31 rfl ?_
              refine j_iload C 3 dX11_mixLoads_33 rfl ?_
              obtain ⟨o11, e9, hf⟩ := bd hf
              rcases o11 with kx | v10
              · replace hf : some _ = some _ := hf
                rw [← Option.some.inj hf] at hg24
                have hf := hg24
                replace hf : some _ = some _ := hf
                rw [← Option.some.inj hf] at hg19
                have hf := hg19
                replace hf : some _ = some _ := hf
                cases hf
              · replace hf := xcr hf
                refine j_callV C 2 lc0 (ent_K _ _ _ _ _ _) rfl (c_X11_load l G n0 e9) gv_RX11_343 ⟨rfl, rfl⟩ (by decide +kernel) ⟨Nat.le_of_ble_eq_true rfl, Nat.le_of_ble_eq_true rfl⟩ rfl rfl (Nat.le_of_ble_eq_true rfl) dX11_mixLoads_35 ?_
                refine j_i2l C dX11_mixLoads_38 ?_
                obtain ⟨v13, e12, hf⟩ := bd hf
                refine j_callS C 2 (c_X11_mix l G n0 (M := M) e12) gs_RX11_250 ⟨rfl, rfl⟩ (by decide +kernel) ⟨Nat.le_of_ble_eq_true rfl, Nat.le_of_ble_eq_true rfl⟩ rfl rfl (Nat.le_of_ble_eq_true rfl) dX11_mixLoads_39 ?_
                refine j_lstore_n C [(3, .long v13), (0, .ref (n0 + 0)), (5, .int a2), (6, .int a7)] dX11_mixLoads_42 rfl (Nat.le_of_ble_eq_true rfl) rfl ?_
                refine j_iinc C 3 (a7 + 1) [(6, .int (a7 + 1)), (3, .long v13), (0, .ref (n0 + 0)), (5, .int a2)] dX11_mixLoads_43 rfl rfl (Nat.le_of_ble_eq_true rfl) rfl ?_
                refine j_goto C 23 dX11_mixLoads_46 (by decide) ?_
                refine j_sub [2, 1, 3, 0] rfl ?_
                exact ih _ _ hf
        refine j_sub [1, 2, 3, 0] rfl ?_
        exact hl23 FUEL a1 (0 : Int32) e21
  refine j_sub [2, 1, 0] rfl ?_
  exact hl18 FUEL y1 (0 : Int32) e16
def lX11_digest_42 (M : Mem) : Nat → Int64 → Int32 → Option ((Nat ⊕ (Int64 × Mem)) ⊕ Int64)
  | 0, _, _ => none
  | n + 1, a13, a14 =>
  if (14 : Int32) ≤ a14 then (some (Sum.inr a13))
  else ((fX11_whole a14 M).bind fun o18 => xc o18 (fun k => some (Sum.inl (Sum.inl k)))
  (fun v17 => (fX11_mix a13 v17.toInt64).bind fun v20 =>
  lX11_digest_42 M n v20 (a14 + 1)))

def fX11_digest  (M : Mem) : Option (Nat ⊕ (Int64 × Mem)) :=
  (fX8_size M).bind fun v2 =>
  (fX11_mix (43087 : Int64) v2.toInt64).bind fun v4 =>
  (fX2_length M).bind fun v6 =>
  (fX11_mix v4 v6.toInt64).bind fun v8 =>
  (fX11_stop M).bind fun v10 =>
  (fX11_mix v8 v10.toInt64).bind fun v12 =>
  (lX11_digest_42 M FUEL v12 (0 : Int32)).bind fun o => s0 o (fun a21 => (fX11_mixHouseholds a21 M).bind fun o24 => xc o24 (fun k => some (Sum.inl k))
  (fun v23 => (fX11_nextForWood M).bind fun v26 =>
  (fX11_mix v23 v26.toInt64).bind fun v28 =>
  (fX11_mixBatches v28 M).bind fun o32 => xc o32 (fun k => some (Sum.inl k))
  (un2 fun v30 M31 => (fX11_mixLoaves v30 M31).bind fun o35 => xc o35 (fun k => some (Sum.inl k))
  (fun v34 => (fX11_mixLoads v34 M31).bind fun o38 => xc o38 (fun k => some (Sum.inl k))
  (fun v37 => (fX11_likeMarks M31).bind fun v40 =>
  (fX11_mix v37 v40.toInt64).bind fun v42 =>
  some (Sum.inr (v42, M31)))))))

def rX11_digest : Room := { frames := 6, cells := 0, slots := 0, locals := 148 }
set_option maxRecDepth 100000 in
set_option maxHeartbeats 4000000 in
theorem c_X11_digest (l : Launch) (G : Gx) (n0 : Nat) {M : Mem} {r : Int64} {M' : Mem} (hf : fX11_digest M = some (Sum.inr (r, M'))) : Ct l yX11_digest cX11_digest 4 (some .long) rX11_digest G n0 [.ref (n0 + 0)] M (some (.long r)) M' := by
  refine ct_long (cc := cX11_digest) (maxL := 4) rfl (Nat.le_of_ble_eq_true rfl) ?_
  intro K C hret
  have C : Ok K l rX11_digest cX11_digest RX11 G n0 4 := C
  show J K M 0 [(0, .ref (n0 + 0))] []
  unfold fX11_digest at hf
  refine j_ldc2 C tw4_43 dX11_digest_0 ?_
  refine j_lstore_n C [(1, .long (43087 : Int64)), (0, .ref (n0 + 0))] dX11_digest_3 rfl (Nat.le_of_ble_eq_true rfl) rfl ?_
  refine j_lload_n C 0 dX11_digest_4 rfl rfl ?_
  refine j_aload_n C 1 dX11_digest_5 rfl rfl ?_
  refine g_X11_undoStack C tw1_230 lc0 45 rfl dX11_digest_6 ?_
  obtain ⟨v2, e1, hf⟩ := bd hf
  refine j_callV C 0 lc45 (ent_K _ _ _ _ _ _) rfl (c_X8_size l G n0 e1) gv_RX11_243 ⟨rfl, rfl⟩ (by decide +kernel) ⟨Nat.le_of_ble_eq_true rfl, Nat.le_of_ble_eq_true rfl⟩ rfl rfl (Nat.le_of_ble_eq_true rfl) dX11_digest_9 ?_
  refine j_i2l C dX11_digest_12 ?_
  obtain ⟨v4, e3, hf⟩ := bd hf
  refine j_callS C 2 (c_X11_mix l G n0 (M := M) e3) gs_RX11_250 ⟨rfl, rfl⟩ (by decide +kernel) ⟨Nat.le_of_ble_eq_true rfl, Nat.le_of_ble_eq_true rfl⟩ rfl rfl (Nat.le_of_ble_eq_true rfl) dX11_digest_13 ?_
  refine j_lstore_n C [(1, .long v4), (0, .ref (n0 + 0))] dX11_digest_16 rfl (Nat.le_of_ble_eq_true rfl) rfl ?_
  refine j_lload_n C 0 dX11_digest_17 rfl rfl ?_
  refine j_aload_n C 1 dX11_digest_18 rfl rfl ?_
  refine g_X11_text C tw1_231 lc0 175 rfl dX11_digest_19 ?_
  obtain ⟨v6, e5, hf⟩ := bd hf
  refine j_callV C 0 lc175 (ent_K _ _ _ _ _ _) rfl (c_X2_length l G n0 e5) gv_RX11_254 ⟨rfl, rfl⟩ (by decide +kernel) ⟨Nat.le_of_ble_eq_true rfl, Nat.le_of_ble_eq_true rfl⟩ rfl rfl (Nat.le_of_ble_eq_true rfl) dX11_digest_22 ?_
  refine j_i2l C dX11_digest_25 ?_
  obtain ⟨v8, e7, hf⟩ := bd hf
  refine j_callS C 2 (c_X11_mix l G n0 (M := M) e7) gs_RX11_250 ⟨rfl, rfl⟩ (by decide +kernel) ⟨Nat.le_of_ble_eq_true rfl, Nat.le_of_ble_eq_true rfl⟩ rfl rfl (Nat.le_of_ble_eq_true rfl) dX11_digest_26 ?_
  refine j_lstore_n C [(1, .long v8), (0, .ref (n0 + 0))] dX11_digest_29 rfl (Nat.le_of_ble_eq_true rfl) rfl ?_
  refine j_lload_n C 0 dX11_digest_30 rfl rfl ?_
  refine j_aload_n C 1 dX11_digest_31 rfl rfl ?_
  obtain ⟨v10, e9, hf⟩ := bd hf
  refine j_callV C 0 lc0 (ent_K _ _ _ _ _ _) rfl (c_X11_stop l G n0 e9) gv_RX11_257 ⟨rfl, rfl⟩ (by decide +kernel) ⟨Nat.le_of_ble_eq_true rfl, Nat.le_of_ble_eq_true rfl⟩ rfl rfl (Nat.le_of_ble_eq_true rfl) dX11_digest_32 ?_
  refine j_i2l C dX11_digest_35 ?_
  obtain ⟨v12, e11, hf⟩ := bd hf
  refine j_callS C 2 (c_X11_mix l G n0 (M := M) e11) gs_RX11_250 ⟨rfl, rfl⟩ (by decide +kernel) ⟨Nat.le_of_ble_eq_true rfl, Nat.le_of_ble_eq_true rfl⟩ rfl rfl (Nat.le_of_ble_eq_true rfl) dX11_digest_36 ?_
  refine j_lstore_n C [(1, .long v12), (0, .ref (n0 + 0))] dX11_digest_39 rfl (Nat.le_of_ble_eq_true rfl) rfl ?_
  refine j_iconst C (0 : Int32) rfl dX11_digest_40 ?_
  refine j_istore_n C [(3, .int (0 : Int32)), (1, .long v12), (0, .ref (n0 + 0))] dX11_digest_41 rfl (Nat.le_of_ble_eq_true rfl) rfl ?_
  obtain ⟨o47, e43, hg46⟩ := bd hf
  have hx44 : ∀ (a21 : Int64), o47 = Sum.inr a21 → J K M 65 [(0, .ref (n0 + 0)), (1, .long a21)] [] := by
    intro a21 ho
    rw [ho] at hg46
    replace hf := s0r hg46
    refine j_aload_n C 0 dX11_digest_65 rfl rfl ?_
    refine j_lload_n C 1 dX11_digest_66 rfl rfl ?_
    obtain ⟨o24, e22, hf⟩ := bd hf
    rcases o24 with kx | v23
    · replace hf : some _ = some _ := hf
      cases hf
    · replace hf := xcr hf
      refine j_callV C 1 lc0 (ent_K _ _ _ _ _ _) rfl (c_X11_mixHouseholds l G n0 e22) gv_RX11_262 ⟨rfl, rfl⟩ (by decide +kernel) ⟨Nat.le_of_ble_eq_true rfl, Nat.le_of_ble_eq_true rfl⟩ rfl rfl (Nat.le_of_ble_eq_true rfl) dX11_digest_67 ?_
      refine j_lstore_n C [(1, .long v23), (0, .ref (n0 + 0))] dX11_digest_70 rfl (Nat.le_of_ble_eq_true rfl) rfl ?_
      refine j_lload_n C 0 dX11_digest_71 rfl rfl ?_
      refine j_aload_n C 1 dX11_digest_72 rfl rfl ?_
      obtain ⟨v26, e25, hf⟩ := bd hf
      refine j_callV C 0 lc0 (ent_K _ _ _ _ _ _) rfl (c_X11_nextForWood l G n0 e25) gv_RX11_266 ⟨rfl, rfl⟩ (by decide +kernel) ⟨Nat.le_of_ble_eq_true rfl, Nat.le_of_ble_eq_true rfl⟩ rfl rfl (Nat.le_of_ble_eq_true rfl) dX11_digest_73 ?_
      refine j_i2l C dX11_digest_76 ?_
      obtain ⟨v28, e27, hf⟩ := bd hf
      refine j_callS C 2 (c_X11_mix l G n0 (M := M) e27) gs_RX11_250 ⟨rfl, rfl⟩ (by decide +kernel) ⟨Nat.le_of_ble_eq_true rfl, Nat.le_of_ble_eq_true rfl⟩ rfl rfl (Nat.le_of_ble_eq_true rfl) dX11_digest_77 ?_
      refine j_lstore_n C [(1, .long v28), (0, .ref (n0 + 0))] dX11_digest_80 rfl (Nat.le_of_ble_eq_true rfl) rfl ?_
      refine j_aload_n C 1 dX11_digest_81 rfl rfl ?_
      refine j_lload_n C 0 dX11_digest_82 rfl rfl ?_
      obtain ⟨o32, e29, hf⟩ := bd hf
      rcases o32 with kx | ⟨v30, M31⟩
      · replace hf : some _ = some _ := hf
        cases hf
      · replace hf := un2e (xcr hf)
        refine j_callV C 1 lc0 (ent_K _ _ _ _ _ _) rfl (c_X11_mixBatches l G n0 e29) gv_RX11_269 ⟨rfl, rfl⟩ (by decide +kernel) ⟨Nat.le_of_ble_eq_true rfl, Nat.le_of_ble_eq_true rfl⟩ rfl rfl (Nat.le_of_ble_eq_true rfl) dX11_digest_83 ?_
        refine j_lstore_n C [(1, .long v30), (0, .ref (n0 + 0))] dX11_digest_86 rfl (Nat.le_of_ble_eq_true rfl) rfl ?_
        refine j_aload_n C 1 dX11_digest_87 rfl rfl ?_
        refine j_lload_n C 0 dX11_digest_88 rfl rfl ?_
        obtain ⟨o35, e33, hf⟩ := bd hf
        rcases o35 with kx | v34
        · replace hf : some _ = some _ := hf
          cases hf
        · replace hf := xcr hf
          refine j_callV C 1 lc0 (ent_K _ _ _ _ _ _) rfl (c_X11_mixLoaves l G n0 e33) gv_RX11_272 ⟨rfl, rfl⟩ (by decide +kernel) ⟨Nat.le_of_ble_eq_true rfl, Nat.le_of_ble_eq_true rfl⟩ rfl rfl (Nat.le_of_ble_eq_true rfl) dX11_digest_89 ?_
          refine j_lstore_n C [(1, .long v34), (0, .ref (n0 + 0))] dX11_digest_92 rfl (Nat.le_of_ble_eq_true rfl) rfl ?_
          refine j_aload_n C 1 dX11_digest_93 rfl rfl ?_
          refine j_lload_n C 0 dX11_digest_94 rfl rfl ?_
          obtain ⟨o38, e36, hf⟩ := bd hf
          rcases o38 with kx | v37
          · replace hf : some _ = some _ := hf
            cases hf
          · replace hf := xcr hf
            refine j_callV C 1 lc0 (ent_K _ _ _ _ _ _) rfl (c_X11_mixLoads l G n0 e36) gv_RX11_275 ⟨rfl, rfl⟩ (by decide +kernel) ⟨Nat.le_of_ble_eq_true rfl, Nat.le_of_ble_eq_true rfl⟩ rfl rfl (Nat.le_of_ble_eq_true rfl) dX11_digest_95 ?_
            refine j_lstore_n C [(1, .long v37), (0, .ref (n0 + 0))] dX11_digest_98 rfl (Nat.le_of_ble_eq_true rfl) rfl ?_
            refine j_lload_n C 0 dX11_digest_99 rfl rfl ?_
            refine j_aload_n C 1 dX11_digest_100 rfl rfl ?_
            obtain ⟨v40, e39, hf⟩ := bd hf
            refine j_callV C 0 lc0 (ent_K _ _ _ _ _ _) rfl (c_X11_likeMarks l G n0 e39) gv_RX11_278 ⟨rfl, rfl⟩ (by decide +kernel) ⟨Nat.le_of_ble_eq_true rfl, Nat.le_of_ble_eq_true rfl⟩ rfl rfl (Nat.le_of_ble_eq_true rfl) dX11_digest_101 ?_
            refine j_i2l C dX11_digest_104 ?_
            obtain ⟨v42, e41, hf⟩ := bd hf
            refine j_callS C 2 (c_X11_mix l G n0 (M := M31) e41) gs_RX11_250 ⟨rfl, rfl⟩ (by decide +kernel) ⟨Nat.le_of_ble_eq_true rfl, Nat.le_of_ble_eq_true rfl⟩ rfl rfl (Nat.le_of_ble_eq_true rfl) dX11_digest_105 ?_
            obtain ⟨rfl, rfl⟩ := Prod.mk.inj (Sum.inr.inj (Option.some.inj hf))
            exact hret _ _ dX11_digest_108
  have hl45 : ∀ (n : Nat) (a13 : Int64) (a14 : Int32), lX11_digest_42 M n a13 a14 = some o47 → J K M 42 [(0, .ref (n0 + 0)), (1, .long a13), (3, .int a14)] [] := by
    intro n
    induction n with
    | zero =>
      intro a13 a14 hf
      exact absurd hf (by rw [lX11_digest_42]; exact fun h => by cases h)
    | succ n ih =>
      intro a13 a14 hf
      rw [lX11_digest_42] at hf
      refine j_iload_n C 2 dX11_digest_42 rfl rfl ?_
      refine j_bipush C (14 : Int32) rfl dX11_digest_43 ?_
      refine j_icmp_ge C 65 dX11_digest_45 (by decide) (fun c15 => ?_) (fun c15 => ?_)
      · replace hf := ip c15 hf
        refine j_sub [0, 1] rfl ?_
        exact hx44 _ (Option.some.inj hf).symm
      · replace hf := ine c15 hf
        refine j_lload_n C 1 dX11_digest_48 rfl rfl ?_
        refine j_aload_n C 0 dX11_digest_49 rfl rfl ?_
        refine j_iload_n C 2 dX11_digest_50 rfl rfl ?_
        obtain ⟨o18, e16, hf⟩ := bd hf
        rcases o18 with kx | v17
        · replace hf : some _ = some _ := hf
          rw [← Option.some.inj hf] at hg46
          have hf := hg46
          replace hf : some _ = some _ := hf
          cases hf
        · replace hf := xcr hf
          refine j_callV C 1 lc0 (ent_K _ _ _ _ _ _) rfl (c_X11_whole l G n0 e16) gv_RX11_259 ⟨rfl, rfl⟩ (by decide +kernel) ⟨Nat.le_of_ble_eq_true rfl, Nat.le_of_ble_eq_true rfl⟩ rfl rfl (Nat.le_of_ble_eq_true rfl) dX11_digest_51 ?_
          refine j_i2l C dX11_digest_54 ?_
          obtain ⟨v20, e19, hf⟩ := bd hf
          refine j_callS C 2 (c_X11_mix l G n0 (M := M) e19) gs_RX11_250 ⟨rfl, rfl⟩ (by decide +kernel) ⟨Nat.le_of_ble_eq_true rfl, Nat.le_of_ble_eq_true rfl⟩ rfl rfl (Nat.le_of_ble_eq_true rfl) dX11_digest_55 ?_
          refine j_lstore_n C [(1, .long v20), (0, .ref (n0 + 0)), (3, .int a14)] dX11_digest_58 rfl (Nat.le_of_ble_eq_true rfl) rfl ?_
          refine j_iinc C 2 (a14 + 1) [(3, .int (a14 + 1)), (1, .long v20), (0, .ref (n0 + 0))] dX11_digest_59 rfl rfl (Nat.le_of_ble_eq_true rfl) rfl ?_
          refine j_goto C 42 dX11_digest_62 (by decide) ?_
          refine j_sub [2, 1, 0] rfl ?_
          exact ih _ _ hf
  refine j_sub [2, 1, 0] rfl ?_
  exact hl45 FUEL v12 (0 : Int32) e43
