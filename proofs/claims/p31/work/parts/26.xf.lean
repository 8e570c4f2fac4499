def fX11_join (x1 : Int32) (M : Mem) : Option (Nat ⊕ (Int32 × Mem)) :=
  (fX9_whyNoJoining 1 x1 M).bind fun v2 =>
  (fX11_refuse v2).bind fun o4 => xc o4 (fun k => some (Sum.inl k))
  (fun _ => (fX8_push 1 M).bind fun M6 =>
  (fX4_add 2 x1 M6).bind (un2 fun v8 M9 =>
  some (Sum.inr (v8, M9))))

def rX11_join : Room := { frames := 5, cells := 0, slots := 0, locals := 127 }
set_option maxRecDepth 100000 in
set_option maxHeartbeats 4000000 in
theorem c_X11_join (l : Launch) (G : Gx) (n0 : Nat) {x1 : Int32} {M : Mem} {r : Int32} {M' : Mem} (hf : fX11_join x1 M = some (Sum.inr (r, M'))) : Ct l yX11_join cX11_join 2 (some .int) rX11_join G n0 [.ref (n0 + 0), .int x1] M (some (.int r)) M' := by
  refine ct_int (cc := cX11_join) (maxL := 2) rfl (Nat.le_of_ble_eq_true rfl) ?_
  intro K C hret
  have C : Ok K l rX11_join cX11_join RX11 G n0 2 := C
  show J K M 0 [(0, .ref (n0 + 0)), (1, .int x1)] []
  unfold fX11_join at hf
  refine j_aload_n C 0 dX11_join_0 rfl rfl ?_
  refine g_X11_village C tw1_220 lc0 1 rfl dX11_join_1 ?_
  refine j_iload_n C 1 dX11_join_4 rfl rfl ?_
  obtain ⟨v2, e1, hf⟩ := bd hf
  refine j_callV C 1 lc1 (ent_K _ _ _ _ _ _) rfl (c_X9_whyNoJoining l G n0 lc1 e1) gv_RX11_41 ⟨rfl, rfl⟩ (by decide +kernel) ⟨Nat.le_of_ble_eq_true rfl, Nat.le_of_ble_eq_true rfl⟩ rfl rfl (Nat.le_of_ble_eq_true rfl) dX11_join_5 ?_
  obtain ⟨o4, e3, hf⟩ := bd hf
  rcases o4 with kx | _
  · replace hf : some _ = some _ := hf
    cases hf
  · replace hf := xcr hf
    refine j_callS C 1 (c_X11_refuse l G n0 (M := M) e3) gs_RX11_45 ⟨rfl, rfl⟩ (by decide +kernel) ⟨Nat.le_of_ble_eq_true rfl, Nat.le_of_ble_eq_true rfl⟩ rfl rfl (Nat.le_of_ble_eq_true rfl) dX11_join_8 ?_
    refine j_aload_n C 0 dX11_join_11 rfl rfl ?_
    refine g_X11_undoStack C tw1_222 lc0 45 rfl dX11_join_12 ?_
    refine j_aload_n C 0 dX11_join_15 rfl rfl ?_
    refine g_X11_village C tw1_220 lc0 1 rfl dX11_join_16 ?_
    obtain ⟨M6, e5, hf⟩ := bd hf
    refine j_callV C 1 lc45 (ent_K _ _ _ _ _ _) rfl (c_X8_push l G n0 lc1 e5) gv_RX11_49 ⟨rfl, rfl⟩ (by decide +kernel) ⟨Nat.le_of_ble_eq_true rfl, Nat.le_of_ble_eq_true rfl⟩ rfl rfl (Nat.le_of_ble_eq_true rfl) dX11_join_19 ?_
    refine j_aload_n C 0 dX11_join_22 rfl rfl ?_
    refine g_X11_village C tw1_220 lc0 1 rfl dX11_join_23 ?_
    refine gN_X9_households C (nxf_RX11_households) lc1 2 rfl dX11_join_26 ?_
    refine j_iload_n C 1 dX11_join_29 rfl rfl ?_
    obtain ⟨⟨v8, M9⟩, e7, hf⟩ := bd hf
    replace hf := un2e hf
    refine j_callV C 1 lc2 (ent_K _ _ _ _ _ _) rfl (c_X4_add l G n0 lc2 e7) gv_RX11_57 ⟨rfl, rfl⟩ (by decide +kernel) ⟨Nat.le_of_ble_eq_true rfl, Nat.le_of_ble_eq_true rfl⟩ rfl rfl (Nat.le_of_ble_eq_true rfl) dX11_join_30 ?_
    obtain ⟨rfl, rfl⟩ := Prod.mk.inj (Sum.inr.inj (Option.some.inj hf))
    exact hret _ _ dX11_join_33
def qX11_join : Room := { frames := 7, cells := 1, slots := 6, locals := 127 }
set_option maxRecDepth 100000 in
set_option maxHeartbeats 4000000 in
theorem t_X11_join (l : Launch) (hfl : l.stackTraces = false) (G : Gx) (n0 : Nat) {x1 : Int32} {M : Mem} {k : Nat} (hf : fX11_join x1 M = some (Sum.inl k)) : CtT l yX11_join cX11_join 2 (some .int) qX11_join G n0 [.ref (n0 + 0), .int x1] M k := by
  refine ct_thr (cc := cX11_join) (maxL := 2) rfl (Nat.le_of_ble_eq_true rfl) ⟨Nat.le_of_ble_eq_true rfl, Nat.le_of_ble_eq_true rfl⟩ ?_
  intro K C hthr
  have C : Ok K l qX11_join cX11_join RX11 G n0 2 := C
  show J K M 0 [(0, .ref (n0 + 0)), (1, .int x1)] []
  unfold fX11_join at hf
  refine j_aload_n C 0 dX11_join_0 rfl rfl ?_
  refine g_X11_village C tw1_220 lc0 1 rfl dX11_join_1 ?_
  refine j_iload_n C 1 dX11_join_4 rfl rfl ?_
  obtain ⟨v2, e1, hf⟩ := bd hf
  refine j_callV C 1 lc1 (ent_K _ _ _ _ _ _) rfl (c_X9_whyNoJoining l G n0 lc1 e1) gv_RX11_41 ⟨rfl, rfl⟩ (by decide +kernel) ⟨Nat.le_of_ble_eq_true rfl, Nat.le_of_ble_eq_true rfl⟩ rfl rfl (Nat.le_of_ble_eq_true rfl) dX11_join_5 ?_
  obtain ⟨o4, e3, hf⟩ := bd hf
  rcases o4 with kx | _
  · replace hf : some _ = some _ := hf
    cases hf
    exact j_callTS C 1 hthr (t_X11_refuse l hfl G n0 (M := M) e3) gs_RX11_45 ⟨rfl, rfl⟩ (by decide +kernel) ⟨Nat.le_of_ble_eq_true rfl, Nat.le_of_ble_eq_true rfl⟩ rfl rfl (Nat.le_of_ble_eq_true rfl) dX11_join_8
  · replace hf := xcr hf
    refine j_callS C 1 (c_X11_refuse l G n0 (M := M) e3) gs_RX11_45 ⟨rfl, rfl⟩ (by decide +kernel) ⟨Nat.le_of_ble_eq_true rfl, Nat.le_of_ble_eq_true rfl⟩ rfl rfl (Nat.le_of_ble_eq_true rfl) dX11_join_8 ?_
    refine j_aload_n C 0 dX11_join_11 rfl rfl ?_
    refine g_X11_undoStack C tw1_222 lc0 45 rfl dX11_join_12 ?_
    refine j_aload_n C 0 dX11_join_15 rfl rfl ?_
    refine g_X11_village C tw1_220 lc0 1 rfl dX11_join_16 ?_
    obtain ⟨M6, e5, hf⟩ := bd hf
    refine j_callV C 1 lc45 (ent_K _ _ _ _ _ _) rfl (c_X8_push l G n0 lc1 e5) gv_RX11_49 ⟨rfl, rfl⟩ (by decide +kernel) ⟨Nat.le_of_ble_eq_true rfl, Nat.le_of_ble_eq_true rfl⟩ rfl rfl (Nat.le_of_ble_eq_true rfl) dX11_join_19 ?_
    refine j_aload_n C 0 dX11_join_22 rfl rfl ?_
    refine g_X11_village C tw1_220 lc0 1 rfl dX11_join_23 ?_
    refine gN_X9_households C (nxf_RX11_households) lc1 2 rfl dX11_join_26 ?_
    refine j_iload_n C 1 dX11_join_29 rfl rfl ?_
    obtain ⟨⟨v8, M9⟩, e7, hf⟩ := bd hf
    replace hf := un2e hf
    refine j_callV C 1 lc2 (ent_K _ _ _ _ _ _) rfl (c_X4_add l G n0 lc2 e7) gv_RX11_57 ⟨rfl, rfl⟩ (by decide +kernel) ⟨Nat.le_of_ble_eq_true rfl, Nat.le_of_ble_eq_true rfl⟩ rfl rfl (Nat.le_of_ble_eq_true rfl) dX11_join_30 ?_
    cases hf
def fX11_remark (x1 : Int32) (x2 : Int32) (M : Mem) : Option (Nat ⊕ (Int32 × Mem)) :=
  (fX9_whyNoOtherMark 1 x1 x2 M).bind fun v2 =>
  (fX11_refuse v2).bind fun o4 => xc o4 (fun k => some (Sum.inl k))
  (fun _ => (fX8_push 1 M).bind fun M6 =>
  (fX4_changeMark 2 x1 x2 M6).bind (un2 fun v8 M9 =>
  some (Sum.inr (v8, M9))))

def rX11_remark : Room := { frames := 5, cells := 0, slots := 0, locals := 127 }
set_option maxRecDepth 100000 in
set_option maxHeartbeats 4000000 in
theorem c_X11_remark (l : Launch) (G : Gx) (n0 : Nat) {x1 : Int32} {x2 : Int32} {M : Mem} {r : Int32} {M' : Mem} (hf : fX11_remark x1 x2 M = some (Sum.inr (r, M'))) : Ct l yX11_remark cX11_remark 3 (some .int) rX11_remark G n0 [.ref (n0 + 0), .int x1, .int x2] M (some (.int r)) M' := by
  refine ct_int (cc := cX11_remark) (maxL := 3) rfl (Nat.le_of_ble_eq_true rfl) ?_
  intro K C hret
  have C : Ok K l rX11_remark cX11_remark RX11 G n0 3 := C
  show J K M 0 [(0, .ref (n0 + 0)), (1, .int x1), (2, .int x2)] []
  unfold fX11_remark at hf
  refine j_aload_n C 0 dX11_remark_0 rfl rfl ?_
  refine g_X11_village C tw1_220 lc0 1 rfl dX11_remark_1 ?_
  refine j_iload_n C 1 dX11_remark_4 rfl rfl ?_
  refine j_iload_n C 2 dX11_remark_5 rfl rfl ?_
  obtain ⟨v2, e1, hf⟩ := bd hf
  refine j_callV C 2 lc1 (ent_K _ _ _ _ _ _) rfl (c_X9_whyNoOtherMark l G n0 lc1 e1) gv_RX11_62 ⟨rfl, rfl⟩ (by decide +kernel) ⟨Nat.le_of_ble_eq_true rfl, Nat.le_of_ble_eq_true rfl⟩ rfl rfl (Nat.le_of_ble_eq_true rfl) dX11_remark_6 ?_
  obtain ⟨o4, e3, hf⟩ := bd hf
  rcases o4 with kx | _
  · replace hf : some _ = some _ := hf
    cases hf
  · replace hf := xcr hf
    refine j_callS C 1 (c_X11_refuse l G n0 (M := M) e3) gs_RX11_45 ⟨rfl, rfl⟩ (by decide +kernel) ⟨Nat.le_of_ble_eq_true rfl, Nat.le_of_ble_eq_true rfl⟩ rfl rfl (Nat.le_of_ble_eq_true rfl) dX11_remark_9 ?_
    refine j_aload_n C 0 dX11_remark_12 rfl rfl ?_
    refine g_X11_undoStack C tw1_222 lc0 45 rfl dX11_remark_13 ?_
    refine j_aload_n C 0 dX11_remark_16 rfl rfl ?_
    refine g_X11_village C tw1_220 lc0 1 rfl dX11_remark_17 ?_
    obtain ⟨M6, e5, hf⟩ := bd hf
    refine j_callV C 1 lc45 (ent_K _ _ _ _ _ _) rfl (c_X8_push l G n0 lc1 e5) gv_RX11_49 ⟨rfl, rfl⟩ (by decide +kernel) ⟨Nat.le_of_ble_eq_true rfl, Nat.le_of_ble_eq_true rfl⟩ rfl rfl (Nat.le_of_ble_eq_true rfl) dX11_remark_20 ?_
    refine j_aload_n C 0 dX11_remark_23 rfl rfl ?_
    refine g_X11_village C tw1_220 lc0 1 rfl dX11_remark_24 ?_
    refine gN_X9_households C (nxf_RX11_households) lc1 2 rfl dX11_remark_27 ?_
    refine j_iload_n C 1 dX11_remark_30 rfl rfl ?_
    refine j_iload_n C 2 dX11_remark_31 rfl rfl ?_
    obtain ⟨⟨v8, M9⟩, e7, hf⟩ := bd hf
    replace hf := un2e hf
    refine j_callV C 2 lc2 (ent_K _ _ _ _ _ _) rfl (c_X4_changeMark l G n0 lc2 e7) gv_RX11_66 ⟨rfl, rfl⟩ (by decide +kernel) ⟨Nat.le_of_ble_eq_true rfl, Nat.le_of_ble_eq_true rfl⟩ rfl rfl (Nat.le_of_ble_eq_true rfl) dX11_remark_32 ?_
    obtain ⟨rfl, rfl⟩ := Prod.mk.inj (Sum.inr.inj (Option.some.inj hf))
    exact hret _ _ dX11_remark_35
def qX11_remark : Room := { frames := 7, cells := 1, slots := 6, locals := 127 }
set_option maxRecDepth 100000 in
set_option maxHeartbeats 4000000 in
theorem t_X11_remark (l : Launch) (hfl : l.stackTraces = false) (G : Gx) (n0 : Nat) {x1 : Int32} {x2 : Int32} {M : Mem} {k : Nat} (hf : fX11_remark x1 x2 M = some (Sum.inl k)) : CtT l yX11_remark cX11_remark 3 (some .int) qX11_remark G n0 [.ref (n0 + 0), .int x1, .int x2] M k := by
  refine ct_thr (cc := cX11_remark) (maxL := 3) rfl (Nat.le_of_ble_eq_true rfl) ⟨Nat.le_of_ble_eq_true rfl, Nat.le_of_ble_eq_true rfl⟩ ?_
  intro K C hthr
  have C : Ok K l qX11_remark cX11_remark RX11 G n0 3 := C
  show J K M 0 [(0, .ref (n0 + 0)), (1, .int x1), (2, .int x2)] []
  unfold fX11_remark at hf
  refine j_aload_n C 0 dX11_remark_0 rfl rfl ?_
  refine g_X11_village C tw1_220 lc0 1 rfl dX11_remark_1 ?_
  refine j_iload_n C 1 dX11_remark_4 rfl rfl ?_
  refine j_iload_n C 2 dX11_remark_5 rfl rfl ?_
  obtain ⟨v2, e1, hf⟩ := bd hf
  refine j_callV C 2 lc1 (ent_K _ _ _ _ _ _) rfl (c_X9_whyNoOtherMark l G n0 lc1 e1) gv_RX11_62 ⟨rfl, rfl⟩ (by decide +kernel) ⟨Nat.le_of_ble_eq_true rfl, Nat.le_of_ble_eq_true rfl⟩ rfl rfl (Nat.le_of_ble_eq_true rfl) dX11_remark_6 ?_
  obtain ⟨o4, e3, hf⟩ := bd hf
  rcases o4 with kx | _
  · replace hf : some _ = some _ := hf
    cases hf
    exact j_callTS C 1 hthr (t_X11_refuse l hfl G n0 (M := M) e3) gs_RX11_45 ⟨rfl, rfl⟩ (by decide +kernel) ⟨Nat.le_of_ble_eq_true rfl, Nat.le_of_ble_eq_true rfl⟩ rfl rfl (Nat.le_of_ble_eq_true rfl) dX11_remark_9
  · replace hf := xcr hf
    refine j_callS C 1 (c_X11_refuse l G n0 (M := M) e3) gs_RX11_45 ⟨rfl, rfl⟩ (by decide +kernel) ⟨Nat.le_of_ble_eq_true rfl, Nat.le_of_ble_eq_true rfl⟩ rfl rfl (Nat.le_of_ble_eq_true rfl) dX11_remark_9 ?_
    refine j_aload_n C 0 dX11_remark_12 rfl rfl ?_
    refine g_X11_undoStack C tw1_222 lc0 45 rfl dX11_remark_13 ?_
    refine j_aload_n C 0 dX11_remark_16 rfl rfl ?_
    refine g_X11_village C tw1_220 lc0 1 rfl dX11_remark_17 ?_
    obtain ⟨M6, e5, hf⟩ := bd hf
    refine j_callV C 1 lc45 (ent_K _ _ _ _ _ _) rfl (c_X8_push l G n0 lc1 e5) gv_RX11_49 ⟨rfl, rfl⟩ (by decide +kernel) ⟨Nat.le_of_ble_eq_true rfl, Nat.le_of_ble_eq_true rfl⟩ rfl rfl (Nat.le_of_ble_eq_true rfl) dX11_remark_20 ?_
    refine j_aload_n C 0 dX11_remark_23 rfl rfl ?_
    refine g_X11_village C tw1_220 lc0 1 rfl dX11_remark_24 ?_
    refine gN_X9_households C (nxf_RX11_households) lc1 2 rfl dX11_remark_27 ?_
    refine j_iload_n C 1 dX11_remark_30 rfl rfl ?_
    refine j_iload_n C 2 dX11_remark_31 rfl rfl ?_
    obtain ⟨⟨v8, M9⟩, e7, hf⟩ := bd hf
    replace hf := un2e hf
    refine j_callV C 2 lc2 (ent_K _ _ _ _ _ _) rfl (c_X4_changeMark l G n0 lc2 e7) gv_RX11_66 ⟨rfl, rfl⟩ (by decide +kernel) ⟨Nat.le_of_ble_eq_true rfl, Nat.le_of_ble_eq_true rfl⟩ rfl rfl (Nat.le_of_ble_eq_true rfl) dX11_remark_32 ?_
    cases hf
def fX11_excuse (x1 : Int32) (M : Mem) : Option (Nat ⊕ (Int32 × Mem)) :=
  (fX9_whyNoHousehold 1 x1 M).bind fun v2 =>
  (fX11_refuse v2).bind fun o4 => xc o4 (fun k => some (Sum.inl k))
  (fun _ => (fX8_push 1 M).bind fun M6 =>
  (fX4_excuseOne 2 x1 M6).bind (un2 fun v8 M9 =>
  some (Sum.inr (v8, M9))))

def rX11_excuse : Room := { frames := 5, cells := 0, slots := 0, locals := 127 }
set_option maxRecDepth 100000 in
set_option maxHeartbeats 4000000 in
theorem c_X11_excuse (l : Launch) (G : Gx) (n0 : Nat) {x1 : Int32} {M : Mem} {r : Int32} {M' : Mem} (hf : fX11_excuse x1 M = some (Sum.inr (r, M'))) : Ct l yX11_excuse cX11_excuse 2 (some .int) rX11_excuse G n0 [.ref (n0 + 0), .int x1] M (some (.int r)) M' := by
  refine ct_int (cc := cX11_excuse) (maxL := 2) rfl (Nat.le_of_ble_eq_true rfl) ?_
  intro K C hret
  have C : Ok K l rX11_excuse cX11_excuse RX11 G n0 2 := C
  show J K M 0 [(0, .ref (n0 + 0)), (1, .int x1)] []
  unfold fX11_excuse at hf
  refine j_aload_n C 0 dX11_excuse_0 rfl rfl ?_
  refine g_X11_village C tw1_220 lc0 1 rfl dX11_excuse_1 ?_
  refine j_iload_n C 1 dX11_excuse_4 rfl rfl ?_
  obtain ⟨v2, e1, hf⟩ := bd hf
  refine j_callV C 1 lc1 (ent_K _ _ _ _ _ _) rfl (c_X9_whyNoHousehold l G n0 lc1 e1) gv_RX11_69 ⟨rfl, rfl⟩ (by decide +kernel) ⟨Nat.le_of_ble_eq_true rfl, Nat.le_of_ble_eq_true rfl⟩ rfl rfl (Nat.le_of_ble_eq_true rfl) dX11_excuse_5 ?_
  obtain ⟨o4, e3, hf⟩ := bd hf
  rcases o4 with kx | _
  · replace hf : some _ = some _ := hf
    cases hf
  · replace hf := xcr hf
    refine j_callS C 1 (c_X11_refuse l G n0 (M := M) e3) gs_RX11_45 ⟨rfl, rfl⟩ (by decide +kernel) ⟨Nat.le_of_ble_eq_true rfl, Nat.le_of_ble_eq_true rfl⟩ rfl rfl (Nat.le_of_ble_eq_true rfl) dX11_excuse_8 ?_
    refine j_aload_n C 0 dX11_excuse_11 rfl rfl ?_
    refine g_X11_undoStack C tw1_222 lc0 45 rfl dX11_excuse_12 ?_
    refine j_aload_n C 0 dX11_excuse_15 rfl rfl ?_
    refine g_X11_village C tw1_220 lc0 1 rfl dX11_excuse_16 ?_
    obtain ⟨M6, e5, hf⟩ := bd hf
    refine j_callV C 1 lc45 (ent_K _ _ _ _ _ _) rfl (c_X8_push l G n0 lc1 e5) gv_RX11_49 ⟨rfl, rfl⟩ (by decide +kernel) ⟨Nat.le_of_ble_eq_true rfl, Nat.le_of_ble_eq_true rfl⟩ rfl rfl (Nat.le_of_ble_eq_true rfl) dX11_excuse_19 ?_
    refine j_aload_n C 0 dX11_excuse_22 rfl rfl ?_
    refine g_X11_village C tw1_220 lc0 1 rfl dX11_excuse_23 ?_
    refine gN_X9_households C (nxf_RX11_households) lc1 2 rfl dX11_excuse_26 ?_
    refine j_iload_n C 1 dX11_excuse_29 rfl rfl ?_
    obtain ⟨⟨v8, M9⟩, e7, hf⟩ := bd hf
    replace hf := un2e hf
    refine j_callV C 1 lc2 (ent_K _ _ _ _ _ _) rfl (c_X4_excuseOne l G n0 lc2 e7) gv_RX11_72 ⟨rfl, rfl⟩ (by decide +kernel) ⟨Nat.le_of_ble_eq_true rfl, Nat.le_of_ble_eq_true rfl⟩ rfl rfl (Nat.le_of_ble_eq_true rfl) dX11_excuse_30 ?_
    obtain ⟨rfl, rfl⟩ := Prod.mk.inj (Sum.inr.inj (Option.some.inj hf))
    exact hret _ _ dX11_excuse_33
def qX11_excuse : Room := { frames := 7, cells := 1, slots := 6, locals := 127 }
set_option maxRecDepth 100000 in
set_option maxHeartbeats 4000000 in
theorem t_X11_excuse (l : Launch) (hfl : l.stackTraces = false) (G : Gx) (n0 : Nat) {x1 : Int32} {M : Mem} {k : Nat} (hf : fX11_excuse x1 M = some (Sum.inl k)) : CtT l yX11_excuse cX11_excuse 2 (some .int) qX11_excuse G n0 [.ref (n0 + 0), .int x1] M k := by
  refine ct_thr (cc := cX11_excuse) (maxL := 2) rfl (Nat.le_of_ble_eq_true rfl) ⟨Nat.le_of_ble_eq_true rfl, Nat.le_of_ble_eq_true rfl⟩ ?_
  intro K C hthr
  have C : Ok K l qX11_excuse cX11_excuse RX11 G n0 2 := C
  show J K M 0 [(0, .ref (n0 + 0)), (1, .int x1)] []
  unfold fX11_excuse at hf
  refine j_aload_n C 0 dX11_excuse_0 rfl rfl ?_
  refine g_X11_village C tw1_220 lc0 1 rfl dX11_excuse_1 ?_
  refine j_iload_n C 1 dX11_excuse_4 rfl rfl ?_
  obtain ⟨v2, e1, hf⟩ := bd hf
  refine j_callV C 1 lc1 (ent_K _ _ _ _ _ _) rfl (c_X9_whyNoHousehold l G n0 lc1 e1) gv_RX11_69 ⟨rfl, rfl⟩ (by decide +kernel) ⟨Nat.le_of_ble_eq_true rfl, Nat.le_of_ble_eq_true rfl⟩ rfl rfl (Nat.le_of_ble_eq_true rfl) dX11_excuse_5 ?_
  obtain ⟨o4, e3, hf⟩ := bd hf
  rcases o4 with kx | _
  · replace hf : some _ = some _ := hf
    cases hf
    exact j_callTS C 1 hthr (t_X11_refuse l hfl G n0 (M := M) e3) gs_RX11_45 ⟨rfl, rfl⟩ (by decide +kernel) ⟨Nat.le_of_ble_eq_true rfl, Nat.le_of_ble_eq_true rfl⟩ rfl rfl (Nat.le_of_ble_eq_true rfl) dX11_excuse_8
  · replace hf := xcr hf
    refine j_callS C 1 (c_X11_refuse l G n0 (M := M) e3) gs_RX11_45 ⟨rfl, rfl⟩ (by decide +kernel) ⟨Nat.le_of_ble_eq_true rfl, Nat.le_of_ble_eq_true rfl⟩ rfl rfl (Nat.le_of_ble_eq_true rfl) dX11_excuse_8 ?_
    refine j_aload_n C 0 dX11_excuse_11 rfl rfl ?_
    refine g_X11_undoStack C tw1_222 lc0 45 rfl dX11_excuse_12 ?_
    refine j_aload_n C 0 dX11_excuse_15 rfl rfl ?_
    refine g_X11_village C tw1_220 lc0 1 rfl dX11_excuse_16 ?_
    obtain ⟨M6, e5, hf⟩ := bd hf
    refine j_callV C 1 lc45 (ent_K _ _ _ _ _ _) rfl (c_X8_push l G n0 lc1 e5) gv_RX11_49 ⟨rfl, rfl⟩ (by decide +kernel) ⟨Nat.le_of_ble_eq_true rfl, Nat.le_of_ble_eq_true rfl⟩ rfl rfl (Nat.le_of_ble_eq_true rfl) dX11_excuse_19 ?_
    refine j_aload_n C 0 dX11_excuse_22 rfl rfl ?_
    refine g_X11_village C tw1_220 lc0 1 rfl dX11_excuse_23 ?_
    refine gN_X9_households C (nxf_RX11_households) lc1 2 rfl dX11_excuse_26 ?_
    refine j_iload_n C 1 dX11_excuse_29 rfl rfl ?_
    obtain ⟨⟨v8, M9⟩, e7, hf⟩ := bd hf
    replace hf := un2e hf
    refine j_callV C 1 lc2 (ent_K _ _ _ _ _ _) rfl (c_X4_excuseOne l G n0 lc2 e7) gv_RX11_72 ⟨rfl, rfl⟩ (by decide +kernel) ⟨Nat.le_of_ble_eq_true rfl, Nat.le_of_ble_eq_true rfl⟩ rfl rfl (Nat.le_of_ble_eq_true rfl) dX11_excuse_30 ?_
    cases hf
def fX11_bring (x1 : Int32) (x2 : Int32) (x3 : Int32) (M : Mem) : Option (Nat ⊕ (Int32 × Mem)) :=
  (fX9_whyNoBatch 1 x1 x2 x3 M).bind fun v2 =>
  (fX11_refuse v2).bind fun o4 => xc o4 (fun k => some (Sum.inl k))
  (fun _ => (fX8_push 1 M).bind fun M6 =>
  (fX1_add 9 x1 x2 x3 M6).bind (un2 fun v8 M9 =>
  some (Sum.inr (v8, M9))))

def rX11_bring : Room := { frames := 5, cells := 0, slots := 0, locals := 127 }
set_option maxRecDepth 100000 in
set_option maxHeartbeats 4000000 in
theorem c_X11_bring (l : Launch) (G : Gx) (n0 : Nat) {x1 : Int32} {x2 : Int32} {x3 : Int32} {M : Mem} {r : Int32} {M' : Mem} (hf : fX11_bring x1 x2 x3 M = some (Sum.inr (r, M'))) : Ct l yX11_bring cX11_bring 4 (some .int) rX11_bring G n0 [.ref (n0 + 0), .int x1, .int x2, .int x3] M (some (.int r)) M' := by
  refine ct_int (cc := cX11_bring) (maxL := 4) rfl (Nat.le_of_ble_eq_true rfl) ?_
  intro K C hret
  have C : Ok K l rX11_bring cX11_bring RX11 G n0 4 := C
  show J K M 0 [(0, .ref (n0 + 0)), (1, .int x1), (2, .int x2), (3, .int x3)] []
  unfold fX11_bring at hf
  refine j_aload_n C 0 dX11_bring_0 rfl rfl ?_
  refine g_X11_village C tw1_220 lc0 1 rfl dX11_bring_1 ?_
  refine j_iload_n C 1 dX11_bring_4 rfl rfl ?_
  refine j_iload_n C 2 dX11_bring_5 rfl rfl ?_
  refine j_iload_n C 3 dX11_bring_6 rfl rfl ?_
  obtain ⟨v2, e1, hf⟩ := bd hf
  refine j_callV C 3 lc1 (ent_K _ _ _ _ _ _) rfl (c_X9_whyNoBatch l G n0 lc1 e1) gv_RX11_75 ⟨rfl, rfl⟩ (by decide +kernel) ⟨Nat.le_of_ble_eq_true rfl, Nat.le_of_ble_eq_true rfl⟩ rfl rfl (Nat.le_of_ble_eq_true rfl) dX11_bring_7 ?_
  obtain ⟨o4, e3, hf⟩ := bd hf
  rcases o4 with kx | _
  · replace hf : some _ = some _ := hf
    cases hf
  · replace hf := xcr hf
    refine j_callS C 1 (c_X11_refuse l G n0 (M := M) e3) gs_RX11_45 ⟨rfl, rfl⟩ (by decide +kernel) ⟨Nat.le_of_ble_eq_true rfl, Nat.le_of_ble_eq_true rfl⟩ rfl rfl (Nat.le_of_ble_eq_true rfl) dX11_bring_10 ?_
    refine j_aload_n C 0 dX11_bring_13 rfl rfl ?_
    refine g_X11_undoStack C tw1_222 lc0 45 rfl dX11_bring_14 ?_
    refine j_aload_n C 0 dX11_bring_17 rfl rfl ?_
    refine g_X11_village C tw1_220 lc0 1 rfl dX11_bring_18 ?_
    obtain ⟨M6, e5, hf⟩ := bd hf
    refine j_callV C 1 lc45 (ent_K _ _ _ _ _ _) rfl (c_X8_push l G n0 lc1 e5) gv_RX11_49 ⟨rfl, rfl⟩ (by decide +kernel) ⟨Nat.le_of_ble_eq_true rfl, Nat.le_of_ble_eq_true rfl⟩ rfl rfl (Nat.le_of_ble_eq_true rfl) dX11_bring_21 ?_
    refine j_aload_n C 0 dX11_bring_24 rfl rfl ?_
    refine g_X11_village C tw1_220 lc0 1 rfl dX11_bring_25 ?_
    refine gN_X9_batches C (nxf_RX11_batches) lc1 9 rfl dX11_bring_28 ?_
    refine j_iload_n C 1 dX11_bring_31 rfl rfl ?_
    refine j_iload_n C 2 dX11_bring_32 rfl rfl ?_
    refine j_iload_n C 3 dX11_bring_33 rfl rfl ?_
    obtain ⟨⟨v8, M9⟩, e7, hf⟩ := bd hf
    replace hf := un2e hf
    refine j_callV C 3 lc9 (ent_K _ _ _ _ _ _) rfl (c_X1_add l G n0 lc9 e7) gv_RX11_83 ⟨rfl, rfl⟩ (by decide +kernel) ⟨Nat.le_of_ble_eq_true rfl, Nat.le_of_ble_eq_true rfl⟩ rfl rfl (Nat.le_of_ble_eq_true rfl) dX11_bring_34 ?_
    obtain ⟨rfl, rfl⟩ := Prod.mk.inj (Sum.inr.inj (Option.some.inj hf))
    exact hret _ _ dX11_bring_37
def qX11_bring : Room := { frames := 7, cells := 1, slots := 6, locals := 127 }
set_option maxRecDepth 100000 in
set_option maxHeartbeats 4000000 in
theorem t_X11_bring (l : Launch) (hfl : l.stackTraces = false) (G : Gx) (n0 : Nat) {x1 : Int32} {x2 : Int32} {x3 : Int32} {M : Mem} {k : Nat} (hf : fX11_bring x1 x2 x3 M = some (Sum.inl k)) : CtT l yX11_bring cX11_bring 4 (some .int) qX11_bring G n0 [.ref (n0 + 0), .int x1, .int x2, .int x3] M k := by
  refine ct_thr (cc := cX11_bring) (maxL := 4) rfl (Nat.le_of_ble_eq_true rfl) ⟨Nat.le_of_ble_eq_true rfl, Nat.le_of_ble_eq_true rfl⟩ ?_
  intro K C hthr
  have C : Ok K l qX11_bring cX11_bring RX11 G n0 4 := C
  show J K M 0 [(0, .ref (n0 + 0)), (1, .int x1), (2, .int x2), (3, .int x3)] []
  unfold fX11_bring at hf
  refine j_aload_n C 0 dX11_bring_0 rfl rfl ?_
  refine g_X11_village C tw1_220 lc0 1 rfl dX11_bring_1 ?_
  refine j_iload_n C 1 dX11_bring_4 rfl rfl ?_
  refine j_iload_n C 2 dX11_bring_5 rfl rfl ?_
  refine j_iload_n C 3 dX11_bring_6 rfl rfl ?_
  obtain ⟨v2, e1, hf⟩ := bd hf
  refine j_callV C 3 lc1 (ent_K _ _ _ _ _ _) rfl (c_X9_whyNoBatch l G n0 lc1 e1) gv_RX11_75 ⟨rfl, rfl⟩ (by decide +kernel) ⟨Nat.le_of_ble_eq_true rfl, Nat.le_of_ble_eq_true rfl⟩ rfl rfl (Nat.le_of_ble_eq_true rfl) dX11_bring_7 ?_
  obtain ⟨o4, e3, hf⟩ := bd hf
  rcases o4 with kx | _
  · replace hf : some _ = some _ := hf
    cases hf
    exact j_callTS C 1 hthr (t_X11_refuse l hfl G n0 (M := M) e3) gs_RX11_45 ⟨rfl, rfl⟩ (by decide +kernel) ⟨Nat.le_of_ble_eq_true rfl, Nat.le_of_ble_eq_true rfl⟩ rfl rfl (Nat.le_of_ble_eq_true rfl) dX11_bring_10
  · replace hf := xcr hf
    refine j_callS C 1 (c_X11_refuse l G n0 (M := M) e3) gs_RX11_45 ⟨rfl, rfl⟩ (by decide +kernel) ⟨Nat.le_of_ble_eq_true rfl, Nat.le_of_ble_eq_true rfl⟩ rfl rfl (Nat.le_of_ble_eq_true rfl) dX11_bring_10 ?_
    refine j_aload_n C 0 dX11_bring_13 rfl rfl ?_
    refine g_X11_undoStack C tw1_222 lc0 45 rfl dX11_bring_14 ?_
    refine j_aload_n C 0 dX11_bring_17 rfl rfl ?_
    refine g_X11_village C tw1_220 lc0 1 rfl dX11_bring_18 ?_
    obtain ⟨M6, e5, hf⟩ := bd hf
    refine j_callV C 1 lc45 (ent_K _ _ _ _ _ _) rfl (c_X8_push l G n0 lc1 e5) gv_RX11_49 ⟨rfl, rfl⟩ (by decide +kernel) ⟨Nat.le_of_ble_eq_true rfl, Nat.le_of_ble_eq_true rfl⟩ rfl rfl (Nat.le_of_ble_eq_true rfl) dX11_bring_21 ?_
    refine j_aload_n C 0 dX11_bring_24 rfl rfl ?_
    refine g_X11_village C tw1_220 lc0 1 rfl dX11_bring_25 ?_
    refine gN_X9_batches C (nxf_RX11_batches) lc1 9 rfl dX11_bring_28 ?_
    refine j_iload_n C 1 dX11_bring_31 rfl rfl ?_
    refine j_iload_n C 2 dX11_bring_32 rfl rfl ?_
    refine j_iload_n C 3 dX11_bring_33 rfl rfl ?_
    obtain ⟨⟨v8, M9⟩, e7, hf⟩ := bd hf
    replace hf := un2e hf
    refine j_callV C 3 lc9 (ent_K _ _ _ _ _ _) rfl (c_X1_add l G n0 lc9 e7) gv_RX11_83 ⟨rfl, rfl⟩ (by decide +kernel) ⟨Nat.le_of_ble_eq_true rfl, Nat.le_of_ble_eq_true rfl⟩ rfl rfl (Nat.le_of_ble_eq_true rfl) dX11_bring_34 ?_
    cases hf
def fX11_takeBack (x1 : Int32) (M : Mem) : Option (Nat ⊕ (Int32 × Mem)) :=
  (fX1_has 9 x1 M).bind fun b2 =>
  (if b2 = true then (some (0 : Int32))
  else (some (1 : Int32))).bind (fun z4 => (fX11_refuse z4).bind fun o6 => xc o6 (fun k => some (Sum.inl k))
  (fun _ => (fX8_push 1 M).bind fun M8 =>
  (fX1_remove 9 x1 M8).bind (un2 fun v10 M11 =>
  some (Sum.inr (v10, M11)))))

def rX11_takeBack : Room := { frames := 5, cells := 0, slots := 0, locals := 127 }
set_option maxRecDepth 100000 in
set_option maxHeartbeats 4000000 in
theorem c_X11_takeBack (l : Launch) (G : Gx) (n0 : Nat) {x1 : Int32} {M : Mem} {r : Int32} {M' : Mem} (hf : fX11_takeBack x1 M = some (Sum.inr (r, M'))) : Ct l yX11_takeBack cX11_takeBack 2 (some .int) rX11_takeBack G n0 [.ref (n0 + 0), .int x1] M (some (.int r)) M' := by
  refine ct_int (cc := cX11_takeBack) (maxL := 2) rfl (Nat.le_of_ble_eq_true rfl) ?_
  intro K C hret
  have C : Ok K l rX11_takeBack cX11_takeBack RX11 G n0 2 := C
  show J K M 0 [(0, .ref (n0 + 0)), (1, .int x1)] []
  unfold fX11_takeBack at hf
  refine j_aload_n C 0 dX11_takeBack_0 rfl rfl ?_
  refine g_X11_village C tw1_220 lc0 1 rfl dX11_takeBack_1 ?_
  refine gN_X9_batches C (nxf_RX11_batches) lc1 9 rfl dX11_takeBack_4 ?_
  refine j_iload_n C 1 dX11_takeBack_7 rfl rfl ?_
  obtain ⟨b2, e1, hf⟩ := bd hf
  refine j_callV C 1 lc9 (ent_K _ _ _ _ _ _) rfl (c_X1_has l G n0 lc9 e1) gv_RX11_87 ⟨rfl, rfl⟩ (by decide +kernel) ⟨Nat.le_of_ble_eq_true rfl, Nat.le_of_ble_eq_true rfl⟩ rfl rfl (Nat.le_of_ble_eq_true rfl) dX11_takeBack_8 ?_
  obtain ⟨z4, e12, hf⟩ := bd hf
  have hj13 : J K M 19 [(0, .ref (n0 + 0)), (1, .int x1)] [.int z4] := by
    obtain ⟨o6, e5, hf⟩ := bd hf
    rcases o6 with kx | _
    · replace hf : some _ = some _ := hf
      cases hf
    · replace hf := xcr hf
      refine j_callS C 1 (c_X11_refuse l G n0 (M := M) e5) gs_RX11_45 ⟨rfl, rfl⟩ (by decide +kernel) ⟨Nat.le_of_ble_eq_true rfl, Nat.le_of_ble_eq_true rfl⟩ rfl rfl (Nat.le_of_ble_eq_true rfl) dX11_takeBack_19 ?_
      refine j_aload_n C 0 dX11_takeBack_22 rfl rfl ?_
      refine g_X11_undoStack C tw1_222 lc0 45 rfl dX11_takeBack_23 ?_
      refine j_aload_n C 0 dX11_takeBack_26 rfl rfl ?_
      refine g_X11_village C tw1_220 lc0 1 rfl dX11_takeBack_27 ?_
      obtain ⟨M8, e7, hf⟩ := bd hf
      refine j_callV C 1 lc45 (ent_K _ _ _ _ _ _) rfl (c_X8_push l G n0 lc1 e7) gv_RX11_49 ⟨rfl, rfl⟩ (by decide +kernel) ⟨Nat.le_of_ble_eq_true rfl, Nat.le_of_ble_eq_true rfl⟩ rfl rfl (Nat.le_of_ble_eq_true rfl) dX11_takeBack_30 ?_
      refine j_aload_n C 0 dX11_takeBack_33 rfl rfl ?_
      refine g_X11_village C tw1_220 lc0 1 rfl dX11_takeBack_34 ?_
      refine gN_X9_batches C (nxf_RX11_batches) lc1 9 rfl dX11_takeBack_37 ?_
      refine j_iload_n C 1 dX11_takeBack_40 rfl rfl ?_
      obtain ⟨⟨v10, M11⟩, e9, hf⟩ := bd hf
      replace hf := un2e hf
      refine j_callV C 1 lc9 (ent_K _ _ _ _ _ _) rfl (c_X1_remove l G n0 lc9 e9) gv_RX11_91 ⟨rfl, rfl⟩ (by decide +kernel) ⟨Nat.le_of_ble_eq_true rfl, Nat.le_of_ble_eq_true rfl⟩ rfl rfl (Nat.le_of_ble_eq_true rfl) dX11_takeBack_41 ?_
      obtain ⟨rfl, rfl⟩ := Prod.mk.inj (Sum.inr.inj (Option.some.inj hf))
      exact hret _ _ dX11_takeBack_44
  clear hf
  have hf := e12
  refine j_ifz_eq C 18 dX11_takeBack_11 (by decide) (fun c3 => ?_) (fun c3 => ?_)
  · replace hf := ine c3 hf
    refine j_iconst C (1 : Int32) rfl dX11_takeBack_18 ?_
    cases hf
    refine j_sub [0, 1] rfl ?_
    exact hj13
  · replace hf := ip c3 hf
    refine j_iconst C (0 : Int32) rfl dX11_takeBack_14 ?_
    refine j_goto C 19 dX11_takeBack_15 (by decide) ?_
    cases hf
    refine j_sub [0, 1] rfl ?_
    exact hj13
def qX11_takeBack : Room := { frames := 7, cells := 1, slots := 6, locals := 127 }
set_option maxRecDepth 100000 in
set_option maxHeartbeats 4000000 in
theorem t_X11_takeBack (l : Launch) (hfl : l.stackTraces = false) (G : Gx) (n0 : Nat) {x1 : Int32} {M : Mem} {k : Nat} (hf : fX11_takeBack x1 M = some (Sum.inl k)) : CtT l yX11_takeBack cX11_takeBack 2 (some .int) qX11_takeBack G n0 [.ref (n0 + 0), .int x1] M k := by
  refine ct_thr (cc := cX11_takeBack) (maxL := 2) rfl (Nat.le_of_ble_eq_true rfl) ⟨Nat.le_of_ble_eq_true rfl, Nat.le_of_ble_eq_true rfl⟩ ?_
  intro K C hthr
  have C : Ok K l qX11_takeBack cX11_takeBack RX11 G n0 2 := C
  show J K M 0 [(0, .ref (n0 + 0)), (1, .int x1)] []
  unfold fX11_takeBack at hf
  refine j_aload_n C 0 dX11_takeBack_0 rfl rfl ?_
  refine g_X11_village C tw1_220 lc0 1 rfl dX11_takeBack_1 ?_
  refine gN_X9_batches C (nxf_RX11_batches) lc1 9 rfl dX11_takeBack_4 ?_
  refine j_iload_n C 1 dX11_takeBack_7 rfl rfl ?_
  obtain ⟨b2, e1, hf⟩ := bd hf
  refine j_callV C 1 lc9 (ent_K _ _ _ _ _ _) rfl (c_X1_has l G n0 lc9 e1) gv_RX11_87 ⟨rfl, rfl⟩ (by decide +kernel) ⟨Nat.le_of_ble_eq_true rfl, Nat.le_of_ble_eq_true rfl⟩ rfl rfl (Nat.le_of_ble_eq_true rfl) dX11_takeBack_8 ?_
  obtain ⟨z4, e14, hf⟩ := bd hf
  have hj15 : J K M 19 [(0, .ref (n0 + 0)), (1, .int x1)] [.int z4] := by
    obtain ⟨o6, e5, hf⟩ := bd hf
    rcases o6 with kx | _
    · replace hf : some _ = some _ := hf
      cases hf
      exact j_callTS C 1 hthr (t_X11_refuse l hfl G n0 (M := M) e5) gs_RX11_45 ⟨rfl, rfl⟩ (by decide +kernel) ⟨Nat.le_of_ble_eq_true rfl, Nat.le_of_ble_eq_true rfl⟩ rfl rfl (Nat.le_of_ble_eq_true rfl) dX11_takeBack_19
    · replace hf := xcr hf
      refine j_callS C 1 (c_X11_refuse l G n0 (M := M) e5) gs_RX11_45 ⟨rfl, rfl⟩ (by decide +kernel) ⟨Nat.le_of_ble_eq_true rfl, Nat.le_of_ble_eq_true rfl⟩ rfl rfl (Nat.le_of_ble_eq_true rfl) dX11_takeBack_19 ?_
      refine j_aload_n C 0 dX11_takeBack_22 rfl rfl ?_
      refine g_X11_undoStack C tw1_222 lc0 45 rfl dX11_takeBack_23 ?_
      refine j_aload_n C 0 dX11_takeBack_26 rfl rfl ?_
      refine g_X11_village C tw1_220 lc0 1 rfl dX11_takeBack_27 ?_
      obtain ⟨M8, e7, hf⟩ := bd hf
      refine j_callV C 1 lc45 (ent_K _ _ _ _ _ _) rfl (c_X8_push l G n0 lc1 e7) gv_RX11_49 ⟨rfl, rfl⟩ (by decide +kernel) ⟨Nat.le_of_ble_eq_true rfl, Nat.le_of_ble_eq_true rfl⟩ rfl rfl (Nat.le_of_ble_eq_true rfl) dX11_takeBack_30 ?_
      refine j_aload_n C 0 dX11_takeBack_33 rfl rfl ?_
      refine g_X11_village C tw1_220 lc0 1 rfl dX11_takeBack_34 ?_
      refine gN_X9_batches C (nxf_RX11_batches) lc1 9 rfl dX11_takeBack_37 ?_
      refine j_iload_n C 1 dX11_takeBack_40 rfl rfl ?_
      obtain ⟨⟨v10, M11⟩, e9, hf⟩ := bd hf
      replace hf := un2e hf
      refine j_callV C 1 lc9 (ent_K _ _ _ _ _ _) rfl (c_X1_remove l G n0 lc9 e9) gv_RX11_91 ⟨rfl, rfl⟩ (by decide +kernel) ⟨Nat.le_of_ble_eq_true rfl, Nat.le_of_ble_eq_true rfl⟩ rfl rfl (Nat.le_of_ble_eq_true rfl) dX11_takeBack_41 ?_
      cases hf
  clear hf
  have hf := e14
  refine j_ifz_eq C 18 dX11_takeBack_11 (by decide) (fun c3 => ?_) (fun c3 => ?_)
  · replace hf := ine c3 hf
    refine j_iconst C (1 : Int32) rfl dX11_takeBack_18 ?_
    cases hf
    refine j_sub [0, 1] rfl ?_
    exact hj15
  · replace hf := ip c3 hf
    refine j_iconst C (0 : Int32) rfl dX11_takeBack_14 ?_
    refine j_goto C 19 dX11_takeBack_15 (by decide) ?_
    cases hf
    refine j_sub [0, 1] rfl ?_
    exact hj15
def fX11_setS (x1 : Int32) (M : Mem) : Option (Nat ⊕ (Int32 × Mem)) :=
  (if 0 ≤ x1 then (some (0 : Int32))
  else (some (2 : Int32))).bind (fun z2 => (fX11_refuse z2).bind fun o4 => xc o4 (fun k => some (Sum.inl k))
  (fun _ => (fX8_push 1 M).bind fun M6 =>
  (fX9_changeS 1 x1 M6).bind (un2 fun v8 M9 =>
  some (Sum.inr (v8, M9)))))

def rX11_setS : Room := { frames := 5, cells := 0, slots := 0, locals := 127 }
set_option maxRecDepth 100000 in
set_option maxHeartbeats 4000000 in
theorem c_X11_setS (l : Launch) (G : Gx) (n0 : Nat) {x1 : Int32} {M : Mem} {r : Int32} {M' : Mem} (hf : fX11_setS x1 M = some (Sum.inr (r, M'))) : Ct l yX11_setS cX11_setS 2 (some .int) rX11_setS G n0 [.ref (n0 + 0), .int x1] M (some (.int r)) M' := by
  refine ct_int (cc := cX11_setS) (maxL := 2) rfl (Nat.le_of_ble_eq_true rfl) ?_
  intro K C hret
  have C : Ok K l rX11_setS cX11_setS RX11 G n0 2 := C
  show J K M 0 [(0, .ref (n0 + 0)), (1, .int x1)] []
  unfold fX11_setS at hf
  refine j_iload_n C 1 dX11_setS_0 rfl rfl ?_
  obtain ⟨z2, e10, hf⟩ := bd hf
  have hj11 : J K M 9 [(0, .ref (n0 + 0)), (1, .int x1)] [.int z2] := by
    obtain ⟨o4, e3, hf⟩ := bd hf
    rcases o4 with kx | _
    · replace hf : some _ = some _ := hf
      cases hf
    · replace hf := xcr hf
      refine j_callS C 1 (c_X11_refuse l G n0 (M := M) e3) gs_RX11_45 ⟨rfl, rfl⟩ (by decide +kernel) ⟨Nat.le_of_ble_eq_true rfl, Nat.le_of_ble_eq_true rfl⟩ rfl rfl (Nat.le_of_ble_eq_true rfl) dX11_setS_9 ?_
      refine j_aload_n C 0 dX11_setS_12 rfl rfl ?_
      refine g_X11_undoStack C tw1_222 lc0 45 rfl dX11_setS_13 ?_
      refine j_aload_n C 0 dX11_setS_16 rfl rfl ?_
      refine g_X11_village C tw1_220 lc0 1 rfl dX11_setS_17 ?_
      obtain ⟨M6, e5, hf⟩ := bd hf
      refine j_callV C 1 lc45 (ent_K _ _ _ _ _ _) rfl (c_X8_push l G n0 lc1 e5) gv_RX11_49 ⟨rfl, rfl⟩ (by decide +kernel) ⟨Nat.le_of_ble_eq_true rfl, Nat.le_of_ble_eq_true rfl⟩ rfl rfl (Nat.le_of_ble_eq_true rfl) dX11_setS_20 ?_
      refine j_aload_n C 0 dX11_setS_23 rfl rfl ?_
      refine g_X11_village C tw1_220 lc0 1 rfl dX11_setS_24 ?_
      refine j_iload_n C 1 dX11_setS_27 rfl rfl ?_
      obtain ⟨⟨v8, M9⟩, e7, hf⟩ := bd hf
      replace hf := un2e hf
      refine j_callV C 1 lc1 (ent_K _ _ _ _ _ _) rfl (c_X9_changeS l G n0 lc1 e7) gv_RX11_94 ⟨rfl, rfl⟩ (by decide +kernel) ⟨Nat.le_of_ble_eq_true rfl, Nat.le_of_ble_eq_true rfl⟩ rfl rfl (Nat.le_of_ble_eq_true rfl) dX11_setS_28 ?_
      obtain ⟨rfl, rfl⟩ := Prod.mk.inj (Sum.inr.inj (Option.some.inj hf))
      exact hret _ _ dX11_setS_31
  clear hf
  have hf := e10
  refine j_if_ge C 8 dX11_setS_1 (by decide) (fun c1 => ?_) (fun c1 => ?_)
  · replace hf := ip c1 hf
    refine j_iconst C (0 : Int32) rfl dX11_setS_8 ?_
    cases hf
    refine j_sub [0, 1] rfl ?_
    exact hj11
  · replace hf := ine c1 hf
    refine j_iconst C (2 : Int32) rfl dX11_setS_4 ?_
    refine j_goto C 9 dX11_setS_5 (by decide) ?_
    cases hf
    refine j_sub [0, 1] rfl ?_
    exact hj11
def qX11_setS : Room := { frames := 7, cells := 1, slots := 6, locals := 127 }
set_option maxRecDepth 100000 in
set_option maxHeartbeats 4000000 in
theorem t_X11_setS (l : Launch) (hfl : l.stackTraces = false) (G : Gx) (n0 : Nat) {x1 : Int32} {M : Mem} {k : Nat} (hf : fX11_setS x1 M = some (Sum.inl k)) : CtT l yX11_setS cX11_setS 2 (some .int) qX11_setS G n0 [.ref (n0 + 0), .int x1] M k := by
  refine ct_thr (cc := cX11_setS) (maxL := 2) rfl (Nat.le_of_ble_eq_true rfl) ⟨Nat.le_of_ble_eq_true rfl, Nat.le_of_ble_eq_true rfl⟩ ?_
  intro K C hthr
  have C : Ok K l qX11_setS cX11_setS RX11 G n0 2 := C
  show J K M 0 [(0, .ref (n0 + 0)), (1, .int x1)] []
  unfold fX11_setS at hf
  refine j_iload_n C 1 dX11_setS_0 rfl rfl ?_
  obtain ⟨z2, e12, hf⟩ := bd hf
  have hj13 : J K M 9 [(0, .ref (n0 + 0)), (1, .int x1)] [.int z2] := by
    obtain ⟨o4, e3, hf⟩ := bd hf
    rcases o4 with kx | _
    · replace hf : some _ = some _ := hf
      cases hf
      exact j_callTS C 1 hthr (t_X11_refuse l hfl G n0 (M := M) e3) gs_RX11_45 ⟨rfl, rfl⟩ (by decide +kernel) ⟨Nat.le_of_ble_eq_true rfl, Nat.le_of_ble_eq_true rfl⟩ rfl rfl (Nat.le_of_ble_eq_true rfl) dX11_setS_9
    · replace hf := xcr hf
      refine j_callS C 1 (c_X11_refuse l G n0 (M := M) e3) gs_RX11_45 ⟨rfl, rfl⟩ (by decide +kernel) ⟨Nat.le_of_ble_eq_true rfl, Nat.le_of_ble_eq_true rfl⟩ rfl rfl (Nat.le_of_ble_eq_true rfl) dX11_setS_9 ?_
      refine j_aload_n C 0 dX11_setS_12 rfl rfl ?_
      refine g_X11_undoStack C tw1_222 lc0 45 rfl dX11_setS_13 ?_
      refine j_aload_n C 0 dX11_setS_16 rfl rfl ?_
      refine g_X11_village C tw1_220 lc0 1 rfl dX11_setS_17 ?_
      obtain ⟨M6, e5, hf⟩ := bd hf
      refine j_callV C 1 lc45 (ent_K _ _ _ _ _ _) rfl (c_X8_push l G n0 lc1 e5) gv_RX11_49 ⟨rfl, rfl⟩ (by decide +kernel) ⟨Nat.le_of_ble_eq_true rfl, Nat.le_of_ble_eq_true rfl⟩ rfl rfl (Nat.le_of_ble_eq_true rfl) dX11_setS_20 ?_
      refine j_aload_n C 0 dX11_setS_23 rfl rfl ?_
      refine g_X11_village C tw1_220 lc0 1 rfl dX11_setS_24 ?_
      refine j_iload_n C 1 dX11_setS_27 rfl rfl ?_
      obtain ⟨⟨v8, M9⟩, e7, hf⟩ := bd hf
      replace hf := un2e hf
      refine j_callV C 1 lc1 (ent_K _ _ _ _ _ _) rfl (c_X9_changeS l G n0 lc1 e7) gv_RX11_94 ⟨rfl, rfl⟩ (by decide +kernel) ⟨Nat.le_of_ble_eq_true rfl, Nat.le_of_ble_eq_true rfl⟩ rfl rfl (Nat.le_of_ble_eq_true rfl) dX11_setS_28 ?_
      cases hf
  clear hf
  have hf := e12
  refine j_if_ge C 8 dX11_setS_1 (by decide) (fun c1 => ?_) (fun c1 => ?_)
  · replace hf := ip c1 hf
    refine j_iconst C (0 : Int32) rfl dX11_setS_8 ?_
    cases hf
    refine j_sub [0, 1] rfl ?_
    exact hj13
  · replace hf := ine c1 hf
    refine j_iconst C (2 : Int32) rfl dX11_setS_4 ?_
    refine j_goto C 9 dX11_setS_5 (by decide) ?_
    cases hf
    refine j_sub [0, 1] rfl ?_
    exact hj13
def fX11_bake (x1 : Int32) (M : Mem) : Option (Nat ⊕ (Int32 × Mem)) :=
  (fX9_whyNoDay 1 x1 M).bind fun v2 =>
  (fX11_refuse v2).bind fun o4 => xc o4 (fun k => some (Sum.inl k))
  (fun _ => (fX8_push 1 M).bind fun M6 =>
  (fX9_haveDay 1 x1 M6).bind (un2 fun v8 M9 =>
  some (Sum.inr (v8, M9))))

def rX11_bake : Room := { frames := 5, cells := 0, slots := 0, locals := 127 }
set_option maxRecDepth 100000 in
set_option maxHeartbeats 4000000 in
theorem c_X11_bake (l : Launch) (G : Gx) (n0 : Nat) {x1 : Int32} {M : Mem} {r : Int32} {M' : Mem} (hf : fX11_bake x1 M = some (Sum.inr (r, M'))) : Ct l yX11_bake cX11_bake 2 (some .int) rX11_bake G n0 [.ref (n0 + 0), .int x1] M (some (.int r)) M' := by
  refine ct_int (cc := cX11_bake) (maxL := 2) rfl (Nat.le_of_ble_eq_true rfl) ?_
  intro K C hret
  have C : Ok K l rX11_bake cX11_bake RX11 G n0 2 := C
  show J K M 0 [(0, .ref (n0 + 0)), (1, .int x1)] []
  unfold fX11_bake at hf
  refine j_aload_n C 0 dX11_bake_0 rfl rfl ?_
  refine g_X11_village C tw1_220 lc0 1 rfl dX11_bake_1 ?_
  refine j_iload_n C 1 dX11_bake_4 rfl rfl ?_
  obtain ⟨v2, e1, hf⟩ := bd hf
  refine j_callV C 1 lc1 (ent_K _ _ _ _ _ _) rfl (c_X9_whyNoDay l G n0 lc1 e1) gv_RX11_97 ⟨rfl, rfl⟩ (by decide +kernel) ⟨Nat.le_of_ble_eq_true rfl, Nat.le_of_ble_eq_true rfl⟩ rfl rfl (Nat.le_of_ble_eq_true rfl) dX11_bake_5 ?_
  obtain ⟨o4, e3, hf⟩ := bd hf
  rcases o4 with kx | _
  · replace hf : some _ = some _ := hf
    cases hf
  · replace hf := xcr hf
    refine j_callS C 1 (c_X11_refuse l G n0 (M := M) e3) gs_RX11_45 ⟨rfl, rfl⟩ (by decide +kernel) ⟨Nat.le_of_ble_eq_true rfl, Nat.le_of_ble_eq_true rfl⟩ rfl rfl (Nat.le_of_ble_eq_true rfl) dX11_bake_8 ?_
    refine j_aload_n C 0 dX11_bake_11 rfl rfl ?_
    refine g_X11_undoStack C tw1_222 lc0 45 rfl dX11_bake_12 ?_
    refine j_aload_n C 0 dX11_bake_15 rfl rfl ?_
    refine g_X11_village C tw1_220 lc0 1 rfl dX11_bake_16 ?_
    obtain ⟨M6, e5, hf⟩ := bd hf
    refine j_callV C 1 lc45 (ent_K _ _ _ _ _ _) rfl (c_X8_push l G n0 lc1 e5) gv_RX11_49 ⟨rfl, rfl⟩ (by decide +kernel) ⟨Nat.le_of_ble_eq_true rfl, Nat.le_of_ble_eq_true rfl⟩ rfl rfl (Nat.le_of_ble_eq_true rfl) dX11_bake_19 ?_
    refine j_aload_n C 0 dX11_bake_22 rfl rfl ?_
    refine g_X11_village C tw1_220 lc0 1 rfl dX11_bake_23 ?_
    refine j_iload_n C 1 dX11_bake_26 rfl rfl ?_
    refine j_aload_n C 0 dX11_bake_27 rfl rfl ?_
    refine g_X11_plan C tw1_221 lc0 33 rfl dX11_bake_28 ?_
    obtain ⟨⟨v8, M9⟩, e7, hf⟩ := bd hf
    replace hf := un2e hf
    refine j_callV C 2 lc1 (ent_K _ _ _ _ _ _) rfl (c_X9_haveDay l G n0 lc1 e7) gv_RX11_100 ⟨rfl, rfl⟩ (by decide +kernel) ⟨Nat.le_of_ble_eq_true rfl, Nat.le_of_ble_eq_true rfl⟩ rfl rfl (Nat.le_of_ble_eq_true rfl) dX11_bake_31 ?_
    obtain ⟨rfl, rfl⟩ := Prod.mk.inj (Sum.inr.inj (Option.some.inj hf))
    exact hret _ _ dX11_bake_34
def qX11_bake : Room := { frames := 7, cells := 1, slots := 6, locals := 127 }
set_option maxRecDepth 100000 in
set_option maxHeartbeats 4000000 in
theorem t_X11_bake (l : Launch) (hfl : l.stackTraces = false) (G : Gx) (n0 : Nat) {x1 : Int32} {M : Mem} {k : Nat} (hf : fX11_bake x1 M = some (Sum.inl k)) : CtT l yX11_bake cX11_bake 2 (some .int) qX11_bake G n0 [.ref (n0 + 0), .int x1] M k := by
  refine ct_thr (cc := cX11_bake) (maxL := 2) rfl (Nat.le_of_ble_eq_true rfl) ⟨Nat.le_of_ble_eq_true rfl, Nat.le_of_ble_eq_true rfl⟩ ?_
  intro K C hthr
  have C : Ok K l qX11_bake cX11_bake RX11 G n0 2 := C
  show J K M 0 [(0, .ref (n0 + 0)), (1, .int x1)] []
  unfold fX11_bake at hf
  refine j_aload_n C 0 dX11_bake_0 rfl rfl ?_
  refine g_X11_village C tw1_220 lc0 1 rfl dX11_bake_1 ?_
  refine j_iload_n C 1 dX11_bake_4 rfl rfl ?_
  obtain ⟨v2, e1, hf⟩ := bd hf
  refine j_callV C 1 lc1 (ent_K _ _ _ _ _ _) rfl (c_X9_whyNoDay l G n0 lc1 e1) gv_RX11_97 ⟨rfl, rfl⟩ (by decide +kernel) ⟨Nat.le_of_ble_eq_true rfl, Nat.le_of_ble_eq_true rfl⟩ rfl rfl (Nat.le_of_ble_eq_true rfl) dX11_bake_5 ?_
  obtain ⟨o4, e3, hf⟩ := bd hf
  rcases o4 with kx | _
  · replace hf : some _ = some _ := hf
    cases hf
    exact j_callTS C 1 hthr (t_X11_refuse l hfl G n0 (M := M) e3) gs_RX11_45 ⟨rfl, rfl⟩ (by decide +kernel) ⟨Nat.le_of_ble_eq_true rfl, Nat.le_of_ble_eq_true rfl⟩ rfl rfl (Nat.le_of_ble_eq_true rfl) dX11_bake_8
  · replace hf := xcr hf
    refine j_callS C 1 (c_X11_refuse l G n0 (M := M) e3) gs_RX11_45 ⟨rfl, rfl⟩ (by decide +kernel) ⟨Nat.le_of_ble_eq_true rfl, Nat.le_of_ble_eq_true rfl⟩ rfl rfl (Nat.le_of_ble_eq_true rfl) dX11_bake_8 ?_
    refine j_aload_n C 0 dX11_bake_11 rfl rfl ?_
    refine g_X11_undoStack C tw1_222 lc0 45 rfl dX11_bake_12 ?_
    refine j_aload_n C 0 dX11_bake_15 rfl rfl ?_
    refine g_X11_village C tw1_220 lc0 1 rfl dX11_bake_16 ?_
    obtain ⟨M6, e5, hf⟩ := bd hf
    refine j_callV C 1 lc45 (ent_K _ _ _ _ _ _) rfl (c_X8_push l G n0 lc1 e5) gv_RX11_49 ⟨rfl, rfl⟩ (by decide +kernel) ⟨Nat.le_of_ble_eq_true rfl, Nat.le_of_ble_eq_true rfl⟩ rfl rfl (Nat.le_of_ble_eq_true rfl) dX11_bake_19 ?_
    refine j_aload_n C 0 dX11_bake_22 rfl rfl ?_
    refine g_X11_village C tw1_220 lc0 1 rfl dX11_bake_23 ?_
    refine j_iload_n C 1 dX11_bake_26 rfl rfl ?_
    refine j_aload_n C 0 dX11_bake_27 rfl rfl ?_
    refine g_X11_plan C tw1_221 lc0 33 rfl dX11_bake_28 ?_
    obtain ⟨⟨v8, M9⟩, e7, hf⟩ := bd hf
    replace hf := un2e hf
    refine j_callV C 2 lc1 (ent_K _ _ _ _ _ _) rfl (c_X9_haveDay l G n0 lc1 e7) gv_RX11_100 ⟨rfl, rfl⟩ (by decide +kernel) ⟨Nat.le_of_ble_eq_true rfl, Nat.le_of_ble_eq_true rfl⟩ rfl rfl (Nat.le_of_ble_eq_true rfl) dX11_bake_31 ?_
    cases hf
def fX11_claim (x1 : Int32) (M : Mem) : Option (Nat ⊕ (Int32 × Mem)) :=
  (fX9_whyNoHousehold 1 x1 M).bind fun v2 =>
  (fX11_refuse v2).bind fun o4 => xc o4 (fun k => some (Sum.inl k))
  (fun _ => (fX8_push 1 M).bind fun M6 =>
  (fX9_letClaim 1 x1 M6).bind (un2 fun v8 M9 =>
  some (Sum.inr (v8, M9))))

def rX11_claim : Room := { frames := 6, cells := 0, slots := 0, locals := 127 }
set_option maxRecDepth 100000 in
set_option maxHeartbeats 4000000 in
theorem c_X11_claim (l : Launch) (G : Gx) (n0 : Nat) {x1 : Int32} {M : Mem} {r : Int32} {M' : Mem} (hf : fX11_claim x1 M = some (Sum.inr (r, M'))) : Ct l yX11_claim cX11_claim 2 (some .int) rX11_claim G n0 [.ref (n0 + 0), .int x1] M (some (.int r)) M' := by
  refine ct_int (cc := cX11_claim) (maxL := 2) rfl (Nat.le_of_ble_eq_true rfl) ?_
  intro K C hret
  have C : Ok K l rX11_claim cX11_claim RX11 G n0 2 := C
  show J K M 0 [(0, .ref (n0 + 0)), (1, .int x1)] []
  unfold fX11_claim at hf
  refine j_aload_n C 0 dX11_claim_0 rfl rfl ?_
  refine g_X11_village C tw1_220 lc0 1 rfl dX11_claim_1 ?_
  refine j_iload_n C 1 dX11_claim_4 rfl rfl ?_
  obtain ⟨v2, e1, hf⟩ := bd hf
  refine j_callV C 1 lc1 (ent_K _ _ _ _ _ _) rfl (c_X9_whyNoHousehold l G n0 lc1 e1) gv_RX11_69 ⟨rfl, rfl⟩ (by decide +kernel) ⟨Nat.le_of_ble_eq_true rfl, Nat.le_of_ble_eq_true rfl⟩ rfl rfl (Nat.le_of_ble_eq_true rfl) dX11_claim_5 ?_
  obtain ⟨o4, e3, hf⟩ := bd hf
  rcases o4 with kx | _
  · replace hf : some _ = some _ := hf
    cases hf
  · replace hf := xcr hf
    refine j_callS C 1 (c_X11_refuse l G n0 (M := M) e3) gs_RX11_45 ⟨rfl, rfl⟩ (by decide +kernel) ⟨Nat.le_of_ble_eq_true rfl, Nat.le_of_ble_eq_true rfl⟩ rfl rfl (Nat.le_of_ble_eq_true rfl) dX11_claim_8 ?_
    refine j_aload_n C 0 dX11_claim_11 rfl rfl ?_
    refine g_X11_undoStack C tw1_222 lc0 45 rfl dX11_claim_12 ?_
    refine j_aload_n C 0 dX11_claim_15 rfl rfl ?_
    refine g_X11_village C tw1_220 lc0 1 rfl dX11_claim_16 ?_
    obtain ⟨M6, e5, hf⟩ := bd hf
    refine j_callV C 1 lc45 (ent_K _ _ _ _ _ _) rfl (c_X8_push l G n0 lc1 e5) gv_RX11_49 ⟨rfl, rfl⟩ (by decide +kernel) ⟨Nat.le_of_ble_eq_true rfl, Nat.le_of_ble_eq_true rfl⟩ rfl rfl (Nat.le_of_ble_eq_true rfl) dX11_claim_19 ?_
    refine j_aload_n C 0 dX11_claim_22 rfl rfl ?_
    refine g_X11_village C tw1_220 lc0 1 rfl dX11_claim_23 ?_
    refine j_iload_n C 1 dX11_claim_26 rfl rfl ?_
    obtain ⟨⟨v8, M9⟩, e7, hf⟩ := bd hf
    replace hf := un2e hf
    refine j_callV C 1 lc1 (ent_K _ _ _ _ _ _) rfl (c_X9_letClaim l G n0 lc1 e7) gv_RX11_104 ⟨rfl, rfl⟩ (by decide +kernel) ⟨Nat.le_of_ble_eq_true rfl, Nat.le_of_ble_eq_true rfl⟩ rfl rfl (Nat.le_of_ble_eq_true rfl) dX11_claim_27 ?_
    obtain ⟨rfl, rfl⟩ := Prod.mk.inj (Sum.inr.inj (Option.some.inj hf))
    exact hret _ _ dX11_claim_30
def qX11_claim : Room := { frames := 7, cells := 1, slots := 6, locals := 127 }
set_option maxRecDepth 100000 in
set_option maxHeartbeats 4000000 in
theorem t_X11_claim (l : Launch) (hfl : l.stackTraces = false) (G : Gx) (n0 : Nat) {x1 : Int32} {M : Mem} {k : Nat} (hf : fX11_claim x1 M = some (Sum.inl k)) : CtT l yX11_claim cX11_claim 2 (some .int) qX11_claim G n0 [.ref (n0 + 0), .int x1] M k := by
  refine ct_thr (cc := cX11_claim) (maxL := 2) rfl (Nat.le_of_ble_eq_true rfl) ⟨Nat.le_of_ble_eq_true rfl, Nat.le_of_ble_eq_true rfl⟩ ?_
  intro K C hthr
  have C : Ok K l qX11_claim cX11_claim RX11 G n0 2 := C
  show J K M 0 [(0, .ref (n0 + 0)), (1, .int x1)] []
  unfold fX11_claim at hf
  refine j_aload_n C 0 dX11_claim_0 rfl rfl ?_
  refine g_X11_village C tw1_220 lc0 1 rfl dX11_claim_1 ?_
  refine j_iload_n C 1 dX11_claim_4 rfl rfl ?_
  obtain ⟨v2, e1, hf⟩ := bd hf
  refine j_callV C 1 lc1 (ent_K _ _ _ _ _ _) rfl (c_X9_whyNoHousehold l G n0 lc1 e1) gv_RX11_69 ⟨rfl, rfl⟩ (by decide +kernel) ⟨Nat.le_of_ble_eq_true rfl, Nat.le_of_ble_eq_true rfl⟩ rfl rfl (Nat.le_of_ble_eq_true rfl) dX11_claim_5 ?_
  obtain ⟨o4, e3, hf⟩ := bd hf
  rcases o4 with kx | _
  · replace hf : some _ = some _ := hf
    cases hf
    exact j_callTS C 1 hthr (t_X11_refuse l hfl G n0 (M := M) e3) gs_RX11_45 ⟨rfl, rfl⟩ (by decide +kernel) ⟨Nat.le_of_ble_eq_true rfl, Nat.le_of_ble_eq_true rfl⟩ rfl rfl (Nat.le_of_ble_eq_true rfl) dX11_claim_8
  · replace hf := xcr hf
    refine j_callS C 1 (c_X11_refuse l G n0 (M := M) e3) gs_RX11_45 ⟨rfl, rfl⟩ (by decide +kernel) ⟨Nat.le_of_ble_eq_true rfl, Nat.le_of_ble_eq_true rfl⟩ rfl rfl (Nat.le_of_ble_eq_true rfl) dX11_claim_8 ?_
    refine j_aload_n C 0 dX11_claim_11 rfl rfl ?_
    refine g_X11_undoStack C tw1_222 lc0 45 rfl dX11_claim_12 ?_
    refine j_aload_n C 0 dX11_claim_15 rfl rfl ?_
    refine g_X11_village C tw1_220 lc0 1 rfl dX11_claim_16 ?_
    obtain ⟨M6, e5, hf⟩ := bd hf
    refine j_callV C 1 lc45 (ent_K _ _ _ _ _ _) rfl (c_X8_push l G n0 lc1 e5) gv_RX11_49 ⟨rfl, rfl⟩ (by decide +kernel) ⟨Nat.le_of_ble_eq_true rfl, Nat.le_of_ble_eq_true rfl⟩ rfl rfl (Nat.le_of_ble_eq_true rfl) dX11_claim_19 ?_
    refine j_aload_n C 0 dX11_claim_22 rfl rfl ?_
    refine g_X11_village C tw1_220 lc0 1 rfl dX11_claim_23 ?_
    refine j_iload_n C 1 dX11_claim_26 rfl rfl ?_
    obtain ⟨⟨v8, M9⟩, e7, hf⟩ := bd hf
    replace hf := un2e hf
    refine j_callV C 1 lc1 (ent_K _ _ _ _ _ _) rfl (c_X9_letClaim l G n0 lc1 e7) gv_RX11_104 ⟨rfl, rfl⟩ (by decide +kernel) ⟨Nat.le_of_ble_eq_true rfl, Nat.le_of_ble_eq_true rfl⟩ rfl rfl (Nat.le_of_ble_eq_true rfl) dX11_claim_27 ?_
    cases hf
def fX11_returnLoaves (x1 : Int32) (M : Mem) : Option (Nat ⊕ (Int32 × Mem)) :=
  (fX9_whyNoHousehold 1 x1 M).bind fun v2 =>
  (fX11_refuse v2).bind fun o4 => xc o4 (fun k => some (Sum.inl k))
  (fun _ => (fX8_push 1 M).bind fun M6 =>
  (fX6_moveToShelf 23 x1 M6).bind (un2 fun v8 M9 =>
  some (Sum.inr (v8, M9))))

def rX11_returnLoaves : Room := { frames := 5, cells := 0, slots := 0, locals := 127 }
set_option maxRecDepth 100000 in
set_option maxHeartbeats 4000000 in
theorem c_X11_returnLoaves (l : Launch) (G : Gx) (n0 : Nat) {x1 : Int32} {M : Mem} {r : Int32} {M' : Mem} (hf : fX11_returnLoaves x1 M = some (Sum.inr (r, M'))) : Ct l yX11_returnLoaves cX11_returnLoaves 2 (some .int) rX11_returnLoaves G n0 [.ref (n0 + 0), .int x1] M (some (.int r)) M' := by
  refine ct_int (cc := cX11_returnLoaves) (maxL := 2) rfl (Nat.le_of_ble_eq_true rfl) ?_
  intro K C hret
  have C : Ok K l rX11_returnLoaves cX11_returnLoaves RX11 G n0 2 := C
  show J K M 0 [(0, .ref (n0 + 0)), (1, .int x1)] []
  unfold fX11_returnLoaves at hf
  refine j_aload_n C 0 dX11_returnLoaves_0 rfl rfl ?_
  refine g_X11_village C tw1_220 lc0 1 rfl dX11_returnLoaves_1 ?_
  refine j_iload_n C 1 dX11_returnLoaves_4 rfl rfl ?_
  obtain ⟨v2, e1, hf⟩ := bd hf
  refine j_callV C 1 lc1 (ent_K _ _ _ _ _ _) rfl (c_X9_whyNoHousehold l G n0 lc1 e1) gv_RX11_69 ⟨rfl, rfl⟩ (by decide +kernel) ⟨Nat.le_of_ble_eq_true rfl, Nat.le_of_ble_eq_true rfl⟩ rfl rfl (Nat.le_of_ble_eq_true rfl) dX11_returnLoaves_5 ?_
  obtain ⟨o4, e3, hf⟩ := bd hf
  rcases o4 with kx | _
  · replace hf : some _ = some _ := hf
    cases hf
  · replace hf := xcr hf
    refine j_callS C 1 (c_X11_refuse l G n0 (M := M) e3) gs_RX11_45 ⟨rfl, rfl⟩ (by decide +kernel) ⟨Nat.le_of_ble_eq_true rfl, Nat.le_of_ble_eq_true rfl⟩ rfl rfl (Nat.le_of_ble_eq_true rfl) dX11_returnLoaves_8 ?_
    refine j_aload_n C 0 dX11_returnLoaves_11 rfl rfl ?_
    refine g_X11_undoStack C tw1_222 lc0 45 rfl dX11_returnLoaves_12 ?_
    refine j_aload_n C 0 dX11_returnLoaves_15 rfl rfl ?_
    refine g_X11_village C tw1_220 lc0 1 rfl dX11_returnLoaves_16 ?_
    obtain ⟨M6, e5, hf⟩ := bd hf
    refine j_callV C 1 lc45 (ent_K _ _ _ _ _ _) rfl (c_X8_push l G n0 lc1 e5) gv_RX11_49 ⟨rfl, rfl⟩ (by decide +kernel) ⟨Nat.le_of_ble_eq_true rfl, Nat.le_of_ble_eq_true rfl⟩ rfl rfl (Nat.le_of_ble_eq_true rfl) dX11_returnLoaves_19 ?_
    refine j_aload_n C 0 dX11_returnLoaves_22 rfl rfl ?_
    refine g_X11_village C tw1_220 lc0 1 rfl dX11_returnLoaves_23 ?_
    refine gN_X9_loaves C (nxf_RX11_loaves) lc1 23 rfl dX11_returnLoaves_26 ?_
    refine j_iload_n C 1 dX11_returnLoaves_29 rfl rfl ?_
    obtain ⟨⟨v8, M9⟩, e7, hf⟩ := bd hf
    replace hf := un2e hf
    refine j_callV C 1 lc23 (ent_K _ _ _ _ _ _) rfl (c_X6_moveToShelf l G n0 lc23 e7) gv_RX11_111 ⟨rfl, rfl⟩ (by decide +kernel) ⟨Nat.le_of_ble_eq_true rfl, Nat.le_of_ble_eq_true rfl⟩ rfl rfl (Nat.le_of_ble_eq_true rfl) dX11_returnLoaves_30 ?_
    obtain ⟨rfl, rfl⟩ := Prod.mk.inj (Sum.inr.inj (Option.some.inj hf))
    exact hret _ _ dX11_returnLoaves_33
def qX11_returnLoaves : Room := { frames := 7, cells := 1, slots := 6, locals := 127 }
set_option maxRecDepth 100000 in
set_option maxHeartbeats 4000000 in
theorem t_X11_returnLoaves (l : Launch) (hfl : l.stackTraces = false) (G : Gx) (n0 : Nat) {x1 : Int32} {M : Mem} {k : Nat} (hf : fX11_returnLoaves x1 M = some (Sum.inl k)) : CtT l yX11_returnLoaves cX11_returnLoaves 2 (some .int) qX11_returnLoaves G n0 [.ref (n0 + 0), .int x1] M k := by
  refine ct_thr (cc := cX11_returnLoaves) (maxL := 2) rfl (Nat.le_of_ble_eq_true rfl) ⟨Nat.le_of_ble_eq_true rfl, Nat.le_of_ble_eq_true rfl⟩ ?_
  intro K C hthr
  have C : Ok K l qX11_returnLoaves cX11_returnLoaves RX11 G n0 2 := C
  show J K M 0 [(0, .ref (n0 + 0)), (1, .int x1)] []
  unfold fX11_returnLoaves at hf
  refine j_aload_n C 0 dX11_returnLoaves_0 rfl rfl ?_
  refine g_X11_village C tw1_220 lc0 1 rfl dX11_returnLoaves_1 ?_
  refine j_iload_n C 1 dX11_returnLoaves_4 rfl rfl ?_
  obtain ⟨v2, e1, hf⟩ := bd hf
  refine j_callV C 1 lc1 (ent_K _ _ _ _ _ _) rfl (c_X9_whyNoHousehold l G n0 lc1 e1) gv_RX11_69 ⟨rfl, rfl⟩ (by decide +kernel) ⟨Nat.le_of_ble_eq_true rfl, Nat.le_of_ble_eq_true rfl⟩ rfl rfl (Nat.le_of_ble_eq_true rfl) dX11_returnLoaves_5 ?_
  obtain ⟨o4, e3, hf⟩ := bd hf
  rcases o4 with kx | _
  · replace hf : some _ = some _ := hf
    cases hf
    exact j_callTS C 1 hthr (t_X11_refuse l hfl G n0 (M := M) e3) gs_RX11_45 ⟨rfl, rfl⟩ (by decide +kernel) ⟨Nat.le_of_ble_eq_true rfl, Nat.le_of_ble_eq_true rfl⟩ rfl rfl (Nat.le_of_ble_eq_true rfl) dX11_returnLoaves_8
  · replace hf := xcr hf
    refine j_callS C 1 (c_X11_refuse l G n0 (M := M) e3) gs_RX11_45 ⟨rfl, rfl⟩ (by decide +kernel) ⟨Nat.le_of_ble_eq_true rfl, Nat.le_of_ble_eq_true rfl⟩ rfl rfl (Nat.le_of_ble_eq_true rfl) dX11_returnLoaves_8 ?_
    refine j_aload_n C 0 dX11_returnLoaves_11 rfl rfl ?_
    refine g_X11_undoStack C tw1_222 lc0 45 rfl dX11_returnLoaves_12 ?_
    refine j_aload_n C 0 dX11_returnLoaves_15 rfl rfl ?_
    refine g_X11_village C tw1_220 lc0 1 rfl dX11_returnLoaves_16 ?_
    obtain ⟨M6, e5, hf⟩ := bd hf
    refine j_callV C 1 lc45 (ent_K _ _ _ _ _ _) rfl (c_X8_push l G n0 lc1 e5) gv_RX11_49 ⟨rfl, rfl⟩ (by decide +kernel) ⟨Nat.le_of_ble_eq_true rfl, Nat.le_of_ble_eq_true rfl⟩ rfl rfl (Nat.le_of_ble_eq_true rfl) dX11_returnLoaves_19 ?_
    refine j_aload_n C 0 dX11_returnLoaves_22 rfl rfl ?_
    refine g_X11_village C tw1_220 lc0 1 rfl dX11_returnLoaves_23 ?_
    refine gN_X9_loaves C (nxf_RX11_loaves) lc1 23 rfl dX11_returnLoaves_26 ?_
    refine j_iload_n C 1 dX11_returnLoaves_29 rfl rfl ?_
    obtain ⟨⟨v8, M9⟩, e7, hf⟩ := bd hf
    replace hf := un2e hf
    refine j_callV C 1 lc23 (ent_K _ _ _ _ _ _) rfl (c_X6_moveToShelf l G n0 lc23 e7) gv_RX11_111 ⟨rfl, rfl⟩ (by decide +kernel) ⟨Nat.le_of_ble_eq_true rfl, Nat.le_of_ble_eq_true rfl⟩ rfl rfl (Nat.le_of_ble_eq_true rfl) dX11_returnLoaves_30 ?_
    cases hf
def fX11_giveAway  (M : Mem) : Option (Int32 × Mem) :=
  (fX8_push 1 M).bind fun M2 =>
  (fX6_emptyShelf 23 M2).bind (un2 fun v4 M5 =>
  some (v4, M5))

def rX11_giveAway : Room := { frames := 5, cells := 0, slots := 0, locals := 127 }
set_option maxRecDepth 100000 in
set_option maxHeartbeats 4000000 in
theorem c_X11_giveAway (l : Launch) (G : Gx) (n0 : Nat) {M : Mem} {r : Int32} {M' : Mem} (hf : fX11_giveAway M = some (r, M')) : Ct l yX11_giveAway cX11_giveAway 1 (some .int) rX11_giveAway G n0 [.ref (n0 + 0)] M (some (.int r)) M' := by
  refine ct_int (cc := cX11_giveAway) (maxL := 1) rfl (Nat.le_of_ble_eq_true rfl) ?_
  intro K C hret
  have C : Ok K l rX11_giveAway cX11_giveAway RX11 G n0 1 := C
  show J K M 0 [(0, .ref (n0 + 0))] []
  unfold fX11_giveAway at hf
  refine j_aload_n C 0 dX11_giveAway_0 rfl rfl ?_
  refine g_X11_undoStack C tw1_222 lc0 45 rfl dX11_giveAway_1 ?_
  refine j_aload_n C 0 dX11_giveAway_4 rfl rfl ?_
  refine g_X11_village C tw1_220 lc0 1 rfl dX11_giveAway_5 ?_
  obtain ⟨M2, e1, hf⟩ := bd hf
  refine j_callV C 1 lc45 (ent_K _ _ _ _ _ _) rfl (c_X8_push l G n0 lc1 e1) gv_RX11_49 ⟨rfl, rfl⟩ (by decide +kernel) ⟨Nat.le_of_ble_eq_true rfl, Nat.le_of_ble_eq_true rfl⟩ rfl rfl (Nat.le_of_ble_eq_true rfl) dX11_giveAway_8 ?_
  refine j_aload_n C 0 dX11_giveAway_11 rfl rfl ?_
  refine g_X11_village C tw1_220 lc0 1 rfl dX11_giveAway_12 ?_
  refine gN_X9_loaves C (nxf_RX11_loaves) lc1 23 rfl dX11_giveAway_15 ?_
  obtain ⟨⟨v4, M5⟩, e3, hf⟩ := bd hf
  replace hf := un2e hf
  refine j_callV C 0 lc23 (ent_K _ _ _ _ _ _) rfl (c_X6_emptyShelf l G n0 lc23 e3) gv_RX11_116 ⟨rfl, rfl⟩ (by decide +kernel) ⟨Nat.le_of_ble_eq_true rfl, Nat.le_of_ble_eq_true rfl⟩ rfl rfl (Nat.le_of_ble_eq_true rfl) dX11_giveAway_18 ?_
  obtain ⟨rfl, rfl⟩ := Prod.mk.inj (Option.some.inj hf)
  exact hret _ _ dX11_giveAway_21
def fX11_household (x1 : Int32) (x2 : Int32) (M : Mem) : Option (Nat ⊕ Int32) :=
  (fX9_whyNoHousehold 1 x1 M).bind fun v2 =>
  (fX11_refuse v2).bind fun o4 => xc o4 (fun k => some (Sum.inl k))
  (fun _ => (fX11_whyNotBelow x2 (8 : Int32)).bind fun v6 =>
  (fX11_refuse v6).bind fun o8 => xc o8 (fun k => some (Sum.inl k))
  (fun _ => if x2 = 4 then ((fX6_countWith 23 (0 : Int32) x1 M).bind fun v10 =>
  some (Sum.inr v10))
  else if x2 = 5 then ((fX6_countWith 23 (5 : Int32) x1 M).bind fun v12 =>
  some (Sum.inr v12))
  else if x2 = 6 then ((fX6_countWithBoth 23 (0 : Int32) x1 (5 : Int32) x1 M).bind fun v14 =>
  some (Sum.inr v14))
  else if x2 = 7 then ((fX1_countOf 9 x1 M).bind fun v16 =>
  some (Sum.inr v16))
  else ((fX4_value 2 x1 x2 M).bind fun v18 =>
  some (Sum.inr v18))))

def rX11_household : Room := { frames := 3, cells := 0, slots := 0, locals := 74 }
set_option maxRecDepth 100000 in
set_option maxHeartbeats 4000000 in
theorem c_X11_household (l : Launch) (G : Gx) (n0 : Nat) {x1 : Int32} {x2 : Int32} {M : Mem} {r : Int32} (hf : fX11_household x1 x2 M = some (Sum.inr r)) : Ct l yX11_household cX11_household 3 (some .int) rX11_household G n0 [.ref (n0 + 0), .int x1, .int x2] M (some (.int r)) M := by
  refine ct_int (cc := cX11_household) (maxL := 3) rfl (Nat.le_of_ble_eq_true rfl) ?_
  intro K C hret
  have C : Ok K l rX11_household cX11_household RX11 G n0 3 := C
  show J K M 0 [(0, .ref (n0 + 0)), (1, .int x1), (2, .int x2)] []
  unfold fX11_household at hf
  refine j_aload_n C 0 dX11_household_0 rfl rfl ?_
  refine g_X11_village C tw1_220 lc0 1 rfl dX11_household_1 ?_
  refine j_iload_n C 1 dX11_household_4 rfl rfl ?_
  obtain ⟨v2, e1, hf⟩ := bd hf
  refine j_callV C 1 lc1 (ent_K _ _ _ _ _ _) rfl (c_X9_whyNoHousehold l G n0 lc1 e1) gv_RX11_69 ⟨rfl, rfl⟩ (by decide +kernel) ⟨Nat.le_of_ble_eq_true rfl, Nat.le_of_ble_eq_true rfl⟩ rfl rfl (Nat.le_of_ble_eq_true rfl) dX11_household_5 ?_
  obtain ⟨o4, e3, hf⟩ := bd hf
  rcases o4 with kx | _
  · replace hf : some _ = some _ := hf
    cases hf
  · replace hf := xcr hf
    refine j_callS C 1 (c_X11_refuse l G n0 (M := M) e3) gs_RX11_45 ⟨rfl, rfl⟩ (by decide +kernel) ⟨Nat.le_of_ble_eq_true rfl, Nat.le_of_ble_eq_true rfl⟩ rfl rfl (Nat.le_of_ble_eq_true rfl) dX11_household_8 ?_
    refine j_iload_n C 2 dX11_household_11 rfl rfl ?_
    refine j_bipush C (8 : Int32) rfl dX11_household_12 ?_
    obtain ⟨v6, e5, hf⟩ := bd hf
    refine j_callS C 2 (c_X11_whyNotBelow l G n0 (M := M) e5) gs_RX11_120 ⟨rfl, rfl⟩ (by decide +kernel) ⟨Nat.le_of_ble_eq_true rfl, Nat.le_of_ble_eq_true rfl⟩ rfl rfl (Nat.le_of_ble_eq_true rfl) dX11_household_14 ?_
    obtain ⟨o8, e7, hf⟩ := bd hf
    rcases o8 with kx | _
    · replace hf : some _ = some _ := hf
      cases hf
    · replace hf := xcr hf
      refine j_callS C 1 (c_X11_refuse l G n0 (M := M) e7) gs_RX11_45 ⟨rfl, rfl⟩ (by decide +kernel) ⟨Nat.le_of_ble_eq_true rfl, Nat.le_of_ble_eq_true rfl⟩ rfl rfl (Nat.le_of_ble_eq_true rfl) dX11_household_17 ?_
      refine j_iload_n C 2 dX11_household_20 rfl rfl ?_
      by_cases c19_4 : x2 = 4
      · replace hf := ip c19_4 hf
        refine j_tsw C 52 c19_4 dX11_household_21 (by decide) rfl (by decide) ?_
        refine j_aload_n C 0 dX11_household_52 rfl rfl ?_
        refine g_X11_village C tw1_220 lc0 1 rfl dX11_household_53 ?_
        refine gN_X9_loaves C (nxf_RX11_loaves) lc1 23 rfl dX11_household_56 ?_
        refine j_iconst C (0 : Int32) rfl dX11_household_59 ?_
        refine j_iload_n C 1 dX11_household_60 rfl rfl ?_
        obtain ⟨v10, e9, hf⟩ := bd hf
        refine j_callV C 2 lc23 (ent_K _ _ _ _ _ _) rfl (c_X6_countWith l G n0 lc23 e9) gv_RX11_123 ⟨rfl, rfl⟩ (by decide +kernel) ⟨Nat.le_of_ble_eq_true rfl, Nat.le_of_ble_eq_true rfl⟩ rfl rfl (Nat.le_of_ble_eq_true rfl) dX11_household_61 ?_
        obtain rfl := Sum.inr.inj (Option.some.inj hf)
        exact hret _ _ dX11_household_64
      · replace hf := ine c19_4 hf
        by_cases c19_5 : x2 = 5
        · replace hf := ip c19_5 hf
          refine j_tsw C 65 c19_5 dX11_household_21 (by decide) rfl (by decide) ?_
          refine j_aload_n C 0 dX11_household_65 rfl rfl ?_
          refine g_X11_village C tw1_220 lc0 1 rfl dX11_household_66 ?_
          refine gN_X9_loaves C (nxf_RX11_loaves) lc1 23 rfl dX11_household_69 ?_
          refine j_iconst C (5 : Int32) rfl dX11_household_72 ?_
          refine j_iload_n C 1 dX11_household_73 rfl rfl ?_
          obtain ⟨v12, e11, hf⟩ := bd hf
          refine j_callV C 2 lc23 (ent_K _ _ _ _ _ _) rfl (c_X6_countWith l G n0 lc23 e11) gv_RX11_123 ⟨rfl, rfl⟩ (by decide +kernel) ⟨Nat.le_of_ble_eq_true rfl, Nat.le_of_ble_eq_true rfl⟩ rfl rfl (Nat.le_of_ble_eq_true rfl) dX11_household_74 ?_
          obtain rfl := Sum.inr.inj (Option.some.inj hf)
          exact hret _ _ dX11_household_77
        · replace hf := ine c19_5 hf
          by_cases c19_6 : x2 = 6
          · replace hf := ip c19_6 hf
            refine j_tsw C 78 c19_6 dX11_household_21 (by decide) rfl (by decide) ?_
            refine j_aload_n C 0 dX11_household_78 rfl rfl ?_
            refine g_X11_village C tw1_220 lc0 1 rfl dX11_household_79 ?_
            refine gN_X9_loaves C (nxf_RX11_loaves) lc1 23 rfl dX11_household_82 ?_
            refine j_iconst C (0 : Int32) rfl dX11_household_85 ?_
            refine j_iload_n C 1 dX11_household_86 rfl rfl ?_
            refine j_iconst C (5 : Int32) rfl dX11_household_87 ?_
            refine j_iload_n C 1 dX11_household_88 rfl rfl ?_
            obtain ⟨v14, e13, hf⟩ := bd hf
            refine j_callV C 4 lc23 (ent_K _ _ _ _ _ _) rfl (c_X6_countWithBoth l G n0 lc23 e13) gv_RX11_126 ⟨rfl, rfl⟩ (by decide +kernel) ⟨Nat.le_of_ble_eq_true rfl, Nat.le_of_ble_eq_true rfl⟩ rfl rfl (Nat.le_of_ble_eq_true rfl) dX11_household_89 ?_
            obtain rfl := Sum.inr.inj (Option.some.inj hf)
            exact hret _ _ dX11_household_92
          · replace hf := ine c19_6 hf
            by_cases c19_7 : x2 = 7
            · replace hf := ip c19_7 hf
              refine j_tsw C 93 c19_7 dX11_household_21 (by decide) rfl (by decide) ?_
              refine j_aload_n C 0 dX11_household_93 rfl rfl ?_
              refine g_X11_village C tw1_220 lc0 1 rfl dX11_household_94 ?_
              refine gN_X9_batches C (nxf_RX11_batches) lc1 9 rfl dX11_household_97 ?_
              refine j_iload_n C 1 dX11_household_100 rfl rfl ?_
              obtain ⟨v16, e15, hf⟩ := bd hf
              refine j_callV C 1 lc9 (ent_K _ _ _ _ _ _) rfl (c_X1_countOf l G n0 lc9 e15) gv_RX11_130 ⟨rfl, rfl⟩ (by decide +kernel) ⟨Nat.le_of_ble_eq_true rfl, Nat.le_of_ble_eq_true rfl⟩ rfl rfl (Nat.le_of_ble_eq_true rfl) dX11_household_101 ?_
              obtain rfl := Sum.inr.inj (Option.some.inj hf)
              exact hret _ _ dX11_household_104
            · replace hf := ine c19_7 hf
              refine j_tswD C 105 (by have g4 := lv_neT c19_4 (show (4 : Int32).toInt = 4 by decide); have g5 := lv_neT c19_5 (show (5 : Int32).toInt = 5 by decide); have g6 := lv_neT c19_6 (show (6 : Int32).toInt = 6 by decide); have g7 := lv_neT c19_7 (show (7 : Int32).toInt = 7 by decide); omega) dX11_household_21 (by decide) ?_
              refine j_aload_n C 0 dX11_household_105 rfl rfl ?_
              refine g_X11_village C tw1_220 lc0 1 rfl dX11_household_106 ?_
              refine gN_X9_households C (nxf_RX11_households) lc1 2 rfl dX11_household_109 ?_
              refine j_iload_n C 1 dX11_household_112 rfl rfl ?_
              refine j_iload_n C 2 dX11_household_113 rfl rfl ?_
              obtain ⟨v18, e17, hf⟩ := bd hf
              refine j_callV C 2 lc2 (ent_K _ _ _ _ _ _) rfl (c_X4_value l G n0 lc2 e17) gv_RX11_133 ⟨rfl, rfl⟩ (by decide +kernel) ⟨Nat.le_of_ble_eq_true rfl, Nat.le_of_ble_eq_true rfl⟩ rfl rfl (Nat.le_of_ble_eq_true rfl) dX11_household_114 ?_
              obtain rfl := Sum.inr.inj (Option.some.inj hf)
              exact hret _ _ dX11_household_117
def qX11_household : Room := { frames := 7, cells := 1, slots := 6, locals := 110 }
set_option maxRecDepth 100000 in
set_option maxHeartbeats 4000000 in
theorem t_X11_household (l : Launch) (hfl : l.stackTraces = false) (G : Gx) (n0 : Nat) {x1 : Int32} {x2 : Int32} {M : Mem} {k : Nat} (hf : fX11_household x1 x2 M = some (Sum.inl k)) : CtT l yX11_household cX11_household 3 (some .int) qX11_household G n0 [.ref (n0 + 0), .int x1, .int x2] M k := by
  refine ct_thr (cc := cX11_household) (maxL := 3) rfl (Nat.le_of_ble_eq_true rfl) ⟨Nat.le_of_ble_eq_true rfl, Nat.le_of_ble_eq_true rfl⟩ ?_
  intro K C hthr
  have C : Ok K l qX11_household cX11_household RX11 G n0 3 := C
  show J K M 0 [(0, .ref (n0 + 0)), (1, .int x1), (2, .int x2)] []
  unfold fX11_household at hf
  refine j_aload_n C 0 dX11_household_0 rfl rfl ?_
  refine g_X11_village C tw1_220 lc0 1 rfl dX11_household_1 ?_
  refine j_iload_n C 1 dX11_household_4 rfl rfl ?_
  obtain ⟨v2, e1, hf⟩ := bd hf
  refine j_callV C 1 lc1 (ent_K _ _ _ _ _ _) rfl (c_X9_whyNoHousehold l G n0 lc1 e1) gv_RX11_69 ⟨rfl, rfl⟩ (by decide +kernel) ⟨Nat.le_of_ble_eq_true rfl, Nat.le_of_ble_eq_true rfl⟩ rfl rfl (Nat.le_of_ble_eq_true rfl) dX11_household_5 ?_
  obtain ⟨o4, e3, hf⟩ := bd hf
  rcases o4 with kx | _
  · replace hf : some _ = some _ := hf
    cases hf
    exact j_callTS C 1 hthr (t_X11_refuse l hfl G n0 (M := M) e3) gs_RX11_45 ⟨rfl, rfl⟩ (by decide +kernel) ⟨Nat.le_of_ble_eq_true rfl, Nat.le_of_ble_eq_true rfl⟩ rfl rfl (Nat.le_of_ble_eq_true rfl) dX11_household_8
  · replace hf := xcr hf
    refine j_callS C 1 (c_X11_refuse l G n0 (M := M) e3) gs_RX11_45 ⟨rfl, rfl⟩ (by decide +kernel) ⟨Nat.le_of_ble_eq_true rfl, Nat.le_of_ble_eq_true rfl⟩ rfl rfl (Nat.le_of_ble_eq_true rfl) dX11_household_8 ?_
    refine j_iload_n C 2 dX11_household_11 rfl rfl ?_
    refine j_bipush C (8 : Int32) rfl dX11_household_12 ?_
    obtain ⟨v6, e5, hf⟩ := bd hf
    refine j_callS C 2 (c_X11_whyNotBelow l G n0 (M := M) e5) gs_RX11_120 ⟨rfl, rfl⟩ (by decide +kernel) ⟨Nat.le_of_ble_eq_true rfl, Nat.le_of_ble_eq_true rfl⟩ rfl rfl (Nat.le_of_ble_eq_true rfl) dX11_household_14 ?_
    obtain ⟨o8, e7, hf⟩ := bd hf
    rcases o8 with kx | _
    · replace hf : some _ = some _ := hf
      cases hf
      exact j_callTS C 1 hthr (t_X11_refuse l hfl G n0 (M := M) e7) gs_RX11_45 ⟨rfl, rfl⟩ (by decide +kernel) ⟨Nat.le_of_ble_eq_true rfl, Nat.le_of_ble_eq_true rfl⟩ rfl rfl (Nat.le_of_ble_eq_true rfl) dX11_household_17
    · replace hf := xcr hf
      refine j_callS C 1 (c_X11_refuse l G n0 (M := M) e7) gs_RX11_45 ⟨rfl, rfl⟩ (by decide +kernel) ⟨Nat.le_of_ble_eq_true rfl, Nat.le_of_ble_eq_true rfl⟩ rfl rfl (Nat.le_of_ble_eq_true rfl) dX11_household_17 ?_
      refine j_iload_n C 2 dX11_household_20 rfl rfl ?_
      by_cases c19_4 : x2 = 4
      · replace hf := ip c19_4 hf
        refine j_tsw C 52 c19_4 dX11_household_21 (by decide) rfl (by decide) ?_
        refine j_aload_n C 0 dX11_household_52 rfl rfl ?_
        refine g_X11_village C tw1_220 lc0 1 rfl dX11_household_53 ?_
        refine gN_X9_loaves C (nxf_RX11_loaves) lc1 23 rfl dX11_household_56 ?_
        refine j_iconst C (0 : Int32) rfl dX11_household_59 ?_
        refine j_iload_n C 1 dX11_household_60 rfl rfl ?_
        obtain ⟨v10, e9, hf⟩ := bd hf
        refine j_callV C 2 lc23 (ent_K _ _ _ _ _ _) rfl (c_X6_countWith l G n0 lc23 e9) gv_RX11_123 ⟨rfl, rfl⟩ (by decide +kernel) ⟨Nat.le_of_ble_eq_true rfl, Nat.le_of_ble_eq_true rfl⟩ rfl rfl (Nat.le_of_ble_eq_true rfl) dX11_household_61 ?_
        cases hf
      · replace hf := ine c19_4 hf
        by_cases c19_5 : x2 = 5
        · replace hf := ip c19_5 hf
          refine j_tsw C 65 c19_5 dX11_household_21 (by decide) rfl (by decide) ?_
          refine j_aload_n C 0 dX11_household_65 rfl rfl ?_
          refine g_X11_village C tw1_220 lc0 1 rfl dX11_household_66 ?_
          refine gN_X9_loaves C (nxf_RX11_loaves) lc1 23 rfl dX11_household_69 ?_
          refine j_iconst C (5 : Int32) rfl dX11_household_72 ?_
          refine j_iload_n C 1 dX11_household_73 rfl rfl ?_
          obtain ⟨v12, e11, hf⟩ := bd hf
          refine j_callV C 2 lc23 (ent_K _ _ _ _ _ _) rfl (c_X6_countWith l G n0 lc23 e11) gv_RX11_123 ⟨rfl, rfl⟩ (by decide +kernel) ⟨Nat.le_of_ble_eq_true rfl, Nat.le_of_ble_eq_true rfl⟩ rfl rfl (Nat.le_of_ble_eq_true rfl) dX11_household_74 ?_
          cases hf
        · replace hf := ine c19_5 hf
          by_cases c19_6 : x2 = 6
          · replace hf := ip c19_6 hf
            refine j_tsw C 78 c19_6 dX11_household_21 (by decide) rfl (by decide) ?_
            refine j_aload_n C 0 dX11_household_78 rfl rfl ?_
            refine g_X11_village C tw1_220 lc0 1 rfl dX11_household_79 ?_
            refine gN_X9_loaves C (nxf_RX11_loaves) lc1 23 rfl dX11_household_82 ?_
            refine j_iconst C (0 : Int32) rfl dX11_household_85 ?_
            refine j_iload_n C 1 dX11_household_86 rfl rfl ?_
            refine j_iconst C (5 : Int32) rfl dX11_household_87 ?_
            refine j_iload_n C 1 dX11_household_88 rfl rfl ?_
            obtain ⟨v14, e13, hf⟩ := bd hf
            refine j_callV C 4 lc23 (ent_K _ _ _ _ _ _) rfl (c_X6_countWithBoth l G n0 lc23 e13) gv_RX11_126 ⟨rfl, rfl⟩ (by decide +kernel) ⟨Nat.le_of_ble_eq_true rfl, Nat.le_of_ble_eq_true rfl⟩ rfl rfl (Nat.le_of_ble_eq_true rfl) dX11_household_89 ?_
            cases hf
          · replace hf := ine c19_6 hf
            by_cases c19_7 : x2 = 7
            · replace hf := ip c19_7 hf
              refine j_tsw C 93 c19_7 dX11_household_21 (by decide) rfl (by decide) ?_
              refine j_aload_n C 0 dX11_household_93 rfl rfl ?_
              refine g_X11_village C tw1_220 lc0 1 rfl dX11_household_94 ?_
              refine gN_X9_batches C (nxf_RX11_batches) lc1 9 rfl dX11_household_97 ?_
              refine j_iload_n C 1 dX11_household_100 rfl rfl ?_
              obtain ⟨v16, e15, hf⟩ := bd hf
              refine j_callV C 1 lc9 (ent_K _ _ _ _ _ _) rfl (c_X1_countOf l G n0 lc9 e15) gv_RX11_130 ⟨rfl, rfl⟩ (by decide +kernel) ⟨Nat.le_of_ble_eq_true rfl, Nat.le_of_ble_eq_true rfl⟩ rfl rfl (Nat.le_of_ble_eq_true rfl) dX11_household_101 ?_
              cases hf
            · replace hf := ine c19_7 hf
              refine j_tswD C 105 (by have g4 := lv_neT c19_4 (show (4 : Int32).toInt = 4 by decide); have g5 := lv_neT c19_5 (show (5 : Int32).toInt = 5 by decide); have g6 := lv_neT c19_6 (show (6 : Int32).toInt = 6 by decide); have g7 := lv_neT c19_7 (show (7 : Int32).toInt = 7 by decide); omega) dX11_household_21 (by decide) ?_
              refine j_aload_n C 0 dX11_household_105 rfl rfl ?_
              refine g_X11_village C tw1_220 lc0 1 rfl dX11_household_106 ?_
              refine gN_X9_households C (nxf_RX11_households) lc1 2 rfl dX11_household_109 ?_
              refine j_iload_n C 1 dX11_household_112 rfl rfl ?_
              refine j_iload_n C 2 dX11_household_113 rfl rfl ?_
              obtain ⟨v18, e17, hf⟩ := bd hf
              refine j_callV C 2 lc2 (ent_K _ _ _ _ _ _) rfl (c_X4_value l G n0 lc2 e17) gv_RX11_133 ⟨rfl, rfl⟩ (by decide +kernel) ⟨Nat.le_of_ble_eq_true rfl, Nat.le_of_ble_eq_true rfl⟩ rfl rfl (Nat.le_of_ble_eq_true rfl) dX11_household_114 ?_
              cases hf
def fX11_due (x1 : Int32) (M : Mem) : Option (Nat ⊕ Int64) :=
  (fX9_whyNoHousehold 1 x1 M).bind fun v2 =>
  (fX11_refuse v2).bind fun o4 => xc o4 (fun k => some (Sum.inl k))
  (fun _ => (fX4_dueOf 2 x1 M).bind fun v6 =>
  some (Sum.inr v6))

def rX11_due : Room := { frames := 2, cells := 0, slots := 0, locals := 50 }
set_option maxRecDepth 100000 in
set_option maxHeartbeats 4000000 in
theorem c_X11_due (l : Launch) (G : Gx) (n0 : Nat) {x1 : Int32} {M : Mem} {r : Int64} (hf : fX11_due x1 M = some (Sum.inr r)) : Ct l yX11_due cX11_due 2 (some .long) rX11_due G n0 [.ref (n0 + 0), .int x1] M (some (.long r)) M := by
  refine ct_long (cc := cX11_due) (maxL := 2) rfl (Nat.le_of_ble_eq_true rfl) ?_
  intro K C hret
  have C : Ok K l rX11_due cX11_due RX11 G n0 2 := C
  show J K M 0 [(0, .ref (n0 + 0)), (1, .int x1)] []
  unfold fX11_due at hf
  refine j_aload_n C 0 dX11_due_0 rfl rfl ?_
  refine g_X11_village C tw1_220 lc0 1 rfl dX11_due_1 ?_
  refine j_iload_n C 1 dX11_due_4 rfl rfl ?_
  obtain ⟨v2, e1, hf⟩ := bd hf
  refine j_callV C 1 lc1 (ent_K _ _ _ _ _ _) rfl (c_X9_whyNoHousehold l G n0 lc1 e1) gv_RX11_69 ⟨rfl, rfl⟩ (by decide +kernel) ⟨Nat.le_of_ble_eq_true rfl, Nat.le_of_ble_eq_true rfl⟩ rfl rfl (Nat.le_of_ble_eq_true rfl) dX11_due_5 ?_
  obtain ⟨o4, e3, hf⟩ := bd hf
  rcases o4 with kx | _
  · replace hf : some _ = some _ := hf
    cases hf
  · replace hf := xcr hf
    refine j_callS C 1 (c_X11_refuse l G n0 (M := M) e3) gs_RX11_45 ⟨rfl, rfl⟩ (by decide +kernel) ⟨Nat.le_of_ble_eq_true rfl, Nat.le_of_ble_eq_true rfl⟩ rfl rfl (Nat.le_of_ble_eq_true rfl) dX11_due_8 ?_
    refine j_aload_n C 0 dX11_due_11 rfl rfl ?_
    refine g_X11_village C tw1_220 lc0 1 rfl dX11_due_12 ?_
    refine gN_X9_households C (nxf_RX11_households) lc1 2 rfl dX11_due_15 ?_
    refine j_iload_n C 1 dX11_due_18 rfl rfl ?_
    obtain ⟨v6, e5, hf⟩ := bd hf
    refine j_callV C 1 lc2 (ent_K _ _ _ _ _ _) rfl (c_X4_dueOf l G n0 lc2 e5) gv_RX11_136 ⟨rfl, rfl⟩ (by decide +kernel) ⟨Nat.le_of_ble_eq_true rfl, Nat.le_of_ble_eq_true rfl⟩ rfl rfl (Nat.le_of_ble_eq_true rfl) dX11_due_19 ?_
    obtain rfl := Sum.inr.inj (Option.some.inj hf)
    exact hret _ _ dX11_due_22
def qX11_due : Room := { frames := 7, cells := 1, slots := 6, locals := 110 }
set_option maxRecDepth 100000 in
set_option maxHeartbeats 4000000 in
theorem t_X11_due (l : Launch) (hfl : l.stackTraces = false) (G : Gx) (n0 : Nat) {x1 : Int32} {M : Mem} {k : Nat} (hf : fX11_due x1 M = some (Sum.inl k)) : CtT l yX11_due cX11_due 2 (some .long) qX11_due G n0 [.ref (n0 + 0), .int x1] M k := by
  refine ct_thr (cc := cX11_due) (maxL := 2) rfl (Nat.le_of_ble_eq_true rfl) ⟨Nat.le_of_ble_eq_true rfl, Nat.le_of_ble_eq_true rfl⟩ ?_
  intro K C hthr
  have C : Ok K l qX11_due cX11_due RX11 G n0 2 := C
  show J K M 0 [(0, .ref (n0 + 0)), (1, .int x1)] []
  unfold fX11_due at hf
  refine j_aload_n C 0 dX11_due_0 rfl rfl ?_
  refine g_X11_village C tw1_220 lc0 1 rfl dX11_due_1 ?_
  refine j_iload_n C 1 dX11_due_4 rfl rfl ?_
  obtain ⟨v2, e1, hf⟩ := bd hf
  refine j_callV C 1 lc1 (ent_K _ _ _ _ _ _) rfl (c_X9_whyNoHousehold l G n0 lc1 e1) gv_RX11_69 ⟨rfl, rfl⟩ (by decide +kernel) ⟨Nat.le_of_ble_eq_true rfl, Nat.le_of_ble_eq_true rfl⟩ rfl rfl (Nat.le_of_ble_eq_true rfl) dX11_due_5 ?_
  obtain ⟨o4, e3, hf⟩ := bd hf
  rcases o4 with kx | _
  · replace hf : some _ = some _ := hf
    cases hf
    exact j_callTS C 1 hthr (t_X11_refuse l hfl G n0 (M := M) e3) gs_RX11_45 ⟨rfl, rfl⟩ (by decide +kernel) ⟨Nat.le_of_ble_eq_true rfl, Nat.le_of_ble_eq_true rfl⟩ rfl rfl (Nat.le_of_ble_eq_true rfl) dX11_due_8
  · replace hf := xcr hf
    refine j_callS C 1 (c_X11_refuse l G n0 (M := M) e3) gs_RX11_45 ⟨rfl, rfl⟩ (by decide +kernel) ⟨Nat.le_of_ble_eq_true rfl, Nat.le_of_ble_eq_true rfl⟩ rfl rfl (Nat.le_of_ble_eq_true rfl) dX11_due_8 ?_
    refine j_aload_n C 0 dX11_due_11 rfl rfl ?_
    refine g_X11_village C tw1_220 lc0 1 rfl dX11_due_12 ?_
    refine gN_X9_households C (nxf_RX11_households) lc1 2 rfl dX11_due_15 ?_
    refine j_iload_n C 1 dX11_due_18 rfl rfl ?_
    obtain ⟨v6, e5, hf⟩ := bd hf
    refine j_callV C 1 lc2 (ent_K _ _ _ _ _ _) rfl (c_X4_dueOf l G n0 lc2 e5) gv_RX11_136 ⟨rfl, rfl⟩ (by decide +kernel) ⟨Nat.le_of_ble_eq_true rfl, Nat.le_of_ble_eq_true rfl⟩ rfl rfl (Nat.le_of_ble_eq_true rfl) dX11_due_19 ?_
    cases hf
def fX11_balance (x1 : Int32) (x2 : Int32) (M : Mem) : Option (Nat ⊕ Int32) :=
  (fX9_whyNoHousehold 1 x1 M).bind fun v2 =>
  (fX11_refuse v2).bind fun o4 => xc o4 (fun k => some (Sum.inl k))
  (fun _ => (fX11_whyNotBelow x2 (3 : Int32)).bind fun v6 =>
  (fX11_refuse v6).bind fun o8 => xc o8 (fun k => some (Sum.inl k))
  (fun _ => (fX6_balanceOf 23 x1 x2 M).bind fun v10 =>
  some (Sum.inr v10)))

def rX11_balance : Room := { frames := 4, cells := 0, slots := 0, locals := 79 }
set_option maxRecDepth 100000 in
set_option maxHeartbeats 4000000 in
theorem c_X11_balance (l : Launch) (G : Gx) (n0 : Nat) {x1 : Int32} {x2 : Int32} {M : Mem} {r : Int32} (hf : fX11_balance x1 x2 M = some (Sum.inr r)) : Ct l yX11_balance cX11_balance 3 (some .int) rX11_balance G n0 [.ref (n0 + 0), .int x1, .int x2] M (some (.int r)) M := by
  refine ct_int (cc := cX11_balance) (maxL := 3) rfl (Nat.le_of_ble_eq_true rfl) ?_
  intro K C hret
  have C : Ok K l rX11_balance cX11_balance RX11 G n0 3 := C
  show J K M 0 [(0, .ref (n0 + 0)), (1, .int x1), (2, .int x2)] []
  unfold fX11_balance at hf
  refine j_aload_n C 0 dX11_balance_0 rfl rfl ?_
  refine g_X11_village C tw1_220 lc0 1 rfl dX11_balance_1 ?_
  refine j_iload_n C 1 dX11_balance_4 rfl rfl ?_
  obtain ⟨v2, e1, hf⟩ := bd hf
  refine j_callV C 1 lc1 (ent_K _ _ _ _ _ _) rfl (c_X9_whyNoHousehold l G n0 lc1 e1) gv_RX11_69 ⟨rfl, rfl⟩ (by decide +kernel) ⟨Nat.le_of_ble_eq_true rfl, Nat.le_of_ble_eq_true rfl⟩ rfl rfl (Nat.le_of_ble_eq_true rfl) dX11_balance_5 ?_
  obtain ⟨o4, e3, hf⟩ := bd hf
  rcases o4 with kx | _
  · replace hf : some _ = some _ := hf
    cases hf
  · replace hf := xcr hf
    refine j_callS C 1 (c_X11_refuse l G n0 (M := M) e3) gs_RX11_45 ⟨rfl, rfl⟩ (by decide +kernel) ⟨Nat.le_of_ble_eq_true rfl, Nat.le_of_ble_eq_true rfl⟩ rfl rfl (Nat.le_of_ble_eq_true rfl) dX11_balance_8 ?_
    refine j_iload_n C 2 dX11_balance_11 rfl rfl ?_
    refine j_iconst C (3 : Int32) rfl dX11_balance_12 ?_
    obtain ⟨v6, e5, hf⟩ := bd hf
    refine j_callS C 2 (c_X11_whyNotBelow l G n0 (M := M) e5) gs_RX11_120 ⟨rfl, rfl⟩ (by decide +kernel) ⟨Nat.le_of_ble_eq_true rfl, Nat.le_of_ble_eq_true rfl⟩ rfl rfl (Nat.le_of_ble_eq_true rfl) dX11_balance_13 ?_
    obtain ⟨o8, e7, hf⟩ := bd hf
    rcases o8 with kx | _
    · replace hf : some _ = some _ := hf
      cases hf
    · replace hf := xcr hf
      refine j_callS C 1 (c_X11_refuse l G n0 (M := M) e7) gs_RX11_45 ⟨rfl, rfl⟩ (by decide +kernel) ⟨Nat.le_of_ble_eq_true rfl, Nat.le_of_ble_eq_true rfl⟩ rfl rfl (Nat.le_of_ble_eq_true rfl) dX11_balance_16 ?_
      refine j_aload_n C 0 dX11_balance_19 rfl rfl ?_
      refine g_X11_village C tw1_220 lc0 1 rfl dX11_balance_20 ?_
      refine gN_X9_loaves C (nxf_RX11_loaves) lc1 23 rfl dX11_balance_23 ?_
      refine j_iload_n C 1 dX11_balance_26 rfl rfl ?_
      refine j_iload_n C 2 dX11_balance_27 rfl rfl ?_
      obtain ⟨v10, e9, hf⟩ := bd hf
      refine j_callV C 2 lc23 (ent_K _ _ _ _ _ _) rfl (c_X6_balanceOf l G n0 lc23 e9) gv_RX11_143 ⟨rfl, rfl⟩ (by decide +kernel) ⟨Nat.le_of_ble_eq_true rfl, Nat.le_of_ble_eq_true rfl⟩ rfl rfl (Nat.le_of_ble_eq_true rfl) dX11_balance_28 ?_
      obtain rfl := Sum.inr.inj (Option.some.inj hf)
      exact hret _ _ dX11_balance_31
def qX11_balance : Room := { frames := 7, cells := 1, slots := 6, locals := 110 }
set_option maxRecDepth 100000 in
set_option maxHeartbeats 4000000 in
theorem t_X11_balance (l : Launch) (hfl : l.stackTraces = false) (G : Gx) (n0 : Nat) {x1 : Int32} {x2 : Int32} {M : Mem} {k : Nat} (hf : fX11_balance x1 x2 M = some (Sum.inl k)) : CtT l yX11_balance cX11_balance 3 (some .int) qX11_balance G n0 [.ref (n0 + 0), .int x1, .int x2] M k := by
  refine ct_thr (cc := cX11_balance) (maxL := 3) rfl (Nat.le_of_ble_eq_true rfl) ⟨Nat.le_of_ble_eq_true rfl, Nat.le_of_ble_eq_true rfl⟩ ?_
  intro K C hthr
  have C : Ok K l qX11_balance cX11_balance RX11 G n0 3 := C
  show J K M 0 [(0, .ref (n0 + 0)), (1, .int x1), (2, .int x2)] []
  unfold fX11_balance at hf
  refine j_aload_n C 0 dX11_balance_0 rfl rfl ?_
  refine g_X11_village C tw1_220 lc0 1 rfl dX11_balance_1 ?_
  refine j_iload_n C 1 dX11_balance_4 rfl rfl ?_
  obtain ⟨v2, e1, hf⟩ := bd hf
  refine j_callV C 1 lc1 (ent_K _ _ _ _ _ _) rfl (c_X9_whyNoHousehold l G n0 lc1 e1) gv_RX11_69 ⟨rfl, rfl⟩ (by decide +kernel) ⟨Nat.le_of_ble_eq_true rfl, Nat.le_of_ble_eq_true rfl⟩ rfl rfl (Nat.le_of_ble_eq_true rfl) dX11_balance_5 ?_
  obtain ⟨o4, e3, hf⟩ := bd hf
  rcases o4 with kx | _
  · replace hf : some _ = some _ := hf
    cases hf
    exact j_callTS C 1 hthr (t_X11_refuse l hfl G n0 (M := M) e3) gs_RX11_45 ⟨rfl, rfl⟩ (by decide +kernel) ⟨Nat.le_of_ble_eq_true rfl, Nat.le_of_ble_eq_true rfl⟩ rfl rfl (Nat.le_of_ble_eq_true rfl) dX11_balance_8
  · replace hf := xcr hf
    refine j_callS C 1 (c_X11_refuse l G n0 (M := M) e3) gs_RX11_45 ⟨rfl, rfl⟩ (by decide +kernel) ⟨Nat.le_of_ble_eq_true rfl, Nat.le_of_ble_eq_true rfl⟩ rfl rfl (Nat.le_of_ble_eq_true rfl) dX11_balance_8 ?_
    refine j_iload_n C 2 dX11_balance_11 rfl rfl ?_
    refine j_iconst C (3 : Int32) rfl dX11_balance_12 ?_
    obtain ⟨v6, e5, hf⟩ := bd hf
    refine j_callS C 2 (c_X11_whyNotBelow l G n0 (M := M) e5) gs_RX11_120 ⟨rfl, rfl⟩ (by decide +kernel) ⟨Nat.le_of_ble_eq_true rfl, Nat.le_of_ble_eq_true rfl⟩ rfl rfl (Nat.le_of_ble_eq_true rfl) dX11_balance_13 ?_
    obtain ⟨o8, e7, hf⟩ := bd hf
    rcases o8 with kx | _
    · replace hf : some _ = some _ := hf
      cases hf
      exact j_callTS C 1 hthr (t_X11_refuse l hfl G n0 (M := M) e7) gs_RX11_45 ⟨rfl, rfl⟩ (by decide +kernel) ⟨Nat.le_of_ble_eq_true rfl, Nat.le_of_ble_eq_true rfl⟩ rfl rfl (Nat.le_of_ble_eq_true rfl) dX11_balance_16
    · replace hf := xcr hf
      refine j_callS C 1 (c_X11_refuse l G n0 (M := M) e7) gs_RX11_45 ⟨rfl, rfl⟩ (by decide +kernel) ⟨Nat.le_of_ble_eq_true rfl, Nat.le_of_ble_eq_true rfl⟩ rfl rfl (Nat.le_of_ble_eq_true rfl) dX11_balance_16 ?_
      refine j_aload_n C 0 dX11_balance_19 rfl rfl ?_
      refine g_X11_village C tw1_220 lc0 1 rfl dX11_balance_20 ?_
      refine gN_X9_loaves C (nxf_RX11_loaves) lc1 23 rfl dX11_balance_23 ?_
      refine j_iload_n C 1 dX11_balance_26 rfl rfl ?_
      refine j_iload_n C 2 dX11_balance_27 rfl rfl ?_
      obtain ⟨v10, e9, hf⟩ := bd hf
      refine j_callV C 2 lc23 (ent_K _ _ _ _ _ _) rfl (c_X6_balanceOf l G n0 lc23 e9) gv_RX11_143 ⟨rfl, rfl⟩ (by decide +kernel) ⟨Nat.le_of_ble_eq_true rfl, Nat.le_of_ble_eq_true rfl⟩ rfl rfl (Nat.le_of_ble_eq_true rfl) dX11_balance_28 ?_
      cases hf
def fX11_batch (x1 : Int32) (x2 : Int32) (M : Mem) : Option (Nat ⊕ (Int32 × Mem)) :=
  (if 0 ≤ x1 then ((fX11_whyNotBelow x2 (4 : Int32)).bind fun v3 =>
  some v3)
  else (some (2 : Int32))).bind (fun z4 => (fX11_refuse z4).bind fun o6 => xc o6 (fun k => some (Sum.inl k))
  (fun _ => (fX1_has 9 x1 M).bind fun b8 =>
  if b8 = true then (if (3 : Int32) ≤ x2 then ((fX9_arrangeNextDay 1 M).bind fun M12 =>
  (fX3_placeOf x1 M12).bind fun v14 =>
  some (Sum.inr (v14, M12)))
  else ((fX1_value 9 x1 x2 M).bind fun v16 =>
  some (Sum.inr (v16, M))))
  else (some (Sum.inr ((-1 : Int32), M)))))

def rX11_batch : Room := { frames := 4, cells := 0, slots := 0, locals := 100 }
set_option maxRecDepth 100000 in
set_option maxHeartbeats 4000000 in
theorem c_X11_batch (l : Launch) (G : Gx) (n0 : Nat) {x1 : Int32} {x2 : Int32} {M : Mem} {r : Int32} {M' : Mem} (hf : fX11_batch x1 x2 M = some (Sum.inr (r, M'))) : Ct l yX11_batch cX11_batch 3 (some .int) rX11_batch G n0 [.ref (n0 + 0), .int x1, .int x2] M (some (.int r)) M' := by
  refine ct_int (cc := cX11_batch) (maxL := 3) rfl (Nat.le_of_ble_eq_true rfl) ?_
  intro K C hret
  have C : Ok K l rX11_batch cX11_batch RX11 G n0 3 := C
  show J K M 0 [(0, .ref (n0 + 0)), (1, .int x1), (2, .int x2)] []
  unfold fX11_batch at hf
  refine j_iload_n C 1 dX11_batch_0 rfl rfl ?_
  obtain ⟨z4, e17, hf⟩ := bd hf
  have hj18 : J K M 13 [(0, .ref (n0 + 0)), (1, .int x1), (2, .int x2)] [.int z4] := by
    obtain ⟨o6, e5, hf⟩ := bd hf
    rcases o6 with kx | _
    · replace hf : some _ = some _ := hf
      cases hf
    · replace hf := xcr hf
      refine j_callS C 1 (c_X11_refuse l G n0 (M := M) e5) gs_RX11_45 ⟨rfl, rfl⟩ (by decide +kernel) ⟨Nat.le_of_ble_eq_true rfl, Nat.le_of_ble_eq_true rfl⟩ rfl rfl (Nat.le_of_ble_eq_true rfl) dX11_batch_13 ?_
      refine j_aload_n C 0 dX11_batch_16 rfl rfl ?_
      refine g_X11_village C tw1_220 lc0 1 rfl dX11_batch_17 ?_
      refine gN_X9_batches C (nxf_RX11_batches) lc1 9 rfl dX11_batch_20 ?_
      refine j_iload_n C 1 dX11_batch_23 rfl rfl ?_
      obtain ⟨b8, e7, hf⟩ := bd hf
      refine j_callV C 1 lc9 (ent_K _ _ _ _ _ _) rfl (c_X1_has l G n0 lc9 e7) gv_RX11_87 ⟨rfl, rfl⟩ (by decide +kernel) ⟨Nat.le_of_ble_eq_true rfl, Nat.le_of_ble_eq_true rfl⟩ rfl rfl (Nat.le_of_ble_eq_true rfl) dX11_batch_24 ?_
      refine j_ifz_ne C 32 dX11_batch_27 (by decide) (fun c9 => ?_) (fun c9 => ?_)
      · replace hf := ip c9 hf
        refine j_iload_n C 2 dX11_batch_32 rfl rfl ?_
        refine j_iconst C (3 : Int32) rfl dX11_batch_33 ?_
        refine j_icmp_ge C 50 dX11_batch_34 (by decide) (fun c10 => ?_) (fun c10 => ?_)
        · replace hf := ip c10 hf
          refine j_aload_n C 0 dX11_batch_50 rfl rfl ?_
          refine g_X11_village C tw1_220 lc0 1 rfl dX11_batch_51 ?_
          refine j_aload_n C 0 dX11_batch_54 rfl rfl ?_
          refine g_X11_plan C tw1_221 lc0 33 rfl dX11_batch_55 ?_
          obtain ⟨M12, e11, hf⟩ := bd hf
          refine j_callV C 1 lc1 (ent_K _ _ _ _ _ _) rfl (c_X9_arrangeNextDay l G n0 lc1 e11) gv_RX11_147 ⟨rfl, rfl⟩ (by decide +kernel) ⟨Nat.le_of_ble_eq_true rfl, Nat.le_of_ble_eq_true rfl⟩ rfl rfl (Nat.le_of_ble_eq_true rfl) dX11_batch_58 ?_
          refine j_aload_n C 0 dX11_batch_61 rfl rfl ?_
          refine g_X11_plan C tw1_221 lc0 33 rfl dX11_batch_62 ?_
          refine j_iload_n C 1 dX11_batch_65 rfl rfl ?_
          obtain ⟨v14, e13, hf⟩ := bd hf
          refine j_callV C 1 lc33 (ent_K _ _ _ _ _ _) rfl (c_X3_placeOf l G n0 e13) gv_RX11_151 ⟨rfl, rfl⟩ (by decide +kernel) ⟨Nat.le_of_ble_eq_true rfl, Nat.le_of_ble_eq_true rfl⟩ rfl rfl (Nat.le_of_ble_eq_true rfl) dX11_batch_66 ?_
          obtain ⟨rfl, rfl⟩ := Prod.mk.inj (Sum.inr.inj (Option.some.inj hf))
          exact hret _ _ dX11_batch_69
        · replace hf := ine c10 hf
          refine j_aload_n C 0 dX11_batch_37 rfl rfl ?_
          refine g_X11_village C tw1_220 lc0 1 rfl dX11_batch_38 ?_
          refine gN_X9_batches C (nxf_RX11_batches) lc1 9 rfl dX11_batch_41 ?_
          refine j_iload_n C 1 dX11_batch_44 rfl rfl ?_
          refine j_iload_n C 2 dX11_batch_45 rfl rfl ?_
          obtain ⟨v16, e15, hf⟩ := bd hf
          refine j_callV C 2 lc9 (ent_K _ _ _ _ _ _) rfl (c_X1_value l G n0 lc9 e15) gv_RX11_146 ⟨rfl, rfl⟩ (by decide +kernel) ⟨Nat.le_of_ble_eq_true rfl, Nat.le_of_ble_eq_true rfl⟩ rfl rfl (Nat.le_of_ble_eq_true rfl) dX11_batch_46 ?_
          obtain ⟨rfl, rfl⟩ := Prod.mk.inj (Sum.inr.inj (Option.some.inj hf))
          exact hret _ _ dX11_batch_49
      · replace hf := ine c9 hf
        refine j_iconst C (-1 : Int32) rfl dX11_batch_30 ?_
        obtain ⟨rfl, rfl⟩ := Prod.mk.inj (Sum.inr.inj (Option.some.inj hf))
        exact hret _ _ dX11_batch_31
  clear hf
  have hf := e17
  refine j_if_ge C 8 dX11_batch_1 (by decide) (fun c1 => ?_) (fun c1 => ?_)
  · replace hf := ip c1 hf
    refine j_iload_n C 2 dX11_batch_8 rfl rfl ?_
    refine j_iconst C (4 : Int32) rfl dX11_batch_9 ?_
    obtain ⟨v3, e2, hf⟩ := bd hf
    refine j_callS C 2 (c_X11_whyNotBelow l G n0 (M := M) e2) gs_RX11_120 ⟨rfl, rfl⟩ (by decide +kernel) ⟨Nat.le_of_ble_eq_true rfl, Nat.le_of_ble_eq_true rfl⟩ rfl rfl (Nat.le_of_ble_eq_true rfl) dX11_batch_10 ?_
    cases hf
    refine j_sub [0, 1, 2] rfl ?_
    exact hj18
  · replace hf := ine c1 hf
    refine j_iconst C (2 : Int32) rfl dX11_batch_4 ?_
    refine j_goto C 13 dX11_batch_5 (by decide) ?_
    cases hf
    refine j_sub [0, 1, 2] rfl ?_
    exact hj18
def qX11_batch : Room := { frames := 7, cells := 1, slots := 6, locals := 110 }
set_option maxRecDepth 100000 in
set_option maxHeartbeats 4000000 in
theorem t_X11_batch (l : Launch) (hfl : l.stackTraces = false) (G : Gx) (n0 : Nat) {x1 : Int32} {x2 : Int32} {M : Mem} {k : Nat} (hf : fX11_batch x1 x2 M = some (Sum.inl k)) : CtT l yX11_batch cX11_batch 3 (some .int) qX11_batch G n0 [.ref (n0 + 0), .int x1, .int x2] M k := by
  refine ct_thr (cc := cX11_batch) (maxL := 3) rfl (Nat.le_of_ble_eq_true rfl) ⟨Nat.le_of_ble_eq_true rfl, Nat.le_of_ble_eq_true rfl⟩ ?_
  intro K C hthr
  have C : Ok K l qX11_batch cX11_batch RX11 G n0 3 := C
  show J K M 0 [(0, .ref (n0 + 0)), (1, .int x1), (2, .int x2)] []
  unfold fX11_batch at hf
  refine j_iload_n C 1 dX11_batch_0 rfl rfl ?_
  obtain ⟨z4, e19, hf⟩ := bd hf
  have hj20 : J K M 13 [(0, .ref (n0 + 0)), (1, .int x1), (2, .int x2)] [.int z4] := by
    obtain ⟨o6, e5, hf⟩ := bd hf
    rcases o6 with kx | _
    · replace hf : some _ = some _ := hf
      cases hf
      exact j_callTS C 1 hthr (t_X11_refuse l hfl G n0 (M := M) e5) gs_RX11_45 ⟨rfl, rfl⟩ (by decide +kernel) ⟨Nat.le_of_ble_eq_true rfl, Nat.le_of_ble_eq_true rfl⟩ rfl rfl (Nat.le_of_ble_eq_true rfl) dX11_batch_13
    · replace hf := xcr hf
      refine j_callS C 1 (c_X11_refuse l G n0 (M := M) e5) gs_RX11_45 ⟨rfl, rfl⟩ (by decide +kernel) ⟨Nat.le_of_ble_eq_true rfl, Nat.le_of_ble_eq_true rfl⟩ rfl rfl (Nat.le_of_ble_eq_true rfl) dX11_batch_13 ?_
      refine j_aload_n C 0 dX11_batch_16 rfl rfl ?_
      refine g_X11_village C tw1_220 lc0 1 rfl dX11_batch_17 ?_
      refine gN_X9_batches C (nxf_RX11_batches) lc1 9 rfl dX11_batch_20 ?_
      refine j_iload_n C 1 dX11_batch_23 rfl rfl ?_
      obtain ⟨b8, e7, hf⟩ := bd hf
      refine j_callV C 1 lc9 (ent_K _ _ _ _ _ _) rfl (c_X1_has l G n0 lc9 e7) gv_RX11_87 ⟨rfl, rfl⟩ (by decide +kernel) ⟨Nat.le_of_ble_eq_true rfl, Nat.le_of_ble_eq_true rfl⟩ rfl rfl (Nat.le_of_ble_eq_true rfl) dX11_batch_24 ?_
      refine j_ifz_ne C 32 dX11_batch_27 (by decide) (fun c9 => ?_) (fun c9 => ?_)
      · replace hf := ip c9 hf
        refine j_iload_n C 2 dX11_batch_32 rfl rfl ?_
        refine j_iconst C (3 : Int32) rfl dX11_batch_33 ?_
        refine j_icmp_ge C 50 dX11_batch_34 (by decide) (fun c10 => ?_) (fun c10 => ?_)
        · replace hf := ip c10 hf
          refine j_aload_n C 0 dX11_batch_50 rfl rfl ?_
          refine g_X11_village C tw1_220 lc0 1 rfl dX11_batch_51 ?_
          refine j_aload_n C 0 dX11_batch_54 rfl rfl ?_
          refine g_X11_plan C tw1_221 lc0 33 rfl dX11_batch_55 ?_
          obtain ⟨M12, e11, hf⟩ := bd hf
          refine j_callV C 1 lc1 (ent_K _ _ _ _ _ _) rfl (c_X9_arrangeNextDay l G n0 lc1 e11) gv_RX11_147 ⟨rfl, rfl⟩ (by decide +kernel) ⟨Nat.le_of_ble_eq_true rfl, Nat.le_of_ble_eq_true rfl⟩ rfl rfl (Nat.le_of_ble_eq_true rfl) dX11_batch_58 ?_
          refine j_aload_n C 0 dX11_batch_61 rfl rfl ?_
          refine g_X11_plan C tw1_221 lc0 33 rfl dX11_batch_62 ?_
          refine j_iload_n C 1 dX11_batch_65 rfl rfl ?_
          obtain ⟨v14, e13, hf⟩ := bd hf
          refine j_callV C 1 lc33 (ent_K _ _ _ _ _ _) rfl (c_X3_placeOf l G n0 e13) gv_RX11_151 ⟨rfl, rfl⟩ (by decide +kernel) ⟨Nat.le_of_ble_eq_true rfl, Nat.le_of_ble_eq_true rfl⟩ rfl rfl (Nat.le_of_ble_eq_true rfl) dX11_batch_66 ?_
          cases hf
        · replace hf := ine c10 hf
          refine j_aload_n C 0 dX11_batch_37 rfl rfl ?_
          refine g_X11_village C tw1_220 lc0 1 rfl dX11_batch_38 ?_
          refine gN_X9_batches C (nxf_RX11_batches) lc1 9 rfl dX11_batch_41 ?_
          refine j_iload_n C 1 dX11_batch_44 rfl rfl ?_
          refine j_iload_n C 2 dX11_batch_45 rfl rfl ?_
          obtain ⟨v16, e15, hf⟩ := bd hf
          refine j_callV C 2 lc9 (ent_K _ _ _ _ _ _) rfl (c_X1_value l G n0 lc9 e15) gv_RX11_146 ⟨rfl, rfl⟩ (by decide +kernel) ⟨Nat.le_of_ble_eq_true rfl, Nat.le_of_ble_eq_true rfl⟩ rfl rfl (Nat.le_of_ble_eq_true rfl) dX11_batch_46 ?_
          cases hf
      · replace hf := ine c9 hf
        refine j_iconst C (-1 : Int32) rfl dX11_batch_30 ?_
        cases hf
  clear hf
  have hf := e19
  refine j_if_ge C 8 dX11_batch_1 (by decide) (fun c1 => ?_) (fun c1 => ?_)
  · replace hf := ip c1 hf
    refine j_iload_n C 2 dX11_batch_8 rfl rfl ?_
    refine j_iconst C (4 : Int32) rfl dX11_batch_9 ?_
    obtain ⟨v3, e2, hf⟩ := bd hf
    refine j_callS C 2 (c_X11_whyNotBelow l G n0 (M := M) e2) gs_RX11_120 ⟨rfl, rfl⟩ (by decide +kernel) ⟨Nat.le_of_ble_eq_true rfl, Nat.le_of_ble_eq_true rfl⟩ rfl rfl (Nat.le_of_ble_eq_true rfl) dX11_batch_10 ?_
    cases hf
    refine j_sub [0, 1, 2] rfl ?_
    exact hj20
  · replace hf := ine c1 hf
    refine j_iconst C (2 : Int32) rfl dX11_batch_4 ?_
    refine j_goto C 13 dX11_batch_5 (by decide) ?_
    cases hf
    refine j_sub [0, 1, 2] rfl ?_
    exact hj20
def fX11_loaf (x1 : Int32) (x2 : Int32) (M : Mem) : Option (Nat ⊕ Int32) :=
  (fX6_keeps 23 x1 M).bind fun b2 =>
  (if b2 = true then (some (0 : Int32))
  else (some (1 : Int32))).bind (fun z4 => (fX11_refuse z4).bind fun o6 => xc o6 (fun k => some (Sum.inl k))
  (fun _ => (fX11_whyNotBelow x2 (7 : Int32)).bind fun v8 =>
  (fX11_refuse v8).bind fun o10 => xc o10 (fun k => some (Sum.inl k))
  (fun _ => (fX6_value 23 x1 x2 M).bind fun v12 =>
  some (Sum.inr v12))))

def rX11_loaf : Room := { frames := 4, cells := 0, slots := 0, locals := 74 }
set_option maxRecDepth 100000 in
set_option maxHeartbeats 4000000 in
theorem c_X11_loaf (l : Launch) (G : Gx) (n0 : Nat) {x1 : Int32} {x2 : Int32} {M : Mem} {r : Int32} (hf : fX11_loaf x1 x2 M = some (Sum.inr r)) : Ct l yX11_loaf cX11_loaf 3 (some .int) rX11_loaf G n0 [.ref (n0 + 0), .int x1, .int x2] M (some (.int r)) M := by
  refine ct_int (cc := cX11_loaf) (maxL := 3) rfl (Nat.le_of_ble_eq_true rfl) ?_
  intro K C hret
  have C : Ok K l rX11_loaf cX11_loaf RX11 G n0 3 := C
  show J K M 0 [(0, .ref (n0 + 0)), (1, .int x1), (2, .int x2)] []
  unfold fX11_loaf at hf
  refine j_aload_n C 0 dX11_loaf_0 rfl rfl ?_
  refine g_X11_village C tw1_220 lc0 1 rfl dX11_loaf_1 ?_
  refine gN_X9_loaves C (nxf_RX11_loaves) lc1 23 rfl dX11_loaf_4 ?_
  refine j_iload_n C 1 dX11_loaf_7 rfl rfl ?_
  obtain ⟨b2, e1, hf⟩ := bd hf
  refine j_callV C 1 lc23 (ent_K _ _ _ _ _ _) rfl (c_X6_keeps l G n0 lc23 e1) gv_RX11_154 ⟨rfl, rfl⟩ (by decide +kernel) ⟨Nat.le_of_ble_eq_true rfl, Nat.le_of_ble_eq_true rfl⟩ rfl rfl (Nat.le_of_ble_eq_true rfl) dX11_loaf_8 ?_
  obtain ⟨z4, e13, hf⟩ := bd hf
  have hj14 : J K M 19 [(0, .ref (n0 + 0)), (1, .int x1), (2, .int x2)] [.int z4] := by
    obtain ⟨o6, e5, hf⟩ := bd hf
    rcases o6 with kx | _
    · replace hf : some _ = some _ := hf
      cases hf
    · replace hf := xcr hf
      refine j_callS C 1 (c_X11_refuse l G n0 (M := M) e5) gs_RX11_45 ⟨rfl, rfl⟩ (by decide +kernel) ⟨Nat.le_of_ble_eq_true rfl, Nat.le_of_ble_eq_true rfl⟩ rfl rfl (Nat.le_of_ble_eq_true rfl) dX11_loaf_19 ?_
      refine j_iload_n C 2 dX11_loaf_22 rfl rfl ?_
      refine j_bipush C (7 : Int32) rfl dX11_loaf_23 ?_
      obtain ⟨v8, e7, hf⟩ := bd hf
      refine j_callS C 2 (c_X11_whyNotBelow l G n0 (M := M) e7) gs_RX11_120 ⟨rfl, rfl⟩ (by decide +kernel) ⟨Nat.le_of_ble_eq_true rfl, Nat.le_of_ble_eq_true rfl⟩ rfl rfl (Nat.le_of_ble_eq_true rfl) dX11_loaf_25 ?_
      obtain ⟨o10, e9, hf⟩ := bd hf
      rcases o10 with kx | _
      · replace hf : some _ = some _ := hf
        cases hf
      · replace hf := xcr hf
        refine j_callS C 1 (c_X11_refuse l G n0 (M := M) e9) gs_RX11_45 ⟨rfl, rfl⟩ (by decide +kernel) ⟨Nat.le_of_ble_eq_true rfl, Nat.le_of_ble_eq_true rfl⟩ rfl rfl (Nat.le_of_ble_eq_true rfl) dX11_loaf_28 ?_
        refine j_aload_n C 0 dX11_loaf_31 rfl rfl ?_
        refine g_X11_village C tw1_220 lc0 1 rfl dX11_loaf_32 ?_
        refine gN_X9_loaves C (nxf_RX11_loaves) lc1 23 rfl dX11_loaf_35 ?_
        refine j_iload_n C 1 dX11_loaf_38 rfl rfl ?_
        refine j_iload_n C 2 dX11_loaf_39 rfl rfl ?_
        obtain ⟨v12, e11, hf⟩ := bd hf
        refine j_callV C 2 lc23 (ent_K _ _ _ _ _ _) rfl (c_X6_value l G n0 lc23 e11) gv_RX11_157 ⟨rfl, rfl⟩ (by decide +kernel) ⟨Nat.le_of_ble_eq_true rfl, Nat.le_of_ble_eq_true rfl⟩ rfl rfl (Nat.le_of_ble_eq_true rfl) dX11_loaf_40 ?_
        obtain rfl := Sum.inr.inj (Option.some.inj hf)
        exact hret _ _ dX11_loaf_43
  clear hf
  have hf := e13
  refine j_ifz_eq C 18 dX11_loaf_11 (by decide) (fun c3 => ?_) (fun c3 => ?_)
  · replace hf := ine c3 hf
    refine j_iconst C (1 : Int32) rfl dX11_loaf_18 ?_
    cases hf
    refine j_sub [0, 1, 2] rfl ?_
    exact hj14
  · replace hf := ip c3 hf
    refine j_iconst C (0 : Int32) rfl dX11_loaf_14 ?_
    refine j_goto C 19 dX11_loaf_15 (by decide) ?_
    cases hf
    refine j_sub [0, 1, 2] rfl ?_
    exact hj14
def qX11_loaf : Room := { frames := 7, cells := 1, slots := 6, locals := 110 }
set_option maxRecDepth 100000 in
set_option maxHeartbeats 4000000 in
theorem t_X11_loaf (l : Launch) (hfl : l.stackTraces = false) (G : Gx) (n0 : Nat) {x1 : Int32} {x2 : Int32} {M : Mem} {k : Nat} (hf : fX11_loaf x1 x2 M = some (Sum.inl k)) : CtT l yX11_loaf cX11_loaf 3 (some .int) qX11_loaf G n0 [.ref (n0 + 0), .int x1, .int x2] M k := by
  refine ct_thr (cc := cX11_loaf) (maxL := 3) rfl (Nat.le_of_ble_eq_true rfl) ⟨Nat.le_of_ble_eq_true rfl, Nat.le_of_ble_eq_true rfl⟩ ?_
  intro K C hthr
  have C : Ok K l qX11_loaf cX11_loaf RX11 G n0 3 := C
  show J K M 0 [(0, .ref (n0 + 0)), (1, .int x1), (2, .int x2)] []
  unfold fX11_loaf at hf
  refine j_aload_n C 0 dX11_loaf_0 rfl rfl ?_
  refine g_X11_village C tw1_220 lc0 1 rfl dX11_loaf_1 ?_
  refine gN_X9_loaves C (nxf_RX11_loaves) lc1 23 rfl dX11_loaf_4 ?_
  refine j_iload_n C 1 dX11_loaf_7 rfl rfl ?_
  obtain ⟨b2, e1, hf⟩ := bd hf
  refine j_callV C 1 lc23 (ent_K _ _ _ _ _ _) rfl (c_X6_keeps l G n0 lc23 e1) gv_RX11_154 ⟨rfl, rfl⟩ (by decide +kernel) ⟨Nat.le_of_ble_eq_true rfl, Nat.le_of_ble_eq_true rfl⟩ rfl rfl (Nat.le_of_ble_eq_true rfl) dX11_loaf_8 ?_
  obtain ⟨z4, e15, hf⟩ := bd hf
  have hj16 : J K M 19 [(0, .ref (n0 + 0)), (1, .int x1), (2, .int x2)] [.int z4] := by
    obtain ⟨o6, e5, hf⟩ := bd hf
    rcases o6 with kx | _
    · replace hf : some _ = some _ := hf
      cases hf
      exact j_callTS C 1 hthr (t_X11_refuse l hfl G n0 (M := M) e5) gs_RX11_45 ⟨rfl, rfl⟩ (by decide +kernel) ⟨Nat.le_of_ble_eq_true rfl, Nat.le_of_ble_eq_true rfl⟩ rfl rfl (Nat.le_of_ble_eq_true rfl) dX11_loaf_19
    · replace hf := xcr hf
      refine j_callS C 1 (c_X11_refuse l G n0 (M := M) e5) gs_RX11_45 ⟨rfl, rfl⟩ (by decide +kernel) ⟨Nat.le_of_ble_eq_true rfl, Nat.le_of_ble_eq_true rfl⟩ rfl rfl (Nat.le_of_ble_eq_true rfl) dX11_loaf_19 ?_
      refine j_iload_n C 2 dX11_loaf_22 rfl rfl ?_
      refine j_bipush C (7 : Int32) rfl dX11_loaf_23 ?_
      obtain ⟨v8, e7, hf⟩ := bd hf
      refine j_callS C 2 (c_X11_whyNotBelow l G n0 (M := M) e7) gs_RX11_120 ⟨rfl, rfl⟩ (by decide +kernel) ⟨Nat.le_of_ble_eq_true rfl, Nat.le_of_ble_eq_true rfl⟩ rfl rfl (Nat.le_of_ble_eq_true rfl) dX11_loaf_25 ?_
      obtain ⟨o10, e9, hf⟩ := bd hf
      rcases o10 with kx | _
      · replace hf : some _ = some _ := hf
        cases hf
        exact j_callTS C 1 hthr (t_X11_refuse l hfl G n0 (M := M) e9) gs_RX11_45 ⟨rfl, rfl⟩ (by decide +kernel) ⟨Nat.le_of_ble_eq_true rfl, Nat.le_of_ble_eq_true rfl⟩ rfl rfl (Nat.le_of_ble_eq_true rfl) dX11_loaf_28
      · replace hf := xcr hf
        refine j_callS C 1 (c_X11_refuse l G n0 (M := M) e9) gs_RX11_45 ⟨rfl, rfl⟩ (by decide +kernel) ⟨Nat.le_of_ble_eq_true rfl, Nat.le_of_ble_eq_true rfl⟩ rfl rfl (Nat.le_of_ble_eq_true rfl) dX11_loaf_28 ?_
        refine j_aload_n C 0 dX11_loaf_31 rfl rfl ?_
        refine g_X11_village C tw1_220 lc0 1 rfl dX11_loaf_32 ?_
        refine gN_X9_loaves C (nxf_RX11_loaves) lc1 23 rfl dX11_loaf_35 ?_
        refine j_iload_n C 1 dX11_loaf_38 rfl rfl ?_
        refine j_iload_n C 2 dX11_loaf_39 rfl rfl ?_
        obtain ⟨v12, e11, hf⟩ := bd hf
        refine j_callV C 2 lc23 (ent_K _ _ _ _ _ _) rfl (c_X6_value l G n0 lc23 e11) gv_RX11_157 ⟨rfl, rfl⟩ (by decide +kernel) ⟨Nat.le_of_ble_eq_true rfl, Nat.le_of_ble_eq_true rfl⟩ rfl rfl (Nat.le_of_ble_eq_true rfl) dX11_loaf_40 ?_
        cases hf
  clear hf
  have hf := e15
  refine j_ifz_eq C 18 dX11_loaf_11 (by decide) (fun c3 => ?_) (fun c3 => ?_)
  · replace hf := ine c3 hf
    refine j_iconst C (1 : Int32) rfl dX11_loaf_18 ?_
    cases hf
    refine j_sub [0, 1, 2] rfl ?_
    exact hj16
  · replace hf := ip c3 hf
    refine j_iconst C (0 : Int32) rfl dX11_loaf_14 ?_
    refine j_goto C 19 dX11_loaf_15 (by decide) ?_
    cases hf
    refine j_sub [0, 1, 2] rfl ?_
    exact hj16
def fX11_load (x1 : Int32) (x2 : Int32) (M : Mem) : Option (Nat ⊕ Int32) :=
  (if 0 ≤ x1 then ((fX11_whyNotBelow x2 (5 : Int32)).bind fun v3 =>
  some v3)
  else (some (2 : Int32))).bind (fun z4 => (fX11_refuse z4).bind fun o6 => xc o6 (fun k => some (Sum.inl k))
  (fun _ => (fX5_size 15 M).bind fun v8 =>
  if v8 ≤ x1 then (some (Sum.inr (-1 : Int32)))
  else ((fX5_value 15 x1 x2 M).bind fun v11 =>
  some (Sum.inr v11))))

def rX11_load : Room := { frames := 2, cells := 0, slots := 0, locals := 44 }
set_option maxRecDepth 100000 in
set_option maxHeartbeats 4000000 in
theorem c_X11_load (l : Launch) (G : Gx) (n0 : Nat) {x1 : Int32} {x2 : Int32} {M : Mem} {r : Int32} (hf : fX11_load x1 x2 M = some (Sum.inr r)) : Ct l yX11_load cX11_load 3 (some .int) rX11_load G n0 [.ref (n0 + 0), .int x1, .int x2] M (some (.int r)) M := by
  refine ct_int (cc := cX11_load) (maxL := 3) rfl (Nat.le_of_ble_eq_true rfl) ?_
  intro K C hret
  have C : Ok K l rX11_load cX11_load RX11 G n0 3 := C
  show J K M 0 [(0, .ref (n0 + 0)), (1, .int x1), (2, .int x2)] []
  unfold fX11_load at hf
  refine j_iload_n C 1 dX11_load_0 rfl rfl ?_
  obtain ⟨z4, e12, hf⟩ := bd hf
  have hj13 : J K M 13 [(0, .ref (n0 + 0)), (1, .int x1), (2, .int x2)] [.int z4] := by
    obtain ⟨o6, e5, hf⟩ := bd hf
    rcases o6 with kx | _
    · replace hf : some _ = some _ := hf
      cases hf
    · replace hf := xcr hf
      refine j_callS C 1 (c_X11_refuse l G n0 (M := M) e5) gs_RX11_45 ⟨rfl, rfl⟩ (by decide +kernel) ⟨Nat.le_of_ble_eq_true rfl, Nat.le_of_ble_eq_true rfl⟩ rfl rfl (Nat.le_of_ble_eq_true rfl) dX11_load_13 ?_
      refine j_iload_n C 1 dX11_load_16 rfl rfl ?_
      refine j_aload_n C 0 dX11_load_17 rfl rfl ?_
      refine g_X11_village C tw1_220 lc0 1 rfl dX11_load_18 ?_
      refine gN_X9_loads C (nxf_RX11_loads) lc1 15 rfl dX11_load_21 ?_
      obtain ⟨v8, e7, hf⟩ := bd hf
      refine j_callV C 0 lc15 (ent_K _ _ _ _ _ _) rfl (c_X5_size l G n0 lc15 e7) gv_RX11_162 ⟨rfl, rfl⟩ (by decide +kernel) ⟨Nat.le_of_ble_eq_true rfl, Nat.le_of_ble_eq_true rfl⟩ rfl rfl (Nat.le_of_ble_eq_true rfl) dX11_load_24 ?_
      refine j_icmp_ge C 45 dX11_load_27 (by decide) (fun c9 => ?_) (fun c9 => ?_)
      · replace hf := ip c9 hf
        refine j_iconst C (-1 : Int32) rfl dX11_load_45 ?_
        obtain rfl := Sum.inr.inj (Option.some.inj hf)
        exact hret _ _ dX11_load_46
      · replace hf := ine c9 hf
        refine j_aload_n C 0 dX11_load_30 rfl rfl ?_
        refine g_X11_village C tw1_220 lc0 1 rfl dX11_load_31 ?_
        refine gN_X9_loads C (nxf_RX11_loads) lc1 15 rfl dX11_load_34 ?_
        refine j_iload_n C 1 dX11_load_37 rfl rfl ?_
        refine j_iload_n C 2 dX11_load_38 rfl rfl ?_
        obtain ⟨v11, e10, hf⟩ := bd hf
        refine j_callV C 2 lc15 (ent_K _ _ _ _ _ _) rfl (c_X5_value l G n0 lc15 e10) gv_RX11_167 ⟨rfl, rfl⟩ (by decide +kernel) ⟨Nat.le_of_ble_eq_true rfl, Nat.le_of_ble_eq_true rfl⟩ rfl rfl (Nat.le_of_ble_eq_true rfl) dX11_load_39 ?_
        refine j_goto C 46 dX11_load_42 (by decide) ?_
        obtain rfl := Sum.inr.inj (Option.some.inj hf)
        exact hret _ _ dX11_load_46
  clear hf
  have hf := e12
  refine j_if_ge C 8 dX11_load_1 (by decide) (fun c1 => ?_) (fun c1 => ?_)
  · replace hf := ip c1 hf
    refine j_iload_n C 2 dX11_load_8 rfl rfl ?_
    refine j_iconst C (5 : Int32) rfl dX11_load_9 ?_
    obtain ⟨v3, e2, hf⟩ := bd hf
    refine j_callS C 2 (c_X11_whyNotBelow l G n0 (M := M) e2) gs_RX11_120 ⟨rfl, rfl⟩ (by decide +kernel) ⟨Nat.le_of_ble_eq_true rfl, Nat.le_of_ble_eq_true rfl⟩ rfl rfl (Nat.le_of_ble_eq_true rfl) dX11_load_10 ?_
    cases hf
    refine j_sub [0, 1, 2] rfl ?_
    exact hj13
  · replace hf := ine c1 hf
    refine j_iconst C (2 : Int32) rfl dX11_load_4 ?_
    refine j_goto C 13 dX11_load_5 (by decide) ?_
    cases hf
    refine j_sub [0, 1, 2] rfl ?_
    exact hj13
def qX11_load : Room := { frames := 7, cells := 1, slots := 6, locals := 110 }
set_option maxRecDepth 100000 in
set_option maxHeartbeats 4000000 in
theorem t_X11_load (l : Launch) (hfl : l.stackTraces = false) (G : Gx) (n0 : Nat) {x1 : Int32} {x2 : Int32} {M : Mem} {k : Nat} (hf : fX11_load x1 x2 M = some (Sum.inl k)) : CtT l yX11_load cX11_load 3 (some .int) qX11_load G n0 [.ref (n0 + 0), .int x1, .int x2] M k := by
  refine ct_thr (cc := cX11_load) (maxL := 3) rfl (Nat.le_of_ble_eq_true rfl) ⟨Nat.le_of_ble_eq_true rfl, Nat.le_of_ble_eq_true rfl⟩ ?_
  intro K C hthr
  have C : Ok K l qX11_load cX11_load RX11 G n0 3 := C
  show J K M 0 [(0, .ref (n0 + 0)), (1, .int x1), (2, .int x2)] []
  unfold fX11_load at hf
  refine j_iload_n C 1 dX11_load_0 rfl rfl ?_
  obtain ⟨z4, e14, hf⟩ := bd hf
  have hj15 : J K M 13 [(0, .ref (n0 + 0)), (1, .int x1), (2, .int x2)] [.int z4] := by
    obtain ⟨o6, e5, hf⟩ := bd hf
    rcases o6 with kx | _
    · replace hf : some _ = some _ := hf
      cases hf
      exact j_callTS C 1 hthr (t_X11_refuse l hfl G n0 (M := M) e5) gs_RX11_45 ⟨rfl, rfl⟩ (by decide +kernel) ⟨Nat.le_of_ble_eq_true rfl, Nat.le_of_ble_eq_true rfl⟩ rfl rfl (Nat.le_of_ble_eq_true rfl) dX11_load_13
    · replace hf := xcr hf
      refine j_callS C 1 (c_X11_refuse l G n0 (M := M) e5) gs_RX11_45 ⟨rfl, rfl⟩ (by decide +kernel) ⟨Nat.le_of_ble_eq_true rfl, Nat.le_of_ble_eq_true rfl⟩ rfl rfl (Nat.le_of_ble_eq_true rfl) dX11_load_13 ?_
      refine j_iload_n C 1 dX11_load_16 rfl rfl ?_
      refine j_aload_n C 0 dX11_load_17 rfl rfl ?_
      refine g_X11_village C tw1_220 lc0 1 rfl dX11_load_18 ?_
      refine gN_X9_loads C (nxf_RX11_loads) lc1 15 rfl dX11_load_21 ?_
      obtain ⟨v8, e7, hf⟩ := bd hf
      refine j_callV C 0 lc15 (ent_K _ _ _ _ _ _) rfl (c_X5_size l G n0 lc15 e7) gv_RX11_162 ⟨rfl, rfl⟩ (by decide +kernel) ⟨Nat.le_of_ble_eq_true rfl, Nat.le_of_ble_eq_true rfl⟩ rfl rfl (Nat.le_of_ble_eq_true rfl) dX11_load_24 ?_
      refine j_icmp_ge C 45 dX11_load_27 (by decide) (fun c9 => ?_) (fun c9 => ?_)
      · replace hf := ip c9 hf
        refine j_iconst C (-1 : Int32) rfl dX11_load_45 ?_
        cases hf
      · replace hf := ine c9 hf
        refine j_aload_n C 0 dX11_load_30 rfl rfl ?_
        refine g_X11_village C tw1_220 lc0 1 rfl dX11_load_31 ?_
        refine gN_X9_loads C (nxf_RX11_loads) lc1 15 rfl dX11_load_34 ?_
        refine j_iload_n C 1 dX11_load_37 rfl rfl ?_
        refine j_iload_n C 2 dX11_load_38 rfl rfl ?_
        obtain ⟨v11, e10, hf⟩ := bd hf
        refine j_callV C 2 lc15 (ent_K _ _ _ _ _ _) rfl (c_X5_value l G n0 lc15 e10) gv_RX11_167 ⟨rfl, rfl⟩ (by decide +kernel) ⟨Nat.le_of_ble_eq_true rfl, Nat.le_of_ble_eq_true rfl⟩ rfl rfl (Nat.le_of_ble_eq_true rfl) dX11_load_39 ?_
        refine j_goto C 46 dX11_load_42 (by decide) ?_
        cases hf
  clear hf
  have hf := e14
  refine j_if_ge C 8 dX11_load_1 (by decide) (fun c1 => ?_) (fun c1 => ?_)
  · replace hf := ip c1 hf
    refine j_iload_n C 2 dX11_load_8 rfl rfl ?_
    refine j_iconst C (5 : Int32) rfl dX11_load_9 ?_
    obtain ⟨v3, e2, hf⟩ := bd hf
    refine j_callS C 2 (c_X11_whyNotBelow l G n0 (M := M) e2) gs_RX11_120 ⟨rfl, rfl⟩ (by decide +kernel) ⟨Nat.le_of_ble_eq_true rfl, Nat.le_of_ble_eq_true rfl⟩ rfl rfl (Nat.le_of_ble_eq_true rfl) dX11_load_10 ?_
    cases hf
    refine j_sub [0, 1, 2] rfl ?_
    exact hj15
  · replace hf := ine c1 hf
    refine j_iconst C (2 : Int32) rfl dX11_load_4 ?_
    refine j_goto C 13 dX11_load_5 (by decide) ?_
    cases hf
    refine j_sub [0, 1, 2] rfl ?_
    exact hj15
def fX11_whole (x1 : Int32) (M : Mem) : Option (Nat ⊕ Int32) :=
  (fX11_whyNotBelow x1 (14 : Int32)).bind fun v2 =>
  (fX11_refuse v2).bind fun o4 => xc o4 (fun k => some (Sum.inl k))
  (fun _ => if x1 = 0 then ((fX4_size 2 M).bind fun v6 =>
  some (Sum.inr v6))
  else if x1 = 1 then (some (Sum.inr (M.1 1 6)))
  else if x1 = 2 then (some (Sum.inr (M.1 1 4)))
  else if x1 = 3 then ((fX1_size 9 M).bind fun v8 =>
  some (Sum.inr v8))
  else if x1 = 4 then ((fX4_sumOf 2 (1 : Int32) M).bind fun v10 =>
  some (Sum.inr v10))
  else if x1 = 5 then ((fX4_sumOf 2 (2 : Int32) M).bind fun v12 =>
  some (Sum.inr v12))
  else if x1 = 6 then (some (Sum.inr (M.1 1 7)))
  else if x1 = 7 then ((fX6_cameOut 23 M).bind fun v14 =>
  some (Sum.inr v14))
  else if x1 = 8 then ((fX6_pale 23 M).bind fun v16 =>
  some (Sum.inr v16))
  else if x1 = 9 then ((fX6_kept 23 M).bind fun v18 =>
  some (Sum.inr v18))
  else if x1 = 10 then ((fX6_countWith 23 (5 : Int32) (8 : Int32) M).bind fun v20 =>
  some (Sum.inr v20))
  else if x1 = 11 then ((fX6_countWithOthers 23 M).bind fun v22 =>
  some (Sum.inr v22))
  else if x1 = 12 then ((fX5_size 15 M).bind fun v24 =>
  some (Sum.inr v24))
  else (some (Sum.inr (M.1 1 5))))

def rX11_whole : Room := { frames := 3, cells := 0, slots := 0, locals := 74 }
set_option maxRecDepth 100000 in
set_option maxHeartbeats 4000000 in
theorem c_X11_whole (l : Launch) (G : Gx) (n0 : Nat) {x1 : Int32} {M : Mem} {r : Int32} (hf : fX11_whole x1 M = some (Sum.inr r)) : Ct l yX11_whole cX11_whole 2 (some .int) rX11_whole G n0 [.ref (n0 + 0), .int x1] M (some (.int r)) M := by
  refine ct_int (cc := cX11_whole) (maxL := 2) rfl (Nat.le_of_ble_eq_true rfl) ?_
  intro K C hret
  have C : Ok K l rX11_whole cX11_whole RX11 G n0 2 := C
  show J K M 0 [(0, .ref (n0 + 0)), (1, .int x1)] []
  unfold fX11_whole at hf
  refine j_iload_n C 1 dX11_whole_0 rfl rfl ?_
  refine j_bipush C (14 : Int32) rfl dX11_whole_1 ?_
  obtain ⟨v2, e1, hf⟩ := bd hf
  refine j_callS C 2 (c_X11_whyNotBelow l G n0 (M := M) e1) gs_RX11_120 ⟨rfl, rfl⟩ (by decide +kernel) ⟨Nat.le_of_ble_eq_true rfl, Nat.le_of_ble_eq_true rfl⟩ rfl rfl (Nat.le_of_ble_eq_true rfl) dX11_whole_3 ?_
  obtain ⟨o4, e3, hf⟩ := bd hf
  rcases o4 with kx | _
  · replace hf : some _ = some _ := hf
    cases hf
  · replace hf := xcr hf
    refine j_callS C 1 (c_X11_refuse l G n0 (M := M) e3) gs_RX11_45 ⟨rfl, rfl⟩ (by decide +kernel) ⟨Nat.le_of_ble_eq_true rfl, Nat.le_of_ble_eq_true rfl⟩ rfl rfl (Nat.le_of_ble_eq_true rfl) dX11_whole_6 ?_
    refine j_iload_n C 1 dX11_whole_9 rfl rfl ?_
    by_cases c25_0 : x1 = 0
    · replace hf := ip c25_0 hf
      refine j_tsw C 76 c25_0 dX11_whole_10 (by decide) rfl (by decide) ?_
      refine j_aload_n C 0 dX11_whole_76 rfl rfl ?_
      refine g_X11_village C tw1_220 lc0 1 rfl dX11_whole_77 ?_
      refine gN_X9_households C (nxf_RX11_households) lc1 2 rfl dX11_whole_80 ?_
      obtain ⟨v6, e5, hf⟩ := bd hf
      refine j_callV C 0 lc2 (ent_K _ _ _ _ _ _) rfl (c_X4_size l G n0 lc2 e5) gv_RX11_168 ⟨rfl, rfl⟩ (by decide +kernel) ⟨Nat.le_of_ble_eq_true rfl, Nat.le_of_ble_eq_true rfl⟩ rfl rfl (Nat.le_of_ble_eq_true rfl) dX11_whole_83 ?_
      obtain rfl := Sum.inr.inj (Option.some.inj hf)
      exact hret _ _ dX11_whole_86
    · replace hf := ine c25_0 hf
      by_cases c25_1 : x1 = 1
      · replace hf := ip c25_1 hf
        refine j_tsw C 87 c25_1 dX11_whole_10 (by decide) rfl (by decide) ?_
        refine j_aload_n C 0 dX11_whole_87 rfl rfl ?_
        refine g_X11_village C tw1_220 lc0 1 rfl dX11_whole_88 ?_
        refine gN_X9_days C (nxf_RX11_days) lc1 dX11_whole_91 ?_
        obtain rfl := Sum.inr.inj (Option.some.inj hf)
        exact hret _ _ dX11_whole_94
      · replace hf := ine c25_1 hf
        by_cases c25_2 : x1 = 2
        · replace hf := ip c25_2 hf
          refine j_tsw C 95 c25_2 dX11_whole_10 (by decide) rfl (by decide) ?_
          refine j_aload_n C 0 dX11_whole_95 rfl rfl ?_
          refine g_X11_village C tw1_220 lc0 1 rfl dX11_whole_96 ?_
          refine gN_X9_heat C (nxf_RX11_heat) lc1 dX11_whole_99 ?_
          obtain rfl := Sum.inr.inj (Option.some.inj hf)
          exact hret _ _ dX11_whole_102
        · replace hf := ine c25_2 hf
          by_cases c25_3 : x1 = 3
          · replace hf := ip c25_3 hf
            refine j_tsw C 103 c25_3 dX11_whole_10 (by decide) rfl (by decide) ?_
            refine j_aload_n C 0 dX11_whole_103 rfl rfl ?_
            refine g_X11_village C tw1_220 lc0 1 rfl dX11_whole_104 ?_
            refine gN_X9_batches C (nxf_RX11_batches) lc1 9 rfl dX11_whole_107 ?_
            obtain ⟨v8, e7, hf⟩ := bd hf
            refine j_callV C 0 lc9 (ent_K _ _ _ _ _ _) rfl (c_X1_size l G n0 lc9 e7) gv_RX11_175 ⟨rfl, rfl⟩ (by decide +kernel) ⟨Nat.le_of_ble_eq_true rfl, Nat.le_of_ble_eq_true rfl⟩ rfl rfl (Nat.le_of_ble_eq_true rfl) dX11_whole_110 ?_
            obtain rfl := Sum.inr.inj (Option.some.inj hf)
            exact hret _ _ dX11_whole_113
          · replace hf := ine c25_3 hf
            by_cases c25_4 : x1 = 4
            · replace hf := ip c25_4 hf
              refine j_tsw C 114 c25_4 dX11_whole_10 (by decide) rfl (by decide) ?_
              refine j_aload_n C 0 dX11_whole_114 rfl rfl ?_
              refine g_X11_village C tw1_220 lc0 1 rfl dX11_whole_115 ?_
              refine gN_X9_households C (nxf_RX11_households) lc1 2 rfl dX11_whole_118 ?_
              refine j_iconst C (1 : Int32) rfl dX11_whole_121 ?_
              obtain ⟨v10, e9, hf⟩ := bd hf
              refine j_callV C 1 lc2 (ent_K _ _ _ _ _ _) rfl (c_X4_sumOf l G n0 lc2 e9) gv_RX11_176 ⟨rfl, rfl⟩ (by decide +kernel) ⟨Nat.le_of_ble_eq_true rfl, Nat.le_of_ble_eq_true rfl⟩ rfl rfl (Nat.le_of_ble_eq_true rfl) dX11_whole_122 ?_
              obtain rfl := Sum.inr.inj (Option.some.inj hf)
              exact hret _ _ dX11_whole_125
            · replace hf := ine c25_4 hf
              by_cases c25_5 : x1 = 5
              · replace hf := ip c25_5 hf
                refine j_tsw C 126 c25_5 dX11_whole_10 (by decide) rfl (by decide) ?_
                refine j_aload_n C 0 dX11_whole_126 rfl rfl ?_
                refine g_X11_village C tw1_220 lc0 1 rfl dX11_whole_127 ?_
                refine gN_X9_households C (nxf_RX11_households) lc1 2 rfl dX11_whole_130 ?_
                refine j_iconst C (2 : Int32) rfl dX11_whole_133 ?_
                obtain ⟨v12, e11, hf⟩ := bd hf
                refine j_callV C 1 lc2 (ent_K _ _ _ _ _ _) rfl (c_X4_sumOf l G n0 lc2 e11) gv_RX11_176 ⟨rfl, rfl⟩ (by decide +kernel) ⟨Nat.le_of_ble_eq_true rfl, Nat.le_of_ble_eq_true rfl⟩ rfl rfl (Nat.le_of_ble_eq_true rfl) dX11_whole_134 ?_
                obtain rfl := Sum.inr.inj (Option.some.inj hf)
                exact hret _ _ dX11_whole_137
              · replace hf := ine c25_5 hf
                by_cases c25_6 : x1 = 6
                · replace hf := ip c25_6 hf
                  refine j_tsw C 138 c25_6 dX11_whole_10 (by decide) rfl (by decide) ?_
                  refine j_aload_n C 0 dX11_whole_138 rfl rfl ?_
                  refine g_X11_village C tw1_220 lc0 1 rfl dX11_whole_139 ?_
                  refine gN_X9_dough C (nxf_RX11_dough) lc1 dX11_whole_142 ?_
                  obtain rfl := Sum.inr.inj (Option.some.inj hf)
                  exact hret _ _ dX11_whole_145
                · replace hf := ine c25_6 hf
                  by_cases c25_7 : x1 = 7
                  · replace hf := ip c25_7 hf
                    refine j_tsw C 146 c25_7 dX11_whole_10 (by decide) rfl (by decide) ?_
                    refine j_aload_n C 0 dX11_whole_146 rfl rfl ?_
                    refine g_X11_village C tw1_220 lc0 1 rfl dX11_whole_147 ?_
                    refine gN_X9_loaves C (nxf_RX11_loaves) lc1 23 rfl dX11_whole_150 ?_
                    obtain ⟨v14, e13, hf⟩ := bd hf
                    refine j_callV C 0 lc23 (ent_K _ _ _ _ _ _) rfl (c_X6_cameOut l G n0 lc23 e13) gv_RX11_182 ⟨rfl, rfl⟩ (by decide +kernel) ⟨Nat.le_of_ble_eq_true rfl, Nat.le_of_ble_eq_true rfl⟩ rfl rfl (Nat.le_of_ble_eq_true rfl) dX11_whole_153 ?_
                    obtain rfl := Sum.inr.inj (Option.some.inj hf)
                    exact hret _ _ dX11_whole_156
                  · replace hf := ine c25_7 hf
                    by_cases c25_8 : x1 = 8
                    · replace hf := ip c25_8 hf
                      refine j_tsw C 157 c25_8 dX11_whole_10 (by decide) rfl (by decide) ?_
                      refine j_aload_n C 0 dX11_whole_157 rfl rfl ?_
                      refine g_X11_village C tw1_220 lc0 1 rfl dX11_whole_158 ?_
                      refine gN_X9_loaves C (nxf_RX11_loaves) lc1 23 rfl dX11_whole_161 ?_
                      obtain ⟨v16, e15, hf⟩ := bd hf
                      refine j_callV C 0 lc23 (ent_K _ _ _ _ _ _) rfl (c_X6_pale l G n0 lc23 e15) gv_RX11_185 ⟨rfl, rfl⟩ (by decide +kernel) ⟨Nat.le_of_ble_eq_true rfl, Nat.le_of_ble_eq_true rfl⟩ rfl rfl (Nat.le_of_ble_eq_true rfl) dX11_whole_164 ?_
                      obtain rfl := Sum.inr.inj (Option.some.inj hf)
                      exact hret _ _ dX11_whole_167
                    · replace hf := ine c25_8 hf
                      by_cases c25_9 : x1 = 9
                      · replace hf := ip c25_9 hf
                        refine j_tsw C 168 c25_9 dX11_whole_10 (by decide) rfl (by decide) ?_
                        refine j_aload_n C 0 dX11_whole_168 rfl rfl ?_
                        refine g_X11_village C tw1_220 lc0 1 rfl dX11_whole_169 ?_
                        refine gN_X9_loaves C (nxf_RX11_loaves) lc1 23 rfl dX11_whole_172 ?_
                        obtain ⟨v18, e17, hf⟩ := bd hf
                        refine j_callV C 0 lc23 (ent_K _ _ _ _ _ _) rfl (c_X6_kept l G n0 lc23 e17) gv_RX11_188 ⟨rfl, rfl⟩ (by decide +kernel) ⟨Nat.le_of_ble_eq_true rfl, Nat.le_of_ble_eq_true rfl⟩ rfl rfl (Nat.le_of_ble_eq_true rfl) dX11_whole_175 ?_
                        obtain rfl := Sum.inr.inj (Option.some.inj hf)
                        exact hret _ _ dX11_whole_178
                      · replace hf := ine c25_9 hf
                        by_cases c25_10 : x1 = 10
                        · replace hf := ip c25_10 hf
                          refine j_tsw C 179 c25_10 dX11_whole_10 (by decide) rfl (by decide) ?_
                          refine j_aload_n C 0 dX11_whole_179 rfl rfl ?_
                          refine g_X11_village C tw1_220 lc0 1 rfl dX11_whole_180 ?_
                          refine gN_X9_loaves C (nxf_RX11_loaves) lc1 23 rfl dX11_whole_183 ?_
                          refine j_iconst C (5 : Int32) rfl dX11_whole_186 ?_
                          refine j_bipush C (8 : Int32) rfl dX11_whole_187 ?_
                          obtain ⟨v20, e19, hf⟩ := bd hf
                          refine j_callV C 2 lc23 (ent_K _ _ _ _ _ _) rfl (c_X6_countWith l G n0 lc23 e19) gv_RX11_123 ⟨rfl, rfl⟩ (by decide +kernel) ⟨Nat.le_of_ble_eq_true rfl, Nat.le_of_ble_eq_true rfl⟩ rfl rfl (Nat.le_of_ble_eq_true rfl) dX11_whole_189 ?_
                          obtain rfl := Sum.inr.inj (Option.some.inj hf)
                          exact hret _ _ dX11_whole_192
                        · replace hf := ine c25_10 hf
                          by_cases c25_11 : x1 = 11
                          · replace hf := ip c25_11 hf
                            refine j_tsw C 193 c25_11 dX11_whole_10 (by decide) rfl (by decide) ?_
                            refine j_aload_n C 0 dX11_whole_193 rfl rfl ?_
                            refine g_X11_village C tw1_220 lc0 1 rfl dX11_whole_194 ?_
                            refine gN_X9_loaves C (nxf_RX11_loaves) lc1 23 rfl dX11_whole_197 ?_
                            obtain ⟨v22, e21, hf⟩ := bd hf
                            refine j_callV C 0 lc23 (ent_K _ _ _ _ _ _) rfl (c_X6_countWithOthers l G n0 lc23 e21) gv_RX11_191 ⟨rfl, rfl⟩ (by decide +kernel) ⟨Nat.le_of_ble_eq_true rfl, Nat.le_of_ble_eq_true rfl⟩ rfl rfl (Nat.le_of_ble_eq_true rfl) dX11_whole_200 ?_
                            obtain rfl := Sum.inr.inj (Option.some.inj hf)
                            exact hret _ _ dX11_whole_203
                          · replace hf := ine c25_11 hf
                            by_cases c25_12 : x1 = 12
                            · replace hf := ip c25_12 hf
                              refine j_tsw C 204 c25_12 dX11_whole_10 (by decide) rfl (by decide) ?_
                              refine j_aload_n C 0 dX11_whole_204 rfl rfl ?_
                              refine g_X11_village C tw1_220 lc0 1 rfl dX11_whole_205 ?_
                              refine gN_X9_loads C (nxf_RX11_loads) lc1 15 rfl dX11_whole_208 ?_
                              obtain ⟨v24, e23, hf⟩ := bd hf
                              refine j_callV C 0 lc15 (ent_K _ _ _ _ _ _) rfl (c_X5_size l G n0 lc15 e23) gv_RX11_162 ⟨rfl, rfl⟩ (by decide +kernel) ⟨Nat.le_of_ble_eq_true rfl, Nat.le_of_ble_eq_true rfl⟩ rfl rfl (Nat.le_of_ble_eq_true rfl) dX11_whole_211 ?_
                              obtain rfl := Sum.inr.inj (Option.some.inj hf)
                              exact hret _ _ dX11_whole_214
                            · replace hf := ine c25_12 hf
                              refine j_tswD C 215 (by have g0 := lv_neT c25_0 (show (0 : Int32).toInt = 0 by decide); have g1 := lv_neT c25_1 (show (1 : Int32).toInt = 1 by decide); have g2 := lv_neT c25_2 (show (2 : Int32).toInt = 2 by decide); have g3 := lv_neT c25_3 (show (3 : Int32).toInt = 3 by decide); have g4 := lv_neT c25_4 (show (4 : Int32).toInt = 4 by decide); have g5 := lv_neT c25_5 (show (5 : Int32).toInt = 5 by decide); have g6 := lv_neT c25_6 (show (6 : Int32).toInt = 6 by decide); have g7 := lv_neT c25_7 (show (7 : Int32).toInt = 7 by decide); have g8 := lv_neT c25_8 (show (8 : Int32).toInt = 8 by decide); have g9 := lv_neT c25_9 (show (9 : Int32).toInt = 9 by decide); have g10 := lv_neT c25_10 (show (10 : Int32).toInt = 10 by decide); have g11 := lv_neT c25_11 (show (11 : Int32).toInt = 11 by decide); have g12 := lv_neT c25_12 (show (12 : Int32).toInt = 12 by decide); omega) dX11_whole_10 (by decide) ?_
                              refine j_aload_n C 0 dX11_whole_215 rfl rfl ?_
                              refine g_X11_village C tw1_220 lc0 1 rfl dX11_whole_216 ?_
                              refine gN_X9_s C (nxf_RX11_s) lc1 dX11_whole_219 ?_
                              obtain rfl := Sum.inr.inj (Option.some.inj hf)
                              exact hret _ _ dX11_whole_222
def qX11_whole : Room := { frames := 7, cells := 1, slots := 6, locals := 110 }
set_option maxRecDepth 100000 in
set_option maxHeartbeats 4000000 in
theorem t_X11_whole (l : Launch) (hfl : l.stackTraces = false) (G : Gx) (n0 : Nat) {x1 : Int32} {M : Mem} {k : Nat} (hf : fX11_whole x1 M = some (Sum.inl k)) : CtT l yX11_whole cX11_whole 2 (some .int) qX11_whole G n0 [.ref (n0 + 0), .int x1] M k := by
  refine ct_thr (cc := cX11_whole) (maxL := 2) rfl (Nat.le_of_ble_eq_true rfl) ⟨Nat.le_of_ble_eq_true rfl, Nat.le_of_ble_eq_true rfl⟩ ?_
  intro K C hthr
  have C : Ok K l qX11_whole cX11_whole RX11 G n0 2 := C
  show J K M 0 [(0, .ref (n0 + 0)), (1, .int x1)] []
  unfold fX11_whole at hf
  refine j_iload_n C 1 dX11_whole_0 rfl rfl ?_
  refine j_bipush C (14 : Int32) rfl dX11_whole_1 ?_
  obtain ⟨v2, e1, hf⟩ := bd hf
  refine j_callS C 2 (c_X11_whyNotBelow l G n0 (M := M) e1) gs_RX11_120 ⟨rfl, rfl⟩ (by decide +kernel) ⟨Nat.le_of_ble_eq_true rfl, Nat.le_of_ble_eq_true rfl⟩ rfl rfl (Nat.le_of_ble_eq_true rfl) dX11_whole_3 ?_
  obtain ⟨o4, e3, hf⟩ := bd hf
  rcases o4 with kx | _
  · replace hf : some _ = some _ := hf
    cases hf
    exact j_callTS C 1 hthr (t_X11_refuse l hfl G n0 (M := M) e3) gs_RX11_45 ⟨rfl, rfl⟩ (by decide +kernel) ⟨Nat.le_of_ble_eq_true rfl, Nat.le_of_ble_eq_true rfl⟩ rfl rfl (Nat.le_of_ble_eq_true rfl) dX11_whole_6
  · replace hf := xcr hf
    refine j_callS C 1 (c_X11_refuse l G n0 (M := M) e3) gs_RX11_45 ⟨rfl, rfl⟩ (by decide +kernel) ⟨Nat.le_of_ble_eq_true rfl, Nat.le_of_ble_eq_true rfl⟩ rfl rfl (Nat.le_of_ble_eq_true rfl) dX11_whole_6 ?_
    refine j_iload_n C 1 dX11_whole_9 rfl rfl ?_
    by_cases c25_0 : x1 = 0
    · replace hf := ip c25_0 hf
      refine j_tsw C 76 c25_0 dX11_whole_10 (by decide) rfl (by decide) ?_
      refine j_aload_n C 0 dX11_whole_76 rfl rfl ?_
      refine g_X11_village C tw1_220 lc0 1 rfl dX11_whole_77 ?_
      refine gN_X9_households C (nxf_RX11_households) lc1 2 rfl dX11_whole_80 ?_
      obtain ⟨v6, e5, hf⟩ := bd hf
      refine j_callV C 0 lc2 (ent_K _ _ _ _ _ _) rfl (c_X4_size l G n0 lc2 e5) gv_RX11_168 ⟨rfl, rfl⟩ (by decide +kernel) ⟨Nat.le_of_ble_eq_true rfl, Nat.le_of_ble_eq_true rfl⟩ rfl rfl (Nat.le_of_ble_eq_true rfl) dX11_whole_83 ?_
      cases hf
    · replace hf := ine c25_0 hf
      by_cases c25_1 : x1 = 1
      · replace hf := ip c25_1 hf
        refine j_tsw C 87 c25_1 dX11_whole_10 (by decide) rfl (by decide) ?_
        refine j_aload_n C 0 dX11_whole_87 rfl rfl ?_
        refine g_X11_village C tw1_220 lc0 1 rfl dX11_whole_88 ?_
        refine gN_X9_days C (nxf_RX11_days) lc1 dX11_whole_91 ?_
        cases hf
      · replace hf := ine c25_1 hf
        by_cases c25_2 : x1 = 2
        · replace hf := ip c25_2 hf
          refine j_tsw C 95 c25_2 dX11_whole_10 (by decide) rfl (by decide) ?_
          refine j_aload_n C 0 dX11_whole_95 rfl rfl ?_
          refine g_X11_village C tw1_220 lc0 1 rfl dX11_whole_96 ?_
          refine gN_X9_heat C (nxf_RX11_heat) lc1 dX11_whole_99 ?_
          cases hf
        · replace hf := ine c25_2 hf
          by_cases c25_3 : x1 = 3
          · replace hf := ip c25_3 hf
            refine j_tsw C 103 c25_3 dX11_whole_10 (by decide) rfl (by decide) ?_
            refine j_aload_n C 0 dX11_whole_103 rfl rfl ?_
            refine g_X11_village C tw1_220 lc0 1 rfl dX11_whole_104 ?_
            refine gN_X9_batches C (nxf_RX11_batches) lc1 9 rfl dX11_whole_107 ?_
            obtain ⟨v8, e7, hf⟩ := bd hf
            refine j_callV C 0 lc9 (ent_K _ _ _ _ _ _) rfl (c_X1_size l G n0 lc9 e7) gv_RX11_175 ⟨rfl, rfl⟩ (by decide +kernel) ⟨Nat.le_of_ble_eq_true rfl, Nat.le_of_ble_eq_true rfl⟩ rfl rfl (Nat.le_of_ble_eq_true rfl) dX11_whole_110 ?_
            cases hf
          · replace hf := ine c25_3 hf
            by_cases c25_4 : x1 = 4
            · replace hf := ip c25_4 hf
              refine j_tsw C 114 c25_4 dX11_whole_10 (by decide) rfl (by decide) ?_
              refine j_aload_n C 0 dX11_whole_114 rfl rfl ?_
              refine g_X11_village C tw1_220 lc0 1 rfl dX11_whole_115 ?_
              refine gN_X9_households C (nxf_RX11_households) lc1 2 rfl dX11_whole_118 ?_
              refine j_iconst C (1 : Int32) rfl dX11_whole_121 ?_
              obtain ⟨v10, e9, hf⟩ := bd hf
              refine j_callV C 1 lc2 (ent_K _ _ _ _ _ _) rfl (c_X4_sumOf l G n0 lc2 e9) gv_RX11_176 ⟨rfl, rfl⟩ (by decide +kernel) ⟨Nat.le_of_ble_eq_true rfl, Nat.le_of_ble_eq_true rfl⟩ rfl rfl (Nat.le_of_ble_eq_true rfl) dX11_whole_122 ?_
              cases hf
            · replace hf := ine c25_4 hf
              by_cases c25_5 : x1 = 5
              · replace hf := ip c25_5 hf
                refine j_tsw C 126 c25_5 dX11_whole_10 (by decide) rfl (by decide) ?_
                refine j_aload_n C 0 dX11_whole_126 rfl rfl ?_
                refine g_X11_village C tw1_220 lc0 1 rfl dX11_whole_127 ?_
                refine gN_X9_households C (nxf_RX11_households) lc1 2 rfl dX11_whole_130 ?_
                refine j_iconst C (2 : Int32) rfl dX11_whole_133 ?_
                obtain ⟨v12, e11, hf⟩ := bd hf
                refine j_callV C 1 lc2 (ent_K _ _ _ _ _ _) rfl (c_X4_sumOf l G n0 lc2 e11) gv_RX11_176 ⟨rfl, rfl⟩ (by decide +kernel) ⟨Nat.le_of_ble_eq_true rfl, Nat.le_of_ble_eq_true rfl⟩ rfl rfl (Nat.le_of_ble_eq_true rfl) dX11_whole_134 ?_
                cases hf
              · replace hf := ine c25_5 hf
                by_cases c25_6 : x1 = 6
                · replace hf := ip c25_6 hf
                  refine j_tsw C 138 c25_6 dX11_whole_10 (by decide) rfl (by decide) ?_
                  refine j_aload_n C 0 dX11_whole_138 rfl rfl ?_
                  refine g_X11_village C tw1_220 lc0 1 rfl dX11_whole_139 ?_
                  refine gN_X9_dough C (nxf_RX11_dough) lc1 dX11_whole_142 ?_
                  cases hf
                · replace hf := ine c25_6 hf
                  by_cases c25_7 : x1 = 7
                  · replace hf := ip c25_7 hf
                    refine j_tsw C 146 c25_7 dX11_whole_10 (by decide) rfl (by decide) ?_
                    refine j_aload_n C 0 dX11_whole_146 rfl rfl ?_
                    refine g_X11_village C tw1_220 lc0 1 rfl dX11_whole_147 ?_
                    refine gN_X9_loaves C (nxf_RX11_loaves) lc1 23 rfl dX11_whole_150 ?_
                    obtain ⟨v14, e13, hf⟩ := bd hf
                    refine j_callV C 0 lc23 (ent_K _ _ _ _ _ _) rfl (c_X6_cameOut l G n0 lc23 e13) gv_RX11_182 ⟨rfl, rfl⟩ (by decide +kernel) ⟨Nat.le_of_ble_eq_true rfl, Nat.le_of_ble_eq_true rfl⟩ rfl rfl (Nat.le_of_ble_eq_true rfl) dX11_whole_153 ?_
                    cases hf
                  · replace hf := ine c25_7 hf
                    by_cases c25_8 : x1 = 8
                    · replace hf := ip c25_8 hf
                      refine j_tsw C 157 c25_8 dX11_whole_10 (by decide) rfl (by decide) ?_
                      refine j_aload_n C 0 dX11_whole_157 rfl rfl ?_
                      refine g_X11_village C tw1_220 lc0 1 rfl dX11_whole_158 ?_
                      refine gN_X9_loaves C (nxf_RX11_loaves) lc1 23 rfl dX11_whole_161 ?_
                      obtain ⟨v16, e15, hf⟩ := bd hf
                      refine j_callV C 0 lc23 (ent_K _ _ _ _ _ _) rfl (c_X6_pale l G n0 lc23 e15) gv_RX11_185 ⟨rfl, rfl⟩ (by decide +kernel) ⟨Nat.le_of_ble_eq_true rfl, Nat.le_of_ble_eq_true rfl⟩ rfl rfl (Nat.le_of_ble_eq_true rfl) dX11_whole_164 ?_
                      cases hf
                    · replace hf := ine c25_8 hf
                      by_cases c25_9 : x1 = 9
                      · replace hf := ip c25_9 hf
                        refine j_tsw C 168 c25_9 dX11_whole_10 (by decide) rfl (by decide) ?_
                        refine j_aload_n C 0 dX11_whole_168 rfl rfl ?_
                        refine g_X11_village C tw1_220 lc0 1 rfl dX11_whole_169 ?_
                        refine gN_X9_loaves C (nxf_RX11_loaves) lc1 23 rfl dX11_whole_172 ?_
                        obtain ⟨v18, e17, hf⟩ := bd hf
                        refine j_callV C 0 lc23 (ent_K _ _ _ _ _ _) rfl (c_X6_kept l G n0 lc23 e17) gv_RX11_188 ⟨rfl, rfl⟩ (by decide +kernel) ⟨Nat.le_of_ble_eq_true rfl, Nat.le_of_ble_eq_true rfl⟩ rfl rfl (Nat.le_of_ble_eq_true rfl) dX11_whole_175 ?_
                        cases hf
                      · replace hf := ine c25_9 hf
                        by_cases c25_10 : x1 = 10
                        · replace hf := ip c25_10 hf
                          refine j_tsw C 179 c25_10 dX11_whole_10 (by decide) rfl (by decide) ?_
                          refine j_aload_n C 0 dX11_whole_179 rfl rfl ?_
                          refine g_X11_village C tw1_220 lc0 1 rfl dX11_whole_180 ?_
                          refine gN_X9_loaves C (nxf_RX11_loaves) lc1 23 rfl dX11_whole_183 ?_
                          refine j_iconst C (5 : Int32) rfl dX11_whole_186 ?_
                          refine j_bipush C (8 : Int32) rfl dX11_whole_187 ?_
                          obtain ⟨v20, e19, hf⟩ := bd hf
                          refine j_callV C 2 lc23 (ent_K _ _ _ _ _ _) rfl (c_X6_countWith l G n0 lc23 e19) gv_RX11_123 ⟨rfl, rfl⟩ (by decide +kernel) ⟨Nat.le_of_ble_eq_true rfl, Nat.le_of_ble_eq_true rfl⟩ rfl rfl (Nat.le_of_ble_eq_true rfl) dX11_whole_189 ?_
                          cases hf
                        · replace hf := ine c25_10 hf
                          by_cases c25_11 : x1 = 11
                          · replace hf := ip c25_11 hf
                            refine j_tsw C 193 c25_11 dX11_whole_10 (by decide) rfl (by decide) ?_
                            refine j_aload_n C 0 dX11_whole_193 rfl rfl ?_
                            refine g_X11_village C tw1_220 lc0 1 rfl dX11_whole_194 ?_
                            refine gN_X9_loaves C (nxf_RX11_loaves) lc1 23 rfl dX11_whole_197 ?_
                            obtain ⟨v22, e21, hf⟩ := bd hf
                            refine j_callV C 0 lc23 (ent_K _ _ _ _ _ _) rfl (c_X6_countWithOthers l G n0 lc23 e21) gv_RX11_191 ⟨rfl, rfl⟩ (by decide +kernel) ⟨Nat.le_of_ble_eq_true rfl, Nat.le_of_ble_eq_true rfl⟩ rfl rfl (Nat.le_of_ble_eq_true rfl) dX11_whole_200 ?_
                            cases hf
                          · replace hf := ine c25_11 hf
                            by_cases c25_12 : x1 = 12
                            · replace hf := ip c25_12 hf
                              refine j_tsw C 204 c25_12 dX11_whole_10 (by decide) rfl (by decide) ?_
                              refine j_aload_n C 0 dX11_whole_204 rfl rfl ?_
                              refine g_X11_village C tw1_220 lc0 1 rfl dX11_whole_205 ?_
                              refine gN_X9_loads C (nxf_RX11_loads) lc1 15 rfl dX11_whole_208 ?_
                              obtain ⟨v24, e23, hf⟩ := bd hf
                              refine j_callV C 0 lc15 (ent_K _ _ _ _ _ _) rfl (c_X5_size l G n0 lc15 e23) gv_RX11_162 ⟨rfl, rfl⟩ (by decide +kernel) ⟨Nat.le_of_ble_eq_true rfl, Nat.le_of_ble_eq_true rfl⟩ rfl rfl (Nat.le_of_ble_eq_true rfl) dX11_whole_211 ?_
                              cases hf
                            · replace hf := ine c25_12 hf
                              refine j_tswD C 215 (by have g0 := lv_neT c25_0 (show (0 : Int32).toInt = 0 by decide); have g1 := lv_neT c25_1 (show (1 : Int32).toInt = 1 by decide); have g2 := lv_neT c25_2 (show (2 : Int32).toInt = 2 by decide); have g3 := lv_neT c25_3 (show (3 : Int32).toInt = 3 by decide); have g4 := lv_neT c25_4 (show (4 : Int32).toInt = 4 by decide); have g5 := lv_neT c25_5 (show (5 : Int32).toInt = 5 by decide); have g6 := lv_neT c25_6 (show (6 : Int32).toInt = 6 by decide); have g7 := lv_neT c25_7 (show (7 : Int32).toInt = 7 by decide); have g8 := lv_neT c25_8 (show (8 : Int32).toInt = 8 by decide); have g9 := lv_neT c25_9 (show (9 : Int32).toInt = 9 by decide); have g10 := lv_neT c25_10 (show (10 : Int32).toInt = 10 by decide); have g11 := lv_neT c25_11 (show (11 : Int32).toInt = 11 by decide); have g12 := lv_neT c25_12 (show (12 : Int32).toInt = 12 by decide); omega) dX11_whole_10 (by decide) ?_
                              refine j_aload_n C 0 dX11_whole_215 rfl rfl ?_
                              refine g_X11_village C tw1_220 lc0 1 rfl dX11_whole_216 ?_
                              refine gN_X9_s C (nxf_RX11_s) lc1 dX11_whole_219 ?_
                              cases hf
def fX11_doughWith (x1 : Int32) (M : Mem) : Option (Nat ⊕ (Int32 × Mem)) :=
  (fX11_whyNotWithin x1 (1 : Int32) (40 : Int32)).bind fun v2 =>
  (fX11_refuse v2).bind fun o4 => xc o4 (fun k => some (Sum.inl k))
  (fun _ => (fX9_arrangeNextDay 1 M).bind fun M6 =>
  (fX11_doughOfArrangedDay x1 M6).bind (un2 fun v8 M9 =>
  some (Sum.inr (v8, M9))))

def rX11_doughWith : Room := { frames := 5, cells := 0, slots := 0, locals := 121 }
set_option maxRecDepth 100000 in
set_option maxHeartbeats 4000000 in
theorem c_X11_doughWith (l : Launch) (G : Gx) (n0 : Nat) {x1 : Int32} {M : Mem} {r : Int32} {M' : Mem} (hf : fX11_doughWith x1 M = some (Sum.inr (r, M'))) : Ct l yX11_doughWith cX11_doughWith 2 (some .int) rX11_doughWith G n0 [.ref (n0 + 0), .int x1] M (some (.int r)) M' := by
  refine ct_int (cc := cX11_doughWith) (maxL := 2) rfl (Nat.le_of_ble_eq_true rfl) ?_
  intro K C hret
  have C : Ok K l rX11_doughWith cX11_doughWith RX11 G n0 2 := C
  show J K M 0 [(0, .ref (n0 + 0)), (1, .int x1)] []
  unfold fX11_doughWith at hf
  refine j_iload_n C 1 dX11_doughWith_0 rfl rfl ?_
  refine j_iconst C (1 : Int32) rfl dX11_doughWith_1 ?_
  refine j_bipush C (40 : Int32) rfl dX11_doughWith_2 ?_
  obtain ⟨v2, e1, hf⟩ := bd hf
  refine j_callS C 3 (c_X11_whyNotWithin l G n0 (M := M) e1) gs_RX11_197 ⟨rfl, rfl⟩ (by decide +kernel) ⟨Nat.le_of_ble_eq_true rfl, Nat.le_of_ble_eq_true rfl⟩ rfl rfl (Nat.le_of_ble_eq_true rfl) dX11_doughWith_4 ?_
  obtain ⟨o4, e3, hf⟩ := bd hf
  rcases o4 with kx | _
  · replace hf : some _ = some _ := hf
    cases hf
  · replace hf := xcr hf
    refine j_callS C 1 (c_X11_refuse l G n0 (M := M) e3) gs_RX11_45 ⟨rfl, rfl⟩ (by decide +kernel) ⟨Nat.le_of_ble_eq_true rfl, Nat.le_of_ble_eq_true rfl⟩ rfl rfl (Nat.le_of_ble_eq_true rfl) dX11_doughWith_7 ?_
    refine j_aload_n C 0 dX11_doughWith_10 rfl rfl ?_
    refine g_X11_village C tw1_220 lc0 1 rfl dX11_doughWith_11 ?_
    refine j_aload_n C 0 dX11_doughWith_14 rfl rfl ?_
    refine g_X11_plan C tw1_221 lc0 33 rfl dX11_doughWith_15 ?_
    obtain ⟨M6, e5, hf⟩ := bd hf
    refine j_callV C 1 lc1 (ent_K _ _ _ _ _ _) rfl (c_X9_arrangeNextDay l G n0 lc1 e5) gv_RX11_147 ⟨rfl, rfl⟩ (by decide +kernel) ⟨Nat.le_of_ble_eq_true rfl, Nat.le_of_ble_eq_true rfl⟩ rfl rfl (Nat.le_of_ble_eq_true rfl) dX11_doughWith_18 ?_
    refine j_aload_n C 0 dX11_doughWith_21 rfl rfl ?_
    refine j_iload_n C 1 dX11_doughWith_22 rfl rfl ?_
    obtain ⟨⟨v8, M9⟩, e7, hf⟩ := bd hf
    replace hf := un2e hf
    refine j_callV C 1 lc0 (ent_K _ _ _ _ _ _) rfl (c_X11_doughOfArrangedDay l G n0 e7) gv_RX11_200 ⟨rfl, rfl⟩ (by decide +kernel) ⟨Nat.le_of_ble_eq_true rfl, Nat.le_of_ble_eq_true rfl⟩ rfl rfl (Nat.le_of_ble_eq_true rfl) dX11_doughWith_23 ?_
    obtain ⟨rfl, rfl⟩ := Prod.mk.inj (Sum.inr.inj (Option.some.inj hf))
    exact hret _ _ dX11_doughWith_26
def qX11_doughWith : Room := { frames := 7, cells := 1, slots := 6, locals := 121 }
set_option maxRecDepth 100000 in
set_option maxHeartbeats 4000000 in
theorem t_X11_doughWith (l : Launch) (hfl : l.stackTraces = false) (G : Gx) (n0 : Nat) {x1 : Int32} {M : Mem} {k : Nat} (hf : fX11_doughWith x1 M = some (Sum.inl k)) : CtT l yX11_doughWith cX11_doughWith 2 (some .int) qX11_doughWith G n0 [.ref (n0 + 0), .int x1] M k := by
  refine ct_thr (cc := cX11_doughWith) (maxL := 2) rfl (Nat.le_of_ble_eq_true rfl) ⟨Nat.le_of_ble_eq_true rfl, Nat.le_of_ble_eq_true rfl⟩ ?_
  intro K C hthr
  have C : Ok K l qX11_doughWith cX11_doughWith RX11 G n0 2 := C
  show J K M 0 [(0, .ref (n0 + 0)), (1, .int x1)] []
  unfold fX11_doughWith at hf
  refine j_iload_n C 1 dX11_doughWith_0 rfl rfl ?_
  refine j_iconst C (1 : Int32) rfl dX11_doughWith_1 ?_
  refine j_bipush C (40 : Int32) rfl dX11_doughWith_2 ?_
  obtain ⟨v2, e1, hf⟩ := bd hf
  refine j_callS C 3 (c_X11_whyNotWithin l G n0 (M := M) e1) gs_RX11_197 ⟨rfl, rfl⟩ (by decide +kernel) ⟨Nat.le_of_ble_eq_true rfl, Nat.le_of_ble_eq_true rfl⟩ rfl rfl (Nat.le_of_ble_eq_true rfl) dX11_doughWith_4 ?_
  obtain ⟨o4, e3, hf⟩ := bd hf
  rcases o4 with kx | _
  · replace hf : some _ = some _ := hf
    cases hf
    exact j_callTS C 1 hthr (t_X11_refuse l hfl G n0 (M := M) e3) gs_RX11_45 ⟨rfl, rfl⟩ (by decide +kernel) ⟨Nat.le_of_ble_eq_true rfl, Nat.le_of_ble_eq_true rfl⟩ rfl rfl (Nat.le_of_ble_eq_true rfl) dX11_doughWith_7
  · replace hf := xcr hf
    refine j_callS C 1 (c_X11_refuse l G n0 (M := M) e3) gs_RX11_45 ⟨rfl, rfl⟩ (by decide +kernel) ⟨Nat.le_of_ble_eq_true rfl, Nat.le_of_ble_eq_true rfl⟩ rfl rfl (Nat.le_of_ble_eq_true rfl) dX11_doughWith_7 ?_
    refine j_aload_n C 0 dX11_doughWith_10 rfl rfl ?_
    refine g_X11_village C tw1_220 lc0 1 rfl dX11_doughWith_11 ?_
    refine j_aload_n C 0 dX11_doughWith_14 rfl rfl ?_
    refine g_X11_plan C tw1_221 lc0 33 rfl dX11_doughWith_15 ?_
    obtain ⟨M6, e5, hf⟩ := bd hf
    refine j_callV C 1 lc1 (ent_K _ _ _ _ _ _) rfl (c_X9_arrangeNextDay l G n0 lc1 e5) gv_RX11_147 ⟨rfl, rfl⟩ (by decide +kernel) ⟨Nat.le_of_ble_eq_true rfl, Nat.le_of_ble_eq_true rfl⟩ rfl rfl (Nat.le_of_ble_eq_true rfl) dX11_doughWith_18 ?_
    refine j_aload_n C 0 dX11_doughWith_21 rfl rfl ?_
    refine j_iload_n C 1 dX11_doughWith_22 rfl rfl ?_
    obtain ⟨⟨v8, M9⟩, e7, hf⟩ := bd hf
    replace hf := un2e hf
    refine j_callV C 1 lc0 (ent_K _ _ _ _ _ _) rfl (c_X11_doughOfArrangedDay l G n0 e7) gv_RX11_200 ⟨rfl, rfl⟩ (by decide +kernel) ⟨Nat.le_of_ble_eq_true rfl, Nat.le_of_ble_eq_true rfl⟩ rfl rfl (Nat.le_of_ble_eq_true rfl) dX11_doughWith_23 ?_
    cases hf
def lX11_freeMark_18 (M : Mem) : Nat → Int32 → Int32 → Option ((Nat ⊕ Int32) ⊕ Unit)
  | 0, _, _ => none
  | n + 1, a5, a6 =>
  if (65535 : Int32) ≤ a6 then (some (Sum.inr ()))
  else (if (65535 : Int32) < a5 then (some (Sum.inr ()))
  else ((fX4_hasLike 2 a5 M).bind fun b10 =>
  if b10 = true then ((fX11_nextWithAsMany a5).bind fun v13 =>
  lX11_freeMark_18 M n v13 (a6 + 1))
  else (some (Sum.inl (Sum.inr a5)))))

def fX11_freeMark (x1 : Int32) (M : Mem) : Option (Nat ⊕ Int32) :=
  (fX11_whyNotWithin x1 (1 : Int32) (16 : Int32)).bind fun v2 =>
  (fX11_refuse v2).bind fun o4 => xc o4 (fun k => some (Sum.inl k))
  (fun _ => (lX11_freeMark_18 M FUEL (((1 : Int32) <<< (x1 &&& 31)) - (1 : Int32)) (0 : Int32)).bind fun o => s0 o (fun _ => some (Sum.inr (-1 : Int32))))

def rX11_freeMark : Room := { frames := 3, cells := 0, slots := 0, locals := 64 }
set_option maxRecDepth 100000 in
set_option maxHeartbeats 4000000 in
theorem c_X11_freeMark (l : Launch) (G : Gx) (n0 : Nat) {x1 : Int32} {M : Mem} {r : Int32} (hf : fX11_freeMark x1 M = some (Sum.inr r)) : Ct l yX11_freeMark cX11_freeMark 4 (some .int) rX11_freeMark G n0 [.ref (n0 + 0), .int x1] M (some (.int r)) M := by
  refine ct_int (cc := cX11_freeMark) (maxL := 4) rfl (Nat.le_of_ble_eq_true rfl) ?_
  intro K C hret
  have C : Ok K l rX11_freeMark cX11_freeMark RX11 G n0 4 := C
  show J K M 0 [(0, .ref (n0 + 0)), (1, .int x1)] []
  unfold fX11_freeMark at hf
  refine j_iload_n C 1 dX11_freeMark_0 rfl rfl ?_
  refine j_iconst C (1 : Int32) rfl dX11_freeMark_1 ?_
  refine j_bipush C (16 : Int32) rfl dX11_freeMark_2 ?_
  obtain ⟨v2, e1, hf⟩ := bd hf
  refine j_callS C 3 (c_X11_whyNotWithin l G n0 (M := M) e1) gs_RX11_197 ⟨rfl, rfl⟩ (by decide +kernel) ⟨Nat.le_of_ble_eq_true rfl, Nat.le_of_ble_eq_true rfl⟩ rfl rfl (Nat.le_of_ble_eq_true rfl) dX11_freeMark_4 ?_
  obtain ⟨o4, e3, hf⟩ := bd hf
  rcases o4 with kx | _
  · replace hf : some _ = some _ := hf
    cases hf
  · replace hf := xcr hf
    refine j_callS C 1 (c_X11_refuse l G n0 (M := M) e3) gs_RX11_45 ⟨rfl, rfl⟩ (by decide +kernel) ⟨Nat.le_of_ble_eq_true rfl, Nat.le_of_ble_eq_true rfl⟩ rfl rfl (Nat.le_of_ble_eq_true rfl) dX11_freeMark_7 ?_
    refine j_iconst C (1 : Int32) rfl dX11_freeMark_10 ?_
    refine j_iload_n C 1 dX11_freeMark_11 rfl rfl ?_
    refine j_ishl C dX11_freeMark_12 ?_
    refine j_iconst C (1 : Int32) rfl dX11_freeMark_13 ?_
    refine j_isub C dX11_freeMark_14 ?_
    refine j_istore_n C [(2, .int (((1 : Int32) <<< (x1 &&& 31)) - (1 : Int32))), (0, .ref (n0 + 0)), (1, .int x1)] dX11_freeMark_15 rfl (Nat.le_of_ble_eq_true rfl) rfl ?_
    refine j_iconst C (0 : Int32) rfl dX11_freeMark_16 ?_
    refine j_istore_n C [(3, .int (0 : Int32)), (2, .int (((1 : Int32) <<< (x1 &&& 31)) - (1 : Int32))), (0, .ref (n0 + 0)), (1, .int x1)] dX11_freeMark_17 rfl (Nat.le_of_ble_eq_true rfl) rfl ?_
    obtain ⟨o18, e14, hg17⟩ := bd hf
    have hx15 : o18 = Sum.inr () → J K M 57 [] [] := by
      intro ho
      rw [ho] at hg17
      replace hf := s0r hg17
      refine j_iconst C (-1 : Int32) rfl dX11_freeMark_57 ?_
      obtain rfl := Sum.inr.inj (Option.some.inj hf)
      exact hret _ _ dX11_freeMark_58
    have hl16 : ∀ (n : Nat) (a5 : Int32) (a6 : Int32), lX11_freeMark_18 M n a5 a6 = some o18 → J K M 18 [(0, .ref (n0 + 0)), (2, .int a5), (3, .int a6)] [] := by
      intro n
      induction n with
      | zero =>
        intro a5 a6 hf
        exact absurd hf (by rw [lX11_freeMark_18]; exact fun h => by cases h)
      | succ n ih =>
        intro a5 a6 hf
        rw [lX11_freeMark_18] at hf
        refine j_iload_n C 2 dX11_freeMark_18 rfl rfl ?_
        refine j_ldc C tw4_191 dX11_freeMark_19 ?_
        refine j_icmp_ge C 57 dX11_freeMark_21 (by decide) (fun c7 => ?_) (fun c7 => ?_)
        · replace hf := ip c7 hf
          refine j_sub [] rfl ?_
          exact hx15 (Option.some.inj hf).symm
        · replace hf := ine c7 hf
          refine j_iload_n C 1 dX11_freeMark_24 rfl rfl ?_
          refine j_ldc C tw4_191 dX11_freeMark_25 ?_
          refine j_icmp_gt C 57 dX11_freeMark_27 (by decide) (fun c8 => ?_) (fun c8 => ?_)
          · replace hf := ip c8 hf
            refine j_sub [] rfl ?_
            exact hx15 (Option.some.inj hf).symm
          · replace hf := ine c8 hf
            refine j_aload_n C 0 dX11_freeMark_30 rfl rfl ?_
            refine g_X11_village C tw1_220 lc0 1 rfl dX11_freeMark_31 ?_
            refine gN_X9_households C (nxf_RX11_households) lc1 2 rfl dX11_freeMark_34 ?_
            refine j_iload_n C 1 dX11_freeMark_37 rfl rfl ?_
            obtain ⟨b10, e9, hf⟩ := bd hf
            refine j_callV C 1 lc2 (ent_K _ _ _ _ _ _) rfl (c_X4_hasLike l G n0 lc2 e9) gv_RX11_207 ⟨rfl, rfl⟩ (by decide +kernel) ⟨Nat.le_of_ble_eq_true rfl, Nat.le_of_ble_eq_true rfl⟩ rfl rfl (Nat.le_of_ble_eq_true rfl) dX11_freeMark_38 ?_
            refine j_ifz_ne C 46 dX11_freeMark_41 (by decide) (fun c11 => ?_) (fun c11 => ?_)
            · replace hf := ip c11 hf
              refine j_iload_n C 1 dX11_freeMark_46 rfl rfl ?_
              obtain ⟨v13, e12, hf⟩ := bd hf
              refine j_callS C 1 (c_X11_nextWithAsMany l G n0 (M := M) e12) gs_RX11_210 ⟨rfl, rfl⟩ (by decide +kernel) ⟨Nat.le_of_ble_eq_true rfl, Nat.le_of_ble_eq_true rfl⟩ rfl rfl (Nat.le_of_ble_eq_true rfl) dX11_freeMark_47 ?_
              refine j_istore_n C [(2, .int v13), (0, .ref (n0 + 0)), (3, .int a6)] dX11_freeMark_50 rfl (Nat.le_of_ble_eq_true rfl) rfl ?_
              refine j_iinc C 2 (a6 + 1) [(3, .int (a6 + 1)), (2, .int v13), (0, .ref (n0 + 0))] dX11_freeMark_51 rfl rfl (Nat.le_of_ble_eq_true rfl) rfl ?_
              refine j_goto C 18 dX11_freeMark_54 (by decide) ?_
              refine j_sub [2, 1, 0] rfl ?_
              exact ih _ _ hf
            · replace hf := ine c11 hf
              refine j_iload_n C 1 dX11_freeMark_44 rfl rfl ?_
              rw [← Option.some.inj hf] at hg17
              have hf := hg17
              replace hf : some _ = some _ := hf
              obtain rfl := Sum.inr.inj (Option.some.inj hf)
              exact hret _ _ dX11_freeMark_45
    refine j_sub [2, 1, 0] rfl ?_
    exact hl16 FUEL (((1 : Int32) <<< (x1 &&& 31)) - (1 : Int32)) (0 : Int32) e14
def qX11_freeMark : Room := { frames := 7, cells := 1, slots := 6, locals := 110 }
set_option maxRecDepth 100000 in
set_option maxHeartbeats 4000000 in
theorem t_X11_freeMark (l : Launch) (hfl : l.stackTraces = false) (G : Gx) (n0 : Nat) {x1 : Int32} {M : Mem} {k : Nat} (hf : fX11_freeMark x1 M = some (Sum.inl k)) : CtT l yX11_freeMark cX11_freeMark 4 (some .int) qX11_freeMark G n0 [.ref (n0 + 0), .int x1] M k := by
  refine ct_thr (cc := cX11_freeMark) (maxL := 4) rfl (Nat.le_of_ble_eq_true rfl) ⟨Nat.le_of_ble_eq_true rfl, Nat.le_of_ble_eq_true rfl⟩ ?_
  intro K C hthr
  have C : Ok K l qX11_freeMark cX11_freeMark RX11 G n0 4 := C
  show J K M 0 [(0, .ref (n0 + 0)), (1, .int x1)] []
  unfold fX11_freeMark at hf
  refine j_iload_n C 1 dX11_freeMark_0 rfl rfl ?_
  refine j_iconst C (1 : Int32) rfl dX11_freeMark_1 ?_
  refine j_bipush C (16 : Int32) rfl dX11_freeMark_2 ?_
  obtain ⟨v2, e1, hf⟩ := bd hf
  refine j_callS C 3 (c_X11_whyNotWithin l G n0 (M := M) e1) gs_RX11_197 ⟨rfl, rfl⟩ (by decide +kernel) ⟨Nat.le_of_ble_eq_true rfl, Nat.le_of_ble_eq_true rfl⟩ rfl rfl (Nat.le_of_ble_eq_true rfl) dX11_freeMark_4 ?_
  obtain ⟨o4, e3, hf⟩ := bd hf
  rcases o4 with kx | _
  · replace hf : some _ = some _ := hf
    cases hf
    exact j_callTS C 1 hthr (t_X11_refuse l hfl G n0 (M := M) e3) gs_RX11_45 ⟨rfl, rfl⟩ (by decide +kernel) ⟨Nat.le_of_ble_eq_true rfl, Nat.le_of_ble_eq_true rfl⟩ rfl rfl (Nat.le_of_ble_eq_true rfl) dX11_freeMark_7
  · replace hf := xcr hf
    refine j_callS C 1 (c_X11_refuse l G n0 (M := M) e3) gs_RX11_45 ⟨rfl, rfl⟩ (by decide +kernel) ⟨Nat.le_of_ble_eq_true rfl, Nat.le_of_ble_eq_true rfl⟩ rfl rfl (Nat.le_of_ble_eq_true rfl) dX11_freeMark_7 ?_
    refine j_iconst C (1 : Int32) rfl dX11_freeMark_10 ?_
    refine j_iload_n C 1 dX11_freeMark_11 rfl rfl ?_
    refine j_ishl C dX11_freeMark_12 ?_
    refine j_iconst C (1 : Int32) rfl dX11_freeMark_13 ?_
    refine j_isub C dX11_freeMark_14 ?_
    refine j_istore_n C [(2, .int (((1 : Int32) <<< (x1 &&& 31)) - (1 : Int32))), (0, .ref (n0 + 0)), (1, .int x1)] dX11_freeMark_15 rfl (Nat.le_of_ble_eq_true rfl) rfl ?_
    refine j_iconst C (0 : Int32) rfl dX11_freeMark_16 ?_
    refine j_istore_n C [(3, .int (0 : Int32)), (2, .int (((1 : Int32) <<< (x1 &&& 31)) - (1 : Int32))), (0, .ref (n0 + 0)), (1, .int x1)] dX11_freeMark_17 rfl (Nat.le_of_ble_eq_true rfl) rfl ?_
    obtain ⟨o23, e19, hg22⟩ := bd hf
    have hx20 : o23 = Sum.inr () → J K M 57 [] [] := by
      intro ho
      rw [ho] at hg22
      replace hf := s0r hg22
      refine j_iconst C (-1 : Int32) rfl dX11_freeMark_57 ?_
      cases hf
    have hl21 : ∀ (n : Nat) (a5 : Int32) (a6 : Int32), lX11_freeMark_18 M n a5 a6 = some o23 → J K M 18 [(0, .ref (n0 + 0)), (2, .int a5), (3, .int a6)] [] := by
      intro n
      induction n with
      | zero =>
        intro a5 a6 hf
        exact absurd hf (by rw [lX11_freeMark_18]; exact fun h => by cases h)
      | succ n ih =>
        intro a5 a6 hf
        rw [lX11_freeMark_18] at hf
        refine j_iload_n C 2 dX11_freeMark_18 rfl rfl ?_
        refine j_ldc C tw4_191 dX11_freeMark_19 ?_
        refine j_icmp_ge C 57 dX11_freeMark_21 (by decide) (fun c7 => ?_) (fun c7 => ?_)
        · replace hf := ip c7 hf
          refine j_sub [] rfl ?_
          exact hx20 (Option.some.inj hf).symm
        · replace hf := ine c7 hf
          refine j_iload_n C 1 dX11_freeMark_24 rfl rfl ?_
          refine j_ldc C tw4_191 dX11_freeMark_25 ?_
          refine j_icmp_gt C 57 dX11_freeMark_27 (by decide) (fun c8 => ?_) (fun c8 => ?_)
          · replace hf := ip c8 hf
            refine j_sub [] rfl ?_
            exact hx20 (Option.some.inj hf).symm
          · replace hf := ine c8 hf
            refine j_aload_n C 0 dX11_freeMark_30 rfl rfl ?_
            refine g_X11_village C tw1_220 lc0 1 rfl dX11_freeMark_31 ?_
            refine gN_X9_households C (nxf_RX11_households) lc1 2 rfl dX11_freeMark_34 ?_
            refine j_iload_n C 1 dX11_freeMark_37 rfl rfl ?_
            obtain ⟨b10, e9, hf⟩ := bd hf
            refine j_callV C 1 lc2 (ent_K _ _ _ _ _ _) rfl (c_X4_hasLike l G n0 lc2 e9) gv_RX11_207 ⟨rfl, rfl⟩ (by decide +kernel) ⟨Nat.le_of_ble_eq_true rfl, Nat.le_of_ble_eq_true rfl⟩ rfl rfl (Nat.le_of_ble_eq_true rfl) dX11_freeMark_38 ?_
            refine j_ifz_ne C 46 dX11_freeMark_41 (by decide) (fun c11 => ?_) (fun c11 => ?_)
            · replace hf := ip c11 hf
              refine j_iload_n C 1 dX11_freeMark_46 rfl rfl ?_
              obtain ⟨v13, e12, hf⟩ := bd hf
              refine j_callS C 1 (c_X11_nextWithAsMany l G n0 (M := M) e12) gs_RX11_210 ⟨rfl, rfl⟩ (by decide +kernel) ⟨Nat.le_of_ble_eq_true rfl, Nat.le_of_ble_eq_true rfl⟩ rfl rfl (Nat.le_of_ble_eq_true rfl) dX11_freeMark_47 ?_
              refine j_istore_n C [(2, .int v13), (0, .ref (n0 + 0)), (3, .int a6)] dX11_freeMark_50 rfl (Nat.le_of_ble_eq_true rfl) rfl ?_
              refine j_iinc C 2 (a6 + 1) [(3, .int (a6 + 1)), (2, .int v13), (0, .ref (n0 + 0))] dX11_freeMark_51 rfl rfl (Nat.le_of_ble_eq_true rfl) rfl ?_
              refine j_goto C 18 dX11_freeMark_54 (by decide) ?_
              refine j_sub [2, 1, 0] rfl ?_
              exact ih _ _ hf
            · replace hf := ine c11 hf
              refine j_iload_n C 1 dX11_freeMark_44 rfl rfl ?_
              rw [← Option.some.inj hf] at hg22
              have hf := hg22
              replace hf : some _ = some _ := hf
              cases hf
    refine j_sub [2, 1, 0] rfl ?_
    exact hl21 FUEL (((1 : Int32) <<< (x1 &&& 31)) - (1 : Int32)) (0 : Int32) e19
def fX11_type (x1 : Int32) (M : Mem) : Option (Nat ⊕ (Int32 × Mem)) :=
  (fX11_whyNotWithin x1 (0 : Int32) (127 : Int32)).bind fun v2 =>
  (fX11_refuse v2).bind fun o4 => xc o4 (fun k => some (Sum.inl k))
  (fun _ => (fX2_isFull M).bind fun b6 =>
  if b6 = true then ((fX11_refuse (3 : Int32)).bind fun o14 => xc o14 (fun k => some (Sum.inl k))
  (fun _ => (fX2_append x1 M).bind (un2 fun v16 M17 =>
  some (Sum.inr (v16, M17)))))
  else ((fX11_refuse (0 : Int32)).bind fun o9 => xc o9 (fun k => some (Sum.inl k))
  (fun _ => (fX2_append x1 M).bind (un2 fun v11 M12 =>
  some (Sum.inr (v11, M12))))))

def rX11_type : Room := { frames := 2, cells := 0, slots := 0, locals := 41 }
set_option maxRecDepth 100000 in
set_option maxHeartbeats 4000000 in
theorem c_X11_type (l : Launch) (G : Gx) (n0 : Nat) {x1 : Int32} {M : Mem} {r : Int32} {M' : Mem} (hf : fX11_type x1 M = some (Sum.inr (r, M'))) : Ct l yX11_type cX11_type 2 (some .int) rX11_type G n0 [.ref (n0 + 0), .int x1] M (some (.int r)) M' := by
  refine ct_int (cc := cX11_type) (maxL := 2) rfl (Nat.le_of_ble_eq_true rfl) ?_
  intro K C hret
  have C : Ok K l rX11_type cX11_type RX11 G n0 2 := C
  show J K M 0 [(0, .ref (n0 + 0)), (1, .int x1)] []
  unfold fX11_type at hf
  refine j_iload_n C 1 dX11_type_0 rfl rfl ?_
  refine j_iconst C (0 : Int32) rfl dX11_type_1 ?_
  refine j_bipush C (127 : Int32) rfl dX11_type_2 ?_
  obtain ⟨v2, e1, hf⟩ := bd hf
  refine j_callS C 3 (c_X11_whyNotWithin l G n0 (M := M) e1) gs_RX11_197 ⟨rfl, rfl⟩ (by decide +kernel) ⟨Nat.le_of_ble_eq_true rfl, Nat.le_of_ble_eq_true rfl⟩ rfl rfl (Nat.le_of_ble_eq_true rfl) dX11_type_4 ?_
  obtain ⟨o4, e3, hf⟩ := bd hf
  rcases o4 with kx | _
  · replace hf : some _ = some _ := hf
    cases hf
  · replace hf := xcr hf
    refine j_callS C 1 (c_X11_refuse l G n0 (M := M) e3) gs_RX11_45 ⟨rfl, rfl⟩ (by decide +kernel) ⟨Nat.le_of_ble_eq_true rfl, Nat.le_of_ble_eq_true rfl⟩ rfl rfl (Nat.le_of_ble_eq_true rfl) dX11_type_7 ?_
    refine j_aload_n C 0 dX11_type_10 rfl rfl ?_
    refine g_X11_text C tw1_223 lc0 175 rfl dX11_type_11 ?_
    obtain ⟨b6, e5, hf⟩ := bd hf
    refine j_callV C 0 lc175 (ent_K _ _ _ _ _ _) rfl (c_X2_isFull l G n0 e5) gv_RX11_213 ⟨rfl, rfl⟩ (by decide +kernel) ⟨Nat.le_of_ble_eq_true rfl, Nat.le_of_ble_eq_true rfl⟩ rfl rfl (Nat.le_of_ble_eq_true rfl) dX11_type_14 ?_
    refine j_ifz_eq C 24 dX11_type_17 (by decide) (fun c7 => ?_) (fun c7 => ?_)
    · replace hf := ine c7 hf
      refine j_iconst C (0 : Int32) rfl dX11_type_24 ?_
      obtain ⟨o9, e8, hf⟩ := bd hf
      rcases o9 with kx | _
      · replace hf : some _ = some _ := hf
        cases hf
      · replace hf := xcr hf
        refine j_callS C 1 (c_X11_refuse l G n0 (M := M) e8) gs_RX11_45 ⟨rfl, rfl⟩ (by decide +kernel) ⟨Nat.le_of_ble_eq_true rfl, Nat.le_of_ble_eq_true rfl⟩ rfl rfl (Nat.le_of_ble_eq_true rfl) dX11_type_25 ?_
        refine j_aload_n C 0 dX11_type_28 rfl rfl ?_
        refine g_X11_text C tw1_223 lc0 175 rfl dX11_type_29 ?_
        refine j_iload_n C 1 dX11_type_32 rfl rfl ?_
        obtain ⟨⟨v11, M12⟩, e10, hf⟩ := bd hf
        replace hf := un2e hf
        refine j_callV C 1 lc175 (ent_K _ _ _ _ _ _) rfl (c_X2_append l G n0 e10) gv_RX11_217 ⟨rfl, rfl⟩ (by decide +kernel) ⟨Nat.le_of_ble_eq_true rfl, Nat.le_of_ble_eq_true rfl⟩ rfl rfl (Nat.le_of_ble_eq_true rfl) dX11_type_33 ?_
        obtain ⟨rfl, rfl⟩ := Prod.mk.inj (Sum.inr.inj (Option.some.inj hf))
        exact hret _ _ dX11_type_36
    · replace hf := ip c7 hf
      refine j_iconst C (3 : Int32) rfl dX11_type_20 ?_
      refine j_goto C 25 dX11_type_21 (by decide) ?_
      obtain ⟨o14, e13, hf⟩ := bd hf
      rcases o14 with kx | _
      · replace hf : some _ = some _ := hf
        cases hf
      · replace hf := xcr hf
        refine j_callS C 1 (c_X11_refuse l G n0 (M := M) e13) gs_RX11_45 ⟨rfl, rfl⟩ (by decide +kernel) ⟨Nat.le_of_ble_eq_true rfl, Nat.le_of_ble_eq_true rfl⟩ rfl rfl (Nat.le_of_ble_eq_true rfl) dX11_type_25 ?_
        refine j_aload_n C 0 dX11_type_28 rfl rfl ?_
        refine g_X11_text C tw1_223 lc0 175 rfl dX11_type_29 ?_
        refine j_iload_n C 1 dX11_type_32 rfl rfl ?_
        obtain ⟨⟨v16, M17⟩, e15, hf⟩ := bd hf
        replace hf := un2e hf
        refine j_callV C 1 lc175 (ent_K _ _ _ _ _ _) rfl (c_X2_append l G n0 e15) gv_RX11_217 ⟨rfl, rfl⟩ (by decide +kernel) ⟨Nat.le_of_ble_eq_true rfl, Nat.le_of_ble_eq_true rfl⟩ rfl rfl (Nat.le_of_ble_eq_true rfl) dX11_type_33 ?_
        obtain ⟨rfl, rfl⟩ := Prod.mk.inj (Sum.inr.inj (Option.some.inj hf))
        exact hret _ _ dX11_type_36
def qX11_type : Room := { frames := 7, cells := 1, slots := 6, locals := 110 }
set_option maxRecDepth 100000 in
set_option maxHeartbeats 4000000 in
theorem t_X11_type (l : Launch) (hfl : l.stackTraces = false) (G : Gx) (n0 : Nat) {x1 : Int32} {M : Mem} {k : Nat} (hf : fX11_type x1 M = some (Sum.inl k)) : CtT l yX11_type cX11_type 2 (some .int) qX11_type G n0 [.ref (n0 + 0), .int x1] M k := by
  refine ct_thr (cc := cX11_type) (maxL := 2) rfl (Nat.le_of_ble_eq_true rfl) ⟨Nat.le_of_ble_eq_true rfl, Nat.le_of_ble_eq_true rfl⟩ ?_
  intro K C hthr
  have C : Ok K l qX11_type cX11_type RX11 G n0 2 := C
  show J K M 0 [(0, .ref (n0 + 0)), (1, .int x1)] []
  unfold fX11_type at hf
  refine j_iload_n C 1 dX11_type_0 rfl rfl ?_
  refine j_iconst C (0 : Int32) rfl dX11_type_1 ?_
  refine j_bipush C (127 : Int32) rfl dX11_type_2 ?_
  obtain ⟨v2, e1, hf⟩ := bd hf
  refine j_callS C 3 (c_X11_whyNotWithin l G n0 (M := M) e1) gs_RX11_197 ⟨rfl, rfl⟩ (by decide +kernel) ⟨Nat.le_of_ble_eq_true rfl, Nat.le_of_ble_eq_true rfl⟩ rfl rfl (Nat.le_of_ble_eq_true rfl) dX11_type_4 ?_
  obtain ⟨o4, e3, hf⟩ := bd hf
  rcases o4 with kx | _
  · replace hf : some _ = some _ := hf
    cases hf
    exact j_callTS C 1 hthr (t_X11_refuse l hfl G n0 (M := M) e3) gs_RX11_45 ⟨rfl, rfl⟩ (by decide +kernel) ⟨Nat.le_of_ble_eq_true rfl, Nat.le_of_ble_eq_true rfl⟩ rfl rfl (Nat.le_of_ble_eq_true rfl) dX11_type_7
  · replace hf := xcr hf
    refine j_callS C 1 (c_X11_refuse l G n0 (M := M) e3) gs_RX11_45 ⟨rfl, rfl⟩ (by decide +kernel) ⟨Nat.le_of_ble_eq_true rfl, Nat.le_of_ble_eq_true rfl⟩ rfl rfl (Nat.le_of_ble_eq_true rfl) dX11_type_7 ?_
    refine j_aload_n C 0 dX11_type_10 rfl rfl ?_
    refine g_X11_text C tw1_223 lc0 175 rfl dX11_type_11 ?_
    obtain ⟨b6, e5, hf⟩ := bd hf
    refine j_callV C 0 lc175 (ent_K _ _ _ _ _ _) rfl (c_X2_isFull l G n0 e5) gv_RX11_213 ⟨rfl, rfl⟩ (by decide +kernel) ⟨Nat.le_of_ble_eq_true rfl, Nat.le_of_ble_eq_true rfl⟩ rfl rfl (Nat.le_of_ble_eq_true rfl) dX11_type_14 ?_
    refine j_ifz_eq C 24 dX11_type_17 (by decide) (fun c7 => ?_) (fun c7 => ?_)
    · replace hf := ine c7 hf
      refine j_iconst C (0 : Int32) rfl dX11_type_24 ?_
      obtain ⟨o9, e8, hf⟩ := bd hf
      rcases o9 with kx | _
      · replace hf : some _ = some _ := hf
        cases hf
        exact j_callTS C 1 hthr (t_X11_refuse l hfl G n0 (M := M) e8) gs_RX11_45 ⟨rfl, rfl⟩ (by decide +kernel) ⟨Nat.le_of_ble_eq_true rfl, Nat.le_of_ble_eq_true rfl⟩ rfl rfl (Nat.le_of_ble_eq_true rfl) dX11_type_25
      · replace hf := xcr hf
        refine j_callS C 1 (c_X11_refuse l G n0 (M := M) e8) gs_RX11_45 ⟨rfl, rfl⟩ (by decide +kernel) ⟨Nat.le_of_ble_eq_true rfl, Nat.le_of_ble_eq_true rfl⟩ rfl rfl (Nat.le_of_ble_eq_true rfl) dX11_type_25 ?_
        refine j_aload_n C 0 dX11_type_28 rfl rfl ?_
        refine g_X11_text C tw1_223 lc0 175 rfl dX11_type_29 ?_
        refine j_iload_n C 1 dX11_type_32 rfl rfl ?_
        obtain ⟨⟨v11, M12⟩, e10, hf⟩ := bd hf
        replace hf := un2e hf
        refine j_callV C 1 lc175 (ent_K _ _ _ _ _ _) rfl (c_X2_append l G n0 e10) gv_RX11_217 ⟨rfl, rfl⟩ (by decide +kernel) ⟨Nat.le_of_ble_eq_true rfl, Nat.le_of_ble_eq_true rfl⟩ rfl rfl (Nat.le_of_ble_eq_true rfl) dX11_type_33 ?_
        cases hf
    · replace hf := ip c7 hf
      refine j_iconst C (3 : Int32) rfl dX11_type_20 ?_
      refine j_goto C 25 dX11_type_21 (by decide) ?_
      obtain ⟨o14, e13, hf⟩ := bd hf
      rcases o14 with kx | _
      · replace hf : some _ = some _ := hf
        cases hf
        exact j_callTS C 1 hthr (t_X11_refuse l hfl G n0 (M := M) e13) gs_RX11_45 ⟨rfl, rfl⟩ (by decide +kernel) ⟨Nat.le_of_ble_eq_true rfl, Nat.le_of_ble_eq_true rfl⟩ rfl rfl (Nat.le_of_ble_eq_true rfl) dX11_type_25
      · replace hf := xcr hf
        refine j_callS C 1 (c_X11_refuse l G n0 (M := M) e13) gs_RX11_45 ⟨rfl, rfl⟩ (by decide +kernel) ⟨Nat.le_of_ble_eq_true rfl, Nat.le_of_ble_eq_true rfl⟩ rfl rfl (Nat.le_of_ble_eq_true rfl) dX11_type_25 ?_
        refine j_aload_n C 0 dX11_type_28 rfl rfl ?_
        refine g_X11_text C tw1_223 lc0 175 rfl dX11_type_29 ?_
        refine j_iload_n C 1 dX11_type_32 rfl rfl ?_
        obtain ⟨⟨v16, M17⟩, e15, hf⟩ := bd hf
        replace hf := un2e hf
        refine j_callV C 1 lc175 (ent_K _ _ _ _ _ _) rfl (c_X2_append l G n0 e15) gv_RX11_217 ⟨rfl, rfl⟩ (by decide +kernel) ⟨Nat.le_of_ble_eq_true rfl, Nat.le_of_ble_eq_true rfl⟩ rfl rfl (Nat.le_of_ble_eq_true rfl) dX11_type_33 ?_
        cases hf
def fX11_undo  (M : Mem) : Option (Nat ⊕ (Int32 × Mem)) :=
  (fX8_size M).bind fun v2 =>
  (if v2 = 0 then (some (3 : Int32))
  else (some (0 : Int32))).bind (fun z4 => (fX11_refuse z4).bind fun o6 => xc o6 (fun k => some (Sum.inl k))
  (fun _ => (fX8_popInto 1 M).bind (un2 fun v8 M9 =>
  some (Sum.inr (v8, M9)))))

def rX11_undo : Room := { frames := 5, cells := 0, slots := 0, locals := 127 }
set_option maxRecDepth 100000 in
set_option maxHeartbeats 4000000 in
theorem c_X11_undo (l : Launch) (G : Gx) (n0 : Nat) {M : Mem} {r : Int32} {M' : Mem} (hf : fX11_undo M = some (Sum.inr (r, M'))) : Ct l yX11_undo cX11_undo 1 (some .int) rX11_undo G n0 [.ref (n0 + 0)] M (some (.int r)) M' := by
  refine ct_int (cc := cX11_undo) (maxL := 1) rfl (Nat.le_of_ble_eq_true rfl) ?_
  intro K C hret
  have C : Ok K l rX11_undo cX11_undo RX11 G n0 1 := C
  show J K M 0 [(0, .ref (n0 + 0))] []
  unfold fX11_undo at hf
  refine j_aload_n C 0 dX11_undo_0 rfl rfl ?_
  refine g_X11_undoStack C tw1_222 lc0 45 rfl dX11_undo_1 ?_
  obtain ⟨v2, e1, hf⟩ := bd hf
  refine j_callV C 0 lc45 (ent_K _ _ _ _ _ _) rfl (c_X8_size l G n0 e1) gv_RX11_243 ⟨rfl, rfl⟩ (by decide +kernel) ⟨Nat.le_of_ble_eq_true rfl, Nat.le_of_ble_eq_true rfl⟩ rfl rfl (Nat.le_of_ble_eq_true rfl) dX11_undo_4 ?_
  obtain ⟨z4, e10, hf⟩ := bd hf
  have hj11 : J K M 15 [(0, .ref (n0 + 0))] [.int z4] := by
    obtain ⟨o6, e5, hf⟩ := bd hf
    rcases o6 with kx | _
    · replace hf : some _ = some _ := hf
      cases hf
    · replace hf := xcr hf
      refine j_callS C 1 (c_X11_refuse l G n0 (M := M) e5) gs_RX11_45 ⟨rfl, rfl⟩ (by decide +kernel) ⟨Nat.le_of_ble_eq_true rfl, Nat.le_of_ble_eq_true rfl⟩ rfl rfl (Nat.le_of_ble_eq_true rfl) dX11_undo_15 ?_
      refine j_aload_n C 0 dX11_undo_18 rfl rfl ?_
      refine g_X11_undoStack C tw1_222 lc0 45 rfl dX11_undo_19 ?_
      refine j_aload_n C 0 dX11_undo_22 rfl rfl ?_
      refine g_X11_village C tw1_220 lc0 1 rfl dX11_undo_23 ?_
      obtain ⟨⟨v8, M9⟩, e7, hf⟩ := bd hf
      replace hf := un2e hf
      refine j_callV C 1 lc45 (ent_K _ _ _ _ _ _) rfl (c_X8_popInto l G n0 lc1 e7) gv_RX11_244 ⟨rfl, rfl⟩ (by decide +kernel) ⟨Nat.le_of_ble_eq_true rfl, Nat.le_of_ble_eq_true rfl⟩ rfl rfl (Nat.le_of_ble_eq_true rfl) dX11_undo_26 ?_
      obtain ⟨rfl, rfl⟩ := Prod.mk.inj (Sum.inr.inj (Option.some.inj hf))
      exact hret _ _ dX11_undo_29
  clear hf
  have hf := e10
  refine j_if_ne C 14 dX11_undo_7 (by decide) (fun c3 => ?_) (fun c3 => ?_)
  · replace hf := ine c3 hf
    refine j_iconst C (0 : Int32) rfl dX11_undo_14 ?_
    cases hf
    refine j_sub [0] rfl ?_
    exact hj11
  · replace hf := ip c3 hf
    refine j_iconst C (3 : Int32) rfl dX11_undo_10 ?_
    refine j_goto C 15 dX11_undo_11 (by decide) ?_
    cases hf
    refine j_sub [0] rfl ?_
    exact hj11
def qX11_undo : Room := { frames := 7, cells := 1, slots := 6, locals := 127 }
set_option maxRecDepth 100000 in
set_option maxHeartbeats 4000000 in
theorem t_X11_undo (l : Launch) (hfl : l.stackTraces = false) (G : Gx) (n0 : Nat) {M : Mem} {k : Nat} (hf : fX11_undo M = some (Sum.inl k)) : CtT l yX11_undo cX11_undo 1 (some .int) qX11_undo G n0 [.ref (n0 + 0)] M k := by
  refine ct_thr (cc := cX11_undo) (maxL := 1) rfl (Nat.le_of_ble_eq_true rfl) ⟨Nat.le_of_ble_eq_true rfl, Nat.le_of_ble_eq_true rfl⟩ ?_
  intro K C hthr
  have C : Ok K l qX11_undo cX11_undo RX11 G n0 1 := C
  show J K M 0 [(0, .ref (n0 + 0))] []
  unfold fX11_undo at hf
  refine j_aload_n C 0 dX11_undo_0 rfl rfl ?_
  refine g_X11_undoStack C tw1_222 lc0 45 rfl dX11_undo_1 ?_
  obtain ⟨v2, e1, hf⟩ := bd hf
  refine j_callV C 0 lc45 (ent_K _ _ _ _ _ _) rfl (c_X8_size l G n0 e1) gv_RX11_243 ⟨rfl, rfl⟩ (by decide +kernel) ⟨Nat.le_of_ble_eq_true rfl, Nat.le_of_ble_eq_true rfl⟩ rfl rfl (Nat.le_of_ble_eq_true rfl) dX11_undo_4 ?_
  obtain ⟨z4, e12, hf⟩ := bd hf
  have hj13 : J K M 15 [(0, .ref (n0 + 0))] [.int z4] := by
    obtain ⟨o6, e5, hf⟩ := bd hf
    rcases o6 with kx | _
    · replace hf : some _ = some _ := hf
      cases hf
      exact j_callTS C 1 hthr (t_X11_refuse l hfl G n0 (M := M) e5) gs_RX11_45 ⟨rfl, rfl⟩ (by decide +kernel) ⟨Nat.le_of_ble_eq_true rfl, Nat.le_of_ble_eq_true rfl⟩ rfl rfl (Nat.le_of_ble_eq_true rfl) dX11_undo_15
    · replace hf := xcr hf
      refine j_callS C 1 (c_X11_refuse l G n0 (M := M) e5) gs_RX11_45 ⟨rfl, rfl⟩ (by decide +kernel) ⟨Nat.le_of_ble_eq_true rfl, Nat.le_of_ble_eq_true rfl⟩ rfl rfl (Nat.le_of_ble_eq_true rfl) dX11_undo_15 ?_
      refine j_aload_n C 0 dX11_undo_18 rfl rfl ?_
      refine g_X11_undoStack C tw1_222 lc0 45 rfl dX11_undo_19 ?_
      refine j_aload_n C 0 dX11_undo_22 rfl rfl ?_
      refine g_X11_village C tw1_220 lc0 1 rfl dX11_undo_23 ?_
      obtain ⟨⟨v8, M9⟩, e7, hf⟩ := bd hf
      replace hf := un2e hf
      refine j_callV C 1 lc45 (ent_K _ _ _ _ _ _) rfl (c_X8_popInto l G n0 lc1 e7) gv_RX11_244 ⟨rfl, rfl⟩ (by decide +kernel) ⟨Nat.le_of_ble_eq_true rfl, Nat.le_of_ble_eq_true rfl⟩ rfl rfl (Nat.le_of_ble_eq_true rfl) dX11_undo_26 ?_
      cases hf
  clear hf
  have hf := e12
  refine j_if_ne C 14 dX11_undo_7 (by decide) (fun c3 => ?_) (fun c3 => ?_)
  · replace hf := ine c3 hf
    refine j_iconst C (0 : Int32) rfl dX11_undo_14 ?_
    cases hf
    refine j_sub [0] rfl ?_
    exact hj13
  · replace hf := ip c3 hf
    refine j_iconst C (3 : Int32) rfl dX11_undo_10 ?_
    refine j_goto C 15 dX11_undo_11 (by decide) ?_
    cases hf
    refine j_sub [0] rfl ?_
    exact hj13
