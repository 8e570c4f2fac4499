def fX11_whyNotWithin (x0 : Int32) (x1 : Int32) (x2 : Int32) : Option Int32 :=
  if x0 < x1 then (some (2 : Int32))
  else (if x0 ≤ x2 then (some (0 : Int32))
  else (some (2 : Int32)))

def rX11_whyNotWithin : Room := { frames := 0, cells := 0, slots := 0, locals := 0 }
set_option maxRecDepth 100000 in
set_option maxHeartbeats 4000000 in
theorem c_X11_whyNotWithin (l : Launch) (G : Gx) (n0 : Nat) {x0 : Int32} {x1 : Int32} {x2 : Int32} {M : Mem} {r : Int32} (hf : fX11_whyNotWithin x0 x1 x2 = some r) : Ct l yX11_whyNotWithin cX11_whyNotWithin 3 (some .int) rX11_whyNotWithin G n0 [.int x0, .int x1, .int x2] M (some (.int r)) M := by
  refine ct_int (cc := cX11_whyNotWithin) (maxL := 3) rfl (Nat.le_of_ble_eq_true rfl) ?_
  intro K C hret
  have C : Ok K l rX11_whyNotWithin cX11_whyNotWithin RX11 G n0 3 := C
  show J K M 0 [(0, .int x0), (1, .int x1), (2, .int x2)] []
  unfold fX11_whyNotWithin at hf
  refine j_iload_n C 0 dX11_whyNotWithin_0 rfl rfl ?_
  refine j_iload_n C 1 dX11_whyNotWithin_1 rfl rfl ?_
  refine j_icmp_lt C 10 dX11_whyNotWithin_2 (by decide) (fun c1 => ?_) (fun c1 => ?_)
  · replace hf := ip c1 hf
    refine j_iconst C (2 : Int32) rfl dX11_whyNotWithin_10 ?_
    refine j_goto C 15 dX11_whyNotWithin_11 (by decide) ?_
    obtain rfl := Option.some.inj hf
    exact hret _ _ dX11_whyNotWithin_15
  · replace hf := ine c1 hf
    refine j_iload_n C 0 dX11_whyNotWithin_5 rfl rfl ?_
    refine j_iload_n C 2 dX11_whyNotWithin_6 rfl rfl ?_
    refine j_icmp_le C 14 dX11_whyNotWithin_7 (by decide) (fun c2 => ?_) (fun c2 => ?_)
    · replace hf := ip c2 hf
      refine j_iconst C (0 : Int32) rfl dX11_whyNotWithin_14 ?_
      obtain rfl := Option.some.inj hf
      exact hret _ _ dX11_whyNotWithin_15
    · replace hf := ine c2 hf
      refine j_iconst C (2 : Int32) rfl dX11_whyNotWithin_10 ?_
      refine j_goto C 15 dX11_whyNotWithin_11 (by decide) ?_
      obtain rfl := Option.some.inj hf
      exact hret _ _ dX11_whyNotWithin_15
def fX9_whyNoJoining (t : Nat) (x1 : Int32) (M : Mem) : Option Int32 :=
  (fX11_whyNotWithin x1 (1 : Int32) (65535 : Int32)).bind fun v2 =>
  if v2 = 0 then ((fX4_isFull (t + 1) M).bind fun b5 =>
  if b5 = true then (some (3 : Int32))
  else ((fX4_withMark (t + 1) x1 M).bind fun v8 =>
  if v8 = (-1 : Int32) then (some (0 : Int32))
  else (some (3 : Int32))))
  else (some (2 : Int32))

def rX9_whyNoJoining : Room := { frames := 2, cells := 0, slots := 0, locals := 44 }
set_option maxRecDepth 100000 in
set_option maxHeartbeats 4000000 in
theorem c_X9_whyNoJoining (l : Launch) (G : Gx) (n0 : Nat) {t : Nat} {x1 : Int32} (hk : lay[t]? = some (tK 9)) {M : Mem} {r : Int32} (hf : fX9_whyNoJoining t x1 M = some r) : Ct l yX9_whyNoJoining cX9_whyNoJoining 2 (some .int) rX9_whyNoJoining G n0 [.ref (n0 + t), .int x1] M (some (.int r)) M := by
  refine ct_int (cc := cX9_whyNoJoining) (maxL := 2) rfl (Nat.le_of_ble_eq_true rfl) ?_
  intro K C hret
  have C : Ok K l rX9_whyNoJoining cX9_whyNoJoining RX9 G n0 2 := C
  show J K M 0 [(0, .ref (n0 + t)), (1, .int x1)] []
  unfold fX9_whyNoJoining at hf
  refine j_iload_n C 1 dX9_whyNoJoining_0 rfl rfl ?_
  refine j_iconst C (1 : Int32) rfl dX9_whyNoJoining_1 ?_
  refine j_ldc C tw3_114 dX9_whyNoJoining_2 ?_
  obtain ⟨v2, e1, hf⟩ := bd hf
  refine j_callSN C 3 (c_X11_whyNotWithin l G n0 (M := M) e1) nxm_RX9_70 tw1_1 tw2_16 tw2_17 ⟨rfl, rfl⟩ (by decide +kernel) ⟨Nat.le_of_ble_eq_true rfl, Nat.le_of_ble_eq_true rfl⟩ rfl rfl (Nat.le_of_ble_eq_true rfl) dX9_whyNoJoining_4 ?_
  refine j_if_eq C 12 dX9_whyNoJoining_7 (by decide) (fun c3 => ?_) (fun c3 => ?_)
  · replace hf := ip c3 hf
    refine j_aload_n C 0 dX9_whyNoJoining_12 rfl rfl ?_
    refine g_X9_households C tw1_114 hk (t + 1) rfl dX9_whyNoJoining_13 ?_
    obtain ⟨b5, e4, hf⟩ := bd hf
    refine j_callV C 0 (k9_1 hk) (ent_K _ _ _ _ _ _) rfl (c_X4_isFull l G n0 (k9_1 hk) e4) gv_RX9_74 ⟨rfl, rfl⟩ (by decide +kernel) ⟨Nat.le_of_ble_eq_true rfl, Nat.le_of_ble_eq_true rfl⟩ rfl rfl (Nat.le_of_ble_eq_true rfl) dX9_whyNoJoining_16 ?_
    refine j_ifz_ne C 34 dX9_whyNoJoining_19 (by decide) (fun c6 => ?_) (fun c6 => ?_)
    · replace hf := ip c6 hf
      refine j_iconst C (3 : Int32) rfl dX9_whyNoJoining_34 ?_
      refine j_goto C 39 dX9_whyNoJoining_35 (by decide) ?_
      obtain rfl := Option.some.inj hf
      exact hret _ _ dX9_whyNoJoining_39
    · replace hf := ine c6 hf
      refine j_aload_n C 0 dX9_whyNoJoining_22 rfl rfl ?_
      refine g_X9_households C tw1_114 hk (t + 1) rfl dX9_whyNoJoining_23 ?_
      refine j_iload_n C 1 dX9_whyNoJoining_26 rfl rfl ?_
      obtain ⟨v8, e7, hf⟩ := bd hf
      refine j_callV C 1 (k9_1 hk) (ent_K _ _ _ _ _ _) rfl (c_X4_withMark l G n0 (k9_1 hk) e7) gv_RX9_78 ⟨rfl, rfl⟩ (by decide +kernel) ⟨Nat.le_of_ble_eq_true rfl, Nat.le_of_ble_eq_true rfl⟩ rfl rfl (Nat.le_of_ble_eq_true rfl) dX9_whyNoJoining_27 ?_
      refine j_iconst C (-1 : Int32) rfl dX9_whyNoJoining_30 ?_
      refine j_icmp_eq C 38 dX9_whyNoJoining_31 (by decide) (fun c9 => ?_) (fun c9 => ?_)
      · replace hf := ip c9 hf
        refine j_iconst C (0 : Int32) rfl dX9_whyNoJoining_38 ?_
        obtain rfl := Option.some.inj hf
        exact hret _ _ dX9_whyNoJoining_39
      · replace hf := ine c9 hf
        refine j_iconst C (3 : Int32) rfl dX9_whyNoJoining_34 ?_
        refine j_goto C 39 dX9_whyNoJoining_35 (by decide) ?_
        obtain rfl := Option.some.inj hf
        exact hret _ _ dX9_whyNoJoining_39
  · replace hf := ine c3 hf
    refine j_iconst C (2 : Int32) rfl dX9_whyNoJoining_10 ?_
    obtain rfl := Option.some.inj hf
    exact hret _ _ dX9_whyNoJoining_11
def fX8_stateAt (x1 : Int32) (M : Mem) : Option (Option Nat) :=
  if x1 < 0 then (some none)
  else (if (4 : Int32) ≤ x1 then (some none)
  else (if x1 < 0 ∨ 4 ≤ x1.toNatClampNeg then none else
  some (some (46 + (1 + 32 * x1.toNatClampNeg)))))

def rX8_stateAt : Room := { frames := 0, cells := 0, slots := 0, locals := 0 }
set_option maxRecDepth 100000 in
set_option maxHeartbeats 4000000 in
theorem c_X8_stateAt (l : Launch) (G : Gx) (n0 : Nat) {x1 : Int32} {M : Mem} {r : Option Nat} (hf : fX8_stateAt x1 M = some r) : Ct l yX8_stateAt cX8_stateAt 2 (some (.object "OvenDays$Village")) rX8_stateAt G n0 [.ref (n0 + 45), .int x1] M (some (va_rf (r.map (fun q => n0 + q)))) M := by
  refine ct_ref (cc := cX8_stateAt) (maxL := 2) (Or.inl ⟨_, rfl⟩) rfl (Nat.le_of_ble_eq_true rfl) ?_
  intro K C hret
  have C : Ok K l rX8_stateAt cX8_stateAt RX8 G n0 2 := C
  show J K M 0 [(0, .ref (n0 + 45)), (1, .int x1)] []
  unfold fX8_stateAt at hf
  refine j_iload_n C 1 dX8_stateAt_0 rfl rfl ?_
  refine j_if_lt C 18 dX8_stateAt_1 (by decide) (fun c1 => ?_) (fun c1 => ?_)
  · replace hf := ip c1 hf
    refine j_null C dX8_stateAt_18 ?_
    obtain rfl := Option.some.inj hf
    exact hret _ _ dX8_stateAt_19
  · replace hf := ine c1 hf
    refine j_iload_n C 1 dX8_stateAt_4 rfl rfl ?_
    refine j_iconst C (4 : Int32) rfl dX8_stateAt_5 ?_
    refine j_icmp_ge C 18 dX8_stateAt_6 (by decide) (fun c2 => ?_) (fun c2 => ?_)
    · replace hf := ip c2 hf
      refine j_null C dX8_stateAt_18 ?_
      obtain rfl := Option.some.inj hf
      exact hret _ _ dX8_stateAt_19
    · replace hf := ine c2 hf
      refine j_aload_n C 0 dX8_stateAt_9 rfl rfl ?_
      refine g_X8_states C tw1_186 lc45 46 rfl dX8_stateAt_10 ?_
      refine j_iload_n C 1 dX8_stateAt_13 rfl rfl ?_
      obtain ⟨hx3, hf⟩ := gd hf
      refine j_aldV C lc46 hx3 dX8_stateAt_14 ?_
      refine j_goto C 19 dX8_stateAt_15 (by decide) ?_
      obtain rfl := Option.some.inj hf
      exact hret _ _ dX8_stateAt_19
def fX9_copyFrom (t : Nat) (o1 : Nat) (M : Mem) : Option Mem :=
  (fX4_copyFrom (t + 1) (o1 + 1) M).bind fun M2 =>
  (fX1_copyFrom (t + 8) (o1 + 8) M2).bind fun M4 =>
  (fX5_copyFrom (t + 14) (o1 + 14) M4).bind fun M6 =>
  (fX6_copyFrom (t + 22) (o1 + 22) M6).bind fun M8 =>
  (pf M8 t 4 (M8.1 o1 4)).bind fun M9 =>
  (pf M9 t 5 (M9.1 o1 5)).bind fun M11 =>
  (pf M11 t 6 (M11.1 o1 6)).bind fun M13 =>
  (pf M13 t 7 (M13.1 o1 7)).bind fun M15 =>
  some M15

def rX9_copyFrom : Room := { frames := 3, cells := 0, slots := 0, locals := 84 }
set_option maxRecDepth 100000 in
set_option maxHeartbeats 4000000 in
theorem c_X9_copyFrom (l : Launch) (G : Gx) (n0 : Nat) {t : Nat} {o1 : Nat} (hk : lay[t]? = some (tK 9)) (hk1 : lay[o1]? = some (tK 9)) {M : Mem} {M' : Mem} (hf : fX9_copyFrom t o1 M = some M') : Ct l yX9_copyFrom cX9_copyFrom 2 none rX9_copyFrom G n0 [.ref (n0 + t), .ref (n0 + o1)] M none M' := by
  refine ct_void (cc := cX9_copyFrom) (maxL := 2) rfl (Nat.le_of_ble_eq_true rfl) ?_
  intro K C hret
  have C : Ok K l rX9_copyFrom cX9_copyFrom RX9 G n0 2 := C
  show J K M 0 [(0, .ref (n0 + t)), (1, .ref (n0 + o1))] []
  unfold fX9_copyFrom at hf
  refine j_aload_n C 0 dX9_copyFrom_0 rfl rfl ?_
  refine g_X9_households C tw1_114 hk (t + 1) rfl dX9_copyFrom_1 ?_
  refine j_aload_n C 1 dX9_copyFrom_4 rfl rfl ?_
  refine g_X9_households C tw1_114 hk1 (o1 + 1) rfl dX9_copyFrom_5 ?_
  obtain ⟨M2, e1, hf⟩ := bd hf
  refine j_callV C 1 (k9_1 hk) (ent_K _ _ _ _ _ _) rfl (c_X4_copyFrom l G n0 (k9_1 hk) (k9_1 hk1) e1) gv_RX9_46 ⟨rfl, rfl⟩ (by decide +kernel) ⟨Nat.le_of_ble_eq_true rfl, Nat.le_of_ble_eq_true rfl⟩ rfl rfl (Nat.le_of_ble_eq_true rfl) dX9_copyFrom_8 ?_
  refine j_aload_n C 0 dX9_copyFrom_11 rfl rfl ?_
  refine g_X9_batches C tw1_116 hk (t + 8) rfl dX9_copyFrom_12 ?_
  refine j_aload_n C 1 dX9_copyFrom_15 rfl rfl ?_
  refine g_X9_batches C tw1_116 hk1 (o1 + 8) rfl dX9_copyFrom_16 ?_
  obtain ⟨M4, e3, hf⟩ := bd hf
  refine j_callV C 1 (k9_8 hk) (ent_K _ _ _ _ _ _) rfl (c_X1_copyFrom l G n0 (k9_8 hk) (k9_8 hk1) e3) gv_RX9_50 ⟨rfl, rfl⟩ (by decide +kernel) ⟨Nat.le_of_ble_eq_true rfl, Nat.le_of_ble_eq_true rfl⟩ rfl rfl (Nat.le_of_ble_eq_true rfl) dX9_copyFrom_19 ?_
  refine j_aload_n C 0 dX9_copyFrom_22 rfl rfl ?_
  refine g_X9_loads C tw1_118 hk (t + 14) rfl dX9_copyFrom_23 ?_
  refine j_aload_n C 1 dX9_copyFrom_26 rfl rfl ?_
  refine g_X9_loads C tw1_118 hk1 (o1 + 14) rfl dX9_copyFrom_27 ?_
  obtain ⟨M6, e5, hf⟩ := bd hf
  refine j_callV C 1 (k9_14 hk) (ent_K _ _ _ _ _ _) rfl (c_X5_copyFrom l G n0 (k9_14 hk) (k9_14 hk1) e5) gv_RX9_53 ⟨rfl, rfl⟩ (by decide +kernel) ⟨Nat.le_of_ble_eq_true rfl, Nat.le_of_ble_eq_true rfl⟩ rfl rfl (Nat.le_of_ble_eq_true rfl) dX9_copyFrom_30 ?_
  refine j_aload_n C 0 dX9_copyFrom_33 rfl rfl ?_
  refine g_X9_loaves C tw1_120 hk (t + 22) rfl dX9_copyFrom_34 ?_
  refine j_aload_n C 1 dX9_copyFrom_37 rfl rfl ?_
  refine g_X9_loaves C tw1_120 hk1 (o1 + 22) rfl dX9_copyFrom_38 ?_
  obtain ⟨M8, e7, hf⟩ := bd hf
  refine j_callV C 1 (k9_22 hk) (ent_K _ _ _ _ _ _) rfl (c_X6_copyFrom l G n0 (k9_22 hk) (k9_22 hk1) e7) gv_RX9_56 ⟨rfl, rfl⟩ (by decide +kernel) ⟨Nat.le_of_ble_eq_true rfl, Nat.le_of_ble_eq_true rfl⟩ rfl rfl (Nat.le_of_ble_eq_true rfl) dX9_copyFrom_41 ?_
  refine j_aload_n C 0 dX9_copyFrom_44 rfl rfl ?_
  refine j_aload_n C 1 dX9_copyFrom_45 rfl rfl ?_
  refine g_X9_heat C tw1_122 hk1 dX9_copyFrom_46 ?_
  obtain ⟨M9, e10, hf⟩ := bd hf
  refine p_X9_heat C tw1_122 hk e10 dX9_copyFrom_49 ?_
  refine j_aload_n C 0 dX9_copyFrom_52 rfl rfl ?_
  refine j_aload_n C 1 dX9_copyFrom_53 rfl rfl ?_
  refine g_X9_s C tw1_124 hk1 dX9_copyFrom_54 ?_
  obtain ⟨M11, e12, hf⟩ := bd hf
  refine p_X9_s C tw1_124 hk e12 dX9_copyFrom_57 ?_
  refine j_aload_n C 0 dX9_copyFrom_60 rfl rfl ?_
  refine j_aload_n C 1 dX9_copyFrom_61 rfl rfl ?_
  refine g_X9_days C tw1_126 hk1 dX9_copyFrom_62 ?_
  obtain ⟨M13, e14, hf⟩ := bd hf
  refine p_X9_days C tw1_126 hk e14 dX9_copyFrom_65 ?_
  refine j_aload_n C 0 dX9_copyFrom_68 rfl rfl ?_
  refine j_aload_n C 1 dX9_copyFrom_69 rfl rfl ?_
  refine g_X9_dough C tw1_128 hk1 dX9_copyFrom_70 ?_
  obtain ⟨M15, e16, hf⟩ := bd hf
  refine p_X9_dough C tw1_128 hk e16 dX9_copyFrom_73 ?_
  obtain rfl := Option.some.inj hf
  exact hret _ _ dX9_copyFrom_76
def fX8_push (o1 : Nat) (M : Mem) : Option Mem :=
  (if (4 : Int32) ≤ ((M.1 45 1) + (1 : Int32)) then (some (0 : Int32))
  else (some ((M.1 45 1) + (1 : Int32)))).bind (fun z2 => (pf M 45 1 z2).bind fun M3 =>
  (fX8_stateAt (M3.1 45 1) M3).bind fun w6 =>
  oc w6 (some M3)
  (fun w7 => if ¬ lay[w7]? = some (tK 9) then none else
  (fX9_copyFrom w7 o1 M3).bind fun M11 =>
  (pf M11 45 2 (if ((M11.1 45 2) + (1 : Int32)) < (4 : Int32) then ((M11.1 45 2) + (1 : Int32)) else (4 : Int32))).bind fun M12 =>
  some M12))

def rX8_push : Room := { frames := 4, cells := 0, slots := 0, locals := 105 }
set_option maxRecDepth 100000 in
set_option maxHeartbeats 4000000 in
theorem c_X8_push (l : Launch) (G : Gx) (n0 : Nat) {o1 : Nat} (hk1 : lay[o1]? = some (tK 9)) {M : Mem} {M' : Mem} (hf : fX8_push o1 M = some M') : Ct l yX8_push cX8_push 3 none rX8_push G n0 [.ref (n0 + 45), .ref (n0 + o1)] M none M' := by
  refine ct_void (cc := cX8_push) (maxL := 3) rfl (Nat.le_of_ble_eq_true rfl) ?_
  intro K C hret
  have C : Ok K l rX8_push cX8_push RX8 G n0 3 := C
  show J K M 0 [(0, .ref (n0 + 45)), (1, .ref (n0 + o1))] []
  unfold fX8_push at hf
  refine j_aload_n C 0 dX8_push_0 rfl rfl ?_
  refine j_aload_n C 0 dX8_push_1 rfl rfl ?_
  refine g_X8_latest C tw1_187 lc45 dX8_push_2 ?_
  refine j_iconst C (1 : Int32) rfl dX8_push_5 ?_
  refine j_iadd C dX8_push_6 ?_
  refine j_iconst C (4 : Int32) rfl dX8_push_7 ?_
  obtain ⟨z2, e14, hf⟩ := bd hf
  have hj15 : J K M 21 [(0, .ref (n0 + 45)), (1, .ref (n0 + o1))] [.int z2, .ref (n0 + 45)] := by
    obtain ⟨M3, e4, hf⟩ := bd hf
    refine p_X8_latest C tw1_187 lc45 e4 dX8_push_21 ?_
    refine j_aload_n C 0 dX8_push_24 rfl rfl ?_
    refine j_aload_n C 0 dX8_push_25 rfl rfl ?_
    refine g_X8_latest C tw1_187 lc45 dX8_push_26 ?_
    obtain ⟨w6, e5, hf⟩ := bd hf
    refine j_callV C 1 lc45 (ent_K _ _ _ _ _ _) rfl (c_X8_stateAt l G n0 e5) gv_RX8_23 ⟨rfl, rfl⟩ (by decide +kernel) ⟨Nat.le_of_ble_eq_true rfl, Nat.le_of_ble_eq_true rfl⟩ rfl rfl (Nat.le_of_ble_eq_true rfl) dX8_push_29 ?_
    rcases ocd hf with ⟨ho8, hf⟩ | ⟨w7, ho8, hf⟩
    · rw [ho8]
      refine j_astoreN_n C [(2, .null), (0, .ref (n0 + 45)), (1, .ref (n0 + o1))] dX8_push_32 rfl (Nat.le_of_ble_eq_true rfl) rfl ?_
      refine j_aloadN_n C 0 dX8_push_33 rfl rfl ?_
      refine j_ifnullT C 56 dX8_push_34 (by decide) ?_
      obtain rfl := Option.some.inj hf
      exact hret _ _ dX8_push_56
    · rw [ho8]
      obtain ⟨hq9, hf⟩ := gd hf
      refine j_astore_n C [(2, .ref (n0 + w7)), (0, .ref (n0 + 45)), (1, .ref (n0 + o1))] dX8_push_32 rfl (Nat.le_of_ble_eq_true rfl) rfl ?_
      refine j_aload_n C 0 dX8_push_33 rfl rfl ?_
      refine j_ifnullF C dX8_push_34 ?_
      refine j_aload_n C 0 dX8_push_37 rfl rfl ?_
      refine j_aload_n C 2 dX8_push_38 rfl rfl ?_
      obtain ⟨M11, e10, hf⟩ := bd hf
      refine j_callV C 1 (Decidable.not_not.mp hq9) (ent_K _ _ _ _ _ _) rfl (c_X9_copyFrom l G n0 (Decidable.not_not.mp hq9) hk1 e10) gv_RX8_27 ⟨rfl, rfl⟩ (by decide +kernel) ⟨Nat.le_of_ble_eq_true rfl, Nat.le_of_ble_eq_true rfl⟩ rfl rfl (Nat.le_of_ble_eq_true rfl) dX8_push_39 ?_
      refine j_aload_n C 1 dX8_push_42 rfl rfl ?_
      refine j_iconst C (4 : Int32) rfl dX8_push_43 ?_
      refine j_aload_n C 1 dX8_push_44 rfl rfl ?_
      refine g_X8_count C tw1_188 lc45 dX8_push_45 ?_
      refine j_iconst C (1 : Int32) rfl dX8_push_48 ?_
      refine j_iadd C dX8_push_49 ?_
      refine j_mmin C tw3_128 tw2_149 tw1_5 tw2_150 ⟨Nat.le_of_ble_eq_true rfl, Nat.le_of_ble_eq_true rfl⟩ dX8_push_50 ?_
      obtain ⟨M12, e13, hf⟩ := bd hf
      refine p_X8_count C tw1_188 lc45 e13 dX8_push_53 ?_
      obtain rfl := Option.some.inj hf
      exact hret _ _ dX8_push_56
  clear hf
  have hf := e14
  refine j_icmp_ge C 20 dX8_push_8 (by decide) (fun c1 => ?_) (fun c1 => ?_)
  · replace hf := ip c1 hf
    refine j_iconst C (0 : Int32) rfl dX8_push_20 ?_
    cases hf
    refine j_sub [0, 1] rfl ?_
    exact hj15
  · replace hf := ine c1 hf
    refine j_aload_n C 0 dX8_push_11 rfl rfl ?_
    refine g_X8_latest C tw1_187 lc45 dX8_push_12 ?_
    refine j_iconst C (1 : Int32) rfl dX8_push_15 ?_
    refine j_iadd C dX8_push_16 ?_
    refine j_goto C 21 dX8_push_17 (by decide) ?_
    cases hf
    refine j_sub [0, 1] rfl ?_
    exact hj15
def fX9_whyNoOtherMark (t : Nat) (x1 : Int32) (x2 : Int32) (M : Mem) : Option Int32 :=
  (fX4_has (t + 1) x1 M).bind fun b2 =>
  if b2 = true then ((fX11_whyNotWithin x2 (1 : Int32) (65535 : Int32)).bind fun v5 =>
  if v5 = 0 then ((fX4_withMark (t + 1) x2 M).bind fun v8 =>
  if v8 = (-1 : Int32) then (some (0 : Int32))
  else (if v8 = x1 then (some (0 : Int32))
  else (some (3 : Int32))))
  else (some (2 : Int32)))
  else (some (1 : Int32))

def rX9_whyNoOtherMark : Room := { frames := 2, cells := 0, slots := 0, locals := 44 }
set_option maxRecDepth 100000 in
set_option maxHeartbeats 4000000 in
theorem c_X9_whyNoOtherMark (l : Launch) (G : Gx) (n0 : Nat) {t : Nat} {x1 : Int32} {x2 : Int32} (hk : lay[t]? = some (tK 9)) {M : Mem} {r : Int32} (hf : fX9_whyNoOtherMark t x1 x2 M = some r) : Ct l yX9_whyNoOtherMark cX9_whyNoOtherMark 4 (some .int) rX9_whyNoOtherMark G n0 [.ref (n0 + t), .int x1, .int x2] M (some (.int r)) M := by
  refine ct_int (cc := cX9_whyNoOtherMark) (maxL := 4) rfl (Nat.le_of_ble_eq_true rfl) ?_
  intro K C hret
  have C : Ok K l rX9_whyNoOtherMark cX9_whyNoOtherMark RX9 G n0 4 := C
  show J K M 0 [(0, .ref (n0 + t)), (1, .int x1), (2, .int x2)] []
  unfold fX9_whyNoOtherMark at hf
  refine j_aload_n C 0 dX9_whyNoOtherMark_0 rfl rfl ?_
  refine g_X9_households C tw1_114 hk (t + 1) rfl dX9_whyNoOtherMark_1 ?_
  refine j_iload_n C 1 dX9_whyNoOtherMark_4 rfl rfl ?_
  obtain ⟨b2, e1, hf⟩ := bd hf
  refine j_callV C 1 (k9_1 hk) (ent_K _ _ _ _ _ _) rfl (c_X4_has l G n0 (k9_1 hk) e1) gv_RX9_65 ⟨rfl, rfl⟩ (by decide +kernel) ⟨Nat.le_of_ble_eq_true rfl, Nat.le_of_ble_eq_true rfl⟩ rfl rfl (Nat.le_of_ble_eq_true rfl) dX9_whyNoOtherMark_5 ?_
  refine j_ifz_ne C 13 dX9_whyNoOtherMark_8 (by decide) (fun c3 => ?_) (fun c3 => ?_)
  · replace hf := ip c3 hf
    refine j_iload_n C 2 dX9_whyNoOtherMark_13 rfl rfl ?_
    refine j_iconst C (1 : Int32) rfl dX9_whyNoOtherMark_14 ?_
    refine j_ldc C tw3_114 dX9_whyNoOtherMark_15 ?_
    obtain ⟨v5, e4, hf⟩ := bd hf
    refine j_callSN C 3 (c_X11_whyNotWithin l G n0 (M := M) e4) nxm_RX9_70 tw1_1 tw2_16 tw2_17 ⟨rfl, rfl⟩ (by decide +kernel) ⟨Nat.le_of_ble_eq_true rfl, Nat.le_of_ble_eq_true rfl⟩ rfl rfl (Nat.le_of_ble_eq_true rfl) dX9_whyNoOtherMark_17 ?_
    refine j_if_eq C 25 dX9_whyNoOtherMark_20 (by decide) (fun c6 => ?_) (fun c6 => ?_)
    · replace hf := ip c6 hf
      refine j_aload_n C 0 dX9_whyNoOtherMark_25 rfl rfl ?_
      refine g_X9_households C tw1_114 hk (t + 1) rfl dX9_whyNoOtherMark_26 ?_
      refine j_iload_n C 2 dX9_whyNoOtherMark_29 rfl rfl ?_
      obtain ⟨v8, e7, hf⟩ := bd hf
      refine j_callV C 1 (k9_1 hk) (ent_K _ _ _ _ _ _) rfl (c_X4_withMark l G n0 (k9_1 hk) e7) gv_RX9_78 ⟨rfl, rfl⟩ (by decide +kernel) ⟨Nat.le_of_ble_eq_true rfl, Nat.le_of_ble_eq_true rfl⟩ rfl rfl (Nat.le_of_ble_eq_true rfl) dX9_whyNoOtherMark_30 ?_
      refine j_istore_n C [(3, .int v8), (0, .ref (n0 + t)), (1, .int x1), (2, .int x2)] dX9_whyNoOtherMark_33 rfl (Nat.le_of_ble_eq_true rfl) rfl ?_
      refine j_iload_n C 0 dX9_whyNoOtherMark_34 rfl rfl ?_
      refine j_iconst C (-1 : Int32) rfl dX9_whyNoOtherMark_35 ?_
      refine j_icmp_eq C 48 dX9_whyNoOtherMark_36 (by decide) (fun c9 => ?_) (fun c9 => ?_)
      · replace hf := ip c9 hf
        refine j_iconst C (0 : Int32) rfl dX9_whyNoOtherMark_48 ?_
        obtain rfl := Option.some.inj hf
        exact hret _ _ dX9_whyNoOtherMark_49
      · replace hf := ine c9 hf
        refine j_iload_n C 0 dX9_whyNoOtherMark_39 rfl rfl ?_
        refine j_iload_n C 2 dX9_whyNoOtherMark_40 rfl rfl ?_
        refine j_icmp_eq C 48 dX9_whyNoOtherMark_41 (by decide) (fun c10 => ?_) (fun c10 => ?_)
        · replace hf := ip c10 hf
          refine j_iconst C (0 : Int32) rfl dX9_whyNoOtherMark_48 ?_
          obtain rfl := Option.some.inj hf
          exact hret _ _ dX9_whyNoOtherMark_49
        · replace hf := ine c10 hf
          refine j_iconst C (3 : Int32) rfl dX9_whyNoOtherMark_44 ?_
          refine j_goto C 49 dX9_whyNoOtherMark_45 (by decide) ?_
          obtain rfl := Option.some.inj hf
          exact hret _ _ dX9_whyNoOtherMark_49
    · replace hf := ine c6 hf
      refine j_iconst C (2 : Int32) rfl dX9_whyNoOtherMark_23 ?_
      obtain rfl := Option.some.inj hf
      exact hret _ _ dX9_whyNoOtherMark_24
  · replace hf := ine c3 hf
    refine j_iconst C (1 : Int32) rfl dX9_whyNoOtherMark_11 ?_
    obtain rfl := Option.some.inj hf
    exact hret _ _ dX9_whyNoOtherMark_12
def fX9_whyNoHousehold (t : Nat) (x1 : Int32) (M : Mem) : Option Int32 :=
  (fX4_has (t + 1) x1 M).bind fun b2 =>
  if b2 = true then (some (0 : Int32))
  else (some (1 : Int32))

def rX9_whyNoHousehold : Room := { frames := 1, cells := 0, slots := 0, locals := 21 }
set_option maxRecDepth 100000 in
set_option maxHeartbeats 4000000 in
theorem c_X9_whyNoHousehold (l : Launch) (G : Gx) (n0 : Nat) {t : Nat} {x1 : Int32} (hk : lay[t]? = some (tK 9)) {M : Mem} {r : Int32} (hf : fX9_whyNoHousehold t x1 M = some r) : Ct l yX9_whyNoHousehold cX9_whyNoHousehold 2 (some .int) rX9_whyNoHousehold G n0 [.ref (n0 + t), .int x1] M (some (.int r)) M := by
  refine ct_int (cc := cX9_whyNoHousehold) (maxL := 2) rfl (Nat.le_of_ble_eq_true rfl) ?_
  intro K C hret
  have C : Ok K l rX9_whyNoHousehold cX9_whyNoHousehold RX9 G n0 2 := C
  show J K M 0 [(0, .ref (n0 + t)), (1, .int x1)] []
  unfold fX9_whyNoHousehold at hf
  refine j_aload_n C 0 dX9_whyNoHousehold_0 rfl rfl ?_
  refine g_X9_households C tw1_114 hk (t + 1) rfl dX9_whyNoHousehold_1 ?_
  refine j_iload_n C 1 dX9_whyNoHousehold_4 rfl rfl ?_
  obtain ⟨b2, e1, hf⟩ := bd hf
  refine j_callV C 1 (k9_1 hk) (ent_K _ _ _ _ _ _) rfl (c_X4_has l G n0 (k9_1 hk) e1) gv_RX9_65 ⟨rfl, rfl⟩ (by decide +kernel) ⟨Nat.le_of_ble_eq_true rfl, Nat.le_of_ble_eq_true rfl⟩ rfl rfl (Nat.le_of_ble_eq_true rfl) dX9_whyNoHousehold_5 ?_
  refine j_ifz_eq C 15 dX9_whyNoHousehold_8 (by decide) (fun c3 => ?_) (fun c3 => ?_)
  · replace hf := ine c3 hf
    refine j_iconst C (1 : Int32) rfl dX9_whyNoHousehold_15 ?_
    obtain rfl := Option.some.inj hf
    exact hret _ _ dX9_whyNoHousehold_16
  · replace hf := ip c3 hf
    refine j_iconst C (0 : Int32) rfl dX9_whyNoHousehold_11 ?_
    refine j_goto C 16 dX9_whyNoHousehold_12 (by decide) ?_
    obtain rfl := Option.some.inj hf
    exact hret _ _ dX9_whyNoHousehold_16
def fX11_whyNotBelow (x0 : Int32) (x1 : Int32) : Option Int32 :=
  (fX11_whyNotWithin x0 (0 : Int32) (x1 - (1 : Int32))).bind fun v2 =>
  some v2

def rX11_whyNotBelow : Room := { frames := 1, cells := 0, slots := 0, locals := 22 }
set_option maxRecDepth 100000 in
set_option maxHeartbeats 4000000 in
theorem c_X11_whyNotBelow (l : Launch) (G : Gx) (n0 : Nat) {x0 : Int32} {x1 : Int32} {M : Mem} {r : Int32} (hf : fX11_whyNotBelow x0 x1 = some r) : Ct l yX11_whyNotBelow cX11_whyNotBelow 2 (some .int) rX11_whyNotBelow G n0 [.int x0, .int x1] M (some (.int r)) M := by
  refine ct_int (cc := cX11_whyNotBelow) (maxL := 2) rfl (Nat.le_of_ble_eq_true rfl) ?_
  intro K C hret
  have C : Ok K l rX11_whyNotBelow cX11_whyNotBelow RX11 G n0 2 := C
  show J K M 0 [(0, .int x0), (1, .int x1)] []
  unfold fX11_whyNotBelow at hf
  refine j_iload_n C 0 dX11_whyNotBelow_0 rfl rfl ?_
  refine j_iconst C (0 : Int32) rfl dX11_whyNotBelow_1 ?_
  refine j_iload_n C 1 dX11_whyNotBelow_2 rfl rfl ?_
  refine j_iconst C (1 : Int32) rfl dX11_whyNotBelow_3 ?_
  refine j_isub C dX11_whyNotBelow_4 ?_
  obtain ⟨v2, e1, hf⟩ := bd hf
  refine j_callS C 3 (c_X11_whyNotWithin l G n0 (M := M) e1) gs_RX11_197 ⟨rfl, rfl⟩ (by decide +kernel) ⟨Nat.le_of_ble_eq_true rfl, Nat.le_of_ble_eq_true rfl⟩ rfl rfl (Nat.le_of_ble_eq_true rfl) dX11_whyNotBelow_5 ?_
  obtain rfl := Option.some.inj hf
  exact hret _ _ dX11_whyNotBelow_8
def fX9_whyNoBatch (t : Nat) (x1 : Int32) (x2 : Int32) (x3 : Int32) (M : Mem) : Option Int32 :=
  (fX4_has (t + 1) x1 M).bind fun b2 =>
  if b2 = true then ((fX11_whyNotBelow x2 (3 : Int32)).bind fun v5 =>
  if v5 = 0 then ((fX11_whyNotWithin x3 (1 : Int32) (12 : Int32)).bind fun v8 =>
  if v8 = 0 then ((fX1_isFull (t + 8) M).bind fun b11 =>
  if b11 = true then (some (3 : Int32))
  else (some (0 : Int32)))
  else (some (2 : Int32)))
  else (some (2 : Int32)))
  else (some (1 : Int32))

def rX9_whyNoBatch : Room := { frames := 2, cells := 0, slots := 0, locals := 43 }
set_option maxRecDepth 100000 in
set_option maxHeartbeats 4000000 in
theorem c_X9_whyNoBatch (l : Launch) (G : Gx) (n0 : Nat) {t : Nat} {x1 : Int32} {x2 : Int32} {x3 : Int32} (hk : lay[t]? = some (tK 9)) {M : Mem} {r : Int32} (hf : fX9_whyNoBatch t x1 x2 x3 M = some r) : Ct l yX9_whyNoBatch cX9_whyNoBatch 4 (some .int) rX9_whyNoBatch G n0 [.ref (n0 + t), .int x1, .int x2, .int x3] M (some (.int r)) M := by
  refine ct_int (cc := cX9_whyNoBatch) (maxL := 4) rfl (Nat.le_of_ble_eq_true rfl) ?_
  intro K C hret
  have C : Ok K l rX9_whyNoBatch cX9_whyNoBatch RX9 G n0 4 := C
  show J K M 0 [(0, .ref (n0 + t)), (1, .int x1), (2, .int x2), (3, .int x3)] []
  unfold fX9_whyNoBatch at hf
  refine j_aload_n C 0 dX9_whyNoBatch_0 rfl rfl ?_
  refine g_X9_households C tw1_114 hk (t + 1) rfl dX9_whyNoBatch_1 ?_
  refine j_iload_n C 1 dX9_whyNoBatch_4 rfl rfl ?_
  obtain ⟨b2, e1, hf⟩ := bd hf
  refine j_callV C 1 (k9_1 hk) (ent_K _ _ _ _ _ _) rfl (c_X4_has l G n0 (k9_1 hk) e1) gv_RX9_65 ⟨rfl, rfl⟩ (by decide +kernel) ⟨Nat.le_of_ble_eq_true rfl, Nat.le_of_ble_eq_true rfl⟩ rfl rfl (Nat.le_of_ble_eq_true rfl) dX9_whyNoBatch_5 ?_
  refine j_ifz_ne C 13 dX9_whyNoBatch_8 (by decide) (fun c3 => ?_) (fun c3 => ?_)
  · replace hf := ip c3 hf
    refine j_iload_n C 2 dX9_whyNoBatch_13 rfl rfl ?_
    refine j_iconst C (3 : Int32) rfl dX9_whyNoBatch_14 ?_
    obtain ⟨v5, e4, hf⟩ := bd hf
    refine j_callSN C 2 (c_X11_whyNotBelow l G n0 (M := M) e4) nxm_RX9_82 tw1_1 tw2_13 tw2_14 ⟨rfl, rfl⟩ (by decide +kernel) ⟨Nat.le_of_ble_eq_true rfl, Nat.le_of_ble_eq_true rfl⟩ rfl rfl (Nat.le_of_ble_eq_true rfl) dX9_whyNoBatch_15 ?_
    refine j_if_ne C 31 dX9_whyNoBatch_18 (by decide) (fun c6 => ?_) (fun c6 => ?_)
    · replace hf := ine c6 hf
      refine j_iconst C (2 : Int32) rfl dX9_whyNoBatch_31 ?_
      obtain rfl := Option.some.inj hf
      exact hret _ _ dX9_whyNoBatch_32
    · replace hf := ip c6 hf
      refine j_iload_n C 3 dX9_whyNoBatch_21 rfl rfl ?_
      refine j_iconst C (1 : Int32) rfl dX9_whyNoBatch_22 ?_
      refine j_bipush C (12 : Int32) rfl dX9_whyNoBatch_23 ?_
      obtain ⟨v8, e7, hf⟩ := bd hf
      refine j_callSN C 3 (c_X11_whyNotWithin l G n0 (M := M) e7) nxm_RX9_70 tw1_1 tw2_16 tw2_17 ⟨rfl, rfl⟩ (by decide +kernel) ⟨Nat.le_of_ble_eq_true rfl, Nat.le_of_ble_eq_true rfl⟩ rfl rfl (Nat.le_of_ble_eq_true rfl) dX9_whyNoBatch_25 ?_
      refine j_if_eq C 33 dX9_whyNoBatch_28 (by decide) (fun c9 => ?_) (fun c9 => ?_)
      · replace hf := ip c9 hf
        refine j_aload_n C 0 dX9_whyNoBatch_33 rfl rfl ?_
        refine g_X9_batches C tw1_116 hk (t + 8) rfl dX9_whyNoBatch_34 ?_
        obtain ⟨b11, e10, hf⟩ := bd hf
        refine j_callV C 0 (k9_8 hk) (ent_K _ _ _ _ _ _) rfl (c_X1_isFull l G n0 (k9_8 hk) e10) gv_RX9_86 ⟨rfl, rfl⟩ (by decide +kernel) ⟨Nat.le_of_ble_eq_true rfl, Nat.le_of_ble_eq_true rfl⟩ rfl rfl (Nat.le_of_ble_eq_true rfl) dX9_whyNoBatch_37 ?_
        refine j_ifz_eq C 47 dX9_whyNoBatch_40 (by decide) (fun c12 => ?_) (fun c12 => ?_)
        · replace hf := ine c12 hf
          refine j_iconst C (0 : Int32) rfl dX9_whyNoBatch_47 ?_
          obtain rfl := Option.some.inj hf
          exact hret _ _ dX9_whyNoBatch_48
        · replace hf := ip c12 hf
          refine j_iconst C (3 : Int32) rfl dX9_whyNoBatch_43 ?_
          refine j_goto C 48 dX9_whyNoBatch_44 (by decide) ?_
          obtain rfl := Option.some.inj hf
          exact hret _ _ dX9_whyNoBatch_48
      · replace hf := ine c9 hf
        refine j_iconst C (2 : Int32) rfl dX9_whyNoBatch_31 ?_
        obtain rfl := Option.some.inj hf
        exact hret _ _ dX9_whyNoBatch_32
  · replace hf := ine c3 hf
    refine j_iconst C (1 : Int32) rfl dX9_whyNoBatch_11 ?_
    obtain rfl := Option.some.inj hf
    exact hret _ _ dX9_whyNoBatch_12
def fX9_changeS (t : Nat) (x1 : Int32) (M : Mem) : Option (Int32 × Mem) :=
  (pf M t 5 x1).bind fun M1 =>
  some ((M.1 t 5), M1)

def rX9_changeS : Room := { frames := 0, cells := 0, slots := 0, locals := 0 }
set_option maxRecDepth 100000 in
set_option maxHeartbeats 4000000 in
theorem c_X9_changeS (l : Launch) (G : Gx) (n0 : Nat) {t : Nat} {x1 : Int32} (hk : lay[t]? = some (tK 9)) {M : Mem} {r : Int32} {M' : Mem} (hf : fX9_changeS t x1 M = some (r, M')) : Ct l yX9_changeS cX9_changeS 3 (some .int) rX9_changeS G n0 [.ref (n0 + t), .int x1] M (some (.int r)) M' := by
  refine ct_int (cc := cX9_changeS) (maxL := 3) rfl (Nat.le_of_ble_eq_true rfl) ?_
  intro K C hret
  have C : Ok K l rX9_changeS cX9_changeS RX9 G n0 3 := C
  show J K M 0 [(0, .ref (n0 + t)), (1, .int x1)] []
  unfold fX9_changeS at hf
  refine j_aload_n C 0 dX9_changeS_0 rfl rfl ?_
  refine g_X9_s C tw1_124 hk dX9_changeS_1 ?_
  refine j_istore_n C [(2, .int (M.1 t 5)), (0, .ref (n0 + t)), (1, .int x1)] dX9_changeS_4 rfl (Nat.le_of_ble_eq_true rfl) rfl ?_
  refine j_aload_n C 1 dX9_changeS_5 rfl rfl ?_
  refine j_iload_n C 2 dX9_changeS_6 rfl rfl ?_
  obtain ⟨M1, e2, hf⟩ := bd hf
  refine p_X9_s C tw1_124 hk e2 dX9_changeS_7 ?_
  refine j_iload_n C 0 dX9_changeS_10 rfl rfl ?_
  obtain ⟨rfl, rfl⟩ := Prod.mk.inj (Option.some.inj hf)
  exact hret _ _ dX9_changeS_11
def fX9_whyNoDay (t : Nat) (x1 : Int32) (M : Mem) : Option Int32 :=
  (fX11_whyNotWithin x1 (1 : Int32) (40 : Int32)).bind fun v2 =>
  if v2 = 0 then ((fX1_size (t + 8) M).bind fun v5 =>
  if v5 = 0 then (some (3 : Int32))
  else (some (0 : Int32)))
  else (some (2 : Int32))

def rX9_whyNoDay : Room := { frames := 1, cells := 0, slots := 0, locals := 22 }
set_option maxRecDepth 100000 in
set_option maxHeartbeats 4000000 in
theorem c_X9_whyNoDay (l : Launch) (G : Gx) (n0 : Nat) {t : Nat} {x1 : Int32} (hk : lay[t]? = some (tK 9)) {M : Mem} {r : Int32} (hf : fX9_whyNoDay t x1 M = some r) : Ct l yX9_whyNoDay cX9_whyNoDay 2 (some .int) rX9_whyNoDay G n0 [.ref (n0 + t), .int x1] M (some (.int r)) M := by
  refine ct_int (cc := cX9_whyNoDay) (maxL := 2) rfl (Nat.le_of_ble_eq_true rfl) ?_
  intro K C hret
  have C : Ok K l rX9_whyNoDay cX9_whyNoDay RX9 G n0 2 := C
  show J K M 0 [(0, .ref (n0 + t)), (1, .int x1)] []
  unfold fX9_whyNoDay at hf
  refine j_iload_n C 1 dX9_whyNoDay_0 rfl rfl ?_
  refine j_iconst C (1 : Int32) rfl dX9_whyNoDay_1 ?_
  refine j_bipush C (40 : Int32) rfl dX9_whyNoDay_2 ?_
  obtain ⟨v2, e1, hf⟩ := bd hf
  refine j_callSN C 3 (c_X11_whyNotWithin l G n0 (M := M) e1) nxm_RX9_70 tw1_1 tw2_16 tw2_17 ⟨rfl, rfl⟩ (by decide +kernel) ⟨Nat.le_of_ble_eq_true rfl, Nat.le_of_ble_eq_true rfl⟩ rfl rfl (Nat.le_of_ble_eq_true rfl) dX9_whyNoDay_4 ?_
  refine j_if_eq C 12 dX9_whyNoDay_7 (by decide) (fun c3 => ?_) (fun c3 => ?_)
  · replace hf := ip c3 hf
    refine j_aload_n C 0 dX9_whyNoDay_12 rfl rfl ?_
    refine g_X9_batches C tw1_116 hk (t + 8) rfl dX9_whyNoDay_13 ?_
    obtain ⟨v5, e4, hf⟩ := bd hf
    refine j_callV C 0 (k9_8 hk) (ent_K _ _ _ _ _ _) rfl (c_X1_size l G n0 (k9_8 hk) e4) gv_RX9_87 ⟨rfl, rfl⟩ (by decide +kernel) ⟨Nat.le_of_ble_eq_true rfl, Nat.le_of_ble_eq_true rfl⟩ rfl rfl (Nat.le_of_ble_eq_true rfl) dX9_whyNoDay_16 ?_
    refine j_if_ne C 26 dX9_whyNoDay_19 (by decide) (fun c6 => ?_) (fun c6 => ?_)
    · replace hf := ine c6 hf
      refine j_iconst C (0 : Int32) rfl dX9_whyNoDay_26 ?_
      obtain rfl := Option.some.inj hf
      exact hret _ _ dX9_whyNoDay_27
    · replace hf := ip c6 hf
      refine j_iconst C (3 : Int32) rfl dX9_whyNoDay_22 ?_
      refine j_goto C 27 dX9_whyNoDay_23 (by decide) ?_
      obtain rfl := Option.some.inj hf
      exact hret _ _ dX9_whyNoDay_27
  · replace hf := ine c3 hf
    refine j_iconst C (2 : Int32) rfl dX9_whyNoDay_10 ?_
    obtain rfl := Option.some.inj hf
    exact hret _ _ dX9_whyNoDay_11
def lX3_arrange_40 (o1 : Nat) (z7 : Int32) : Nat → Int32 → Mem → Option Mem
  | 0, _, _ => none
  | n + 1, a8, M9 =>
  (fX1_size o1 M9).bind fun v11 =>
  if v11 ≤ a8 then (some M9)
  else (if (20 : Int32) ≤ (M9.1 33 4) then (some M9)
  else ((fX1_value o1 a8 (0 : Int32) M9).bind fun v15 =>
  if v15 = z7 then ((ast M9 34 20 (M9.1 33 4) a8).bind fun M17 =>
  (pf M17 33 4 ((M17.1 33 4) + (1 : Int32))).bind fun M20 =>
  lX3_arrange_40 o1 z7 n (a8 + 1) M20)
  else (lX3_arrange_40 o1 z7 n (a8 + 1) M9)))

def lX3_arrange_8 (o1 : Nat) (x2 : Int32) (x3 : Int32) : Nat → Int32 → Mem → Option Mem
  | 0, _, _ => none
  | n + 1, a3, M4 =>
  if x2 ≤ a3 then (some M4)
  else ((if x2 ≤ (x3 + a3) then (some ((x3 + a3) - x2))
  else (some (x3 + a3))).bind (fun z7 => (lX3_arrange_40 o1 z7 FUEL (0 : Int32) M4).bind (fun M22 => lX3_arrange_8 o1 x2 x3 n (a3 + 1) M22)))

def fX3_arrange (o1 : Nat) (x2 : Int32) (x3 : Int32) (M : Mem) : Option Mem :=
  (pf M 33 4 (0 : Int32)).bind fun M1 =>
  (lX3_arrange_8 o1 x2 x3 FUEL (0 : Int32) M1).bind (fun M23 => some M23)

def rX3_arrange : Room := { frames := 2, cells := 0, slots := 0, locals := 44 }
set_option maxRecDepth 100000 in
set_option maxHeartbeats 4000000 in
theorem c_X3_arrange (l : Launch) (G : Gx) (n0 : Nat) {o1 : Nat} {x2 : Int32} {x3 : Int32} (hk1 : lay[o1]? = some (tK 1)) {M : Mem} {M' : Mem} (hf : fX3_arrange o1 x2 x3 M = some M') : Ct l yX3_arrange cX3_arrange 7 none rX3_arrange G n0 [.ref (n0 + 33), .ref (n0 + o1), .int x2, .int x3] M none M' := by
  refine ct_void (cc := cX3_arrange) (maxL := 7) rfl (Nat.le_of_ble_eq_true rfl) ?_
  intro K C hret
  have C : Ok K l rX3_arrange cX3_arrange RX3 G n0 7 := C
  show J K M 0 [(0, .ref (n0 + 33)), (1, .ref (n0 + o1)), (2, .int x2), (3, .int x3)] []
  unfold fX3_arrange at hf
  refine j_aload_n C 0 dX3_arrange_0 rfl rfl ?_
  refine j_iconst C (0 : Int32) rfl dX3_arrange_1 ?_
  obtain ⟨M1, e2, hf⟩ := bd hf
  refine p_X3_count C tw1_159 lc33 e2 dX3_arrange_2 ?_
  refine j_iconst C (0 : Int32) rfl dX3_arrange_5 ?_
  refine j_istore C [(4, .int (0 : Int32)), (0, .ref (n0 + 33)), (1, .ref (n0 + o1)), (2, .int x2), (3, .int x3)] dX3_arrange_6 (Nat.le_of_ble_eq_true rfl) rfl ?_
  obtain ⟨M23, e24, hf⟩ := bd hf
  have hx25 : J K M23 103 [] [] := by
    obtain rfl := Option.some.inj hf
    exact hret _ _ dX3_arrange_103
  clear hf
  have hl26 : ∀ (n : Nat) (a3 : Int32) (M4 : Mem), lX3_arrange_8 o1 x2 x3 n a3 M4 = some M23 → J K M4 8 [(0, .ref (n0 + 33)), (1, .ref (n0 + o1)), (2, .int x2), (3, .int x3), (4, .int a3)] [] := by
    intro n
    induction n with
    | zero =>
      intro a3 M4 hf
      exact absurd hf (by rw [lX3_arrange_8]; exact fun h => by cases h)
    | succ n ih =>
      intro a3 M4 hf
      rw [lX3_arrange_8] at hf
      refine j_iload C 4 dX3_arrange_8 rfl ?_
      refine j_iload_n C 2 dX3_arrange_10 rfl rfl ?_
      refine j_icmp_ge C 103 dX3_arrange_11 (by decide) (fun c5 => ?_) (fun c5 => ?_)
      · replace hf := ip c5 hf
        refine j_sub [] rfl ?_
        cases hf
        exact hx25
      · replace hf := ine c5 hf
        refine j_iload_n C 3 dX3_arrange_14 rfl rfl ?_
        refine j_iload C 4 dX3_arrange_15 rfl ?_
        refine j_iadd C dX3_arrange_17 ?_
        refine j_iload_n C 2 dX3_arrange_18 rfl rfl ?_
        obtain ⟨z7, e29, hf⟩ := bd hf
        have hj30 : J K M4 35 [(0, .ref (n0 + 33)), (1, .ref (n0 + o1)), (2, .int x2), (3, .int x3), (4, .int a3)] [.int z7] := by
          refine j_istore C [(5, .int z7), (0, .ref (n0 + 33)), (1, .ref (n0 + o1)), (2, .int x2), (3, .int x3), (4, .int a3)] dX3_arrange_35 (Nat.le_of_ble_eq_true rfl) rfl ?_
          refine j_iconst C (0 : Int32) rfl dX3_arrange_37 ?_
          refine j_istore C [(6, .int (0 : Int32)), (5, .int z7), (0, .ref (n0 + 33)), (1, .ref (n0 + o1)), (2, .int x2), (3, .int x3), (4, .int a3)] dX3_arrange_38 (Nat.le_of_ble_eq_true rfl) rfl ?_
          obtain ⟨M22, e31, hf⟩ := bd hf
          have hx32 : J K M22 97 [(0, .ref (n0 + 33)), (1, .ref (n0 + o1)), (2, .int x2), (3, .int x3), (4, .int a3)] [] := by
            refine j_iinc C 4 (a3 + 1) [(4, .int (a3 + 1)), (0, .ref (n0 + 33)), (1, .ref (n0 + o1)), (2, .int x2), (3, .int x3)] dX3_arrange_97 rfl rfl (Nat.le_of_ble_eq_true rfl) rfl ?_
            refine j_goto C 8 dX3_arrange_100 (by decide) ?_
            refine j_sub [1, 2, 3, 4, 0] rfl ?_
            exact ih _ _ hf
          clear hf
          have hl33 : ∀ (n : Nat) (a8 : Int32) (M9 : Mem), lX3_arrange_40 o1 z7 n a8 M9 = some M22 → J K M9 40 [(0, .ref (n0 + 33)), (1, .ref (n0 + o1)), (2, .int x2), (3, .int x3), (4, .int a3), (5, .int z7), (6, .int a8)] [] := by
            intro n
            induction n with
            | zero =>
              intro a8 M9 hf
              exact absurd hf (by rw [lX3_arrange_40]; exact fun h => by cases h)
            | succ n ih =>
              intro a8 M9 hf
              rw [lX3_arrange_40] at hf
              refine j_iload C 6 dX3_arrange_40 rfl ?_
              refine j_aload_n C 1 dX3_arrange_42 rfl rfl ?_
              obtain ⟨v11, e10, hf⟩ := bd hf
              refine j_callV C 0 hk1 (ent_K _ _ _ _ _ _) rfl (c_X1_size l G n0 hk1 e10) gv_RX3_35 ⟨rfl, rfl⟩ (by decide +kernel) ⟨Nat.le_of_ble_eq_true rfl, Nat.le_of_ble_eq_true rfl⟩ rfl rfl (Nat.le_of_ble_eq_true rfl) dX3_arrange_43 ?_
              refine j_icmp_ge C 97 dX3_arrange_46 (by decide) (fun c12 => ?_) (fun c12 => ?_)
              · replace hf := ip c12 hf
                refine j_sub [0, 1, 2, 3, 4] rfl ?_
                cases hf
                exact hx32
              · replace hf := ine c12 hf
                refine j_aload_n C 0 dX3_arrange_49 rfl rfl ?_
                refine g_X3_count C tw1_159 lc33 dX3_arrange_50 ?_
                refine j_bipush C (20 : Int32) rfl dX3_arrange_53 ?_
                refine j_icmp_ge C 97 dX3_arrange_55 (by decide) (fun c13 => ?_) (fun c13 => ?_)
                · replace hf := ip c13 hf
                  refine j_sub [0, 1, 2, 3, 4] rfl ?_
                  cases hf
                  exact hx32
                · replace hf := ine c13 hf
                  refine j_aload_n C 1 dX3_arrange_58 rfl rfl ?_
                  refine j_iload C 6 dX3_arrange_59 rfl ?_
                  refine j_iconst C (0 : Int32) rfl dX3_arrange_61 ?_
                  obtain ⟨v15, e14, hf⟩ := bd hf
                  refine j_callV C 2 hk1 (ent_K _ _ _ _ _ _) rfl (c_X1_value l G n0 hk1 e14) gv_RX3_41 ⟨rfl, rfl⟩ (by decide +kernel) ⟨Nat.le_of_ble_eq_true rfl, Nat.le_of_ble_eq_true rfl⟩ rfl rfl (Nat.le_of_ble_eq_true rfl) dX3_arrange_62 ?_
                  refine j_iload C 5 dX3_arrange_65 rfl ?_
                  refine j_icmp_ne C 91 dX3_arrange_67 (by decide) (fun c16 => ?_) (fun c16 => ?_)
                  · replace hf := ine c16 hf
                    refine j_iinc C 6 (a8 + 1) [(6, .int (a8 + 1)), (0, .ref (n0 + 33)), (1, .ref (n0 + o1)), (2, .int x2), (3, .int x3), (4, .int a3), (5, .int z7)] dX3_arrange_91 rfl rfl (Nat.le_of_ble_eq_true rfl) rfl ?_
                    refine j_goto C 40 dX3_arrange_94 (by decide) ?_
                    refine j_sub [1, 2, 3, 4, 5, 6, 0] rfl ?_
                    exact ih _ _ hf
                  · replace hf := ip c16 hf
                    refine j_aload_n C 0 dX3_arrange_70 rfl rfl ?_
                    refine g_X3_order C tw1_155 lc33 34 rfl dX3_arrange_71 ?_
                    refine j_aload_n C 0 dX3_arrange_74 rfl rfl ?_
                    refine g_X3_count C tw1_159 lc33 dX3_arrange_75 ?_
                    refine j_iload C 6 dX3_arrange_78 rfl ?_
                    obtain ⟨M17, e18, hf⟩ := bd hf
                    obtain ⟨hx19, e18⟩ := ast_some e18
                    refine j_iast C lc34 hx19 e18 dX3_arrange_80 ?_
                    refine j_aload_n C 0 dX3_arrange_81 rfl rfl ?_
                    refine j_dup C rfl dX3_arrange_82 ?_
                    refine g_X3_count C tw1_159 lc33 dX3_arrange_83 ?_
                    refine j_iconst C (1 : Int32) rfl dX3_arrange_86 ?_
                    refine j_iadd C dX3_arrange_87 ?_
                    obtain ⟨M20, e21, hf⟩ := bd hf
                    refine p_X3_count C tw1_159 lc33 e21 dX3_arrange_88 ?_
                    refine j_iinc C 6 (a8 + 1) [(6, .int (a8 + 1)), (0, .ref (n0 + 33)), (1, .ref (n0 + o1)), (2, .int x2), (3, .int x3), (4, .int a3), (5, .int z7)] dX3_arrange_91 rfl rfl (Nat.le_of_ble_eq_true rfl) rfl ?_
                    refine j_goto C 40 dX3_arrange_94 (by decide) ?_
                    refine j_sub [1, 2, 3, 4, 5, 6, 0] rfl ?_
                    exact ih _ _ hf
          refine j_sub [2, 3, 4, 5, 6, 1, 0] rfl ?_
          exact hl33 FUEL (0 : Int32) M4 e31
        clear hf
        have hf := e29
        refine j_icmp_ge C 29 dX3_arrange_19 (by decide) (fun c6 => ?_) (fun c6 => ?_)
        · replace hf := ip c6 hf
          refine j_iload_n C 3 dX3_arrange_29 rfl rfl ?_
          refine j_iload C 4 dX3_arrange_30 rfl ?_
          refine j_iadd C dX3_arrange_32 ?_
          refine j_iload_n C 2 dX3_arrange_33 rfl rfl ?_
          refine j_isub C dX3_arrange_34 ?_
          cases hf
          refine j_sub [0, 1, 2, 3, 4] rfl ?_
          exact hj30
        · replace hf := ine c6 hf
          refine j_iload_n C 3 dX3_arrange_22 rfl rfl ?_
          refine j_iload C 4 dX3_arrange_23 rfl ?_
          refine j_iadd C dX3_arrange_25 ?_
          refine j_goto C 35 dX3_arrange_26 (by decide) ?_
          cases hf
          refine j_sub [0, 1, 2, 3, 4] rfl ?_
          exact hj30
  refine j_sub [1, 2, 3, 4, 0] rfl ?_
  exact hl26 FUEL (0 : Int32) M1 e24
def fX9_arrangeNextDay (t : Nat) (M : Mem) : Option Mem :=
  (fX4_size (t + 1) M).bind fun v2 =>
  (fX4_nextOne (t + 1) M).bind fun v4 =>
  (fX3_arrange (t + 8) v2 v4 M).bind fun M6 =>
  some M6

def rX9_arrangeNextDay : Room := { frames := 3, cells := 0, slots := 0, locals := 79 }
set_option maxRecDepth 100000 in
set_option maxHeartbeats 4000000 in
theorem c_X9_arrangeNextDay (l : Launch) (G : Gx) (n0 : Nat) {t : Nat} (hk : lay[t]? = some (tK 9)) {M : Mem} {M' : Mem} (hf : fX9_arrangeNextDay t M = some M') : Ct l yX9_arrangeNextDay cX9_arrangeNextDay 2 none rX9_arrangeNextDay G n0 [.ref (n0 + t), .ref (n0 + 33)] M none M' := by
  refine ct_void (cc := cX9_arrangeNextDay) (maxL := 2) rfl (Nat.le_of_ble_eq_true rfl) ?_
  intro K C hret
  have C : Ok K l rX9_arrangeNextDay cX9_arrangeNextDay RX9 G n0 2 := C
  show J K M 0 [(0, .ref (n0 + t)), (1, .ref (n0 + 33))] []
  unfold fX9_arrangeNextDay at hf
  refine j_aload_n C 1 dX9_arrangeNextDay_0 rfl rfl ?_
  refine j_aload_n C 0 dX9_arrangeNextDay_1 rfl rfl ?_
  refine g_X9_batches C tw1_116 hk (t + 8) rfl dX9_arrangeNextDay_2 ?_
  refine j_aload_n C 0 dX9_arrangeNextDay_5 rfl rfl ?_
  refine g_X9_households C tw1_114 hk (t + 1) rfl dX9_arrangeNextDay_6 ?_
  obtain ⟨v2, e1, hf⟩ := bd hf
  refine j_callV C 0 (k9_1 hk) (ent_K _ _ _ _ _ _) rfl (c_X4_size l G n0 (k9_1 hk) e1) gv_RX9_102 ⟨rfl, rfl⟩ (by decide +kernel) ⟨Nat.le_of_ble_eq_true rfl, Nat.le_of_ble_eq_true rfl⟩ rfl rfl (Nat.le_of_ble_eq_true rfl) dX9_arrangeNextDay_9 ?_
  refine j_aload_n C 0 dX9_arrangeNextDay_12 rfl rfl ?_
  refine g_X9_households C tw1_114 hk (t + 1) rfl dX9_arrangeNextDay_13 ?_
  obtain ⟨v4, e3, hf⟩ := bd hf
  refine j_callV C 0 (k9_1 hk) (ent_K _ _ _ _ _ _) rfl (c_X4_nextOne l G n0 (k9_1 hk) e3) gv_RX9_103 ⟨rfl, rfl⟩ (by decide +kernel) ⟨Nat.le_of_ble_eq_true rfl, Nat.le_of_ble_eq_true rfl⟩ rfl rfl (Nat.le_of_ble_eq_true rfl) dX9_arrangeNextDay_16 ?_
  obtain ⟨M6, e5, hf⟩ := bd hf
  refine j_callV C 3 lc33 (ent_K _ _ _ _ _ _) rfl (c_X3_arrange l G n0 (k9_8 hk) e5) gv_RX9_106 ⟨rfl, rfl⟩ (by decide +kernel) ⟨Nat.le_of_ble_eq_true rfl, Nat.le_of_ble_eq_true rfl⟩ rfl rfl (Nat.le_of_ble_eq_true rfl) dX9_arrangeNextDay_19 ?_
  obtain rfl := Option.some.inj hf
  exact hret _ _ dX9_arrangeNextDay_22
def fX9_heatWith (t : Nat) (x1 : Int32) (M : Mem) : Option Int32 :=
  some (if ((M.1 t 4) + ((10 : Int32) * x1)) < (400 : Int32) then ((M.1 t 4) + ((10 : Int32) * x1)) else (400 : Int32))

def rX9_heatWith : Room := { frames := 1, cells := 0, slots := 0, locals := 13 }
set_option maxRecDepth 100000 in
set_option maxHeartbeats 4000000 in
theorem c_X9_heatWith (l : Launch) (G : Gx) (n0 : Nat) {t : Nat} {x1 : Int32} (hk : lay[t]? = some (tK 9)) {M : Mem} {r : Int32} (hf : fX9_heatWith t x1 M = some r) : Ct l yX9_heatWith cX9_heatWith 2 (some .int) rX9_heatWith G n0 [.ref (n0 + t), .int x1] M (some (.int r)) M := by
  refine ct_int (cc := cX9_heatWith) (maxL := 2) rfl (Nat.le_of_ble_eq_true rfl) ?_
  intro K C hret
  have C : Ok K l rX9_heatWith cX9_heatWith RX9 G n0 2 := C
  show J K M 0 [(0, .ref (n0 + t)), (1, .int x1)] []
  unfold fX9_heatWith at hf
  refine j_sipush C (400 : Int32) rfl dX9_heatWith_0 ?_
  refine j_aload_n C 0 dX9_heatWith_3 rfl rfl ?_
  refine g_X9_heat C tw1_122 hk dX9_heatWith_4 ?_
  refine j_bipush C (10 : Int32) rfl dX9_heatWith_7 ?_
  refine j_iload_n C 1 dX9_heatWith_9 rfl rfl ?_
  refine j_imul C dX9_heatWith_10 ?_
  refine j_iadd C dX9_heatWith_11 ?_
  refine j_mmin C tw3_237 tw2_149 tw1_5 tw2_150 ⟨Nat.le_of_ble_eq_true rfl, Nat.le_of_ble_eq_true rfl⟩ dX9_heatWith_12 ?_
  obtain rfl := Option.some.inj hf
  exact hret _ _ dX9_heatWith_15
def lX3_startWaiting_17  : Nat → Int32 → Mem → Option Mem
  | 0, _, _ => none
  | n + 1, a5, M6 =>
  if (3 : Int32) ≤ a5 then (some M6)
  else ((ast M6 36 3 a5 (0 : Int32)).bind fun M8 =>
  lX3_startWaiting_17  n (a5 + 1) M8)

def lX3_startWaiting_37 (o1 : Nat) : Nat → Int32 → Mem → Option Mem
  | 0, _, _ => none
  | n + 1, a12, M13 =>
  if (M13.1 33 4) ≤ a12 then (some M13)
  else (if (20 : Int32) ≤ a12 then (some M13)
  else ((ast M13 35 20 a12 (-1 : Int32)).bind fun M16 =>
  (ald (M16.1 34) 20 a12).bind fun v19 =>
  (fX1_value o1 v19 (1 : Int32) M16).bind fun v23 =>
  if v23 < 0 then (lX3_startWaiting_37 o1 n (a12 + 1) M16)
  else (if (3 : Int32) ≤ v23 then (lX3_startWaiting_37 o1 n (a12 + 1) M16)
  else ((ald (M16.1 36) 3 v23).bind fun v26 =>
  (ast M16 36 3 v23 (v26 + (1 : Int32))).bind fun M29 =>
  lX3_startWaiting_37 o1 n (a12 + 1) M29))))

def fX3_startWaiting (o1 : Nat) (M : Mem) : Option Mem :=
  (fX5_clear 37 M).bind fun M2 =>
  (pf M2 33 5 (M2.1 33 4)).bind fun M3 =>
  (lX3_startWaiting_17 FUEL (0 : Int32) M3).bind (fun M11 => (lX3_startWaiting_37 o1 FUEL (0 : Int32) M11).bind (fun M32 => some M32))

def rX3_startWaiting : Room := { frames := 2, cells := 0, slots := 0, locals := 44 }
set_option maxRecDepth 100000 in
set_option maxHeartbeats 4000000 in
theorem c_X3_startWaiting (l : Launch) (G : Gx) (n0 : Nat) {o1 : Nat} (hk1 : lay[o1]? = some (tK 1)) {M : Mem} {M' : Mem} (hf : fX3_startWaiting o1 M = some M') : Ct l yX3_startWaiting cX3_startWaiting 4 none rX3_startWaiting G n0 [.ref (n0 + 33), .ref (n0 + o1)] M none M' := by
  refine ct_void (cc := cX3_startWaiting) (maxL := 4) rfl (Nat.le_of_ble_eq_true rfl) ?_
  intro K C hret
  have C : Ok K l rX3_startWaiting cX3_startWaiting RX3 G n0 4 := C
  show J K M 0 [(0, .ref (n0 + 33)), (1, .ref (n0 + o1))] []
  unfold fX3_startWaiting at hf
  refine j_aload_n C 0 dX3_startWaiting_0 rfl rfl ?_
  refine g_X3_loads C tw1_158 lc33 37 rfl dX3_startWaiting_1 ?_
  obtain ⟨M2, e1, hf⟩ := bd hf
  refine j_callV C 0 lc37 (ent_K _ _ _ _ _ _) rfl (c_X5_clear l G n0 lc37 e1) gv_RX3_71 ⟨rfl, rfl⟩ (by decide +kernel) ⟨Nat.le_of_ble_eq_true rfl, Nat.le_of_ble_eq_true rfl⟩ rfl rfl (Nat.le_of_ble_eq_true rfl) dX3_startWaiting_4 ?_
  refine j_aload_n C 0 dX3_startWaiting_7 rfl rfl ?_
  refine j_aload_n C 0 dX3_startWaiting_8 rfl rfl ?_
  refine g_X3_count C tw1_159 lc33 dX3_startWaiting_9 ?_
  obtain ⟨M3, e4, hf⟩ := bd hf
  refine p_X3_left C tw1_160 lc33 e4 dX3_startWaiting_12 ?_
  refine j_iconst C (0 : Int32) rfl dX3_startWaiting_15 ?_
  refine j_istore_n C [(2, .int (0 : Int32)), (0, .ref (n0 + 33)), (1, .ref (n0 + o1))] dX3_startWaiting_16 rfl (Nat.le_of_ble_eq_true rfl) rfl ?_
  obtain ⟨M11, e33, hf⟩ := bd hf
  have hx34 : J K M11 35 [(0, .ref (n0 + 33)), (1, .ref (n0 + o1))] [] := by
    refine j_iconst C (0 : Int32) rfl dX3_startWaiting_35 ?_
    refine j_istore_n C [(2, .int (0 : Int32)), (0, .ref (n0 + 33)), (1, .ref (n0 + o1))] dX3_startWaiting_36 rfl (Nat.le_of_ble_eq_true rfl) rfl ?_
    obtain ⟨M32, e38, hf⟩ := bd hf
    have hx39 : J K M32 95 [] [] := by
      obtain rfl := Option.some.inj hf
      exact hret _ _ dX3_startWaiting_95
    clear hf
    have hl40 : ∀ (n : Nat) (a12 : Int32) (M13 : Mem), lX3_startWaiting_37 o1 n a12 M13 = some M32 → J K M13 37 [(0, .ref (n0 + 33)), (1, .ref (n0 + o1)), (2, .int a12)] [] := by
      intro n
      induction n with
      | zero =>
        intro a12 M13 hf
        exact absurd hf (by rw [lX3_startWaiting_37]; exact fun h => by cases h)
      | succ n ih =>
        intro a12 M13 hf
        rw [lX3_startWaiting_37] at hf
        refine j_iload_n C 2 dX3_startWaiting_37 rfl rfl ?_
        refine j_aload_n C 0 dX3_startWaiting_38 rfl rfl ?_
        refine g_X3_count C tw1_159 lc33 dX3_startWaiting_39 ?_
        refine j_icmp_ge C 95 dX3_startWaiting_42 (by decide) (fun c14 => ?_) (fun c14 => ?_)
        · replace hf := ip c14 hf
          refine j_sub [] rfl ?_
          cases hf
          exact hx39
        · replace hf := ine c14 hf
          refine j_iload_n C 2 dX3_startWaiting_45 rfl rfl ?_
          refine j_bipush C (20 : Int32) rfl dX3_startWaiting_46 ?_
          refine j_icmp_ge C 95 dX3_startWaiting_48 (by decide) (fun c15 => ?_) (fun c15 => ?_)
          · replace hf := ip c15 hf
            refine j_sub [] rfl ?_
            cases hf
            exact hx39
          · replace hf := ine c15 hf
            refine j_aload_n C 0 dX3_startWaiting_51 rfl rfl ?_
            refine g_X3_loadAt C tw1_156 lc33 35 rfl dX3_startWaiting_52 ?_
            refine j_iload_n C 2 dX3_startWaiting_55 rfl rfl ?_
            refine j_iconst C (-1 : Int32) rfl dX3_startWaiting_56 ?_
            obtain ⟨M16, e17, hf⟩ := bd hf
            obtain ⟨hx18, e17⟩ := ast_some e17
            refine j_iast C lc35 hx18 e17 dX3_startWaiting_57 ?_
            refine j_aload_n C 1 dX3_startWaiting_58 rfl rfl ?_
            refine j_aload_n C 0 dX3_startWaiting_59 rfl rfl ?_
            refine g_X3_order C tw1_155 lc33 34 rfl dX3_startWaiting_60 ?_
            refine j_iload_n C 2 dX3_startWaiting_63 rfl rfl ?_
            obtain ⟨v19, e20, hf⟩ := bd hf
            obtain ⟨hx21, e20⟩ := ald_some e20
            refine j_iald C lc34 hx21 e20 dX3_startWaiting_64 ?_
            refine j_iconst C (1 : Int32) rfl dX3_startWaiting_65 ?_
            obtain ⟨v23, e22, hf⟩ := bd hf
            refine j_callV C 2 hk1 (ent_K _ _ _ _ _ _) rfl (c_X1_value l G n0 hk1 e22) gv_RX3_41 ⟨rfl, rfl⟩ (by decide +kernel) ⟨Nat.le_of_ble_eq_true rfl, Nat.le_of_ble_eq_true rfl⟩ rfl rfl (Nat.le_of_ble_eq_true rfl) dX3_startWaiting_66 ?_
            refine j_istore_n C [(3, .int v23), (0, .ref (n0 + 33)), (1, .ref (n0 + o1)), (2, .int a12)] dX3_startWaiting_69 rfl (Nat.le_of_ble_eq_true rfl) rfl ?_
            refine j_iload_n C 0 dX3_startWaiting_70 rfl rfl ?_
            refine j_if_lt C 89 dX3_startWaiting_71 (by decide) (fun c24 => ?_) (fun c24 => ?_)
            · replace hf := ip c24 hf
              refine j_iinc C 3 (a12 + 1) [(2, .int (a12 + 1)), (3, .int v23), (0, .ref (n0 + 33)), (1, .ref (n0 + o1))] dX3_startWaiting_89 rfl rfl (Nat.le_of_ble_eq_true rfl) rfl ?_
              refine j_goto C 37 dX3_startWaiting_92 (by decide) ?_
              refine j_sub [2, 3, 0] rfl ?_
              exact ih _ _ hf
            · replace hf := ine c24 hf
              refine j_iload_n C 0 dX3_startWaiting_74 rfl rfl ?_
              refine j_iconst C (3 : Int32) rfl dX3_startWaiting_75 ?_
              refine j_icmp_ge C 89 dX3_startWaiting_76 (by decide) (fun c25 => ?_) (fun c25 => ?_)
              · replace hf := ip c25 hf
                refine j_iinc C 3 (a12 + 1) [(2, .int (a12 + 1)), (3, .int v23), (0, .ref (n0 + 33)), (1, .ref (n0 + o1))] dX3_startWaiting_89 rfl rfl (Nat.le_of_ble_eq_true rfl) rfl ?_
                refine j_goto C 37 dX3_startWaiting_92 (by decide) ?_
                refine j_sub [2, 3, 0] rfl ?_
                exact ih _ _ hf
              · replace hf := ine c25 hf
                refine j_aload_n C 1 dX3_startWaiting_79 rfl rfl ?_
                refine g_X3_waiting C tw1_157 lc33 36 rfl dX3_startWaiting_80 ?_
                refine j_iload_n C 0 dX3_startWaiting_83 rfl rfl ?_
                refine j_dup2_11 C rfl rfl dX3_startWaiting_84 ?_
                obtain ⟨v26, e27, hf⟩ := bd hf
                obtain ⟨hx28, e27⟩ := ald_some e27
                refine j_iald C lc36 hx28 e27 dX3_startWaiting_85 ?_
                refine j_iconst C (1 : Int32) rfl dX3_startWaiting_86 ?_
                refine j_iadd C dX3_startWaiting_87 ?_
                obtain ⟨M29, e30, hf⟩ := bd hf
                obtain ⟨hx31, e30⟩ := ast_some e30
                refine j_iast C lc36 hx31 e30 dX3_startWaiting_88 ?_
                refine j_iinc C 3 (a12 + 1) [(2, .int (a12 + 1)), (3, .int v23), (0, .ref (n0 + 33)), (1, .ref (n0 + o1))] dX3_startWaiting_89 rfl rfl (Nat.le_of_ble_eq_true rfl) rfl ?_
                refine j_goto C 37 dX3_startWaiting_92 (by decide) ?_
                refine j_sub [2, 3, 0] rfl ?_
                exact ih _ _ hf
    refine j_sub [1, 2, 0] rfl ?_
    exact hl40 FUEL (0 : Int32) M11 e38
  clear hf
  have hl35 : ∀ (n : Nat) (a5 : Int32) (M6 : Mem), lX3_startWaiting_17 n a5 M6 = some M11 → J K M6 17 [(0, .ref (n0 + 33)), (1, .ref (n0 + o1)), (2, .int a5)] [] := by
    intro n
    induction n with
    | zero =>
      intro a5 M6 hf
      exact absurd hf (by rw [lX3_startWaiting_17]; exact fun h => by cases h)
    | succ n ih =>
      intro a5 M6 hf
      rw [lX3_startWaiting_17] at hf
      refine j_iload_n C 2 dX3_startWaiting_17 rfl rfl ?_
      refine j_iconst C (3 : Int32) rfl dX3_startWaiting_18 ?_
      refine j_icmp_ge C 35 dX3_startWaiting_19 (by decide) (fun c7 => ?_) (fun c7 => ?_)
      · replace hf := ip c7 hf
        refine j_sub [0, 1] rfl ?_
        cases hf
        exact hx34
      · replace hf := ine c7 hf
        refine j_aload_n C 0 dX3_startWaiting_22 rfl rfl ?_
        refine g_X3_waiting C tw1_157 lc33 36 rfl dX3_startWaiting_23 ?_
        refine j_iload_n C 2 dX3_startWaiting_26 rfl rfl ?_
        refine j_iconst C (0 : Int32) rfl dX3_startWaiting_27 ?_
        obtain ⟨M8, e9, hf⟩ := bd hf
        obtain ⟨hx10, e9⟩ := ast_some e9
        refine j_iast C lc36 hx10 e9 dX3_startWaiting_28 ?_
        refine j_iinc C 2 (a5 + 1) [(2, .int (a5 + 1)), (0, .ref (n0 + 33)), (1, .ref (n0 + o1))] dX3_startWaiting_29 rfl rfl (Nat.le_of_ble_eq_true rfl) rfl ?_
        refine j_goto C 17 dX3_startWaiting_32 (by decide) ?_
        refine j_sub [1, 2, 0] rfl ?_
        exact ih _ _ hf
  refine j_sub [1, 2, 0] rfl ?_
  exact hl35 FUEL (0 : Int32) M3 e33
def lX3_kindForHeat_2 (M : Mem) : Nat → Int32 → Option (Int32 ⊕ Unit)
  | 0, _ => none
  | n + 1, a1 =>
  if (3 : Int32) ≤ a1 then (some (Sum.inr ()))
  else ((ald (M.1 36) 3 a1).bind fun v3 =>
  if v3 ≤ 0 then (lX3_kindForHeat_2 M n (a1 + 1))
  else ((ald sLOWEST 3 a1).bind fun v9 =>
  if (M.1 33 6) < v9 then (lX3_kindForHeat_2 M n (a1 + 1))
  else ((ald sGREATEST 3 a1).bind fun v15 =>
  if v15 < (M.1 33 6) then (lX3_kindForHeat_2 M n (a1 + 1))
  else (some (Sum.inl a1)))))

def fX3_kindForHeat  (M : Mem) : Option Int32 :=
  (lX3_kindForHeat_2 M FUEL (0 : Int32)).bind fun o => s0 o (fun _ => some (-1 : Int32))

def rX3_kindForHeat : Room := { frames := 0, cells := 0, slots := 0, locals := 0 }
set_option maxRecDepth 100000 in
set_option maxHeartbeats 4000000 in
theorem c_X3_kindForHeat (l : Launch) (G : Gx) (n0 : Nat) {M : Mem} {r : Int32} (hf : fX3_kindForHeat M = some r) : Ct l yX3_kindForHeat cX3_kindForHeat 2 (some .int) rX3_kindForHeat G n0 [.ref (n0 + 33)] M (some (.int r)) M := by
  refine ct_int (cc := cX3_kindForHeat) (maxL := 2) rfl (Nat.le_of_ble_eq_true rfl) ?_
  intro K C hret
  have C : Ok K l rX3_kindForHeat cX3_kindForHeat RX3 G n0 2 := C
  show J K M 0 [(0, .ref (n0 + 33))] []
  unfold fX3_kindForHeat at hf
  refine j_iconst C (0 : Int32) rfl dX3_kindForHeat_0 ?_
  refine j_istore_n C [(1, .int (0 : Int32)), (0, .ref (n0 + 33))] dX3_kindForHeat_1 rfl (Nat.le_of_ble_eq_true rfl) rfl ?_
  obtain ⟨o23, e19, hg22⟩ := bd hf
  have hx20 : o23 = Sum.inr () → J K M 48 [] [] := by
    intro ho
    rw [ho] at hg22
    replace hf := s0r hg22
    refine j_iconst C (-1 : Int32) rfl dX3_kindForHeat_48 ?_
    obtain rfl := Option.some.inj hf
    exact hret _ _ dX3_kindForHeat_49
  have hl21 : ∀ (n : Nat) (a1 : Int32), lX3_kindForHeat_2 M n a1 = some o23 → J K M 2 [(0, .ref (n0 + 33)), (1, .int a1)] [] := by
    intro n
    induction n with
    | zero =>
      intro a1 hf
      exact absurd hf (by rw [lX3_kindForHeat_2]; exact fun h => by cases h)
    | succ n ih =>
      intro a1 hf
      rw [lX3_kindForHeat_2] at hf
      refine j_iload_n C 1 dX3_kindForHeat_2 rfl rfl ?_
      refine j_iconst C (3 : Int32) rfl dX3_kindForHeat_3 ?_
      refine j_icmp_ge C 48 dX3_kindForHeat_4 (by decide) (fun c2 => ?_) (fun c2 => ?_)
      · replace hf := ip c2 hf
        refine j_sub [] rfl ?_
        exact hx20 (Option.some.inj hf).symm
      · replace hf := ine c2 hf
        refine j_aload_n C 0 dX3_kindForHeat_7 rfl rfl ?_
        refine g_X3_waiting C tw1_157 lc33 36 rfl dX3_kindForHeat_8 ?_
        refine j_iload_n C 1 dX3_kindForHeat_11 rfl rfl ?_
        obtain ⟨v3, e4, hf⟩ := bd hf
        obtain ⟨hx5, e4⟩ := ald_some e4
        refine j_iald C lc36 hx5 e4 dX3_kindForHeat_12 ?_
        refine j_if_le C 42 dX3_kindForHeat_13 (by decide) (fun c6 => ?_) (fun c6 => ?_)
        · replace hf := ip c6 hf
          refine j_iinc C 1 (a1 + 1) [(1, .int (a1 + 1)), (0, .ref (n0 + 33))] dX3_kindForHeat_42 rfl rfl (Nat.le_of_ble_eq_true rfl) rfl ?_
          refine j_goto C 2 dX3_kindForHeat_45 (by decide) ?_
          refine j_sub [1, 0] rfl ?_
          exact ih _ hf
        · replace hf := ine c6 hf
          refine j_aload_n C 0 dX3_kindForHeat_16 rfl rfl ?_
          refine g_X3_heat C tw1_161 lc33 dX3_kindForHeat_17 ?_
          refine j_getsLOWEST C tw4_14 dX3_kindForHeat_20 (fun aS7 hS8 => ?_)
          refine j_iload_n C 1 dX3_kindForHeat_23 rfl rfl ?_
          obtain ⟨v9, e10, hf⟩ := bd hf
          obtain ⟨hx11, e10⟩ := ald_some e10
          refine j_sald C hS8 hx11 e10 dX3_kindForHeat_24 ?_
          refine j_icmp_lt C 42 dX3_kindForHeat_25 (by decide) (fun c12 => ?_) (fun c12 => ?_)
          · replace hf := ip c12 hf
            refine j_iinc C 1 (a1 + 1) [(1, .int (a1 + 1)), (0, .ref (n0 + 33))] dX3_kindForHeat_42 rfl rfl (Nat.le_of_ble_eq_true rfl) rfl ?_
            refine j_goto C 2 dX3_kindForHeat_45 (by decide) ?_
            refine j_sub [1, 0] rfl ?_
            exact ih _ hf
          · replace hf := ine c12 hf
            refine j_aload_n C 0 dX3_kindForHeat_28 rfl rfl ?_
            refine g_X3_heat C tw1_161 lc33 dX3_kindForHeat_29 ?_
            refine j_getsGREATEST C tw4_16 dX3_kindForHeat_32 (fun aS13 hS14 => ?_)
            refine j_iload_n C 1 dX3_kindForHeat_35 rfl rfl ?_
            obtain ⟨v15, e16, hf⟩ := bd hf
            obtain ⟨hx17, e16⟩ := ald_some e16
            refine j_sald C hS14 hx17 e16 dX3_kindForHeat_36 ?_
            refine j_icmp_gt C 42 dX3_kindForHeat_37 (by decide) (fun c18 => ?_) (fun c18 => ?_)
            · replace hf := ip c18 hf
              refine j_iinc C 1 (a1 + 1) [(1, .int (a1 + 1)), (0, .ref (n0 + 33))] dX3_kindForHeat_42 rfl rfl (Nat.le_of_ble_eq_true rfl) rfl ?_
              refine j_goto C 2 dX3_kindForHeat_45 (by decide) ?_
              refine j_sub [1, 0] rfl ?_
              exact ih _ hf
            · replace hf := ine c18 hf
              refine j_iload_n C 1 dX3_kindForHeat_40 rfl rfl ?_
              rw [← Option.some.inj hf] at hg22
              have hf := hg22
              replace hf : some _ = some _ := hf
              obtain rfl := Option.some.inj hf
              exact hret _ _ dX3_kindForHeat_41
  refine j_sub [1, 0] rfl ?_
  exact hl21 FUEL (0 : Int32) e19
def lX3_bakeLoad_24 (o1 : Nat) (x2 : Int32) : Nat → Int32 → Int32 → Int32 → Mem → Option (Int32 × Int32 × Mem)
  | 0, _, _, _, _ => none
  | n + 1, a3, a4, a5, M6 =>
  if (M6.1 33 4) ≤ a5 then (some (a3, a4, M6))
  else (if (20 : Int32) ≤ a5 then (some (a3, a4, M6))
  else ((ald (M6.1 34) 20 a5).bind fun v9 =>
  (fX1_value o1 v9 (2 : Int32) M6).bind fun v13 =>
  (ald (M6.1 35) 20 a5).bind fun v14 =>
  if v14 = (-1 : Int32) then ((fX1_value o1 v9 (1 : Int32) M6).bind fun v19 =>
  if v19 = x2 then (if (24 : Int32) < (a3 + v13) then (lX3_bakeLoad_24 o1 x2 n a3 a4 (a5 + 1) M6)
  else ((fX5_size 37 M6).bind fun v23 =>
  (ast M6 35 20 a5 v23).bind fun M24 =>
  lX3_bakeLoad_24 o1 x2 n (a3 + v13) (a4 + 1) (a5 + 1) M24))
  else (lX3_bakeLoad_24 o1 x2 n a3 a4 (a5 + 1) M6))
  else (lX3_bakeLoad_24 o1 x2 n a3 a4 (a5 + 1) M6)))

def fX3_bakeLoad (o1 : Nat) (x2 : Int32) (M : Mem) : Option Mem :=
  if x2 < 0 then (some M)
  else (if x2 < (3 : Int32) then ((lX3_bakeLoad_24 o1 x2 FUEL (0 : Int32) (0 : Int32) (0 : Int32) M).bind (un3 fun a27 a28 M29 => (pf M29 33 5 ((M29.1 33 5) - a28)).bind fun M30 =>
  (ald (M30.1 36) 3 x2).bind fun v32 =>
  (ast M30 36 3 x2 (v32 - a28)).bind fun M35 =>
  (ald sTICKS 3 x2).bind fun v40 =>
  (pf M35 33 6 (if (20 : Int32) < ((M35.1 33 6) - (v40 * ((5 : Int32) + (a27 / (8 : Int32))))) then ((M35.1 33 6) - (v40 * ((5 : Int32) + (a27 / (8 : Int32))))) else (20 : Int32))).bind fun M43 =>
  (fX5_add 37 x2 a28 a27 (M.1 33 6) (M43.1 33 6) M43).bind fun M46 =>
  some M46))
  else (some M))

def rX3_bakeLoad : Room := { frames := 2, cells := 0, slots := 0, locals := 48 }
set_option maxRecDepth 100000 in
set_option maxHeartbeats 4000000 in
theorem c_X3_bakeLoad (l : Launch) (G : Gx) (n0 : Nat) {o1 : Nat} {x2 : Int32} (hk1 : lay[o1]? = some (tK 1)) {M : Mem} {M' : Mem} (hf : fX3_bakeLoad o1 x2 M = some M') : Ct l yX3_bakeLoad cX3_bakeLoad 9 none rX3_bakeLoad G n0 [.ref (n0 + 33), .ref (n0 + o1), .int x2] M none M' := by
  refine ct_void (cc := cX3_bakeLoad) (maxL := 9) rfl (Nat.le_of_ble_eq_true rfl) ?_
  intro K C hret
  have C : Ok K l rX3_bakeLoad cX3_bakeLoad RX3 G n0 9 := C
  show J K M 0 [(0, .ref (n0 + 33)), (1, .ref (n0 + o1)), (2, .int x2)] []
  unfold fX3_bakeLoad at hf
  refine j_iload_n C 2 dX3_bakeLoad_0 rfl rfl ?_
  refine j_if_lt C 9 dX3_bakeLoad_1 (by decide) (fun c1 => ?_) (fun c1 => ?_)
  · replace hf := ip c1 hf
    obtain rfl := Option.some.inj hf
    exact hret _ _ dX3_bakeLoad_9
  · replace hf := ine c1 hf
    refine j_iload_n C 2 dX3_bakeLoad_4 rfl rfl ?_
    refine j_iconst C (3 : Int32) rfl dX3_bakeLoad_5 ?_
    refine j_icmp_lt C 10 dX3_bakeLoad_6 (by decide) (fun c2 => ?_) (fun c2 => ?_)
    · replace hf := ip c2 hf
      refine j_aload_n C 0 dX3_bakeLoad_10 rfl rfl ?_
      refine g_X3_heat C tw1_161 lc33 dX3_bakeLoad_11 ?_
      refine j_istore_n C [(3, .int (M.1 33 6)), (0, .ref (n0 + 33)), (1, .ref (n0 + o1)), (2, .int x2)] dX3_bakeLoad_14 rfl (Nat.le_of_ble_eq_true rfl) rfl ?_
      refine j_iconst C (0 : Int32) rfl dX3_bakeLoad_15 ?_
      refine j_istore C [(4, .int (0 : Int32)), (3, .int (M.1 33 6)), (0, .ref (n0 + 33)), (1, .ref (n0 + o1)), (2, .int x2)] dX3_bakeLoad_16 (Nat.le_of_ble_eq_true rfl) rfl ?_
      refine j_iconst C (0 : Int32) rfl dX3_bakeLoad_18 ?_
      refine j_istore C [(5, .int (0 : Int32)), (4, .int (0 : Int32)), (3, .int (M.1 33 6)), (0, .ref (n0 + 33)), (1, .ref (n0 + o1)), (2, .int x2)] dX3_bakeLoad_19 (Nat.le_of_ble_eq_true rfl) rfl ?_
      refine j_iconst C (0 : Int32) rfl dX3_bakeLoad_21 ?_
      refine j_istore C [(6, .int (0 : Int32)), (5, .int (0 : Int32)), (4, .int (0 : Int32)), (3, .int (M.1 33 6)), (0, .ref (n0 + 33)), (1, .ref (n0 + o1)), (2, .int x2)] dX3_bakeLoad_22 (Nat.le_of_ble_eq_true rfl) rfl ?_
      obtain ⟨⟨a27, a28, M29⟩, e47, hf⟩ := bd hf
      replace hf := un3e hf
      have hx48 : J K M29 120 [(0, .ref (n0 + 33)), (2, .int x2), (3, .int (M.1 33 6)), (4, .int a27), (5, .int a28)] [] := by
        refine j_aload_n C 0 dX3_bakeLoad_120 rfl rfl ?_
        refine j_dup C rfl dX3_bakeLoad_121 ?_
        refine g_X3_left C tw1_160 lc33 dX3_bakeLoad_122 ?_
        refine j_iload C 4 dX3_bakeLoad_125 rfl ?_
        refine j_isub C dX3_bakeLoad_127 ?_
        obtain ⟨M30, e31, hf⟩ := bd hf
        refine p_X3_left C tw1_160 lc33 e31 dX3_bakeLoad_128 ?_
        refine j_aload_n C 0 dX3_bakeLoad_131 rfl rfl ?_
        refine g_X3_waiting C tw1_157 lc33 36 rfl dX3_bakeLoad_132 ?_
        refine j_iload_n C 1 dX3_bakeLoad_135 rfl rfl ?_
        refine j_dup2_11 C rfl rfl dX3_bakeLoad_136 ?_
        obtain ⟨v32, e33, hf⟩ := bd hf
        obtain ⟨hx34, e33⟩ := ald_some e33
        refine j_iald C lc36 hx34 e33 dX3_bakeLoad_137 ?_
        refine j_iload C 4 dX3_bakeLoad_138 rfl ?_
        refine j_isub C dX3_bakeLoad_140 ?_
        obtain ⟨M35, e36, hf⟩ := bd hf
        obtain ⟨hx37, e36⟩ := ast_some e36
        refine j_iast C lc36 hx37 e36 dX3_bakeLoad_141 ?_
        refine j_aload_n C 0 dX3_bakeLoad_142 rfl rfl ?_
        refine j_bipush C (20 : Int32) rfl dX3_bakeLoad_143 ?_
        refine j_aload_n C 0 dX3_bakeLoad_145 rfl rfl ?_
        refine g_X3_heat C tw1_161 lc33 dX3_bakeLoad_146 ?_
        refine j_getsTICKS C tw4_23 dX3_bakeLoad_149 (fun aS38 hS39 => ?_)
        refine j_iload_n C 1 dX3_bakeLoad_152 rfl rfl ?_
        obtain ⟨v40, e41, hf⟩ := bd hf
        obtain ⟨hx42, e41⟩ := ald_some e41
        refine j_sald C hS39 hx42 e41 dX3_bakeLoad_153 ?_
        refine j_iconst C (5 : Int32) rfl dX3_bakeLoad_154 ?_
        refine j_iload C 3 dX3_bakeLoad_155 rfl ?_
        refine j_bipush C (8 : Int32) rfl dX3_bakeLoad_157 ?_
        refine j_idiv C (by decide) dX3_bakeLoad_159 ?_
        refine j_iadd C dX3_bakeLoad_160 ?_
        refine j_imul C dX3_bakeLoad_161 ?_
        refine j_isub C dX3_bakeLoad_162 ?_
        refine j_mmax C tw4_25 tw1_47 tw1_5 tw1_48 ⟨Nat.le_of_ble_eq_true rfl, Nat.le_of_ble_eq_true rfl⟩ dX3_bakeLoad_163 ?_
        obtain ⟨M43, e44, hf⟩ := bd hf
        refine p_X3_heat C tw1_161 lc33 e44 dX3_bakeLoad_166 ?_
        refine j_aload_n C 0 dX3_bakeLoad_169 rfl rfl ?_
        refine g_X3_loads C tw1_158 lc33 37 rfl dX3_bakeLoad_170 ?_
        refine j_iload_n C 1 dX3_bakeLoad_173 rfl rfl ?_
        refine j_iload C 4 dX3_bakeLoad_174 rfl ?_
        refine j_iload C 3 dX3_bakeLoad_176 rfl ?_
        refine j_iload_n C 2 dX3_bakeLoad_178 rfl rfl ?_
        refine j_aload_n C 0 dX3_bakeLoad_179 rfl rfl ?_
        refine g_X3_heat C tw1_161 lc33 dX3_bakeLoad_180 ?_
        obtain ⟨M46, e45, hf⟩ := bd hf
        refine j_callV C 5 lc37 (ent_K _ _ _ _ _ _) rfl (c_X5_add l G n0 lc37 e45) gv_RX3_81 ⟨rfl, rfl⟩ (by decide +kernel) ⟨Nat.le_of_ble_eq_true rfl, Nat.le_of_ble_eq_true rfl⟩ rfl rfl (Nat.le_of_ble_eq_true rfl) dX3_bakeLoad_183 ?_
        obtain rfl := Option.some.inj hf
        exact hret _ _ dX3_bakeLoad_186
      clear hf
      have hl49 : ∀ (n : Nat) (a3 : Int32) (a4 : Int32) (a5 : Int32) (M6 : Mem), lX3_bakeLoad_24 o1 x2 n a3 a4 a5 M6 = some (a27, a28, M29) → J K M6 24 [(0, .ref (n0 + 33)), (1, .ref (n0 + o1)), (2, .int x2), (3, .int (M.1 33 6)), (4, .int a3), (5, .int a4), (6, .int a5)] [] := by
        intro n
        induction n with
        | zero =>
          intro a3 a4 a5 M6 hf
          exact absurd hf (by rw [lX3_bakeLoad_24]; exact fun h => by cases h)
        | succ n ih =>
          intro a3 a4 a5 M6 hf
          rw [lX3_bakeLoad_24] at hf
          refine j_iload C 6 dX3_bakeLoad_24 rfl ?_
          refine j_aload_n C 0 dX3_bakeLoad_26 rfl rfl ?_
          refine g_X3_count C tw1_159 lc33 dX3_bakeLoad_27 ?_
          refine j_icmp_ge C 120 dX3_bakeLoad_30 (by decide) (fun c7 => ?_) (fun c7 => ?_)
          · replace hf := ip c7 hf
            refine j_sub [0, 2, 3, 4, 5] rfl ?_
            cases hf
            exact hx48
          · replace hf := ine c7 hf
            refine j_iload C 6 dX3_bakeLoad_33 rfl ?_
            refine j_bipush C (20 : Int32) rfl dX3_bakeLoad_35 ?_
            refine j_icmp_ge C 120 dX3_bakeLoad_37 (by decide) (fun c8 => ?_) (fun c8 => ?_)
            · replace hf := ip c8 hf
              refine j_sub [0, 2, 3, 4, 5] rfl ?_
              cases hf
              exact hx48
            · replace hf := ine c8 hf
              refine j_aload_n C 0 dX3_bakeLoad_40 rfl rfl ?_
              refine g_X3_order C tw1_155 lc33 34 rfl dX3_bakeLoad_41 ?_
              refine j_iload C 6 dX3_bakeLoad_44 rfl ?_
              obtain ⟨v9, e10, hf⟩ := bd hf
              obtain ⟨hx11, e10⟩ := ald_some e10
              refine j_iald C lc34 hx11 e10 dX3_bakeLoad_46 ?_
              refine j_istore C [(7, .int v9), (0, .ref (n0 + 33)), (1, .ref (n0 + o1)), (2, .int x2), (3, .int (M.1 33 6)), (4, .int a3), (5, .int a4), (6, .int a5)] dX3_bakeLoad_47 (Nat.le_of_ble_eq_true rfl) rfl ?_
              refine j_aload_n C 2 dX3_bakeLoad_49 rfl rfl ?_
              refine j_iload C 0 dX3_bakeLoad_50 rfl ?_
              refine j_iconst C (2 : Int32) rfl dX3_bakeLoad_52 ?_
              obtain ⟨v13, e12, hf⟩ := bd hf
              refine j_callV C 2 hk1 (ent_K _ _ _ _ _ _) rfl (c_X1_value l G n0 hk1 e12) gv_RX3_41 ⟨rfl, rfl⟩ (by decide +kernel) ⟨Nat.le_of_ble_eq_true rfl, Nat.le_of_ble_eq_true rfl⟩ rfl rfl (Nat.le_of_ble_eq_true rfl) dX3_bakeLoad_53 ?_
              refine j_istore C [(8, .int v13), (7, .int v9), (0, .ref (n0 + 33)), (1, .ref (n0 + o1)), (2, .int x2), (3, .int (M.1 33 6)), (4, .int a3), (5, .int a4), (6, .int a5)] dX3_bakeLoad_56 (Nat.le_of_ble_eq_true rfl) rfl ?_
              refine j_aload_n C 2 dX3_bakeLoad_58 rfl rfl ?_
              refine g_X3_loadAt C tw1_156 lc33 35 rfl dX3_bakeLoad_59 ?_
              refine j_iload C 8 dX3_bakeLoad_62 rfl ?_
              obtain ⟨v14, e15, hf⟩ := bd hf
              obtain ⟨hx16, e15⟩ := ald_some e15
              refine j_iald C lc35 hx16 e15 dX3_bakeLoad_64 ?_
              refine j_iconst C (-1 : Int32) rfl dX3_bakeLoad_65 ?_
              refine j_icmp_ne C 114 dX3_bakeLoad_66 (by decide) (fun c17 => ?_) (fun c17 => ?_)
              · replace hf := ine c17 hf
                refine j_iinc C 8 (a5 + 1) [(6, .int (a5 + 1)), (8, .int v13), (7, .int v9), (0, .ref (n0 + 33)), (1, .ref (n0 + o1)), (2, .int x2), (3, .int (M.1 33 6)), (4, .int a3), (5, .int a4)] dX3_bakeLoad_114 rfl rfl (Nat.le_of_ble_eq_true rfl) rfl ?_
                refine j_goto C 24 dX3_bakeLoad_117 (by decide) ?_
                refine j_sub [3, 4, 5, 6, 7, 8, 0] rfl ?_
                exact ih _ _ _ _ hf
              · replace hf := ip c17 hf
                refine j_aload_n C 3 dX3_bakeLoad_69 rfl rfl ?_
                refine j_iload C 1 dX3_bakeLoad_70 rfl ?_
                refine j_iconst C (1 : Int32) rfl dX3_bakeLoad_72 ?_
                obtain ⟨v19, e18, hf⟩ := bd hf
                refine j_callV C 2 hk1 (ent_K _ _ _ _ _ _) rfl (c_X1_value l G n0 hk1 e18) gv_RX3_41 ⟨rfl, rfl⟩ (by decide +kernel) ⟨Nat.le_of_ble_eq_true rfl, Nat.le_of_ble_eq_true rfl⟩ rfl rfl (Nat.le_of_ble_eq_true rfl) dX3_bakeLoad_73 ?_
                refine j_iload_n C 4 dX3_bakeLoad_76 rfl rfl ?_
                refine j_icmp_ne C 114 dX3_bakeLoad_77 (by decide) (fun c20 => ?_) (fun c20 => ?_)
                · replace hf := ine c20 hf
                  refine j_iinc C 8 (a5 + 1) [(6, .int (a5 + 1)), (8, .int v13), (7, .int v9), (0, .ref (n0 + 33)), (1, .ref (n0 + o1)), (2, .int x2), (3, .int (M.1 33 6)), (4, .int a3), (5, .int a4)] dX3_bakeLoad_114 rfl rfl (Nat.le_of_ble_eq_true rfl) rfl ?_
                  refine j_goto C 24 dX3_bakeLoad_117 (by decide) ?_
                  refine j_sub [3, 4, 5, 6, 7, 8, 0] rfl ?_
                  exact ih _ _ _ _ hf
                · replace hf := ip c20 hf
                  refine j_iload C 6 dX3_bakeLoad_80 rfl ?_
                  refine j_iload C 0 dX3_bakeLoad_82 rfl ?_
                  refine j_iadd C dX3_bakeLoad_84 ?_
                  refine j_bipush C (24 : Int32) rfl dX3_bakeLoad_85 ?_
                  refine j_icmp_gt C 114 dX3_bakeLoad_87 (by decide) (fun c21 => ?_) (fun c21 => ?_)
                  · replace hf := ip c21 hf
                    refine j_iinc C 8 (a5 + 1) [(6, .int (a5 + 1)), (8, .int v13), (7, .int v9), (0, .ref (n0 + 33)), (1, .ref (n0 + o1)), (2, .int x2), (3, .int (M.1 33 6)), (4, .int a3), (5, .int a4)] dX3_bakeLoad_114 rfl rfl (Nat.le_of_ble_eq_true rfl) rfl ?_
                    refine j_goto C 24 dX3_bakeLoad_117 (by decide) ?_
                    refine j_sub [3, 4, 5, 6, 7, 8, 0] rfl ?_
                    exact ih _ _ _ _ hf
                  · replace hf := ine c21 hf
                    refine j_aload_n C 2 dX3_bakeLoad_90 rfl rfl ?_
                    refine g_X3_loadAt C tw1_156 lc33 35 rfl dX3_bakeLoad_91 ?_
                    refine j_iload C 8 dX3_bakeLoad_94 rfl ?_
                    refine j_aload_n C 2 dX3_bakeLoad_96 rfl rfl ?_
                    refine g_X3_loads C tw1_158 lc33 37 rfl dX3_bakeLoad_97 ?_
                    obtain ⟨v23, e22, hf⟩ := bd hf
                    refine j_callV C 0 lc37 (ent_K _ _ _ _ _ _) rfl (c_X5_size l G n0 lc37 e22) gv_RX3_77 ⟨rfl, rfl⟩ (by decide +kernel) ⟨Nat.le_of_ble_eq_true rfl, Nat.le_of_ble_eq_true rfl⟩ rfl rfl (Nat.le_of_ble_eq_true rfl) dX3_bakeLoad_100 ?_
                    obtain ⟨M24, e25, hf⟩ := bd hf
                    obtain ⟨hx26, e25⟩ := ast_some e25
                    refine j_iast C lc35 hx26 e25 dX3_bakeLoad_103 ?_
                    refine j_iload C 6 dX3_bakeLoad_104 rfl ?_
                    refine j_iload C 0 dX3_bakeLoad_106 rfl ?_
                    refine j_iadd C dX3_bakeLoad_108 ?_
                    refine j_istore C [(4, .int (a3 + v13)), (8, .int v13), (7, .int v9), (0, .ref (n0 + 33)), (1, .ref (n0 + o1)), (2, .int x2), (3, .int (M.1 33 6)), (5, .int a4), (6, .int a5)] dX3_bakeLoad_109 (Nat.le_of_ble_eq_true rfl) rfl ?_
                    refine j_iinc C 7 (a4 + 1) [(5, .int (a4 + 1)), (4, .int (a3 + v13)), (8, .int v13), (7, .int v9), (0, .ref (n0 + 33)), (1, .ref (n0 + o1)), (2, .int x2), (3, .int (M.1 33 6)), (6, .int a5)] dX3_bakeLoad_111 rfl rfl (Nat.le_of_ble_eq_true rfl) rfl ?_
                    refine j_iinc C 8 (a5 + 1) [(6, .int (a5 + 1)), (5, .int (a4 + 1)), (4, .int (a3 + v13)), (8, .int v13), (7, .int v9), (0, .ref (n0 + 33)), (1, .ref (n0 + o1)), (2, .int x2), (3, .int (M.1 33 6))] dX3_bakeLoad_114 rfl rfl (Nat.le_of_ble_eq_true rfl) rfl ?_
                    refine j_goto C 24 dX3_bakeLoad_117 (by decide) ?_
                    refine j_sub [5, 6, 7, 8, 2, 1, 0] rfl ?_
                    exact ih _ _ _ _ hf
      refine j_sub [4, 5, 6, 3, 2, 1, 0] rfl ?_
      exact hl49 FUEL (0 : Int32) (0 : Int32) (0 : Int32) M e47
    · replace hf := ine c2 hf
      obtain rfl := Option.some.inj hf
      exact hret _ _ dX3_bakeLoad_9
def lX3_isTooHotForSome_2 (M : Mem) : Nat → Int32 → Option (Bool ⊕ Unit)
  | 0, _ => none
  | n + 1, a1 =>
  if (3 : Int32) ≤ a1 then (some (Sum.inr ()))
  else ((ald (M.1 36) 3 a1).bind fun v3 =>
  if v3 ≤ 0 then (lX3_isTooHotForSome_2 M n (a1 + 1))
  else ((ald sGREATEST 3 a1).bind fun v9 =>
  if (M.1 33 6) ≤ v9 then (lX3_isTooHotForSome_2 M n (a1 + 1))
  else (some (Sum.inl true))))

def fX3_isTooHotForSome  (M : Mem) : Option Bool :=
  (lX3_isTooHotForSome_2 M FUEL (0 : Int32)).bind fun o => s0 o (fun _ => some false)

def rX3_isTooHotForSome : Room := { frames := 0, cells := 0, slots := 0, locals := 0 }
set_option maxRecDepth 100000 in
set_option maxHeartbeats 4000000 in
theorem c_X3_isTooHotForSome (l : Launch) (G : Gx) (n0 : Nat) {M : Mem} {r : Bool} (hf : fX3_isTooHotForSome M = some r) : Ct l yX3_isTooHotForSome cX3_isTooHotForSome 2 (some .boolean) rX3_isTooHotForSome G n0 [.ref (n0 + 33)] M (some (.int (bI r))) M := by
  refine ct_bool (cc := cX3_isTooHotForSome) (maxL := 2) rfl (Nat.le_of_ble_eq_true rfl) ?_
  intro K C hret
  have C : Ok K l rX3_isTooHotForSome cX3_isTooHotForSome RX3 G n0 2 := C
  show J K M 0 [(0, .ref (n0 + 33))] []
  unfold fX3_isTooHotForSome at hf
  refine j_iconst C (0 : Int32) rfl dX3_isTooHotForSome_0 ?_
  refine j_istore_n C [(1, .int (0 : Int32)), (0, .ref (n0 + 33))] dX3_isTooHotForSome_1 rfl (Nat.le_of_ble_eq_true rfl) rfl ?_
  obtain ⟨o17, e13, hg16⟩ := bd hf
  have hx14 : o17 = Sum.inr () → J K M 36 [] [] := by
    intro ho
    rw [ho] at hg16
    replace hf := s0r hg16
    refine j_iconst C (0 : Int32) rfl dX3_isTooHotForSome_36 ?_
    obtain rfl := Option.some.inj hf
    exact hret _ _ dX3_isTooHotForSome_37
  have hl15 : ∀ (n : Nat) (a1 : Int32), lX3_isTooHotForSome_2 M n a1 = some o17 → J K M 2 [(0, .ref (n0 + 33)), (1, .int a1)] [] := by
    intro n
    induction n with
    | zero =>
      intro a1 hf
      exact absurd hf (by rw [lX3_isTooHotForSome_2]; exact fun h => by cases h)
    | succ n ih =>
      intro a1 hf
      rw [lX3_isTooHotForSome_2] at hf
      refine j_iload_n C 1 dX3_isTooHotForSome_2 rfl rfl ?_
      refine j_iconst C (3 : Int32) rfl dX3_isTooHotForSome_3 ?_
      refine j_icmp_ge C 36 dX3_isTooHotForSome_4 (by decide) (fun c2 => ?_) (fun c2 => ?_)
      · replace hf := ip c2 hf
        refine j_sub [] rfl ?_
        exact hx14 (Option.some.inj hf).symm
      · replace hf := ine c2 hf
        refine j_aload_n C 0 dX3_isTooHotForSome_7 rfl rfl ?_
        refine g_X3_waiting C tw1_157 lc33 36 rfl dX3_isTooHotForSome_8 ?_
        refine j_iload_n C 1 dX3_isTooHotForSome_11 rfl rfl ?_
        obtain ⟨v3, e4, hf⟩ := bd hf
        obtain ⟨hx5, e4⟩ := ald_some e4
        refine j_iald C lc36 hx5 e4 dX3_isTooHotForSome_12 ?_
        refine j_if_le C 30 dX3_isTooHotForSome_13 (by decide) (fun c6 => ?_) (fun c6 => ?_)
        · replace hf := ip c6 hf
          refine j_iinc C 1 (a1 + 1) [(1, .int (a1 + 1)), (0, .ref (n0 + 33))] dX3_isTooHotForSome_30 rfl rfl (Nat.le_of_ble_eq_true rfl) rfl ?_
          refine j_goto C 2 dX3_isTooHotForSome_33 (by decide) ?_
          refine j_sub [1, 0] rfl ?_
          exact ih _ hf
        · replace hf := ine c6 hf
          refine j_aload_n C 0 dX3_isTooHotForSome_16 rfl rfl ?_
          refine g_X3_heat C tw1_161 lc33 dX3_isTooHotForSome_17 ?_
          refine j_getsGREATEST C tw4_16 dX3_isTooHotForSome_20 (fun aS7 hS8 => ?_)
          refine j_iload_n C 1 dX3_isTooHotForSome_23 rfl rfl ?_
          obtain ⟨v9, e10, hf⟩ := bd hf
          obtain ⟨hx11, e10⟩ := ald_some e10
          refine j_sald C hS8 hx11 e10 dX3_isTooHotForSome_24 ?_
          refine j_icmp_le C 30 dX3_isTooHotForSome_25 (by decide) (fun c12 => ?_) (fun c12 => ?_)
          · replace hf := ip c12 hf
            refine j_iinc C 1 (a1 + 1) [(1, .int (a1 + 1)), (0, .ref (n0 + 33))] dX3_isTooHotForSome_30 rfl rfl (Nat.le_of_ble_eq_true rfl) rfl ?_
            refine j_goto C 2 dX3_isTooHotForSome_33 (by decide) ?_
            refine j_sub [1, 0] rfl ?_
            exact ih _ hf
          · replace hf := ine c12 hf
            refine j_iconst C (1 : Int32) rfl dX3_isTooHotForSome_28 ?_
            rw [← Option.some.inj hf] at hg16
            have hf := hg16
            replace hf : some _ = some _ := hf
            obtain rfl := Option.some.inj hf
            exact hret _ _ dX3_isTooHotForSome_29
  refine j_sub [1, 0] rfl ?_
  exact hl15 FUEL (0 : Int32) e13
def lX3_fire_12 (o1 : Nat) : Nat → Int32 → Mem → Option (Mem ⊕ Mem)
  | 0, _, _ => none
  | n + 1, a5, M6 =>
  if (1000 : Int32) ≤ a5 then (some (Sum.inr M6))
  else (if (M6.1 33 5) ≤ 0 then (some (Sum.inr M6))
  else ((fX3_kindForHeat M6).bind fun v10 =>
  if v10 = (-1 : Int32) then ((fX3_isTooHotForSome M6).bind fun b13 =>
  if b13 = true then ((pf M6 33 6 (if (20 : Int32) < ((M6.1 33 6) - (5 : Int32)) then ((M6.1 33 6) - (5 : Int32)) else (20 : Int32))).bind fun M15 =>
  lX3_fire_12 o1 n (a5 + 1) M15)
  else (some (Sum.inl M6)))
  else ((fX3_bakeLoad o1 v10 M6).bind fun M18 =>
  lX3_fire_12 o1 n (a5 + 1) M18)))

def fX3_fire (o1 : Nat) (x2 : Int32) (M : Mem) : Option Mem :=
  (pf M 33 6 x2).bind fun M1 =>
  (fX3_startWaiting o1 M1).bind fun M4 =>
  (lX3_fire_12 o1 FUEL (0 : Int32) M4).bind fun o => s0 o (fun M19 => some M19)

def rX3_fire : Room := { frames := 3, cells := 0, slots := 0, locals := 76 }
set_option maxRecDepth 100000 in
set_option maxHeartbeats 4000000 in
theorem c_X3_fire (l : Launch) (G : Gx) (n0 : Nat) {o1 : Nat} {x2 : Int32} (hk1 : lay[o1]? = some (tK 1)) {M : Mem} {M' : Mem} (hf : fX3_fire o1 x2 M = some M') : Ct l yX3_fire cX3_fire 5 none rX3_fire G n0 [.ref (n0 + 33), .ref (n0 + o1), .int x2] M none M' := by
  refine ct_void (cc := cX3_fire) (maxL := 5) rfl (Nat.le_of_ble_eq_true rfl) ?_
  intro K C hret
  have C : Ok K l rX3_fire cX3_fire RX3 G n0 5 := C
  show J K M 0 [(0, .ref (n0 + 33)), (1, .ref (n0 + o1)), (2, .int x2)] []
  unfold fX3_fire at hf
  refine j_aload_n C 0 dX3_fire_0 rfl rfl ?_
  refine j_iload_n C 2 dX3_fire_1 rfl rfl ?_
  obtain ⟨M1, e2, hf⟩ := bd hf
  refine p_X3_heat C tw1_161 lc33 e2 dX3_fire_2 ?_
  refine j_aload_n C 0 dX3_fire_5 rfl rfl ?_
  refine j_aload_n C 1 dX3_fire_6 rfl rfl ?_
  obtain ⟨M4, e3, hf⟩ := bd hf
  refine j_callV C 1 lc33 (ent_K _ _ _ _ _ _) rfl (c_X3_startWaiting l G n0 hk1 e3) gv_RX3_48 ⟨rfl, rfl⟩ (by decide +kernel) ⟨Nat.le_of_ble_eq_true rfl, Nat.le_of_ble_eq_true rfl⟩ rfl rfl (Nat.le_of_ble_eq_true rfl) dX3_fire_7 ?_
  refine j_iconst C (0 : Int32) rfl dX3_fire_10 ?_
  refine j_istore_n C [(3, .int (0 : Int32)), (0, .ref (n0 + 33)), (1, .ref (n0 + o1)), (2, .int x2)] dX3_fire_11 rfl (Nat.le_of_ble_eq_true rfl) rfl ?_
  obtain ⟨o24, e20, hg23⟩ := bd hf
  have hx21 : ∀ (M19 : Mem), o24 = Sum.inr M19 → J K M19 80 [] [] := by
    intro M19 ho
    rw [ho] at hg23
    replace hf := s0r hg23
    obtain rfl := Option.some.inj hf
    exact hret _ _ dX3_fire_80
  have hl22 : ∀ (n : Nat) (a5 : Int32) (M6 : Mem), lX3_fire_12 o1 n a5 M6 = some o24 → J K M6 12 [(0, .ref (n0 + 33)), (1, .ref (n0 + o1)), (3, .int a5)] [] := by
    intro n
    induction n with
    | zero =>
      intro a5 M6 hf
      exact absurd hf (by rw [lX3_fire_12]; exact fun h => by cases h)
    | succ n ih =>
      intro a5 M6 hf
      rw [lX3_fire_12] at hf
      refine j_iload_n C 2 dX3_fire_12 rfl rfl ?_
      refine j_sipush C (1000 : Int32) rfl dX3_fire_13 ?_
      refine j_icmp_ge C 80 dX3_fire_16 (by decide) (fun c7 => ?_) (fun c7 => ?_)
      · replace hf := ip c7 hf
        refine j_sub [] rfl ?_
        exact hx21 _ (Option.some.inj hf).symm
      · replace hf := ine c7 hf
        refine j_aload_n C 0 dX3_fire_19 rfl rfl ?_
        refine g_X3_left C tw1_160 lc33 dX3_fire_20 ?_
        refine j_if_le C 80 dX3_fire_23 (by decide) (fun c8 => ?_) (fun c8 => ?_)
        · replace hf := ip c8 hf
          refine j_sub [] rfl ?_
          exact hx21 _ (Option.some.inj hf).symm
        · replace hf := ine c8 hf
          refine j_aload_n C 0 dX3_fire_26 rfl rfl ?_
          obtain ⟨v10, e9, hf⟩ := bd hf
          refine j_callV C 0 lc33 (ent_K _ _ _ _ _ _) rfl (c_X3_kindForHeat l G n0 e9) gv_RX3_55 ⟨rfl, rfl⟩ (by decide +kernel) ⟨Nat.le_of_ble_eq_true rfl, Nat.le_of_ble_eq_true rfl⟩ rfl rfl (Nat.le_of_ble_eq_true rfl) dX3_fire_27 ?_
          refine j_istore C [(4, .int v10), (0, .ref (n0 + 33)), (1, .ref (n0 + o1)), (3, .int a5)] dX3_fire_30 (Nat.le_of_ble_eq_true rfl) rfl ?_
          refine j_iload C 0 dX3_fire_32 rfl ?_
          refine j_iconst C (-1 : Int32) rfl dX3_fire_34 ?_
          refine j_icmp_eq C 48 dX3_fire_35 (by decide) (fun c11 => ?_) (fun c11 => ?_)
          · replace hf := ip c11 hf
            refine j_aload_n C 1 dX3_fire_48 rfl rfl ?_
            obtain ⟨b13, e12, hf⟩ := bd hf
            refine j_callV C 0 lc33 (ent_K _ _ _ _ _ _) rfl (c_X3_isTooHotForSome l G n0 e12) gv_RX3_62 ⟨rfl, rfl⟩ (by decide +kernel) ⟨Nat.le_of_ble_eq_true rfl, Nat.le_of_ble_eq_true rfl⟩ rfl rfl (Nat.le_of_ble_eq_true rfl) dX3_fire_49 ?_
            refine j_ifz_eq C 73 dX3_fire_52 (by decide) (fun c14 => ?_) (fun c14 => ?_)
            · replace hf := ine c14 hf
              rw [← Option.some.inj hf] at hg23
              have hf := hg23
              replace hf : some _ = some _ := hf
              obtain rfl := Option.some.inj hf
              exact hret _ _ dX3_fire_73
            · replace hf := ip c14 hf
              refine j_aload_n C 1 dX3_fire_55 rfl rfl ?_
              refine j_bipush C (20 : Int32) rfl dX3_fire_56 ?_
              refine j_aload_n C 1 dX3_fire_58 rfl rfl ?_
              refine g_X3_heat C tw1_161 lc33 dX3_fire_59 ?_
              refine j_iconst C (5 : Int32) rfl dX3_fire_62 ?_
              refine j_isub C dX3_fire_63 ?_
              refine j_mmax C tw4_25 tw1_47 tw1_5 tw1_48 ⟨Nat.le_of_ble_eq_true rfl, Nat.le_of_ble_eq_true rfl⟩ dX3_fire_64 ?_
              obtain ⟨M15, e16, hf⟩ := bd hf
              refine p_X3_heat C tw1_161 lc33 e16 dX3_fire_67 ?_
              refine j_goto C 74 dX3_fire_70 (by decide) ?_
              refine j_iinc C 3 (a5 + 1) [(3, .int (a5 + 1)), (4, .int v10), (0, .ref (n0 + 33)), (1, .ref (n0 + o1))] dX3_fire_74 rfl rfl (Nat.le_of_ble_eq_true rfl) rfl ?_
              refine j_goto C 12 dX3_fire_77 (by decide) ?_
              refine j_sub [2, 3, 0] rfl ?_
              exact ih _ _ hf
          · replace hf := ine c11 hf
            refine j_aload_n C 1 dX3_fire_38 rfl rfl ?_
            refine j_aload_n C 2 dX3_fire_39 rfl rfl ?_
            refine j_iload C 0 dX3_fire_40 rfl ?_
            obtain ⟨M18, e17, hf⟩ := bd hf
            refine j_callV C 2 lc33 (ent_K _ _ _ _ _ _) rfl (c_X3_bakeLoad l G n0 hk1 e17) gv_RX3_58 ⟨rfl, rfl⟩ (by decide +kernel) ⟨Nat.le_of_ble_eq_true rfl, Nat.le_of_ble_eq_true rfl⟩ rfl rfl (Nat.le_of_ble_eq_true rfl) dX3_fire_42 ?_
            refine j_goto C 74 dX3_fire_45 (by decide) ?_
            refine j_iinc C 3 (a5 + 1) [(3, .int (a5 + 1)), (4, .int v10), (0, .ref (n0 + 33)), (1, .ref (n0 + o1))] dX3_fire_74 rfl rfl (Nat.le_of_ble_eq_true rfl) rfl ?_
            refine j_goto C 12 dX3_fire_77 (by decide) ?_
            refine j_sub [2, 3, 0] rfl ?_
            exact ih _ _ hf
  refine j_sub [1, 2, 0] rfl ?_
  exact hl22 FUEL (0 : Int32) M4 e20
def fX3_size  (M : Mem) : Option Int32 :=
  some (M.1 33 4)

def rX3_size : Room := { frames := 0, cells := 0, slots := 0, locals := 0 }
set_option maxRecDepth 100000 in
set_option maxHeartbeats 4000000 in
theorem c_X3_size (l : Launch) (G : Gx) (n0 : Nat) {M : Mem} {r : Int32} (hf : fX3_size M = some r) : Ct l yX3_size cX3_size 1 (some .int) rX3_size G n0 [.ref (n0 + 33)] M (some (.int r)) M := by
  refine ct_int (cc := cX3_size) (maxL := 1) rfl (Nat.le_of_ble_eq_true rfl) ?_
  intro K C hret
  have C : Ok K l rX3_size cX3_size RX3 G n0 1 := C
  show J K M 0 [(0, .ref (n0 + 33))] []
  unfold fX3_size at hf
  refine j_aload_n C 0 dX3_size_0 rfl rfl ?_
  refine g_X3_count C tw1_159 lc33 dX3_size_1 ?_
  obtain rfl := Option.some.inj hf
  exact hret _ _ dX3_size_4
def fX3_loadAt (x1 : Int32) (M : Mem) : Option Int32 :=
  if x1 < 0 then (some (-1 : Int32))
  else (if (M.1 33 4) ≤ x1 then (some (-1 : Int32))
  else (if (20 : Int32) ≤ x1 then (some (-1 : Int32))
  else ((ald (M.1 35) 20 x1).bind fun v4 =>
  some v4)))

def rX3_loadAt : Room := { frames := 0, cells := 0, slots := 0, locals := 0 }
set_option maxRecDepth 100000 in
set_option maxHeartbeats 4000000 in
theorem c_X3_loadAt (l : Launch) (G : Gx) (n0 : Nat) {x1 : Int32} {M : Mem} {r : Int32} (hf : fX3_loadAt x1 M = some r) : Ct l yX3_loadAt cX3_loadAt 2 (some .int) rX3_loadAt G n0 [.ref (n0 + 33), .int x1] M (some (.int r)) M := by
  refine ct_int (cc := cX3_loadAt) (maxL := 2) rfl (Nat.le_of_ble_eq_true rfl) ?_
  intro K C hret
  have C : Ok K l rX3_loadAt cX3_loadAt RX3 G n0 2 := C
  show J K M 0 [(0, .ref (n0 + 33)), (1, .int x1)] []
  unfold fX3_loadAt at hf
  refine j_iload_n C 1 dX3_loadAt_0 rfl rfl ?_
  refine j_if_lt C 27 dX3_loadAt_1 (by decide) (fun c1 => ?_) (fun c1 => ?_)
  · replace hf := ip c1 hf
    refine j_iconst C (-1 : Int32) rfl dX3_loadAt_27 ?_
    obtain rfl := Option.some.inj hf
    exact hret _ _ dX3_loadAt_28
  · replace hf := ine c1 hf
    refine j_iload_n C 1 dX3_loadAt_4 rfl rfl ?_
    refine j_aload_n C 0 dX3_loadAt_5 rfl rfl ?_
    refine g_X3_count C tw1_159 lc33 dX3_loadAt_6 ?_
    refine j_icmp_ge C 27 dX3_loadAt_9 (by decide) (fun c2 => ?_) (fun c2 => ?_)
    · replace hf := ip c2 hf
      refine j_iconst C (-1 : Int32) rfl dX3_loadAt_27 ?_
      obtain rfl := Option.some.inj hf
      exact hret _ _ dX3_loadAt_28
    · replace hf := ine c2 hf
      refine j_iload_n C 1 dX3_loadAt_12 rfl rfl ?_
      refine j_bipush C (20 : Int32) rfl dX3_loadAt_13 ?_
      refine j_icmp_ge C 27 dX3_loadAt_15 (by decide) (fun c3 => ?_) (fun c3 => ?_)
      · replace hf := ip c3 hf
        refine j_iconst C (-1 : Int32) rfl dX3_loadAt_27 ?_
        obtain rfl := Option.some.inj hf
        exact hret _ _ dX3_loadAt_28
      · replace hf := ine c3 hf
        refine j_aload_n C 0 dX3_loadAt_18 rfl rfl ?_
        refine g_X3_loadAt C tw1_156 lc33 35 rfl dX3_loadAt_19 ?_
        refine j_iload_n C 1 dX3_loadAt_22 rfl rfl ?_
        obtain ⟨v4, e5, hf⟩ := bd hf
        obtain ⟨hx6, e5⟩ := ald_some e5
        refine j_iald C lc35 hx6 e5 dX3_loadAt_23 ?_
        refine j_goto C 28 dX3_loadAt_24 (by decide) ?_
        obtain rfl := Option.some.inj hf
        exact hret _ _ dX3_loadAt_28
def fX3_batchAt (x1 : Int32) (M : Mem) : Option Int32 :=
  if x1 < 0 then (some (-1 : Int32))
  else (if (M.1 33 4) ≤ x1 then (some (-1 : Int32))
  else (if (20 : Int32) ≤ x1 then (some (-1 : Int32))
  else ((ald (M.1 34) 20 x1).bind fun v4 =>
  some v4)))

def rX3_batchAt : Room := { frames := 0, cells := 0, slots := 0, locals := 0 }
set_option maxRecDepth 100000 in
set_option maxHeartbeats 4000000 in
theorem c_X3_batchAt (l : Launch) (G : Gx) (n0 : Nat) {x1 : Int32} {M : Mem} {r : Int32} (hf : fX3_batchAt x1 M = some r) : Ct l yX3_batchAt cX3_batchAt 2 (some .int) rX3_batchAt G n0 [.ref (n0 + 33), .int x1] M (some (.int r)) M := by
  refine ct_int (cc := cX3_batchAt) (maxL := 2) rfl (Nat.le_of_ble_eq_true rfl) ?_
  intro K C hret
  have C : Ok K l rX3_batchAt cX3_batchAt RX3 G n0 2 := C
  show J K M 0 [(0, .ref (n0 + 33)), (1, .int x1)] []
  unfold fX3_batchAt at hf
  refine j_iload_n C 1 dX3_batchAt_0 rfl rfl ?_
  refine j_if_lt C 27 dX3_batchAt_1 (by decide) (fun c1 => ?_) (fun c1 => ?_)
  · replace hf := ip c1 hf
    refine j_iconst C (-1 : Int32) rfl dX3_batchAt_27 ?_
    obtain rfl := Option.some.inj hf
    exact hret _ _ dX3_batchAt_28
  · replace hf := ine c1 hf
    refine j_iload_n C 1 dX3_batchAt_4 rfl rfl ?_
    refine j_aload_n C 0 dX3_batchAt_5 rfl rfl ?_
    refine g_X3_count C tw1_159 lc33 dX3_batchAt_6 ?_
    refine j_icmp_ge C 27 dX3_batchAt_9 (by decide) (fun c2 => ?_) (fun c2 => ?_)
    · replace hf := ip c2 hf
      refine j_iconst C (-1 : Int32) rfl dX3_batchAt_27 ?_
      obtain rfl := Option.some.inj hf
      exact hret _ _ dX3_batchAt_28
    · replace hf := ine c2 hf
      refine j_iload_n C 1 dX3_batchAt_12 rfl rfl ?_
      refine j_bipush C (20 : Int32) rfl dX3_batchAt_13 ?_
      refine j_icmp_ge C 27 dX3_batchAt_15 (by decide) (fun c3 => ?_) (fun c3 => ?_)
      · replace hf := ip c3 hf
        refine j_iconst C (-1 : Int32) rfl dX3_batchAt_27 ?_
        obtain rfl := Option.some.inj hf
        exact hret _ _ dX3_batchAt_28
      · replace hf := ine c3 hf
        refine j_aload_n C 0 dX3_batchAt_18 rfl rfl ?_
        refine g_X3_order C tw1_155 lc33 34 rfl dX3_batchAt_19 ?_
        refine j_iload_n C 1 dX3_batchAt_22 rfl rfl ?_
        obtain ⟨v4, e5, hf⟩ := bd hf
        obtain ⟨hx6, e5⟩ := ald_some e5
        refine j_iald C lc34 hx6 e5 dX3_batchAt_23 ?_
        refine j_goto C 28 dX3_batchAt_24 (by decide) ?_
        obtain rfl := Option.some.inj hf
        exact hret _ _ dX3_batchAt_28
def fX3_paleBelow (x0 : Int32) (M : Mem) : Option Int32 :=
  if x0 < 0 then (some (0 : Int32))
  else (if (3 : Int32) ≤ x0 then (some (0 : Int32))
  else ((ald sLOWEST 3 x0).bind fun v5 =>
  some (v5 - (30 : Int32))))

def rX3_paleBelow : Room := { frames := 0, cells := 0, slots := 0, locals := 0 }
set_option maxRecDepth 100000 in
set_option maxHeartbeats 4000000 in
theorem c_X3_paleBelow (l : Launch) (G : Gx) (n0 : Nat) {x0 : Int32} {M : Mem} {r : Int32} (hf : fX3_paleBelow x0 M = some r) : Ct l yX3_paleBelow cX3_paleBelow 1 (some .int) rX3_paleBelow G n0 [.int x0] M (some (.int r)) M := by
  refine ct_int (cc := cX3_paleBelow) (maxL := 1) rfl (Nat.le_of_ble_eq_true rfl) ?_
  intro K C hret
  have C : Ok K l rX3_paleBelow cX3_paleBelow RX3 G n0 1 := C
  show J K M 0 [(0, .int x0)] []
  unfold fX3_paleBelow at hf
  refine j_iload_n C 0 dX3_paleBelow_0 rfl rfl ?_
  refine j_if_lt C 20 dX3_paleBelow_1 (by decide) (fun c1 => ?_) (fun c1 => ?_)
  · replace hf := ip c1 hf
    refine j_iconst C (0 : Int32) rfl dX3_paleBelow_20 ?_
    obtain rfl := Option.some.inj hf
    exact hret _ _ dX3_paleBelow_21
  · replace hf := ine c1 hf
    refine j_iload_n C 0 dX3_paleBelow_4 rfl rfl ?_
    refine j_iconst C (3 : Int32) rfl dX3_paleBelow_5 ?_
    refine j_icmp_ge C 20 dX3_paleBelow_6 (by decide) (fun c2 => ?_) (fun c2 => ?_)
    · replace hf := ip c2 hf
      refine j_iconst C (0 : Int32) rfl dX3_paleBelow_20 ?_
      obtain rfl := Option.some.inj hf
      exact hret _ _ dX3_paleBelow_21
    · replace hf := ine c2 hf
      refine j_getsLOWEST C tw4_14 dX3_paleBelow_9 (fun aS3 hS4 => ?_)
      refine j_iload_n C 0 dX3_paleBelow_12 rfl rfl ?_
      obtain ⟨v5, e6, hf⟩ := bd hf
      obtain ⟨hx7, e6⟩ := ald_some e6
      refine j_sald C hS4 hx7 e6 dX3_paleBelow_13 ?_
      refine j_bipush C (30 : Int32) rfl dX3_paleBelow_14 ?_
      refine j_isub C dX3_paleBelow_16 ?_
      refine j_goto C 21 dX3_paleBelow_17 (by decide) ?_
      obtain rfl := Option.some.inj hf
      exact hret _ _ dX3_paleBelow_21
def fX9_draw (t : Nat) (x1 : Int32) (M : Mem) : Option (Int32 × Mem) :=
  (pf M t 5 ((((1103515245 : Int64) * (M.1 t 5).toInt64) + (12345 : Int64)) &&& (2147483647 : Int64)).toInt32).bind fun M1 =>
  if x1 ≤ 0 then (some ((0 : Int32), M1))
  else (if x1 = 0 then none else
  some ((((M1.1 t 5) >>> ((16 : Int32) &&& 31)) - ((M1.1 t 5) >>> ((16 : Int32) &&& 31)) / x1 * x1), M1))

def rX9_draw : Room := { frames := 0, cells := 0, slots := 0, locals := 0 }
set_option maxRecDepth 100000 in
set_option maxHeartbeats 4000000 in
theorem c_X9_draw (l : Launch) (G : Gx) (n0 : Nat) {t : Nat} {x1 : Int32} (hk : lay[t]? = some (tK 9)) {M : Mem} {r : Int32} {M' : Mem} (hf : fX9_draw t x1 M = some (r, M')) : Ct l yX9_draw cX9_draw 2 (some .int) rX9_draw G n0 [.ref (n0 + t), .int x1] M (some (.int r)) M' := by
  refine ct_int (cc := cX9_draw) (maxL := 2) rfl (Nat.le_of_ble_eq_true rfl) ?_
  intro K C hret
  have C : Ok K l rX9_draw cX9_draw RX9 G n0 2 := C
  show J K M 0 [(0, .ref (n0 + t)), (1, .int x1)] []
  unfold fX9_draw at hf
  refine j_aload_n C 0 dX9_draw_0 rfl rfl ?_
  refine j_ldc2 C tw4_75 dX9_draw_1 ?_
  refine j_aload_n C 0 dX9_draw_4 rfl rfl ?_
  refine g_X9_s C tw1_124 hk dX9_draw_5 ?_
  refine j_i2l C dX9_draw_8 ?_
  refine j_lmul C dX9_draw_9 ?_
  refine j_ldc2 C tw4_76 dX9_draw_10 ?_
  refine j_ladd C dX9_draw_13 ?_
  refine j_ldc2 C tw4_77 dX9_draw_14 ?_
  refine j_land C dX9_draw_17 ?_
  refine j_l2i C dX9_draw_18 ?_
  obtain ⟨M1, e2, hf⟩ := bd hf
  refine p_X9_s C tw1_124 hk e2 dX9_draw_19 ?_
  refine j_iload_n C 1 dX9_draw_22 rfl rfl ?_
  refine j_if_le C 38 dX9_draw_23 (by decide) (fun c3 => ?_) (fun c3 => ?_)
  · replace hf := ip c3 hf
    refine j_iconst C (0 : Int32) rfl dX9_draw_38 ?_
    obtain ⟨rfl, rfl⟩ := Prod.mk.inj (Option.some.inj hf)
    exact hret _ _ dX9_draw_39
  · replace hf := ine c3 hf
    refine j_aload_n C 0 dX9_draw_26 rfl rfl ?_
    refine g_X9_s C tw1_124 hk dX9_draw_27 ?_
    refine j_bipush C (16 : Int32) rfl dX9_draw_30 ?_
    refine j_ishr C dX9_draw_32 ?_
    refine j_iload_n C 1 dX9_draw_33 rfl rfl ?_
    obtain ⟨hd4, hf⟩ := gd hf
    refine j_irem C hd4 dX9_draw_34 ?_
    refine j_goto C 39 dX9_draw_35 (by decide) ?_
    obtain ⟨rfl, rfl⟩ := Prod.mk.inj (Option.some.inj hf)
    exact hret _ _ dX9_draw_39
def lX9_blur_11 (t : Nat) (v2 : Int32) : Nat → Int32 → Int32 → Mem → Option (Int32 × Mem)
  | 0, _, _, _ => none
  | n + 1, a4, a5, M6 =>
  if v2 ≤ a5 then (some (a4, M6))
  else ((fX9_draw t (16 : Int32) M6).bind (un2 fun v9 M10 =>
  lX9_blur_11 t v2 n (a4 &&& (((1 : Int32) <<< (v9 &&& 31)) ^^^ (-1 : Int32))) (a5 + 1) M10))

def fX9_blur (t : Nat) (x1 : Int32) (M : Mem) : Option (Int32 × Mem) :=
  (fX9_draw t (4 : Int32) M).bind (un2 fun v2 M3 =>
  (lX9_blur_11 t v2 FUEL x1 (0 : Int32) M3).bind (un2 fun a11 M12 => some (a11, M12)))

def rX9_blur : Room := { frames := 1, cells := 0, slots := 0, locals := 21 }
set_option maxRecDepth 100000 in
set_option maxHeartbeats 4000000 in
theorem c_X9_blur (l : Launch) (G : Gx) (n0 : Nat) {t : Nat} {x1 : Int32} (hk : lay[t]? = some (tK 9)) {M : Mem} {r : Int32} {M' : Mem} (hf : fX9_blur t x1 M = some (r, M')) : Ct l yX9_blur cX9_blur 5 (some .int) rX9_blur G n0 [.ref (n0 + t), .int x1] M (some (.int r)) M' := by
  refine ct_int (cc := cX9_blur) (maxL := 5) rfl (Nat.le_of_ble_eq_true rfl) ?_
  intro K C hret
  have C : Ok K l rX9_blur cX9_blur RX9 G n0 5 := C
  show J K M 0 [(0, .ref (n0 + t)), (1, .int x1)] []
  unfold fX9_blur at hf
  refine j_iload_n C 1 dX9_blur_0 rfl rfl ?_
  refine j_istore_n C [(2, .int x1), (0, .ref (n0 + t)), (1, .int x1)] dX9_blur_1 rfl (Nat.le_of_ble_eq_true rfl) rfl ?_
  refine j_aload_n C 1 dX9_blur_2 rfl rfl ?_
  refine j_iconst C (4 : Int32) rfl dX9_blur_3 ?_
  obtain ⟨⟨v2, M3⟩, e1, hf⟩ := bd hf
  replace hf := un2e hf
  refine j_callV C 1 hk (ent_K _ _ _ _ _ _) rfl (c_X9_draw l G n0 hk e1) gv_RX9_179 ⟨rfl, rfl⟩ (by decide +kernel) ⟨Nat.le_of_ble_eq_true rfl, Nat.le_of_ble_eq_true rfl⟩ rfl rfl (Nat.le_of_ble_eq_true rfl) dX9_blur_4 ?_
  refine j_istore_n C [(3, .int v2), (2, .int x1), (0, .ref (n0 + t)), (1, .int x1)] dX9_blur_7 rfl (Nat.le_of_ble_eq_true rfl) rfl ?_
  refine j_iconst C (0 : Int32) rfl dX9_blur_8 ?_
  refine j_istore C [(4, .int (0 : Int32)), (3, .int v2), (2, .int x1), (0, .ref (n0 + t)), (1, .int x1)] dX9_blur_9 (Nat.le_of_ble_eq_true rfl) rfl ?_
  obtain ⟨⟨a11, M12⟩, e13, hf⟩ := bd hf
  replace hf := un2e hf
  have hx14 : J K M12 36 [(2, .int a11)] [] := by
    refine j_iload_n C 0 dX9_blur_36 rfl rfl ?_
    obtain ⟨rfl, rfl⟩ := Prod.mk.inj (Option.some.inj hf)
    exact hret _ _ dX9_blur_37
  clear hf
  have hl15 : ∀ (n : Nat) (a4 : Int32) (a5 : Int32) (M6 : Mem), lX9_blur_11 t v2 n a4 a5 M6 = some (a11, M12) → J K M6 11 [(0, .ref (n0 + t)), (2, .int a4), (3, .int v2), (4, .int a5)] [] := by
    intro n
    induction n with
    | zero =>
      intro a4 a5 M6 hf
      exact absurd hf (by rw [lX9_blur_11]; exact fun h => by cases h)
    | succ n ih =>
      intro a4 a5 M6 hf
      rw [lX9_blur_11] at hf
      refine j_iload C 3 dX9_blur_11 rfl ?_
      refine j_iload_n C 2 dX9_blur_13 rfl rfl ?_
      refine j_icmp_ge C 36 dX9_blur_14 (by decide) (fun c7 => ?_) (fun c7 => ?_)
      · replace hf := ip c7 hf
        refine j_sub [1] rfl ?_
        cases hf
        exact hx14
      · replace hf := ine c7 hf
        refine j_iload_n C 1 dX9_blur_17 rfl rfl ?_
        refine j_iconst C (1 : Int32) rfl dX9_blur_18 ?_
        refine j_aload_n C 0 dX9_blur_19 rfl rfl ?_
        refine j_bipush C (16 : Int32) rfl dX9_blur_20 ?_
        obtain ⟨⟨v9, M10⟩, e8, hf⟩ := bd hf
        replace hf := un2e hf
        refine j_callV C 1 hk (ent_K _ _ _ _ _ _) rfl (c_X9_draw l G n0 hk e8) gv_RX9_179 ⟨rfl, rfl⟩ (by decide +kernel) ⟨Nat.le_of_ble_eq_true rfl, Nat.le_of_ble_eq_true rfl⟩ rfl rfl (Nat.le_of_ble_eq_true rfl) dX9_blur_22 ?_
        refine j_ishl C dX9_blur_25 ?_
        refine j_iconst C (-1 : Int32) rfl dX9_blur_26 ?_
        refine j_ixor C dX9_blur_27 ?_
        refine j_iand C dX9_blur_28 ?_
        refine j_istore_n C [(2, .int (a4 &&& (((1 : Int32) <<< (v9 &&& 31)) ^^^ (-1 : Int32)))), (0, .ref (n0 + t)), (3, .int v2), (4, .int a5)] dX9_blur_29 rfl (Nat.le_of_ble_eq_true rfl) rfl ?_
        refine j_iinc C 3 (a5 + 1) [(4, .int (a5 + 1)), (2, .int (a4 &&& (((1 : Int32) <<< (v9 &&& 31)) ^^^ (-1 : Int32)))), (0, .ref (n0 + t)), (3, .int v2)] dX9_blur_30 rfl rfl (Nat.le_of_ble_eq_true rfl) rfl ?_
        refine j_goto C 11 dX9_blur_33 (by decide) ?_
        refine j_sub [2, 1, 3, 0] rfl ?_
        exact ih _ _ _ hf
  refine j_sub [3, 2, 1, 0] rfl ?_
  exact hl15 FUEL x1 (0 : Int32) M3 e13
def lX9_bakeBatch_72 (t : Nat) (v2 : Int32) (v4 : Int32) (v6 : Int32) (v8 : Int32) (z12 : Bool) : Nat → Int32 → Mem → Option Mem
  | 0, _, _ => none
  | n + 1, a15, M16 =>
  if v6 ≤ a15 then (some M16)
  else ((fX9_blur t v8 M16).bind (un2 fun v19 M20 =>
  (fX6_add (t + 22) v2 v4 (M16.1 t 6) z12 v8 v19 M20).bind fun M22 =>
  lX9_bakeBatch_72 t v2 v4 v6 v8 z12 n (a15 + 1) M22))

def fX9_bakeBatch (t : Nat) (x1 : Int32) (x2 : Int32) (M : Mem) : Option Mem :=
  (fX1_value (t + 8) x1 (0 : Int32) M).bind fun v2 =>
  (fX1_value (t + 8) x1 (1 : Int32) M).bind fun v4 =>
  (fX1_value (t + 8) x1 (2 : Int32) M).bind fun v6 =>
  (fX4_value (t + 1) v2 (0 : Int32) M).bind fun v8 =>
  (fX3_paleBelow v4 M).bind fun v10 =>
  (if v10 ≤ x2 then (some false)
  else (some true)).bind (fun z12 => (fX4_putIn (t + 1) v2 v6 M).bind fun M14 =>
  (lX9_bakeBatch_72 t v2 v4 v6 v8 z12 FUEL (0 : Int32) M14).bind (fun M23 => some M23))

def rX9_bakeBatch : Room := { frames := 2, cells := 0, slots := 0, locals := 50 }
set_option maxRecDepth 100000 in
set_option maxHeartbeats 4000000 in
theorem c_X9_bakeBatch (l : Launch) (G : Gx) (n0 : Nat) {t : Nat} {x1 : Int32} {x2 : Int32} (hk : lay[t]? = some (tK 9)) {M : Mem} {M' : Mem} (hf : fX9_bakeBatch t x1 x2 M = some M') : Ct l yX9_bakeBatch cX9_bakeBatch 9 none rX9_bakeBatch G n0 [.ref (n0 + t), .int x1, .int x2] M none M' := by
  refine ct_void (cc := cX9_bakeBatch) (maxL := 9) rfl (Nat.le_of_ble_eq_true rfl) ?_
  intro K C hret
  have C : Ok K l rX9_bakeBatch cX9_bakeBatch RX9 G n0 9 := C
  show J K M 0 [(0, .ref (n0 + t)), (1, .int x1), (2, .int x2)] []
  unfold fX9_bakeBatch at hf
  refine j_aload_n C 0 dX9_bakeBatch_0 rfl rfl ?_
  refine g_X9_batches C tw1_116 hk (t + 8) rfl dX9_bakeBatch_1 ?_
  refine j_iload_n C 1 dX9_bakeBatch_4 rfl rfl ?_
  refine j_iconst C (0 : Int32) rfl dX9_bakeBatch_5 ?_
  obtain ⟨v2, e1, hf⟩ := bd hf
  refine j_callV C 2 (k9_8 hk) (ent_K _ _ _ _ _ _) rfl (c_X1_value l G n0 (k9_8 hk) e1) gv_RX9_165 ⟨rfl, rfl⟩ (by decide +kernel) ⟨Nat.le_of_ble_eq_true rfl, Nat.le_of_ble_eq_true rfl⟩ rfl rfl (Nat.le_of_ble_eq_true rfl) dX9_bakeBatch_6 ?_
  refine j_istore_n C [(3, .int v2), (0, .ref (n0 + t)), (1, .int x1), (2, .int x2)] dX9_bakeBatch_9 rfl (Nat.le_of_ble_eq_true rfl) rfl ?_
  refine j_aload_n C 1 dX9_bakeBatch_10 rfl rfl ?_
  refine g_X9_batches C tw1_116 hk (t + 8) rfl dX9_bakeBatch_11 ?_
  refine j_iload_n C 2 dX9_bakeBatch_14 rfl rfl ?_
  refine j_iconst C (1 : Int32) rfl dX9_bakeBatch_15 ?_
  obtain ⟨v4, e3, hf⟩ := bd hf
  refine j_callV C 2 (k9_8 hk) (ent_K _ _ _ _ _ _) rfl (c_X1_value l G n0 (k9_8 hk) e3) gv_RX9_165 ⟨rfl, rfl⟩ (by decide +kernel) ⟨Nat.le_of_ble_eq_true rfl, Nat.le_of_ble_eq_true rfl⟩ rfl rfl (Nat.le_of_ble_eq_true rfl) dX9_bakeBatch_16 ?_
  refine j_istore C [(4, .int v4), (3, .int v2), (0, .ref (n0 + t)), (1, .int x1), (2, .int x2)] dX9_bakeBatch_19 (Nat.le_of_ble_eq_true rfl) rfl ?_
  refine j_aload_n C 2 dX9_bakeBatch_21 rfl rfl ?_
  refine g_X9_batches C tw1_116 hk (t + 8) rfl dX9_bakeBatch_22 ?_
  refine j_iload_n C 3 dX9_bakeBatch_25 rfl rfl ?_
  refine j_iconst C (2 : Int32) rfl dX9_bakeBatch_26 ?_
  obtain ⟨v6, e5, hf⟩ := bd hf
  refine j_callV C 2 (k9_8 hk) (ent_K _ _ _ _ _ _) rfl (c_X1_value l G n0 (k9_8 hk) e5) gv_RX9_165 ⟨rfl, rfl⟩ (by decide +kernel) ⟨Nat.le_of_ble_eq_true rfl, Nat.le_of_ble_eq_true rfl⟩ rfl rfl (Nat.le_of_ble_eq_true rfl) dX9_bakeBatch_27 ?_
  refine j_istore C [(5, .int v6), (4, .int v4), (3, .int v2), (0, .ref (n0 + t)), (1, .int x1), (2, .int x2)] dX9_bakeBatch_30 (Nat.le_of_ble_eq_true rfl) rfl ?_
  refine j_aload_n C 3 dX9_bakeBatch_32 rfl rfl ?_
  refine g_X9_households C tw1_114 hk (t + 1) rfl dX9_bakeBatch_33 ?_
  refine j_iload_n C 2 dX9_bakeBatch_36 rfl rfl ?_
  refine j_iconst C (0 : Int32) rfl dX9_bakeBatch_37 ?_
  obtain ⟨v8, e7, hf⟩ := bd hf
  refine j_callV C 2 (k9_1 hk) (ent_K _ _ _ _ _ _) rfl (c_X4_value l G n0 (k9_1 hk) e7) gv_RX9_91 ⟨rfl, rfl⟩ (by decide +kernel) ⟨Nat.le_of_ble_eq_true rfl, Nat.le_of_ble_eq_true rfl⟩ rfl rfl (Nat.le_of_ble_eq_true rfl) dX9_bakeBatch_38 ?_
  refine j_istore C [(6, .int v8), (5, .int v6), (4, .int v4), (3, .int v2), (0, .ref (n0 + t)), (1, .int x1), (2, .int x2)] dX9_bakeBatch_41 (Nat.le_of_ble_eq_true rfl) rfl ?_
  refine j_iload_n C 6 dX9_bakeBatch_43 rfl rfl ?_
  refine j_iload C 2 dX9_bakeBatch_44 rfl ?_
  obtain ⟨v10, e9, hf⟩ := bd hf
  refine j_callS C 1 (c_X3_paleBelow l G n0 e9) gs_RX9_166 ⟨rfl, rfl⟩ (by decide +kernel) ⟨Nat.le_of_ble_eq_true rfl, Nat.le_of_ble_eq_true rfl⟩ rfl rfl (Nat.le_of_ble_eq_true rfl) dX9_bakeBatch_46 ?_
  obtain ⟨z12, e24, hf⟩ := bd hf
  have hj25 : J K M 57 [(0, .ref (n0 + t)), (3, .int v2), (4, .int v4), (5, .int v6), (6, .int v8)] [.int (bI z12)] := by
    refine j_istore C [(7, .int (bI z12)), (0, .ref (n0 + t)), (3, .int v2), (4, .int v4), (5, .int v6), (6, .int v8)] dX9_bakeBatch_57 (Nat.le_of_ble_eq_true rfl) rfl ?_
    refine j_aload_n C 1 dX9_bakeBatch_59 rfl rfl ?_
    refine g_X9_households C tw1_114 hk (t + 1) rfl dX9_bakeBatch_60 ?_
    refine j_iload_n C 2 dX9_bakeBatch_63 rfl rfl ?_
    refine j_iload C 4 dX9_bakeBatch_64 rfl ?_
    obtain ⟨M14, e13, hf⟩ := bd hf
    refine j_callV C 2 (k9_1 hk) (ent_K _ _ _ _ _ _) rfl (c_X4_putIn l G n0 (k9_1 hk) e13) gv_RX9_169 ⟨rfl, rfl⟩ (by decide +kernel) ⟨Nat.le_of_ble_eq_true rfl, Nat.le_of_ble_eq_true rfl⟩ rfl rfl (Nat.le_of_ble_eq_true rfl) dX9_bakeBatch_66 ?_
    refine j_iconst C (0 : Int32) rfl dX9_bakeBatch_69 ?_
    refine j_istore C [(8, .int (0 : Int32)), (7, .int (bI z12)), (0, .ref (n0 + t)), (3, .int v2), (4, .int v4), (5, .int v6), (6, .int v8)] dX9_bakeBatch_70 (Nat.le_of_ble_eq_true rfl) rfl ?_
    obtain ⟨M23, e26, hf⟩ := bd hf
    have hx27 : J K M23 109 [] [] := by
      obtain rfl := Option.some.inj hf
      exact hret _ _ dX9_bakeBatch_109
    clear hf
    have hl28 : ∀ (n : Nat) (a15 : Int32) (M16 : Mem), lX9_bakeBatch_72 t v2 v4 v6 v8 z12 n a15 M16 = some M23 → J K M16 72 [(0, .ref (n0 + t)), (3, .int v2), (4, .int v4), (5, .int v6), (6, .int v8), (7, .int (bI z12)), (8, .int a15)] [] := by
      intro n
      induction n with
      | zero =>
        intro a15 M16 hf
        exact absurd hf (by rw [lX9_bakeBatch_72]; exact fun h => by cases h)
      | succ n ih =>
        intro a15 M16 hf
        rw [lX9_bakeBatch_72] at hf
        refine j_iload C 6 dX9_bakeBatch_72 rfl ?_
        refine j_iload C 3 dX9_bakeBatch_74 rfl ?_
        refine j_icmp_ge C 109 dX9_bakeBatch_76 (by decide) (fun c17 => ?_) (fun c17 => ?_)
        · replace hf := ip c17 hf
          refine j_sub [] rfl ?_
          cases hf
          exact hx27
        · replace hf := ine c17 hf
          refine j_aload_n C 0 dX9_bakeBatch_79 rfl rfl ?_
          refine g_X9_loaves C tw1_120 hk (t + 22) rfl dX9_bakeBatch_80 ?_
          refine j_iload_n C 1 dX9_bakeBatch_83 rfl rfl ?_
          refine j_iload C 2 dX9_bakeBatch_84 rfl ?_
          refine j_aload_n C 0 dX9_bakeBatch_86 rfl rfl ?_
          refine g_X9_days C tw1_126 hk dX9_bakeBatch_87 ?_
          refine j_iload C 5 dX9_bakeBatch_90 rfl ?_
          refine j_iload C 4 dX9_bakeBatch_92 rfl ?_
          refine j_aload_n C 0 dX9_bakeBatch_94 rfl rfl ?_
          refine j_iload C 4 dX9_bakeBatch_95 rfl ?_
          obtain ⟨⟨v19, M20⟩, e18, hf⟩ := bd hf
          replace hf := un2e hf
          refine j_callV C 1 hk (ent_K _ _ _ _ _ _) rfl (c_X9_blur l G n0 hk e18) gv_RX9_172 ⟨rfl, rfl⟩ (by decide +kernel) ⟨Nat.le_of_ble_eq_true rfl, Nat.le_of_ble_eq_true rfl⟩ rfl rfl (Nat.le_of_ble_eq_true rfl) dX9_bakeBatch_97 ?_
          obtain ⟨M22, e21, hf⟩ := bd hf
          refine j_callV C 6 (k9_22 hk) (ent_K _ _ _ _ _ _) rfl (c_X6_add l G n0 (k9_22 hk) e21) gv_RX9_175 ⟨rfl, rfl⟩ (by decide +kernel) ⟨Nat.le_of_ble_eq_true rfl, Nat.le_of_ble_eq_true rfl⟩ rfl rfl (Nat.le_of_ble_eq_true rfl) dX9_bakeBatch_100 ?_
          refine j_iinc C 6 (a15 + 1) [(8, .int (a15 + 1)), (0, .ref (n0 + t)), (3, .int v2), (4, .int v4), (5, .int v6), (6, .int v8), (7, .int (bI z12))] dX9_bakeBatch_103 rfl rfl (Nat.le_of_ble_eq_true rfl) rfl ?_
          refine j_goto C 72 dX9_bakeBatch_106 (by decide) ?_
          refine j_sub [1, 2, 3, 4, 5, 6, 0] rfl ?_
          exact ih _ _ hf
    refine j_sub [2, 3, 4, 5, 6, 1, 0] rfl ?_
    exact hl28 FUEL (0 : Int32) M14 e26
  clear hf
  have hf := e24
  refine j_icmp_ge C 56 dX9_bakeBatch_49 (by decide) (fun c11 => ?_) (fun c11 => ?_)
  · replace hf := ip c11 hf
    refine j_iconst C (0 : Int32) rfl dX9_bakeBatch_56 ?_
    cases hf
    refine j_sub [4, 3, 2, 1, 0] rfl ?_
    exact hj25
  · replace hf := ine c11 hf
    refine j_iconst C (1 : Int32) rfl dX9_bakeBatch_52 ?_
    refine j_goto C 57 dX9_bakeBatch_53 (by decide) ?_
    cases hf
    refine j_sub [4, 3, 2, 1, 0] rfl ?_
    exact hj25
def lX9_bakeLoads_18 (t : Nat) (a2 : Int32) : Nat → Int32 → Int32 → Mem → Option (Int32 × Mem)
  | 0, _, _, _ => none
  | n + 1, a7, a8, M9 =>
  (fX3_size M9).bind fun v11 =>
  if v11 ≤ a8 then (some (a7, M9))
  else ((fX3_loadAt a8 M9).bind fun v14 =>
  if v14 = a2 then ((fX3_batchAt a8 M9).bind fun v17 =>
  (fX5_value (t + 14) a2 (4 : Int32) M9).bind fun v19 =>
  (fX9_bakeBatch t v17 v19 M9).bind fun M21 =>
  (fX1_value (t + 8) v17 (0 : Int32) M21).bind fun v23 =>
  lX9_bakeLoads_18 t a2 n (a7 ||| ((1 : Int32) <<< (v23 &&& 31))) (a8 + 1) M21)
  else (lX9_bakeLoads_18 t a2 n a7 (a8 + 1) M9))

def lX9_bakeLoads_4 (t : Nat) : Nat → Int32 → Int32 → Mem → Option (Int32 × Mem)
  | 0, _, _, _ => none
  | n + 1, a1, a2, M3 =>
  (fX5_size (t + 14) M3).bind fun v5 =>
  if v5 ≤ a2 then (some (a1, M3))
  else ((lX9_bakeLoads_18 t a2 FUEL a1 (0 : Int32) M3).bind (un2 fun a24 M25 => lX9_bakeLoads_4 t n a24 (a2 + 1) M25))

def fX9_bakeLoads (t : Nat) (M : Mem) : Option (Int32 × Mem) :=
  (lX9_bakeLoads_4 t FUEL (0 : Int32) (0 : Int32) M).bind (un2 fun a26 M27 => some (a26, M27))

def rX9_bakeLoads : Room := { frames := 3, cells := 0, slots := 0, locals := 78 }
set_option maxRecDepth 100000 in
set_option maxHeartbeats 4000000 in
theorem c_X9_bakeLoads (l : Launch) (G : Gx) (n0 : Nat) {t : Nat} (hk : lay[t]? = some (tK 9)) {M : Mem} {r : Int32} {M' : Mem} (hf : fX9_bakeLoads t M = some (r, M')) : Ct l yX9_bakeLoads cX9_bakeLoads 6 (some .int) rX9_bakeLoads G n0 [.ref (n0 + t), .ref (n0 + 33)] M (some (.int r)) M' := by
  refine ct_int (cc := cX9_bakeLoads) (maxL := 6) rfl (Nat.le_of_ble_eq_true rfl) ?_
  intro K C hret
  have C : Ok K l rX9_bakeLoads cX9_bakeLoads RX9 G n0 6 := C
  show J K M 0 [(0, .ref (n0 + t)), (1, .ref (n0 + 33))] []
  unfold fX9_bakeLoads at hf
  refine j_iconst C (0 : Int32) rfl dX9_bakeLoads_0 ?_
  refine j_istore_n C [(2, .int (0 : Int32)), (0, .ref (n0 + t)), (1, .ref (n0 + 33))] dX9_bakeLoads_1 rfl (Nat.le_of_ble_eq_true rfl) rfl ?_
  refine j_iconst C (0 : Int32) rfl dX9_bakeLoads_2 ?_
  refine j_istore_n C [(3, .int (0 : Int32)), (2, .int (0 : Int32)), (0, .ref (n0 + t)), (1, .ref (n0 + 33))] dX9_bakeLoads_3 rfl (Nat.le_of_ble_eq_true rfl) rfl ?_
  obtain ⟨⟨a26, M27⟩, e28, hf⟩ := bd hf
  replace hf := un2e hf
  have hx29 : J K M27 87 [(2, .int a26)] [] := by
    refine j_iload_n C 0 dX9_bakeLoads_87 rfl rfl ?_
    obtain ⟨rfl, rfl⟩ := Prod.mk.inj (Option.some.inj hf)
    exact hret _ _ dX9_bakeLoads_88
  clear hf
  have hl30 : ∀ (n : Nat) (a1 : Int32) (a2 : Int32) (M3 : Mem), lX9_bakeLoads_4 t n a1 a2 M3 = some (a26, M27) → J K M3 4 [(0, .ref (n0 + t)), (1, .ref (n0 + 33)), (2, .int a1), (3, .int a2)] [] := by
    intro n
    induction n with
    | zero =>
      intro a1 a2 M3 hf
      exact absurd hf (by rw [lX9_bakeLoads_4]; exact fun h => by cases h)
    | succ n ih =>
      intro a1 a2 M3 hf
      rw [lX9_bakeLoads_4] at hf
      refine j_iload_n C 3 dX9_bakeLoads_4 rfl rfl ?_
      refine j_aload_n C 0 dX9_bakeLoads_5 rfl rfl ?_
      refine g_X9_loads C tw1_118 hk (t + 14) rfl dX9_bakeLoads_6 ?_
      obtain ⟨v5, e4, hf⟩ := bd hf
      refine j_callV C 0 (k9_14 hk) (ent_K _ _ _ _ _ _) rfl (c_X5_size l G n0 (k9_14 hk) e4) gv_RX9_152 ⟨rfl, rfl⟩ (by decide +kernel) ⟨Nat.le_of_ble_eq_true rfl, Nat.le_of_ble_eq_true rfl⟩ rfl rfl (Nat.le_of_ble_eq_true rfl) dX9_bakeLoads_9 ?_
      refine j_icmp_ge C 87 dX9_bakeLoads_12 (by decide) (fun c6 => ?_) (fun c6 => ?_)
      · replace hf := ip c6 hf
        refine j_sub [2] rfl ?_
        cases hf
        exact hx29
      · replace hf := ine c6 hf
        refine j_iconst C (0 : Int32) rfl dX9_bakeLoads_15 ?_
        refine j_istore C [(4, .int (0 : Int32)), (0, .ref (n0 + t)), (1, .ref (n0 + 33)), (2, .int a1), (3, .int a2)] dX9_bakeLoads_16 (Nat.le_of_ble_eq_true rfl) rfl ?_
        obtain ⟨⟨a24, M25⟩, e33, hf⟩ := bd hf
        replace hf := un2e hf
        have hx34 : J K M25 81 [(0, .ref (n0 + t)), (1, .ref (n0 + 33)), (2, .int a24), (3, .int a2)] [] := by
          refine j_iinc C 3 (a2 + 1) [(3, .int (a2 + 1)), (0, .ref (n0 + t)), (1, .ref (n0 + 33)), (2, .int a24)] dX9_bakeLoads_81 rfl rfl (Nat.le_of_ble_eq_true rfl) rfl ?_
          refine j_goto C 4 dX9_bakeLoads_84 (by decide) ?_
          refine j_sub [1, 2, 3, 0] rfl ?_
          exact ih _ _ _ hf
        clear hf
        have hl35 : ∀ (n : Nat) (a7 : Int32) (a8 : Int32) (M9 : Mem), lX9_bakeLoads_18 t a2 n a7 a8 M9 = some (a24, M25) → J K M9 18 [(0, .ref (n0 + t)), (1, .ref (n0 + 33)), (2, .int a7), (3, .int a2), (4, .int a8)] [] := by
          intro n
          induction n with
          | zero =>
            intro a7 a8 M9 hf
            exact absurd hf (by rw [lX9_bakeLoads_18]; exact fun h => by cases h)
          | succ n ih =>
            intro a7 a8 M9 hf
            rw [lX9_bakeLoads_18] at hf
            refine j_iload C 4 dX9_bakeLoads_18 rfl ?_
            refine j_aload_n C 1 dX9_bakeLoads_20 rfl rfl ?_
            obtain ⟨v11, e10, hf⟩ := bd hf
            refine j_callV C 0 lc33 (ent_K _ _ _ _ _ _) rfl (c_X3_size l G n0 e10) gv_RX9_153 ⟨rfl, rfl⟩ (by decide +kernel) ⟨Nat.le_of_ble_eq_true rfl, Nat.le_of_ble_eq_true rfl⟩ rfl rfl (Nat.le_of_ble_eq_true rfl) dX9_bakeLoads_21 ?_
            refine j_icmp_ge C 81 dX9_bakeLoads_24 (by decide) (fun c12 => ?_) (fun c12 => ?_)
            · replace hf := ip c12 hf
              refine j_sub [0, 1, 2, 3] rfl ?_
              cases hf
              exact hx34
            · replace hf := ine c12 hf
              refine j_aload_n C 1 dX9_bakeLoads_27 rfl rfl ?_
              refine j_iload C 4 dX9_bakeLoads_28 rfl ?_
              obtain ⟨v14, e13, hf⟩ := bd hf
              refine j_callV C 1 lc33 (ent_K _ _ _ _ _ _) rfl (c_X3_loadAt l G n0 e13) gv_RX9_154 ⟨rfl, rfl⟩ (by decide +kernel) ⟨Nat.le_of_ble_eq_true rfl, Nat.le_of_ble_eq_true rfl⟩ rfl rfl (Nat.le_of_ble_eq_true rfl) dX9_bakeLoads_30 ?_
              refine j_iload_n C 3 dX9_bakeLoads_33 rfl rfl ?_
              refine j_icmp_ne C 75 dX9_bakeLoads_34 (by decide) (fun c15 => ?_) (fun c15 => ?_)
              · replace hf := ine c15 hf
                refine j_iinc C 4 (a8 + 1) [(4, .int (a8 + 1)), (0, .ref (n0 + t)), (1, .ref (n0 + 33)), (2, .int a7), (3, .int a2)] dX9_bakeLoads_75 rfl rfl (Nat.le_of_ble_eq_true rfl) rfl ?_
                refine j_goto C 18 dX9_bakeLoads_78 (by decide) ?_
                refine j_sub [1, 2, 3, 4, 0] rfl ?_
                exact ih _ _ _ hf
              · replace hf := ip c15 hf
                refine j_aload_n C 1 dX9_bakeLoads_37 rfl rfl ?_
                refine j_iload C 4 dX9_bakeLoads_38 rfl ?_
                obtain ⟨v17, e16, hf⟩ := bd hf
                refine j_callV C 1 lc33 (ent_K _ _ _ _ _ _) rfl (c_X3_batchAt l G n0 e16) gv_RX9_157 ⟨rfl, rfl⟩ (by decide +kernel) ⟨Nat.le_of_ble_eq_true rfl, Nat.le_of_ble_eq_true rfl⟩ rfl rfl (Nat.le_of_ble_eq_true rfl) dX9_bakeLoads_40 ?_
                refine j_istore C [(5, .int v17), (0, .ref (n0 + t)), (1, .ref (n0 + 33)), (2, .int a7), (3, .int a2), (4, .int a8)] dX9_bakeLoads_43 (Nat.le_of_ble_eq_true rfl) rfl ?_
                refine j_aload_n C 1 dX9_bakeLoads_45 rfl rfl ?_
                refine j_iload C 0 dX9_bakeLoads_46 rfl ?_
                refine j_aload_n C 1 dX9_bakeLoads_48 rfl rfl ?_
                refine g_X9_loads C tw1_118 hk (t + 14) rfl dX9_bakeLoads_49 ?_
                refine j_iload_n C 4 dX9_bakeLoads_52 rfl rfl ?_
                refine j_iconst C (4 : Int32) rfl dX9_bakeLoads_53 ?_
                obtain ⟨v19, e18, hf⟩ := bd hf
                refine j_callV C 2 (k9_14 hk) (ent_K _ _ _ _ _ _) rfl (c_X5_value l G n0 (k9_14 hk) e18) gv_RX9_160 ⟨rfl, rfl⟩ (by decide +kernel) ⟨Nat.le_of_ble_eq_true rfl, Nat.le_of_ble_eq_true rfl⟩ rfl rfl (Nat.le_of_ble_eq_true rfl) dX9_bakeLoads_54 ?_
                obtain ⟨M21, e20, hf⟩ := bd hf
                refine j_callV C 2 hk (ent_K _ _ _ _ _ _) rfl (c_X9_bakeBatch l G n0 hk e20) gv_RX9_161 ⟨rfl, rfl⟩ (by decide +kernel) ⟨Nat.le_of_ble_eq_true rfl, Nat.le_of_ble_eq_true rfl⟩ rfl rfl (Nat.le_of_ble_eq_true rfl) dX9_bakeLoads_57 ?_
                refine j_iload_n C 3 dX9_bakeLoads_60 rfl rfl ?_
                refine j_iconst C (1 : Int32) rfl dX9_bakeLoads_61 ?_
                refine j_aload_n C 1 dX9_bakeLoads_62 rfl rfl ?_
                refine g_X9_batches C tw1_116 hk (t + 8) rfl dX9_bakeLoads_63 ?_
                refine j_iload C 0 dX9_bakeLoads_66 rfl ?_
                refine j_iconst C (0 : Int32) rfl dX9_bakeLoads_68 ?_
                obtain ⟨v23, e22, hf⟩ := bd hf
                refine j_callV C 2 (k9_8 hk) (ent_K _ _ _ _ _ _) rfl (c_X1_value l G n0 (k9_8 hk) e22) gv_RX9_165 ⟨rfl, rfl⟩ (by decide +kernel) ⟨Nat.le_of_ble_eq_true rfl, Nat.le_of_ble_eq_true rfl⟩ rfl rfl (Nat.le_of_ble_eq_true rfl) dX9_bakeLoads_69 ?_
                refine j_ishl C dX9_bakeLoads_72 ?_
                refine j_ior C dX9_bakeLoads_73 ?_
                refine j_istore_n C [(2, .int (a7 ||| ((1 : Int32) <<< (v23 &&& 31)))), (5, .int v17), (0, .ref (n0 + t)), (1, .ref (n0 + 33)), (3, .int a2), (4, .int a8)] dX9_bakeLoads_74 rfl (Nat.le_of_ble_eq_true rfl) rfl ?_
                refine j_iinc C 5 (a8 + 1) [(4, .int (a8 + 1)), (2, .int (a7 ||| ((1 : Int32) <<< (v23 &&& 31)))), (5, .int v17), (0, .ref (n0 + t)), (1, .ref (n0 + 33)), (3, .int a2)] dX9_bakeLoads_75 rfl rfl (Nat.le_of_ble_eq_true rfl) rfl ?_
                refine j_goto C 18 dX9_bakeLoads_78 (by decide) ?_
                refine j_sub [3, 4, 1, 5, 0] rfl ?_
                exact ih _ _ _ hf
        refine j_sub [1, 2, 3, 4, 0] rfl ?_
        exact hl35 FUEL a1 (0 : Int32) M3 e33
  refine j_sub [2, 3, 1, 0] rfl ?_
  exact hl30 FUEL (0 : Int32) (0 : Int32) M e28
def lX3_dough_4 (o1 : Nat) (M : Mem) : Nat → Int32 → Int32 → Option Int32
  | 0, _, _ => none
  | n + 1, a1, a2 =>
  if (M.1 33 4) ≤ a2 then (some a1)
  else ((fX3_loadAt a2 M).bind fun v5 =>
  if v5 = (-1 : Int32) then ((fX3_batchAt a2 M).bind fun v8 =>
  (fX1_value o1 v8 (2 : Int32) M).bind fun v10 =>
  lX3_dough_4 o1 M n (a1 + v10) (a2 + 1))
  else (lX3_dough_4 o1 M n a1 (a2 + 1)))

def fX3_dough (o1 : Nat) (M : Mem) : Option Int32 :=
  (lX3_dough_4 o1 M FUEL (0 : Int32) (0 : Int32)).bind (fun a11 => some a11)

def rX3_dough : Room := { frames := 2, cells := 0, slots := 0, locals := 44 }
set_option maxRecDepth 100000 in
set_option maxHeartbeats 4000000 in
theorem c_X3_dough (l : Launch) (G : Gx) (n0 : Nat) {o1 : Nat} (hk1 : lay[o1]? = some (tK 1)) {M : Mem} {r : Int32} (hf : fX3_dough o1 M = some r) : Ct l yX3_dough cX3_dough 4 (some .int) rX3_dough G n0 [.ref (n0 + 33), .ref (n0 + o1)] M (some (.int r)) M := by
  refine ct_int (cc := cX3_dough) (maxL := 4) rfl (Nat.le_of_ble_eq_true rfl) ?_
  intro K C hret
  have C : Ok K l rX3_dough cX3_dough RX3 G n0 4 := C
  show J K M 0 [(0, .ref (n0 + 33)), (1, .ref (n0 + o1))] []
  unfold fX3_dough at hf
  refine j_iconst C (0 : Int32) rfl dX3_dough_0 ?_
  refine j_istore_n C [(2, .int (0 : Int32)), (0, .ref (n0 + 33)), (1, .ref (n0 + o1))] dX3_dough_1 rfl (Nat.le_of_ble_eq_true rfl) rfl ?_
  refine j_iconst C (0 : Int32) rfl dX3_dough_2 ?_
  refine j_istore_n C [(3, .int (0 : Int32)), (2, .int (0 : Int32)), (0, .ref (n0 + 33)), (1, .ref (n0 + o1))] dX3_dough_3 rfl (Nat.le_of_ble_eq_true rfl) rfl ?_
  obtain ⟨a11, e12, hf⟩ := bd hf
  have hx13 : J K M 40 [(2, .int a11)] [] := by
    refine j_iload_n C 0 dX3_dough_40 rfl rfl ?_
    obtain rfl := Option.some.inj hf
    exact hret _ _ dX3_dough_41
  clear hf
  have hl14 : ∀ (n : Nat) (a1 : Int32) (a2 : Int32), lX3_dough_4 o1 M n a1 a2 = some a11 → J K M 4 [(0, .ref (n0 + 33)), (1, .ref (n0 + o1)), (2, .int a1), (3, .int a2)] [] := by
    intro n
    induction n with
    | zero =>
      intro a1 a2 hf
      exact absurd hf (by rw [lX3_dough_4]; exact fun h => by cases h)
    | succ n ih =>
      intro a1 a2 hf
      rw [lX3_dough_4] at hf
      refine j_iload_n C 3 dX3_dough_4 rfl rfl ?_
      refine j_aload_n C 0 dX3_dough_5 rfl rfl ?_
      refine g_X3_count C tw1_159 lc33 dX3_dough_6 ?_
      refine j_icmp_ge C 40 dX3_dough_9 (by decide) (fun c3 => ?_) (fun c3 => ?_)
      · replace hf := ip c3 hf
        refine j_sub [2] rfl ?_
        cases hf
        exact hx13
      · replace hf := ine c3 hf
        refine j_aload_n C 0 dX3_dough_12 rfl rfl ?_
        refine j_iload_n C 3 dX3_dough_13 rfl rfl ?_
        obtain ⟨v5, e4, hf⟩ := bd hf
        refine j_callV C 1 lc33 (ent_K _ _ _ _ _ _) rfl (c_X3_loadAt l G n0 e4) gv_RX3_89 ⟨rfl, rfl⟩ (by decide +kernel) ⟨Nat.le_of_ble_eq_true rfl, Nat.le_of_ble_eq_true rfl⟩ rfl rfl (Nat.le_of_ble_eq_true rfl) dX3_dough_14 ?_
        refine j_iconst C (-1 : Int32) rfl dX3_dough_17 ?_
        refine j_icmp_ne C 34 dX3_dough_18 (by decide) (fun c6 => ?_) (fun c6 => ?_)
        · replace hf := ine c6 hf
          refine j_iinc C 3 (a2 + 1) [(3, .int (a2 + 1)), (0, .ref (n0 + 33)), (1, .ref (n0 + o1)), (2, .int a1)] dX3_dough_34 rfl rfl (Nat.le_of_ble_eq_true rfl) rfl ?_
          refine j_goto C 4 dX3_dough_37 (by decide) ?_
          refine j_sub [1, 2, 3, 0] rfl ?_
          exact ih _ _ hf
        · replace hf := ip c6 hf
          refine j_iload_n C 2 dX3_dough_21 rfl rfl ?_
          refine j_aload_n C 1 dX3_dough_22 rfl rfl ?_
          refine j_aload_n C 0 dX3_dough_23 rfl rfl ?_
          refine j_iload_n C 3 dX3_dough_24 rfl rfl ?_
          obtain ⟨v8, e7, hf⟩ := bd hf
          refine j_callV C 1 lc33 (ent_K _ _ _ _ _ _) rfl (c_X3_batchAt l G n0 e7) gv_RX3_85 ⟨rfl, rfl⟩ (by decide +kernel) ⟨Nat.le_of_ble_eq_true rfl, Nat.le_of_ble_eq_true rfl⟩ rfl rfl (Nat.le_of_ble_eq_true rfl) dX3_dough_25 ?_
          refine j_iconst C (2 : Int32) rfl dX3_dough_28 ?_
          obtain ⟨v10, e9, hf⟩ := bd hf
          refine j_callV C 2 hk1 (ent_K _ _ _ _ _ _) rfl (c_X1_value l G n0 hk1 e9) gv_RX3_41 ⟨rfl, rfl⟩ (by decide +kernel) ⟨Nat.le_of_ble_eq_true rfl, Nat.le_of_ble_eq_true rfl⟩ rfl rfl (Nat.le_of_ble_eq_true rfl) dX3_dough_29 ?_
          refine j_iadd C dX3_dough_32 ?_
          refine j_istore_n C [(2, .int (a1 + v10)), (0, .ref (n0 + 33)), (1, .ref (n0 + o1)), (3, .int a2)] dX3_dough_33 rfl (Nat.le_of_ble_eq_true rfl) rfl ?_
          refine j_iinc C 3 (a2 + 1) [(3, .int (a2 + 1)), (2, .int (a1 + v10)), (0, .ref (n0 + 33)), (1, .ref (n0 + o1))] dX3_dough_34 rfl rfl (Nat.le_of_ble_eq_true rfl) rfl ?_
          refine j_goto C 4 dX3_dough_37 (by decide) ?_
          refine j_sub [2, 3, 1, 0] rfl ?_
          exact ih _ _ hf
  refine j_sub [2, 3, 1, 0] rfl ?_
  exact hl14 FUEL (0 : Int32) (0 : Int32) e12
def fX3_heat  (M : Mem) : Option Int32 :=
  some (M.1 33 6)

def rX3_heat : Room := { frames := 0, cells := 0, slots := 0, locals := 0 }
set_option maxRecDepth 100000 in
set_option maxHeartbeats 4000000 in
theorem c_X3_heat (l : Launch) (G : Gx) (n0 : Nat) {M : Mem} {r : Int32} (hf : fX3_heat M = some r) : Ct l yX3_heat cX3_heat 1 (some .int) rX3_heat G n0 [.ref (n0 + 33)] M (some (.int r)) M := by
  refine ct_int (cc := cX3_heat) (maxL := 1) rfl (Nat.le_of_ble_eq_true rfl) ?_
  intro K C hret
  have C : Ok K l rX3_heat cX3_heat RX3 G n0 1 := C
  show J K M 0 [(0, .ref (n0 + 33))] []
  unfold fX3_heat at hf
  refine j_aload_n C 0 dX3_heat_0 rfl rfl ?_
  refine g_X3_heat C tw1_161 lc33 dX3_heat_1 ?_
  obtain rfl := Option.some.inj hf
  exact hret _ _ dX3_heat_4
def fX9_haveDay (t : Nat) (x1 : Int32) (M : Mem) : Option (Int32 × Mem) :=
  (fX6_cameOut (t + 22) M).bind fun v2 =>
  (fX9_arrangeNextDay t M).bind fun M4 =>
  (fX4_bringWood (t + 1) x1 M4).bind fun M6 =>
  (fX9_heatWith t x1 M6).bind fun v8 =>
  (fX3_fire (t + 8) v8 M6).bind fun M10 =>
  (fX3_loads M10).bind fun ue11 =>
  (fX5_copyFrom (t + 14) 37 M10).bind fun M13 =>
  (fX9_bakeLoads t M13).bind (un2 fun v15 M16 =>
  (fX6_sortFrom (t + 22) v2 (t + 1) v15 M16).bind fun M18 =>
  (fX3_dough (t + 8) M18).bind fun v20 =>
  (pf M18 t 7 ((M18.1 t 7) + v20)).bind fun M21 =>
  (fX3_heat M21).bind fun v24 =>
  (pf M21 t 4 (if (20 : Int32) < (v24 / (2 : Int32)) then (v24 / (2 : Int32)) else (20 : Int32))).bind fun M25 =>
  (fX1_clear (t + 8) M25).bind fun M28 =>
  (pf M28 t 6 ((M28.1 t 6) + (1 : Int32))).bind fun M29 =>
  (fX6_cameOut (t + 22) M29).bind fun v32 =>
  some ((v32 - v2), M29))

def rX9_haveDay : Room := { frames := 4, cells := 0, slots := 0, locals := 103 }
set_option maxRecDepth 100000 in
set_option maxHeartbeats 4000000 in
theorem c_X9_haveDay (l : Launch) (G : Gx) (n0 : Nat) {t : Nat} {x1 : Int32} (hk : lay[t]? = some (tK 9)) {M : Mem} {r : Int32} {M' : Mem} (hf : fX9_haveDay t x1 M = some (r, M')) : Ct l yX9_haveDay cX9_haveDay 5 (some .int) rX9_haveDay G n0 [.ref (n0 + t), .int x1, .ref (n0 + 33)] M (some (.int r)) M' := by
  refine ct_int (cc := cX9_haveDay) (maxL := 5) rfl (Nat.le_of_ble_eq_true rfl) ?_
  intro K C hret
  have C : Ok K l rX9_haveDay cX9_haveDay RX9 G n0 5 := C
  show J K M 0 [(0, .ref (n0 + t)), (1, .int x1), (2, .ref (n0 + 33))] []
  unfold fX9_haveDay at hf
  refine j_aload_n C 0 dX9_haveDay_0 rfl rfl ?_
  refine g_X9_loaves C tw1_120 hk (t + 22) rfl dX9_haveDay_1 ?_
  obtain ⟨v2, e1, hf⟩ := bd hf
  refine j_callV C 0 (k9_22 hk) (ent_K _ _ _ _ _ _) rfl (c_X6_cameOut l G n0 (k9_22 hk) e1) gv_RX9_112 ⟨rfl, rfl⟩ (by decide +kernel) ⟨Nat.le_of_ble_eq_true rfl, Nat.le_of_ble_eq_true rfl⟩ rfl rfl (Nat.le_of_ble_eq_true rfl) dX9_haveDay_4 ?_
  refine j_istore_n C [(3, .int v2), (0, .ref (n0 + t)), (1, .int x1), (2, .ref (n0 + 33))] dX9_haveDay_7 rfl (Nat.le_of_ble_eq_true rfl) rfl ?_
  refine j_aload_n C 1 dX9_haveDay_8 rfl rfl ?_
  refine j_aload_n C 3 dX9_haveDay_9 rfl rfl ?_
  obtain ⟨M4, e3, hf⟩ := bd hf
  refine j_callV C 1 hk (ent_K _ _ _ _ _ _) rfl (c_X9_arrangeNextDay l G n0 hk e3) gv_RX9_115 ⟨rfl, rfl⟩ (by decide +kernel) ⟨Nat.le_of_ble_eq_true rfl, Nat.le_of_ble_eq_true rfl⟩ rfl rfl (Nat.le_of_ble_eq_true rfl) dX9_haveDay_10 ?_
  refine j_aload_n C 1 dX9_haveDay_13 rfl rfl ?_
  refine g_X9_households C tw1_114 hk (t + 1) rfl dX9_haveDay_14 ?_
  refine j_iload_n C 2 dX9_haveDay_17 rfl rfl ?_
  obtain ⟨M6, e5, hf⟩ := bd hf
  refine j_callV C 1 (k9_1 hk) (ent_K _ _ _ _ _ _) rfl (c_X4_bringWood l G n0 (k9_1 hk) e5) gv_RX9_119 ⟨rfl, rfl⟩ (by decide +kernel) ⟨Nat.le_of_ble_eq_true rfl, Nat.le_of_ble_eq_true rfl⟩ rfl rfl (Nat.le_of_ble_eq_true rfl) dX9_haveDay_18 ?_
  refine j_aload_n C 3 dX9_haveDay_21 rfl rfl ?_
  refine j_aload_n C 1 dX9_haveDay_22 rfl rfl ?_
  refine g_X9_batches C tw1_116 hk (t + 8) rfl dX9_haveDay_23 ?_
  refine j_aload_n C 1 dX9_haveDay_26 rfl rfl ?_
  refine j_iload_n C 2 dX9_haveDay_27 rfl rfl ?_
  obtain ⟨v8, e7, hf⟩ := bd hf
  refine j_callV C 1 hk (ent_K _ _ _ _ _ _) rfl (c_X9_heatWith l G n0 hk e7) gv_RX9_123 ⟨rfl, rfl⟩ (by decide +kernel) ⟨Nat.le_of_ble_eq_true rfl, Nat.le_of_ble_eq_true rfl⟩ rfl rfl (Nat.le_of_ble_eq_true rfl) dX9_haveDay_28 ?_
  obtain ⟨M10, e9, hf⟩ := bd hf
  refine j_callV C 2 lc33 (ent_K _ _ _ _ _ _) rfl (c_X3_fire l G n0 (k9_8 hk) e9) gv_RX9_126 ⟨rfl, rfl⟩ (by decide +kernel) ⟨Nat.le_of_ble_eq_true rfl, Nat.le_of_ble_eq_true rfl⟩ rfl rfl (Nat.le_of_ble_eq_true rfl) dX9_haveDay_31 ?_
  refine j_aload_n C 1 dX9_haveDay_34 rfl rfl ?_
  refine g_X9_loads C tw1_118 hk (t + 14) rfl dX9_haveDay_35 ?_
  refine j_aload_n C 3 dX9_haveDay_38 rfl rfl ?_
  obtain ⟨ue11, e11, hf⟩ := bd hf
  refine j_callV C 0 lc33 (ent_K _ _ _ _ _ _) rfl (c_X3_loads l G n0 e11) gv_RX9_130 ⟨rfl, rfl⟩ (by decide +kernel) ⟨Nat.le_of_ble_eq_true rfl, Nat.le_of_ble_eq_true rfl⟩ rfl rfl (Nat.le_of_ble_eq_true rfl) dX9_haveDay_39 ?_
  obtain ⟨M13, e12, hf⟩ := bd hf
  refine j_callV C 1 (k9_14 hk) (ent_K _ _ _ _ _ _) rfl (c_X5_copyFrom l G n0 (k9_14 hk) lc37 e12) gv_RX9_53 ⟨rfl, rfl⟩ (by decide +kernel) ⟨Nat.le_of_ble_eq_true rfl, Nat.le_of_ble_eq_true rfl⟩ rfl rfl (Nat.le_of_ble_eq_true rfl) dX9_haveDay_42 ?_
  refine j_aload_n C 1 dX9_haveDay_45 rfl rfl ?_
  refine j_aload_n C 3 dX9_haveDay_46 rfl rfl ?_
  obtain ⟨⟨v15, M16⟩, e14, hf⟩ := bd hf
  replace hf := un2e hf
  refine j_callV C 1 hk (ent_K _ _ _ _ _ _) rfl (c_X9_bakeLoads l G n0 hk e14) gv_RX9_133 ⟨rfl, rfl⟩ (by decide +kernel) ⟨Nat.le_of_ble_eq_true rfl, Nat.le_of_ble_eq_true rfl⟩ rfl rfl (Nat.le_of_ble_eq_true rfl) dX9_haveDay_47 ?_
  refine j_istore C [(4, .int v15), (3, .int v2), (0, .ref (n0 + t)), (1, .int x1), (2, .ref (n0 + 33))] dX9_haveDay_50 (Nat.le_of_ble_eq_true rfl) rfl ?_
  refine j_aload_n C 2 dX9_haveDay_52 rfl rfl ?_
  refine g_X9_loaves C tw1_120 hk (t + 22) rfl dX9_haveDay_53 ?_
  refine j_iload_n C 1 dX9_haveDay_56 rfl rfl ?_
  refine j_aload_n C 2 dX9_haveDay_57 rfl rfl ?_
  refine g_X9_households C tw1_114 hk (t + 1) rfl dX9_haveDay_58 ?_
  refine j_iload C 0 dX9_haveDay_61 rfl ?_
  obtain ⟨M18, e17, hf⟩ := bd hf
  refine j_callV C 3 (k9_22 hk) (ent_K _ _ _ _ _ _) rfl (c_X6_sortFrom l G n0 (k9_22 hk) (k9_1 hk) e17) gv_RX9_137 ⟨rfl, rfl⟩ (by decide +kernel) ⟨Nat.le_of_ble_eq_true rfl, Nat.le_of_ble_eq_true rfl⟩ rfl rfl (Nat.le_of_ble_eq_true rfl) dX9_haveDay_63 ?_
  refine j_aload_n C 2 dX9_haveDay_66 rfl rfl ?_
  refine j_dup C rfl dX9_haveDay_67 ?_
  refine g_X9_dough C tw1_128 hk dX9_haveDay_68 ?_
  refine j_aload_n C 4 dX9_haveDay_71 rfl rfl ?_
  refine j_aload_n C 2 dX9_haveDay_72 rfl rfl ?_
  refine g_X9_batches C tw1_116 hk (t + 8) rfl dX9_haveDay_73 ?_
  obtain ⟨v20, e19, hf⟩ := bd hf
  refine j_callV C 1 lc33 (ent_K _ _ _ _ _ _) rfl (c_X3_dough l G n0 (k9_8 hk) e19) gv_RX9_141 ⟨rfl, rfl⟩ (by decide +kernel) ⟨Nat.le_of_ble_eq_true rfl, Nat.le_of_ble_eq_true rfl⟩ rfl rfl (Nat.le_of_ble_eq_true rfl) dX9_haveDay_76 ?_
  refine j_iadd C dX9_haveDay_79 ?_
  obtain ⟨M21, e22, hf⟩ := bd hf
  refine p_X9_dough C tw1_128 hk e22 dX9_haveDay_80 ?_
  refine j_aload_n C 2 dX9_haveDay_83 rfl rfl ?_
  refine j_bipush C (20 : Int32) rfl dX9_haveDay_84 ?_
  refine j_aload_n C 4 dX9_haveDay_86 rfl rfl ?_
  obtain ⟨v24, e23, hf⟩ := bd hf
  refine j_callV C 0 lc33 (ent_K _ _ _ _ _ _) rfl (c_X3_heat l G n0 e23) gv_RX9_144 ⟨rfl, rfl⟩ (by decide +kernel) ⟨Nat.le_of_ble_eq_true rfl, Nat.le_of_ble_eq_true rfl⟩ rfl rfl (Nat.le_of_ble_eq_true rfl) dX9_haveDay_87 ?_
  refine j_iconst C (2 : Int32) rfl dX9_haveDay_90 ?_
  refine j_idiv C (by decide) dX9_haveDay_91 ?_
  refine j_mmax C tw4_116 tw1_47 tw1_5 tw1_48 ⟨Nat.le_of_ble_eq_true rfl, Nat.le_of_ble_eq_true rfl⟩ dX9_haveDay_92 ?_
  obtain ⟨M25, e26, hf⟩ := bd hf
  refine p_X9_heat C tw1_122 hk e26 dX9_haveDay_95 ?_
  refine j_aload_n C 2 dX9_haveDay_98 rfl rfl ?_
  refine g_X9_batches C tw1_116 hk (t + 8) rfl dX9_haveDay_99 ?_
  obtain ⟨M28, e27, hf⟩ := bd hf
  refine j_callV C 0 (k9_8 hk) (ent_K _ _ _ _ _ _) rfl (c_X1_clear l G n0 (k9_8 hk) e27) gv_RX9_149 ⟨rfl, rfl⟩ (by decide +kernel) ⟨Nat.le_of_ble_eq_true rfl, Nat.le_of_ble_eq_true rfl⟩ rfl rfl (Nat.le_of_ble_eq_true rfl) dX9_haveDay_102 ?_
  refine j_aload_n C 2 dX9_haveDay_105 rfl rfl ?_
  refine j_dup C rfl dX9_haveDay_106 ?_
  refine g_X9_days C tw1_126 hk dX9_haveDay_107 ?_
  refine j_iconst C (1 : Int32) rfl dX9_haveDay_110 ?_
  refine j_iadd C dX9_haveDay_111 ?_
  obtain ⟨M29, e30, hf⟩ := bd hf
  refine p_X9_days C tw1_126 hk e30 dX9_haveDay_112 ?_
  refine j_aload_n C 2 dX9_haveDay_115 rfl rfl ?_
  refine g_X9_loaves C tw1_120 hk (t + 22) rfl dX9_haveDay_116 ?_
  obtain ⟨v32, e31, hf⟩ := bd hf
  refine j_callV C 0 (k9_22 hk) (ent_K _ _ _ _ _ _) rfl (c_X6_cameOut l G n0 (k9_22 hk) e31) gv_RX9_112 ⟨rfl, rfl⟩ (by decide +kernel) ⟨Nat.le_of_ble_eq_true rfl, Nat.le_of_ble_eq_true rfl⟩ rfl rfl (Nat.le_of_ble_eq_true rfl) dX9_haveDay_119 ?_
  refine j_iload_n C 1 dX9_haveDay_122 rfl rfl ?_
  refine j_isub C dX9_haveDay_123 ?_
  obtain ⟨rfl, rfl⟩ := Prod.mk.inj (Option.some.inj hf)
  exact hret _ _ dX9_haveDay_124
def fX9_letClaim (t : Nat) (x1 : Int32) (M : Mem) : Option (Int32 × Mem) :=
  (fX4_value (t + 1) x1 (0 : Int32) M).bind fun v2 =>
  (fX6_moveFromShelf (t + 22) x1 v2 M).bind (un2 fun v4 M5 =>
  some (v4, M5))

def rX9_letClaim : Room := { frames := 5, cells := 0, slots := 0, locals := 105 }
set_option maxRecDepth 100000 in
set_option maxHeartbeats 4000000 in
theorem c_X9_letClaim (l : Launch) (G : Gx) (n0 : Nat) {t : Nat} {x1 : Int32} (hk : lay[t]? = some (tK 9)) {M : Mem} {r : Int32} {M' : Mem} (hf : fX9_letClaim t x1 M = some (r, M')) : Ct l yX9_letClaim cX9_letClaim 2 (some .int) rX9_letClaim G n0 [.ref (n0 + t), .int x1] M (some (.int r)) M' := by
  refine ct_int (cc := cX9_letClaim) (maxL := 2) rfl (Nat.le_of_ble_eq_true rfl) ?_
  intro K C hret
  have C : Ok K l rX9_letClaim cX9_letClaim RX9 G n0 2 := C
  show J K M 0 [(0, .ref (n0 + t)), (1, .int x1)] []
  unfold fX9_letClaim at hf
  refine j_aload_n C 0 dX9_letClaim_0 rfl rfl ?_
  refine g_X9_loaves C tw1_120 hk (t + 22) rfl dX9_letClaim_1 ?_
  refine j_iload_n C 1 dX9_letClaim_4 rfl rfl ?_
  refine j_aload_n C 0 dX9_letClaim_5 rfl rfl ?_
  refine g_X9_households C tw1_114 hk (t + 1) rfl dX9_letClaim_6 ?_
  refine j_iload_n C 1 dX9_letClaim_9 rfl rfl ?_
  refine j_iconst C (0 : Int32) rfl dX9_letClaim_10 ?_
  obtain ⟨v2, e1, hf⟩ := bd hf
  refine j_callV C 2 (k9_1 hk) (ent_K _ _ _ _ _ _) rfl (c_X4_value l G n0 (k9_1 hk) e1) gv_RX9_91 ⟨rfl, rfl⟩ (by decide +kernel) ⟨Nat.le_of_ble_eq_true rfl, Nat.le_of_ble_eq_true rfl⟩ rfl rfl (Nat.le_of_ble_eq_true rfl) dX9_letClaim_11 ?_
  obtain ⟨⟨v4, M5⟩, e3, hf⟩ := bd hf
  replace hf := un2e hf
  refine j_callV C 2 (k9_22 hk) (ent_K _ _ _ _ _ _) rfl (c_X6_moveFromShelf l G n0 (k9_22 hk) e3) gv_RX9_94 ⟨rfl, rfl⟩ (by decide +kernel) ⟨Nat.le_of_ble_eq_true rfl, Nat.le_of_ble_eq_true rfl⟩ rfl rfl (Nat.le_of_ble_eq_true rfl) dX9_letClaim_14 ?_
  obtain ⟨rfl, rfl⟩ := Prod.mk.inj (Option.some.inj hf)
  exact hret _ _ dX9_letClaim_17
def fX11_nextForWood  (M : Mem) : Option Int32 :=
  (fX4_nextOne 2 M).bind fun v2 =>
  some v2

def rX11_nextForWood : Room := { frames := 3, cells := 0, slots := 0, locals := 79 }
set_option maxRecDepth 100000 in
set_option maxHeartbeats 4000000 in
theorem c_X11_nextForWood (l : Launch) (G : Gx) (n0 : Nat) {M : Mem} {r : Int32} (hf : fX11_nextForWood M = some r) : Ct l yX11_nextForWood cX11_nextForWood 1 (some .int) rX11_nextForWood G n0 [.ref (n0 + 0)] M (some (.int r)) M := by
  refine ct_int (cc := cX11_nextForWood) (maxL := 1) rfl (Nat.le_of_ble_eq_true rfl) ?_
  intro K C hret
  have C : Ok K l rX11_nextForWood cX11_nextForWood RX11 G n0 1 := C
  show J K M 0 [(0, .ref (n0 + 0))] []
  unfold fX11_nextForWood at hf
  refine j_aload_n C 0 dX11_nextForWood_0 rfl rfl ?_
  refine g_X11_village C tw1_220 lc0 1 rfl dX11_nextForWood_1 ?_
  refine gN_X9_households C (nxf_RX11_households) lc1 2 rfl dX11_nextForWood_4 ?_
  obtain ⟨v2, e1, hf⟩ := bd hf
  refine j_callV C 0 lc2 (ent_K _ _ _ _ _ _) rfl (c_X4_nextOne l G n0 lc2 e1) gv_RX11_140 ⟨rfl, rfl⟩ (by decide +kernel) ⟨Nat.le_of_ble_eq_true rfl, Nat.le_of_ble_eq_true rfl⟩ rfl rfl (Nat.le_of_ble_eq_true rfl) dX11_nextForWood_7 ?_
  obtain rfl := Option.some.inj hf
  exact hret _ _ dX11_nextForWood_10
def lX3_placeOf_2 (x1 : Int32) (M : Mem) : Nat → Int32 → Option (Int32 ⊕ Unit)
  | 0, _ => none
  | n + 1, a1 =>
  if (M.1 33 4) ≤ a1 then (some (Sum.inr ()))
  else ((fX3_batchAt a1 M).bind fun v4 =>
  if v4 = x1 then (some (Sum.inl a1))
  else (lX3_placeOf_2 x1 M n (a1 + 1)))

def fX3_placeOf (x1 : Int32) (M : Mem) : Option Int32 :=
  (lX3_placeOf_2 x1 M FUEL (0 : Int32)).bind fun o => s0 o (fun _ => some (-1 : Int32))

def rX3_placeOf : Room := { frames := 1, cells := 0, slots := 0, locals := 21 }
set_option maxRecDepth 100000 in
set_option maxHeartbeats 4000000 in
theorem c_X3_placeOf (l : Launch) (G : Gx) (n0 : Nat) {x1 : Int32} {M : Mem} {r : Int32} (hf : fX3_placeOf x1 M = some r) : Ct l yX3_placeOf cX3_placeOf 3 (some .int) rX3_placeOf G n0 [.ref (n0 + 33), .int x1] M (some (.int r)) M := by
  refine ct_int (cc := cX3_placeOf) (maxL := 3) rfl (Nat.le_of_ble_eq_true rfl) ?_
  intro K C hret
  have C : Ok K l rX3_placeOf cX3_placeOf RX3 G n0 3 := C
  show J K M 0 [(0, .ref (n0 + 33)), (1, .int x1)] []
  unfold fX3_placeOf at hf
  refine j_iconst C (0 : Int32) rfl dX3_placeOf_0 ?_
  refine j_istore_n C [(2, .int (0 : Int32)), (0, .ref (n0 + 33)), (1, .int x1)] dX3_placeOf_1 rfl (Nat.le_of_ble_eq_true rfl) rfl ?_
  obtain ⟨o10, e6, hg9⟩ := bd hf
  have hx7 : o10 = Sum.inr () → J K M 27 [] [] := by
    intro ho
    rw [ho] at hg9
    replace hf := s0r hg9
    refine j_iconst C (-1 : Int32) rfl dX3_placeOf_27 ?_
    obtain rfl := Option.some.inj hf
    exact hret _ _ dX3_placeOf_28
  have hl8 : ∀ (n : Nat) (a1 : Int32), lX3_placeOf_2 x1 M n a1 = some o10 → J K M 2 [(0, .ref (n0 + 33)), (1, .int x1), (2, .int a1)] [] := by
    intro n
    induction n with
    | zero =>
      intro a1 hf
      exact absurd hf (by rw [lX3_placeOf_2]; exact fun h => by cases h)
    | succ n ih =>
      intro a1 hf
      rw [lX3_placeOf_2] at hf
      refine j_iload_n C 2 dX3_placeOf_2 rfl rfl ?_
      refine j_aload_n C 0 dX3_placeOf_3 rfl rfl ?_
      refine g_X3_count C tw1_159 lc33 dX3_placeOf_4 ?_
      refine j_icmp_ge C 27 dX3_placeOf_7 (by decide) (fun c2 => ?_) (fun c2 => ?_)
      · replace hf := ip c2 hf
        refine j_sub [] rfl ?_
        exact hx7 (Option.some.inj hf).symm
      · replace hf := ine c2 hf
        refine j_aload_n C 0 dX3_placeOf_10 rfl rfl ?_
        refine j_iload_n C 2 dX3_placeOf_11 rfl rfl ?_
        obtain ⟨v4, e3, hf⟩ := bd hf
        refine j_callV C 1 lc33 (ent_K _ _ _ _ _ _) rfl (c_X3_batchAt l G n0 e3) gv_RX3_85 ⟨rfl, rfl⟩ (by decide +kernel) ⟨Nat.le_of_ble_eq_true rfl, Nat.le_of_ble_eq_true rfl⟩ rfl rfl (Nat.le_of_ble_eq_true rfl) dX3_placeOf_12 ?_
        refine j_iload_n C 1 dX3_placeOf_15 rfl rfl ?_
        refine j_icmp_ne C 21 dX3_placeOf_16 (by decide) (fun c5 => ?_) (fun c5 => ?_)
        · replace hf := ine c5 hf
          refine j_iinc C 2 (a1 + 1) [(2, .int (a1 + 1)), (0, .ref (n0 + 33)), (1, .int x1)] dX3_placeOf_21 rfl rfl (Nat.le_of_ble_eq_true rfl) rfl ?_
          refine j_goto C 2 dX3_placeOf_24 (by decide) ?_
          refine j_sub [1, 2, 0] rfl ?_
          exact ih _ hf
        · replace hf := ip c5 hf
          refine j_iload_n C 2 dX3_placeOf_19 rfl rfl ?_
          rw [← Option.some.inj hf] at hg9
          have hf := hg9
          replace hf : some _ = some _ := hf
          obtain rfl := Option.some.inj hf
          exact hret _ _ dX3_placeOf_20
  refine j_sub [1, 2, 0] rfl ?_
  exact hl8 FUEL (0 : Int32) e6
def fX11_doughOfArrangedDay (x1 : Int32) (M : Mem) : Option (Int32 × Mem) :=
  (fX9_heatWith 1 x1 M).bind fun v2 =>
  (fX3_fire 9 v2 M).bind fun M4 =>
  (fX3_dough 9 M4).bind fun v6 =>
  some (v6, M4)

def rX11_doughOfArrangedDay : Room := { frames := 4, cells := 0, slots := 0, locals := 100 }
set_option maxRecDepth 100000 in
set_option maxHeartbeats 4000000 in
theorem c_X11_doughOfArrangedDay (l : Launch) (G : Gx) (n0 : Nat) {x1 : Int32} {M : Mem} {r : Int32} {M' : Mem} (hf : fX11_doughOfArrangedDay x1 M = some (r, M')) : Ct l yX11_doughOfArrangedDay cX11_doughOfArrangedDay 2 (some .int) rX11_doughOfArrangedDay G n0 [.ref (n0 + 0), .int x1] M (some (.int r)) M' := by
  refine ct_int (cc := cX11_doughOfArrangedDay) (maxL := 2) rfl (Nat.le_of_ble_eq_true rfl) ?_
  intro K C hret
  have C : Ok K l rX11_doughOfArrangedDay cX11_doughOfArrangedDay RX11 G n0 2 := C
  show J K M 0 [(0, .ref (n0 + 0)), (1, .int x1)] []
  unfold fX11_doughOfArrangedDay at hf
  refine j_aload_n C 0 dX11_doughOfArrangedDay_0 rfl rfl ?_
  refine g_X11_plan C tw1_221 lc0 33 rfl dX11_doughOfArrangedDay_1 ?_
  refine j_aload_n C 0 dX11_doughOfArrangedDay_4 rfl rfl ?_
  refine g_X11_village C tw1_220 lc0 1 rfl dX11_doughOfArrangedDay_5 ?_
  refine gN_X9_batches C (nxf_RX11_batches) lc1 9 rfl dX11_doughOfArrangedDay_8 ?_
  refine j_aload_n C 0 dX11_doughOfArrangedDay_11 rfl rfl ?_
  refine g_X11_village C tw1_220 lc0 1 rfl dX11_doughOfArrangedDay_12 ?_
  refine j_iload_n C 1 dX11_doughOfArrangedDay_15 rfl rfl ?_
  obtain ⟨v2, e1, hf⟩ := bd hf
  refine j_callV C 1 lc1 (ent_K _ _ _ _ _ _) rfl (c_X9_heatWith l G n0 lc1 e1) gv_RX11_298 ⟨rfl, rfl⟩ (by decide +kernel) ⟨Nat.le_of_ble_eq_true rfl, Nat.le_of_ble_eq_true rfl⟩ rfl rfl (Nat.le_of_ble_eq_true rfl) dX11_doughOfArrangedDay_16 ?_
  obtain ⟨M4, e3, hf⟩ := bd hf
  refine j_callV C 2 lc33 (ent_K _ _ _ _ _ _) rfl (c_X3_fire l G n0 lc9 e3) gv_RX11_301 ⟨rfl, rfl⟩ (by decide +kernel) ⟨Nat.le_of_ble_eq_true rfl, Nat.le_of_ble_eq_true rfl⟩ rfl rfl (Nat.le_of_ble_eq_true rfl) dX11_doughOfArrangedDay_19 ?_
  refine j_aload_n C 0 dX11_doughOfArrangedDay_22 rfl rfl ?_
  refine g_X11_plan C tw1_221 lc0 33 rfl dX11_doughOfArrangedDay_23 ?_
  refine j_aload_n C 0 dX11_doughOfArrangedDay_26 rfl rfl ?_
  refine g_X11_village C tw1_220 lc0 1 rfl dX11_doughOfArrangedDay_27 ?_
  refine gN_X9_batches C (nxf_RX11_batches) lc1 9 rfl dX11_doughOfArrangedDay_30 ?_
  obtain ⟨v6, e5, hf⟩ := bd hf
  refine j_callV C 1 lc33 (ent_K _ _ _ _ _ _) rfl (c_X3_dough l G n0 lc9 e5) gv_RX11_305 ⟨rfl, rfl⟩ (by decide +kernel) ⟨Nat.le_of_ble_eq_true rfl, Nat.le_of_ble_eq_true rfl⟩ rfl rfl (Nat.le_of_ble_eq_true rfl) dX11_doughOfArrangedDay_33 ?_
  obtain ⟨rfl, rfl⟩ := Prod.mk.inj (Option.some.inj hf)
  exact hret _ _ dX11_doughOfArrangedDay_36
def lX11_bestWood_36  : Nat → Int32 → Int32 → Int32 → Mem → Option (Int32 × Mem)
  | 0, _, _, _, _ => none
  | n + 1, a9, a10, a11, M12 =>
  if (40 : Int32) < a11 then (some (a9, M12))
  else ((fX11_doughOfArrangedDay a11 M12).bind (un2 fun v15 M16 =>
  if a10 ≤ v15 then (lX11_bestWood_36  n a9 a10 (a11 + 1) M16)
  else (lX11_bestWood_36  n a11 v15 (a11 + 1) M16)))

def fX11_bestWood  (M : Mem) : Option (Int32 × Mem) :=
  (fX1_size 9 M).bind fun v2 =>
  if v2 = 0 then (some ((-1 : Int32), M))
  else ((fX9_arrangeNextDay 1 M).bind fun M5 =>
  (fX11_doughOfArrangedDay (1 : Int32) M5).bind (un2 fun v7 M8 =>
  (lX11_bestWood_36 FUEL (1 : Int32) v7 (2 : Int32) M8).bind (un2 fun a18 M19 => some (a18, M19))))

def rX11_bestWood : Room := { frames := 5, cells := 0, slots := 0, locals := 121 }
set_option maxRecDepth 100000 in
set_option maxHeartbeats 4000000 in
theorem c_X11_bestWood (l : Launch) (G : Gx) (n0 : Nat) {M : Mem} {r : Int32} {M' : Mem} (hf : fX11_bestWood M = some (r, M')) : Ct l yX11_bestWood cX11_bestWood 5 (some .int) rX11_bestWood G n0 [.ref (n0 + 0)] M (some (.int r)) M' := by
  refine ct_int (cc := cX11_bestWood) (maxL := 5) rfl (Nat.le_of_ble_eq_true rfl) ?_
  intro K C hret
  have C : Ok K l rX11_bestWood cX11_bestWood RX11 G n0 5 := C
  show J K M 0 [(0, .ref (n0 + 0))] []
  unfold fX11_bestWood at hf
  refine j_aload_n C 0 dX11_bestWood_0 rfl rfl ?_
  refine g_X11_village C tw1_220 lc0 1 rfl dX11_bestWood_1 ?_
  refine gN_X9_batches C (nxf_RX11_batches) lc1 9 rfl dX11_bestWood_4 ?_
  obtain ⟨v2, e1, hf⟩ := bd hf
  refine j_callV C 0 lc9 (ent_K _ _ _ _ _ _) rfl (c_X1_size l G n0 lc9 e1) gv_RX11_175 ⟨rfl, rfl⟩ (by decide +kernel) ⟨Nat.le_of_ble_eq_true rfl, Nat.le_of_ble_eq_true rfl⟩ rfl rfl (Nat.le_of_ble_eq_true rfl) dX11_bestWood_7 ?_
  refine j_if_ne C 15 dX11_bestWood_10 (by decide) (fun c3 => ?_) (fun c3 => ?_)
  · replace hf := ine c3 hf
    refine j_aload_n C 0 dX11_bestWood_15 rfl rfl ?_
    refine g_X11_village C tw1_220 lc0 1 rfl dX11_bestWood_16 ?_
    refine j_aload_n C 0 dX11_bestWood_19 rfl rfl ?_
    refine g_X11_plan C tw1_221 lc0 33 rfl dX11_bestWood_20 ?_
    obtain ⟨M5, e4, hf⟩ := bd hf
    refine j_callV C 1 lc1 (ent_K _ _ _ _ _ _) rfl (c_X9_arrangeNextDay l G n0 lc1 e4) gv_RX11_147 ⟨rfl, rfl⟩ (by decide +kernel) ⟨Nat.le_of_ble_eq_true rfl, Nat.le_of_ble_eq_true rfl⟩ rfl rfl (Nat.le_of_ble_eq_true rfl) dX11_bestWood_23 ?_
    refine j_iconst C (1 : Int32) rfl dX11_bestWood_26 ?_
    refine j_istore_n C [(1, .int (1 : Int32)), (0, .ref (n0 + 0))] dX11_bestWood_27 rfl (Nat.le_of_ble_eq_true rfl) rfl ?_
    refine j_aload_n C 1 dX11_bestWood_28 rfl rfl ?_
    refine j_iconst C (1 : Int32) rfl dX11_bestWood_29 ?_
    obtain ⟨⟨v7, M8⟩, e6, hf⟩ := bd hf
    replace hf := un2e hf
    refine j_callV C 1 lc0 (ent_K _ _ _ _ _ _) rfl (c_X11_doughOfArrangedDay l G n0 e6) gv_RX11_200 ⟨rfl, rfl⟩ (by decide +kernel) ⟨Nat.le_of_ble_eq_true rfl, Nat.le_of_ble_eq_true rfl⟩ rfl rfl (Nat.le_of_ble_eq_true rfl) dX11_bestWood_30 ?_
    refine j_istore_n C [(2, .int v7), (1, .int (1 : Int32)), (0, .ref (n0 + 0))] dX11_bestWood_33 rfl (Nat.le_of_ble_eq_true rfl) rfl ?_
    refine j_iconst C (2 : Int32) rfl dX11_bestWood_34 ?_
    refine j_istore_n C [(3, .int (2 : Int32)), (2, .int v7), (1, .int (1 : Int32)), (0, .ref (n0 + 0))] dX11_bestWood_35 rfl (Nat.le_of_ble_eq_true rfl) rfl ?_
    obtain ⟨⟨a18, M19⟩, e20, hf⟩ := bd hf
    replace hf := un2e hf
    have hx21 : J K M19 66 [(1, .int a18)] [] := by
      refine j_iload_n C 0 dX11_bestWood_66 rfl rfl ?_
      obtain ⟨rfl, rfl⟩ := Prod.mk.inj (Option.some.inj hf)
      exact hret _ _ dX11_bestWood_67
    clear hf
    have hl22 : ∀ (n : Nat) (a9 : Int32) (a10 : Int32) (a11 : Int32) (M12 : Mem), lX11_bestWood_36 n a9 a10 a11 M12 = some (a18, M19) → J K M12 36 [(0, .ref (n0 + 0)), (1, .int a9), (2, .int a10), (3, .int a11)] [] := by
      intro n
      induction n with
      | zero =>
        intro a9 a10 a11 M12 hf
        exact absurd hf (by rw [lX11_bestWood_36]; exact fun h => by cases h)
      | succ n ih =>
        intro a9 a10 a11 M12 hf
        rw [lX11_bestWood_36] at hf
        refine j_iload_n C 3 dX11_bestWood_36 rfl rfl ?_
        refine j_bipush C (40 : Int32) rfl dX11_bestWood_37 ?_
        refine j_icmp_gt C 66 dX11_bestWood_39 (by decide) (fun c13 => ?_) (fun c13 => ?_)
        · replace hf := ip c13 hf
          refine j_sub [1] rfl ?_
          cases hf
          exact hx21
        · replace hf := ine c13 hf
          refine j_aload_n C 0 dX11_bestWood_42 rfl rfl ?_
          refine j_iload_n C 3 dX11_bestWood_43 rfl rfl ?_
          obtain ⟨⟨v15, M16⟩, e14, hf⟩ := bd hf
          replace hf := un2e hf
          refine j_callV C 1 lc0 (ent_K _ _ _ _ _ _) rfl (c_X11_doughOfArrangedDay l G n0 e14) gv_RX11_200 ⟨rfl, rfl⟩ (by decide +kernel) ⟨Nat.le_of_ble_eq_true rfl, Nat.le_of_ble_eq_true rfl⟩ rfl rfl (Nat.le_of_ble_eq_true rfl) dX11_bestWood_44 ?_
          refine j_istore C [(4, .int v15), (0, .ref (n0 + 0)), (1, .int a9), (2, .int a10), (3, .int a11)] dX11_bestWood_47 (Nat.le_of_ble_eq_true rfl) rfl ?_
          refine j_iload C 0 dX11_bestWood_49 rfl ?_
          refine j_iload_n C 3 dX11_bestWood_51 rfl rfl ?_
          refine j_icmp_ge C 60 dX11_bestWood_52 (by decide) (fun c17 => ?_) (fun c17 => ?_)
          · replace hf := ip c17 hf
            refine j_iinc C 4 (a11 + 1) [(3, .int (a11 + 1)), (4, .int v15), (0, .ref (n0 + 0)), (1, .int a9), (2, .int a10)] dX11_bestWood_60 rfl rfl (Nat.le_of_ble_eq_true rfl) rfl ?_
            refine j_goto C 36 dX11_bestWood_63 (by decide) ?_
            refine j_sub [2, 3, 4, 0] rfl ?_
            exact ih _ _ _ _ hf
          · replace hf := ine c17 hf
            refine j_iload C 0 dX11_bestWood_55 rfl ?_
            refine j_istore_n C [(2, .int v15), (4, .int v15), (0, .ref (n0 + 0)), (1, .int a9), (3, .int a11)] dX11_bestWood_57 rfl (Nat.le_of_ble_eq_true rfl) rfl ?_
            refine j_iload_n C 4 dX11_bestWood_58 rfl rfl ?_
            refine j_istore_n C [(1, .int a11), (2, .int v15), (4, .int v15), (0, .ref (n0 + 0)), (3, .int a11)] dX11_bestWood_59 rfl (Nat.le_of_ble_eq_true rfl) rfl ?_
            refine j_iinc C 4 (a11 + 1) [(3, .int (a11 + 1)), (1, .int a11), (2, .int v15), (4, .int v15), (0, .ref (n0 + 0))] dX11_bestWood_60 rfl rfl (Nat.le_of_ble_eq_true rfl) rfl ?_
            refine j_goto C 36 dX11_bestWood_63 (by decide) ?_
            refine j_sub [4, 1, 2, 0] rfl ?_
            exact ih _ _ _ _ hf
    refine j_sub [3, 2, 1, 0] rfl ?_
    exact hl22 FUEL (1 : Int32) v7 (2 : Int32) M8 e20
  · replace hf := ip c3 hf
    refine j_iconst C (-1 : Int32) rfl dX11_bestWood_13 ?_
    obtain ⟨rfl, rfl⟩ := Prod.mk.inj (Option.some.inj hf)
    exact hret _ _ dX11_bestWood_14
def fX11_likeMarks  (M : Mem) : Option Int32 :=
  (fX4_likePairs 2 M).bind fun v2 =>
  some v2

def rX11_likeMarks : Room := { frames := 3, cells := 0, slots := 0, locals := 65 }
set_option maxRecDepth 100000 in
set_option maxHeartbeats 4000000 in
theorem c_X11_likeMarks (l : Launch) (G : Gx) (n0 : Nat) {M : Mem} {r : Int32} (hf : fX11_likeMarks M = some r) : Ct l yX11_likeMarks cX11_likeMarks 1 (some .int) rX11_likeMarks G n0 [.ref (n0 + 0)] M (some (.int r)) M := by
  refine ct_int (cc := cX11_likeMarks) (maxL := 1) rfl (Nat.le_of_ble_eq_true rfl) ?_
  intro K C hret
  have C : Ok K l rX11_likeMarks cX11_likeMarks RX11 G n0 1 := C
  show J K M 0 [(0, .ref (n0 + 0))] []
  unfold fX11_likeMarks at hf
  refine j_aload_n C 0 dX11_likeMarks_0 rfl rfl ?_
  refine g_X11_village C tw1_220 lc0 1 rfl dX11_likeMarks_1 ?_
  refine gN_X9_households C (nxf_RX11_households) lc1 2 rfl dX11_likeMarks_4 ?_
  obtain ⟨v2, e1, hf⟩ := bd hf
  refine j_callV C 0 lc2 (ent_K _ _ _ _ _ _) rfl (c_X4_likePairs l G n0 lc2 e1) gv_RX11_203 ⟨rfl, rfl⟩ (by decide +kernel) ⟨Nat.le_of_ble_eq_true rfl, Nat.le_of_ble_eq_true rfl⟩ rfl rfl (Nat.le_of_ble_eq_true rfl) dX11_likeMarks_7 ?_
  obtain rfl := Option.some.inj hf
  exact hret _ _ dX11_likeMarks_10
def fX11_nextWithAsMany (x0 : Int32) : Option Int32 :=
  if (x0 &&& (-x0)) = 0 then (some (65536 : Int32))
  else (if (x0 &&& (-x0)) = 0 then none else
  some ((x0 + (x0 &&& (-x0))) ||| ((((x0 + (x0 &&& (-x0))) ^^^ x0) / (x0 &&& (-x0))) >>> ((2 : Int32) &&& 31))))

def rX11_nextWithAsMany : Room := { frames := 0, cells := 0, slots := 0, locals := 0 }
set_option maxRecDepth 100000 in
set_option maxHeartbeats 4000000 in
theorem c_X11_nextWithAsMany (l : Launch) (G : Gx) (n0 : Nat) {x0 : Int32} {M : Mem} {r : Int32} (hf : fX11_nextWithAsMany x0 = some r) : Ct l yX11_nextWithAsMany cX11_nextWithAsMany 3 (some .int) rX11_nextWithAsMany G n0 [.int x0] M (some (.int r)) M := by
  refine ct_int (cc := cX11_nextWithAsMany) (maxL := 3) rfl (Nat.le_of_ble_eq_true rfl) ?_
  intro K C hret
  have C : Ok K l rX11_nextWithAsMany cX11_nextWithAsMany RX11 G n0 3 := C
  show J K M 0 [(0, .int x0)] []
  unfold fX11_nextWithAsMany at hf
  refine j_iload_n C 0 dX11_nextWithAsMany_0 rfl rfl ?_
  refine j_iload_n C 0 dX11_nextWithAsMany_1 rfl rfl ?_
  refine j_ineg C dX11_nextWithAsMany_2 ?_
  refine j_iand C dX11_nextWithAsMany_3 ?_
  refine j_istore_n C [(1, .int (x0 &&& (-x0))), (0, .int x0)] dX11_nextWithAsMany_4 rfl (Nat.le_of_ble_eq_true rfl) rfl ?_
  refine j_iload_n C 0 dX11_nextWithAsMany_5 rfl rfl ?_
  refine j_if_ne C 13 dX11_nextWithAsMany_6 (by decide) (fun c1 => ?_) (fun c1 => ?_)
  · replace hf := ine c1 hf
    refine j_iload_n C 1 dX11_nextWithAsMany_13 rfl rfl ?_
    refine j_iload_n C 0 dX11_nextWithAsMany_14 rfl rfl ?_
    refine j_iadd C dX11_nextWithAsMany_15 ?_
    refine j_istore_n C [(2, .int (x0 + (x0 &&& (-x0)))), (1, .int (x0 &&& (-x0))), (0, .int x0)] dX11_nextWithAsMany_16 rfl (Nat.le_of_ble_eq_true rfl) rfl ?_
    refine j_iload_n C 0 dX11_nextWithAsMany_17 rfl rfl ?_
    refine j_iload_n C 0 dX11_nextWithAsMany_18 rfl rfl ?_
    refine j_iload_n C 2 dX11_nextWithAsMany_19 rfl rfl ?_
    refine j_ixor C dX11_nextWithAsMany_20 ?_
    refine j_iload_n C 1 dX11_nextWithAsMany_21 rfl rfl ?_
    obtain ⟨hd2, hf⟩ := gd hf
    refine j_idiv C hd2 dX11_nextWithAsMany_22 ?_
    refine j_iconst C (2 : Int32) rfl dX11_nextWithAsMany_23 ?_
    refine j_ishr C dX11_nextWithAsMany_24 ?_
    refine j_ior C dX11_nextWithAsMany_25 ?_
    obtain rfl := Option.some.inj hf
    exact hret _ _ dX11_nextWithAsMany_26
  · replace hf := ip c1 hf
    refine j_ldc_w C tw4_202 dX11_nextWithAsMany_9 ?_
    obtain rfl := Option.some.inj hf
    exact hret _ _ dX11_nextWithAsMany_12
def fX2_isFull  (M : Mem) : Option Bool :=
  if (M.1 175 3) < (150 : Int32) then (some false)
  else (some true)

def rX2_isFull : Room := { frames := 0, cells := 0, slots := 0, locals := 0 }
set_option maxRecDepth 100000 in
set_option maxHeartbeats 4000000 in
theorem c_X2_isFull (l : Launch) (G : Gx) (n0 : Nat) {M : Mem} {r : Bool} (hf : fX2_isFull M = some r) : Ct l yX2_isFull cX2_isFull 1 (some .boolean) rX2_isFull G n0 [.ref (n0 + 175)] M (some (.int (bI r))) M := by
  refine ct_bool (cc := cX2_isFull) (maxL := 1) rfl (Nat.le_of_ble_eq_true rfl) ?_
  intro K C hret
  have C : Ok K l rX2_isFull cX2_isFull RX2 G n0 1 := C
  show J K M 0 [(0, .ref (n0 + 175))] []
  unfold fX2_isFull at hf
  refine j_aload_n C 0 dX2_isFull_0 rfl rfl ?_
  refine g_X2_length C tw1_204 lc175 dX2_isFull_1 ?_
  refine j_sipush C (150 : Int32) rfl dX2_isFull_4 ?_
  refine j_icmp_lt C 14 dX2_isFull_7 (by decide) (fun c1 => ?_) (fun c1 => ?_)
  · replace hf := ip c1 hf
    refine j_iconst C (0 : Int32) rfl dX2_isFull_14 ?_
    obtain rfl := Option.some.inj hf
    exact hret _ _ dX2_isFull_15
  · replace hf := ine c1 hf
    refine j_iconst C (1 : Int32) rfl dX2_isFull_10 ?_
    refine j_goto C 15 dX2_isFull_11 (by decide) ?_
    obtain rfl := Option.some.inj hf
    exact hret _ _ dX2_isFull_15
def fX2_append (x1 : Int32) (M : Mem) : Option (Int32 × Mem) :=
  (fX2_isFull M).bind fun b2 =>
  if b2 = true then (some ((M.1 175 3), M))
  else ((astB M 176 150 (M.1 175 3) x1.toInt8.toInt32).bind fun M4 =>
  (pf M4 175 3 ((M4.1 175 3) + (1 : Int32))).bind fun M7 =>
  some ((M7.1 175 3), M7))

def rX2_append : Room := { frames := 1, cells := 0, slots := 0, locals := 20 }
set_option maxRecDepth 100000 in
set_option maxHeartbeats 4000000 in
theorem c_X2_append (l : Launch) (G : Gx) (n0 : Nat) {x1 : Int32} {M : Mem} {r : Int32} {M' : Mem} (hf : fX2_append x1 M = some (r, M')) : Ct l yX2_append cX2_append 2 (some .int) rX2_append G n0 [.ref (n0 + 175), .int x1] M (some (.int r)) M' := by
  refine ct_int (cc := cX2_append) (maxL := 2) rfl (Nat.le_of_ble_eq_true rfl) ?_
  intro K C hret
  have C : Ok K l rX2_append cX2_append RX2 G n0 2 := C
  show J K M 0 [(0, .ref (n0 + 175)), (1, .int x1)] []
  unfold fX2_append at hf
  refine j_aload_n C 0 dX2_append_0 rfl rfl ?_
  obtain ⟨b2, e1, hf⟩ := bd hf
  refine j_callV C 0 lc175 (ent_K _ _ _ _ _ _) rfl (c_X2_isFull l G n0 e1) gv_RX2_26 ⟨rfl, rfl⟩ (by decide +kernel) ⟨Nat.le_of_ble_eq_true rfl, Nat.le_of_ble_eq_true rfl⟩ rfl rfl (Nat.le_of_ble_eq_true rfl) dX2_append_1 ?_
  refine j_ifz_ne C 28 dX2_append_4 (by decide) (fun c3 => ?_) (fun c3 => ?_)
  · replace hf := ip c3 hf
    refine j_aload_n C 0 dX2_append_28 rfl rfl ?_
    refine g_X2_length C tw1_204 lc175 dX2_append_29 ?_
    obtain ⟨rfl, rfl⟩ := Prod.mk.inj (Option.some.inj hf)
    exact hret _ _ dX2_append_32
  · replace hf := ine c3 hf
    refine j_aload_n C 0 dX2_append_7 rfl rfl ?_
    refine g_X2_bytes C tw1_202 lc175 176 rfl dX2_append_8 ?_
    refine j_aload_n C 0 dX2_append_11 rfl rfl ?_
    refine g_X2_length C tw1_204 lc175 dX2_append_12 ?_
    refine j_iload_n C 1 dX2_append_15 rfl rfl ?_
    refine j_i2b C dX2_append_16 ?_
    obtain ⟨M4, e5, hf⟩ := bd hf
    obtain ⟨hx6, e5⟩ := astB_some e5
    refine j_bast C lc176 hx6 e5 dX2_append_17 ?_
    refine j_aload_n C 0 dX2_append_18 rfl rfl ?_
    refine j_dup C rfl dX2_append_19 ?_
    refine g_X2_length C tw1_204 lc175 dX2_append_20 ?_
    refine j_iconst C (1 : Int32) rfl dX2_append_23 ?_
    refine j_iadd C dX2_append_24 ?_
    obtain ⟨M7, e8, hf⟩ := bd hf
    refine p_X2_length C tw1_204 lc175 e8 dX2_append_25 ?_
    refine j_aload_n C 0 dX2_append_28 rfl rfl ?_
    refine g_X2_length C tw1_204 lc175 dX2_append_29 ?_
    obtain ⟨rfl, rfl⟩ := Prod.mk.inj (Option.some.inj hf)
    exact hret _ _ dX2_append_32
def fX8_size  (M : Mem) : Option Int32 :=
  some (M.1 45 2)

def rX8_size : Room := { frames := 0, cells := 0, slots := 0, locals := 0 }
set_option maxRecDepth 100000 in
set_option maxHeartbeats 4000000 in
theorem c_X8_size (l : Launch) (G : Gx) (n0 : Nat) {M : Mem} {r : Int32} (hf : fX8_size M = some r) : Ct l yX8_size cX8_size 1 (some .int) rX8_size G n0 [.ref (n0 + 45)] M (some (.int r)) M := by
  refine ct_int (cc := cX8_size) (maxL := 1) rfl (Nat.le_of_ble_eq_true rfl) ?_
  intro K C hret
  have C : Ok K l rX8_size cX8_size RX8 G n0 1 := C
  show J K M 0 [(0, .ref (n0 + 45))] []
  unfold fX8_size at hf
  refine j_aload_n C 0 dX8_size_0 rfl rfl ?_
  refine g_X8_count C tw1_188 lc45 dX8_size_1 ?_
  obtain rfl := Option.some.inj hf
  exact hret _ _ dX8_size_4
def fX8_popInto (o1 : Nat) (M : Mem) : Option (Int32 × Mem) :=
  (fX8_stateAt (M.1 45 1) M).bind fun w2 =>
  oc w2 (some ((M.1 45 2), M))
  (fun w3 => if ¬ lay[w3]? = some (tK 9) then none else
  if (M.1 45 2) ≤ 0 then (some ((M.1 45 2), M))
  else ((fX9_copyFrom o1 w3 M).bind fun M8 =>
  (if (M8.1 45 1) ≤ 0 then (some (3 : Int32))
  else (some ((M8.1 45 1) - (1 : Int32)))).bind (fun z10 => (pf M8 45 1 z10).bind fun M11 =>
  (pf M11 45 2 ((M11.1 45 2) - (1 : Int32))).bind fun M13 =>
  some ((M13.1 45 2), M13))))

def rX8_popInto : Room := { frames := 4, cells := 0, slots := 0, locals := 105 }
set_option maxRecDepth 100000 in
set_option maxHeartbeats 4000000 in
theorem c_X8_popInto (l : Launch) (G : Gx) (n0 : Nat) {o1 : Nat} (hk1 : lay[o1]? = some (tK 9)) {M : Mem} {r : Int32} {M' : Mem} (hf : fX8_popInto o1 M = some (r, M')) : Ct l yX8_popInto cX8_popInto 3 (some .int) rX8_popInto G n0 [.ref (n0 + 45), .ref (n0 + o1)] M (some (.int r)) M' := by
  refine ct_int (cc := cX8_popInto) (maxL := 3) rfl (Nat.le_of_ble_eq_true rfl) ?_
  intro K C hret
  have C : Ok K l rX8_popInto cX8_popInto RX8 G n0 3 := C
  show J K M 0 [(0, .ref (n0 + 45)), (1, .ref (n0 + o1))] []
  unfold fX8_popInto at hf
  refine j_aload_n C 0 dX8_popInto_0 rfl rfl ?_
  refine j_aload_n C 0 dX8_popInto_1 rfl rfl ?_
  refine g_X8_latest C tw1_187 lc45 dX8_popInto_2 ?_
  obtain ⟨w2, e1, hf⟩ := bd hf
  refine j_callV C 1 lc45 (ent_K _ _ _ _ _ _) rfl (c_X8_stateAt l G n0 e1) gv_RX8_23 ⟨rfl, rfl⟩ (by decide +kernel) ⟨Nat.le_of_ble_eq_true rfl, Nat.le_of_ble_eq_true rfl⟩ rfl rfl (Nat.le_of_ble_eq_true rfl) dX8_popInto_5 ?_
  rcases ocd hf with ⟨ho4, hf⟩ | ⟨w3, ho4, hf⟩
  · rw [ho4]
    refine j_astoreN_n C [(2, .null), (0, .ref (n0 + 45)), (1, .ref (n0 + o1))] dX8_popInto_8 rfl (Nat.le_of_ble_eq_true rfl) rfl ?_
    refine j_aloadN_n C 0 dX8_popInto_9 rfl rfl ?_
    refine j_ifnullT C 56 dX8_popInto_10 (by decide) ?_
    refine j_aload_n C 1 dX8_popInto_56 rfl rfl ?_
    refine g_X8_count C tw1_188 lc45 dX8_popInto_57 ?_
    obtain ⟨rfl, rfl⟩ := Prod.mk.inj (Option.some.inj hf)
    exact hret _ _ dX8_popInto_60
  · rw [ho4]
    obtain ⟨hq5, hf⟩ := gd hf
    refine j_astore_n C [(2, .ref (n0 + w3)), (0, .ref (n0 + 45)), (1, .ref (n0 + o1))] dX8_popInto_8 rfl (Nat.le_of_ble_eq_true rfl) rfl ?_
    refine j_aload_n C 0 dX8_popInto_9 rfl rfl ?_
    refine j_ifnullF C dX8_popInto_10 ?_
    refine j_aload_n C 1 dX8_popInto_13 rfl rfl ?_
    refine g_X8_count C tw1_188 lc45 dX8_popInto_14 ?_
    refine j_if_le C 56 dX8_popInto_17 (by decide) (fun c6 => ?_) (fun c6 => ?_)
    · replace hf := ip c6 hf
      refine j_aload_n C 1 dX8_popInto_56 rfl rfl ?_
      refine g_X8_count C tw1_188 lc45 dX8_popInto_57 ?_
      obtain ⟨rfl, rfl⟩ := Prod.mk.inj (Option.some.inj hf)
      exact hret _ _ dX8_popInto_60
    · replace hf := ine c6 hf
      refine j_aload_n C 2 dX8_popInto_20 rfl rfl ?_
      refine j_aload_n C 0 dX8_popInto_21 rfl rfl ?_
      obtain ⟨M8, e7, hf⟩ := bd hf
      refine j_callV C 1 hk1 (ent_K _ _ _ _ _ _) rfl (c_X9_copyFrom l G n0 hk1 (Decidable.not_not.mp hq5) e7) gv_RX8_27 ⟨rfl, rfl⟩ (by decide +kernel) ⟨Nat.le_of_ble_eq_true rfl, Nat.le_of_ble_eq_true rfl⟩ rfl rfl (Nat.le_of_ble_eq_true rfl) dX8_popInto_22 ?_
      refine j_aload_n C 1 dX8_popInto_25 rfl rfl ?_
      refine j_aload_n C 1 dX8_popInto_26 rfl rfl ?_
      refine g_X8_latest C tw1_187 lc45 dX8_popInto_27 ?_
      obtain ⟨z10, e15, hf⟩ := bd hf
      have hj16 : J K M8 43 [(0, .ref (n0 + 45))] [.int z10, .ref (n0 + 45)] := by
        obtain ⟨M11, e12, hf⟩ := bd hf
        refine p_X8_latest C tw1_187 lc45 e12 dX8_popInto_43 ?_
        refine j_aload_n C 0 dX8_popInto_46 rfl rfl ?_
        refine j_dup C rfl dX8_popInto_47 ?_
        refine g_X8_count C tw1_188 lc45 dX8_popInto_48 ?_
        refine j_iconst C (1 : Int32) rfl dX8_popInto_51 ?_
        refine j_isub C dX8_popInto_52 ?_
        obtain ⟨M13, e14, hf⟩ := bd hf
        refine p_X8_count C tw1_188 lc45 e14 dX8_popInto_53 ?_
        refine j_aload_n C 0 dX8_popInto_56 rfl rfl ?_
        refine g_X8_count C tw1_188 lc45 dX8_popInto_57 ?_
        obtain ⟨rfl, rfl⟩ := Prod.mk.inj (Option.some.inj hf)
        exact hret _ _ dX8_popInto_60
      clear hf
      have hf := e15
      refine j_if_le C 42 dX8_popInto_30 (by decide) (fun c9 => ?_) (fun c9 => ?_)
      · replace hf := ip c9 hf
        refine j_iconst C (3 : Int32) rfl dX8_popInto_42 ?_
        cases hf
        refine j_sub [1] rfl ?_
        exact hj16
      · replace hf := ine c9 hf
        refine j_aload_n C 1 dX8_popInto_33 rfl rfl ?_
        refine g_X8_latest C tw1_187 lc45 dX8_popInto_34 ?_
        refine j_iconst C (1 : Int32) rfl dX8_popInto_37 ?_
        refine j_isub C dX8_popInto_38 ?_
        refine j_goto C 43 dX8_popInto_39 (by decide) ?_
        cases hf
        refine j_sub [1] rfl ?_
        exact hj16
