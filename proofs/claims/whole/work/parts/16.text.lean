/-- a small whole number is returned (byte, char) -/
theorem ct_nar {l : Launch} {y : MethodName} {rm : Room} {cc : ByteArray} {maxL : Nat} {G : Gx} {n0 : Nat} {av : List Value} {M M' : Mem} {ty : FieldType} {r : Int32} (hnr : narrow ty (.int r) = .int r) (hy : plainName y.cls = true) (hn : (lg_sl av).length ≤ maxL)
    (body : ∀ K, Ok K l rm cc y.cls G n0 maxL → (∀ pc L, decode cc pc = .ok (.ireturn, 1) → J K M' pc L [.int r]) → J K M 0 (lv_args 0 av) []) : Ct l y cc maxL (some ty) rm G n0 av M (some (.int r)) M' := by
  refine Met.ofW (cc := cc) (maxL := maxL) (ret := some ty) hy rfl ?_
  intro p e s m args below meth c s₁ B hml hv
  obtain ⟨rfl, hP, hK, hSt⟩ := hv
  have hts := fun w hw => atoms_spec (ws := wsT y cc maxL (some ty)) B.pre w (List.mem_cons_of_mem _ hw)
  have hown : s.vm.findClass y.cls = some m.cls := findClass_of_methodNamed B.named
  have hl := lv_entry av (n := maxL) hn
  rw [lg_entry_eq]
  exact body (p, l, e, rm, s, m, av.toArray, below, meth, c, MQ below (QR G n0 (some (.int r)) M') av.toArray s 0 0 (fun q => n0 ≤ q), G, n0, maxL, 0, 0)
    ⟨rfl, rfl, rfl, rfl, rfl, B.exec, B.bytes, hown, hts, hK, hml, hSt, Nat.zero_le _, Nat.zero_le _⟩
    (fun pc L hd H locs ls hP1 hS1 _ => W.zret B.exec B.bytes B.returns hnr (fun t ht hW => ⟨rfl, Rl_end hP1 hK hSt hS1 ht hW⟩) hS1.2.2 hd B.notSynchronized) s.heap [] _ hP va_S.rf hl
section JX
variable {K : Kx} {l : Launch} {R : Room} {cc : ByteArray} {own : String} {G : Gx} {n0 nL : Nat} {M M' : Mem} {pc index : Nat} {L : List (Nat × Value)} {st : List Value}
theorem j_i2c (C : Ok K l R cc own G n0 nL) {x v : Int32} (hv : (x.toUInt32 % 65536).toInt32 = v) (hdg : decode cc pc = .ok (.i2c, 1)) (kk : J K M (pc + 1) L (.int v :: st)) : J K M pc L (.int x :: st) := by
  obtain ⟨p, l', e, R', s, m, args, below, meth, c, Q, G', n0', nL', cells, slots⟩ := K
  obtain ⟨rfl, rfl, rfl, rfl, rfl, hx, hb, hown, hts, hK, hml, hSt, hce, hsl⟩ := C
  intro H locs ls hP hS hl
  exact lv_i2c hx hb hdg hv (kk H locs ls hP hS hl)
theorem j_getsCS (C : Ok K l R cc own G n0 nL) (hlk : Cond.fieldLink own index "java/lang/String" "COMPACT_STRINGS" "Z" ∈ TB) (hdg : decode cc pc = .ok (.getstatic index, 3)) (kk : J K M (pc + 3) L (.int 1 :: st)) : J K M pc L st := by
  obtain ⟨p, l', e, R', s, m, args, below, meth, c, Q, G', n0', nL', cells, slots⟩ := K
  obtain ⟨rfl, rfl, rfl, rfl, rfl, hx, hb, hown, hts, hK, hml, hSt, hce, hsl⟩ := C
  intro H locs ls hP hS hl
  exact va_gets hx hb hSt.fx.2.2.2.2.2.2.2.2.1 hS hown (hts _ hlk) (fun _ h => h) hdg (kk H locs ls hP hS hl)
theorem j_getsSI (C : Ok K l R cc own G n0 nL) (hlk : Cond.fieldLink own index "jdk/internal/util/Preconditions" "SIOOBE_FORMATTER" "Ljava/util/function/BiFunction;" ∈ TB) (hdg : decode cc pc = .ok (.getstatic index, 3)) (kk : ∀ r : Option Nat, J K M (pc + 3) L (va_rf r :: st)) : J K M pc L st := by
  obtain ⟨p, l', e, R', s, m, args, below, meth, c, Q, G', n0', nL', cells, slots⟩ := K
  obtain ⟨rfl, rfl, rfl, rfl, rfl, hx, hb, hown, hts, hK, hml, hSt, hce, hsl⟩ := C
  intro H locs ls hP hS hl
  rcases hSt.fx.2.2.2.2.2.2.2.2.2 with h | ⟨t, h⟩
  · exact va_gets hx hb h hS hown (hts _ hlk) (fun _ h => h) hdg (kk none H locs ls hP hS hl)
  · exact va_gets hx hb h hS hown (hts _ hlk) (fun _ h => h) hdg (kk (some t) H locs ls hP hS hl)
theorem j_bylen (C : Ok K l R cc own G n0 nL) {w : Nat} (hw : w < 7) (hdg : decode cc pc = .ok (.arraylength, 1)) (kk : J K M (pc + 1) L (.int (wLen w) :: st)) : J K M pc L (.ref (G.2.2 (14 + w)) :: st) := by
  obtain ⟨p, l', e, R', s, m, args, below, meth, c, Q, G', n0', nL', cells, slots⟩ := K
  obtain ⟨rfl, rfl, rfl, rfl, rfl, hx, hb, hown, hts, hK, hml, hSt, hce, hsl⟩ := C
  intro H locs ls hP hS hl
  exact va_tlen hx hb (hSt.fx.1.2.1 w hw).2.2.2 hS rfl hdg (kk H locs ls hP hS hl)
theorem j_byld (C : Ok K l R cc own G n0 nL) {w : Nat} {i : Int32} (hw : w < 7) (hin : ¬ (i < 0 ∨ wLn w ≤ i.toNatClampNeg)) (hdg : decode cc pc = .ok (.baload, 1)) (kk : J K M (pc + 1) L (.int (wCh w i.toNatClampNeg) :: st)) : J K M pc L (.int i :: .ref (G.2.2 (14 + w)) :: st) := by
  obtain ⟨p, l', e, R', s, m, args, below, meth, c, Q, G', n0', nL', cells, slots⟩ := K
  obtain ⟨rfl, rfl, rfl, rfl, rfl, hx, hb, hown, hts, hK, hml, hSt, hce, hsl⟩ := C
  intro H locs ls hP hS hl
  exact va_tb hx hb (hSt.fx.1.2.1 w hw).2.2.2 hS hin rfl hdg (kk H locs ls hP hS hl)
theorem j_callX {y : MethodName} {rm : Room} {bytes : ByteArray} {maxL : Nat} {ret : Option FieldType} {v : Option Value} {As st0 : List Value} (C : Ok K l R cc own G n0 nL) {w : Nat} (n : Nat) (hw : w < 7) (h : Ct l y bytes maxL ret rm G n0 (.ref (G.2.2 (7 + w)) :: As) M v M') (hg : GV own index RJ0 y bytes maxL ret) (hrm : rm.cells = 0 ∧ rm.slots = 0)
    (hd : y.cls = RJ0 ∧ y.cls ≠ "java/lang/invoke/MethodHandle" ∧ y.cls ≠ "java/lang/invoke/VarHandle" ∧ (parseMethodDescriptor y.desc).map (fun d => d.parameters.length) = some n) (hR : rm.frames + 1 ≤ R.frames ∧ 8 + (maxL + 11) + rm.locals ≤ R.locals) (hn : As.length = n) (hst : st0 = As.reverse ++ .ref (G.2.2 (7 + w)) :: st) (hW : (st.map fun v => v.category).sum ≤ 8) (hdg : decode cc pc = .ok (.invokevirtual index, 3))
    (kk : J K M' (pc + 3) L (v.toList ++ st)) : J K M pc L st0 := by
  obtain ⟨p, l', e, R', s, m, args, below, meth, c, Q, G', n0', nL', cells, slots⟩ := K
  obtain ⟨rfl, rfl, rfl, rfl, rfl, hx, hb, hown, hts, hK, hml, hSt, hce, hsl⟩ := C
  intro H locs ls hP hS hl
  subst hst
  exact j_ret (va_runV (As := As) (rest := st) ⟨hx, hb, hml, hown, hts⟩ h (cwV n hts hg.good rfl hrm.1 hrm.2 hd hR) ⟨Rl_blind, vk_recv hSt.fx.1.2 hw hS, fun U hU hW => ⟨rfl, by rw [hU]; exact hP, va_K.moved hW.alike hK, hSt.step hW (hS.F hU)⟩⟩ rfl hn hl.1 rfl (lv_room hW) hdg ⟨hce, hsl⟩) hS (fun H1 locs1 hP1 hS1 => kk H1 locs1 ls hP1 hS1 hl)
end JX
def rZ : Room := { frames := 0, cells := 0, slots := 0, locals := 0 }
def rJ0c : Room := { frames := 1, cells := 0, slots := 0, locals := 22 }
def rJ1a : Room := { frames := 2, cells := 0, slots := 0, locals := 43 }
def rJ0a : Room := { frames := 3, cells := 0, slots := 0, locals := 64 }
def rJ0l : Room := { frames := 1, cells := 0, slots := 0, locals := 20 }
theorem wLn_b : ∀ w, w < 7 → wLn w < 7 ∧ (wLen w).toInt = (wLn w : Int) ∧ wLen w >>> ((0 : Int32) &&& 31) = wLen w := by decide +kernel
theorem wLn_lt {i : Int32} {w : Nat} (hw : w < 7) (h : ¬ (i < 0 ∨ wLn w ≤ i.toNatClampNeg)) : ¬ i < 0 ∧ i < wLen w := by
  refine ⟨fun q => h (Or.inl q), ?_⟩
  have h1 : ¬ i < 0 := fun q => h (Or.inl q)
  have h2 : ¬ wLn w ≤ i.toNatClampNeg := fun q => h (Or.inr q)
  have h3 := (wLn_b w hw).2.1
  rw [Int32.lt_iff_toInt_lt] at h1 ⊢
  have h0 : (0 : Int32).toInt = 0 := by decide
  rw [h0] at h1
  rw [h3]
  have h4 : i.toNatClampNeg = i.toInt.toNat := rfl
  omega
theorem wCh_c : ∀ w, w < 7 → ∀ j, j < wLn w → ((wCh w j &&& 255).toUInt32 % 65536).toInt32 = wCh w j ∧ narrow .char (.int (wCh w j)) = .int (wCh w j) := by decide +kernel
section STR
variable (l : Launch) (G : Gx) (n0 : Nat)
theorem c_J3_checkIndex {i n : Int32} {r : Option Nat} {M : Mem} (h0 : ¬ i < 0) (h1 : i < n) : Ct l yJ3_checkIndex_8e157 cJ3_checkIndex_8e157 3 (some .int) rZ G n0 [.int i, .int n, va_rf r] M (some (.int i)) M := by
  cases r
  all_goals
    refine ct_int (cc := cJ3_checkIndex_8e157) (maxL := 3) rfl (Nat.le_of_ble_eq_true rfl) ?_
    intro K C hret
    have C : Ok K l rZ cJ3_checkIndex_8e157 RJ3 G n0 3 := C
    show J K M 0 [(0, .int i), (1, .int n), (2, _)] []
    refine j_iload_n C 0 dJ3_checkIndex_8e157_0 rfl rfl ?_
    refine j_if_lt C 9 dJ3_checkIndex_8e157_1 (by decide) (fun c => absurd c h0) (fun _ => ?_)
    refine j_iload_n C 0 dJ3_checkIndex_8e157_4 rfl rfl ?_
    refine j_iload_n C 1 dJ3_checkIndex_8e157_5 rfl rfl ?_
    refine j_icmp_lt C 16 dJ3_checkIndex_8e157_6 (by decide) (fun _ => ?_) (fun c => absurd h1 c)
    refine j_iload_n C 0 dJ3_checkIndex_8e157_16 rfl rfl ?_
    exact hret _ _ dJ3_checkIndex_8e157_17
theorem c_J0_checkIndex {i n : Int32} {M : Mem} (h0 : ¬ i < 0) (h1 : i < n) : Ct l yJ0_checkIndex_df160 cJ0_checkIndex_df160 2 none rJ0c G n0 [.int i, .int n] M none M := by
  refine ct_void (cc := cJ0_checkIndex_df160) (maxL := 2) rfl (Nat.le_of_ble_eq_true rfl) ?_
  intro K C hret
  have C : Ok K l rJ0c cJ0_checkIndex_df160 RJ0 G n0 2 := C
  show J K M 0 [(0, .int i), (1, .int n)] []
  refine j_iload_n C 0 dJ0_checkIndex_df160_0 rfl rfl ?_
  refine j_iload_n C 1 dJ0_checkIndex_df160_1 rfl rfl ?_
  refine j_getsSI C tw3_27 dJ0_checkIndex_df160_2 (fun r => ?_)
  refine j_callS C 3 (c_J3_checkIndex l G n0 (r := r) h0 h1) gs_RJ0_1059 ⟨rfl, rfl⟩ (by decide +kernel) ⟨Nat.le_of_ble_eq_true rfl, Nat.le_of_ble_eq_true rfl⟩ rfl rfl (Nat.le_of_ble_eq_true rfl) dJ0_checkIndex_df160_5 ?_
  refine j_pop C rfl dJ0_checkIndex_df160_8 ?_
  exact hret _ _ dJ0_checkIndex_df160_9
theorem c_J1_charAt {w : Nat} {i : Int32} {M : Mem} (hw : w < 7) (h : ¬ (i < 0 ∨ wLn w ≤ i.toNatClampNeg)) : Ct l yJ1_charAt_3b067 cJ1_charAt_3b067 2 (some .char) rJ1a G n0 [.ref (G.2.2 (14 + w)), .int i] M (some (.int (wCh w i.toNatClampNeg))) M := by
  have hj : i.toNatClampNeg < wLn w := Nat.not_le.mp fun q => h (Or.inr q)
  refine ct_nar (wCh_c w hw _ hj).2 (cc := cJ1_charAt_3b067) (maxL := 2) rfl (Nat.le_of_ble_eq_true rfl) ?_
  intro K C hret
  have C : Ok K l rJ1a cJ1_charAt_3b067 RJ1 G n0 2 := C
  show J K M 0 [(0, .ref (G.2.2 (14 + w))), (1, .int i)] []
  refine j_iload_n C 1 dJ1_charAt_3b067_0 rfl rfl ?_
  refine j_aload_n C 0 dJ1_charAt_3b067_1 rfl rfl ?_
  refine j_bylen C hw dJ1_charAt_3b067_2 ?_
  refine j_callS C 2 (c_J0_checkIndex l G n0 (wLn_lt hw h).1 (wLn_lt hw h).2) gs_RJ1_9 ⟨rfl, rfl⟩ (by decide +kernel) ⟨Nat.le_of_ble_eq_true rfl, Nat.le_of_ble_eq_true rfl⟩ rfl rfl (Nat.le_of_ble_eq_true rfl) dJ1_charAt_3b067_3 ?_
  refine j_aload_n C 0 dJ1_charAt_3b067_6 rfl rfl ?_
  refine j_iload_n C 1 dJ1_charAt_3b067_7 rfl rfl ?_
  refine j_byld C hw h dJ1_charAt_3b067_8 ?_
  refine j_sipush C (255 : Int32) rfl dJ1_charAt_3b067_9 ?_
  refine j_iand C dJ1_charAt_3b067_12 ?_
  refine j_i2c C (wCh_c w hw _ hj).1 dJ1_charAt_3b067_13 ?_
  exact hret _ _ dJ1_charAt_3b067_14
theorem c_J0_coder {w : Nat} {M : Mem} (hw : w < 7) : Ct l yJ0_coder_7d493 cJ0_coder_7d493 1 (some .byte) rZ G n0 [.ref (G.2.2 (7 + w))] M (some (.int 0)) M := by
  refine ct_nar (by decide) (cc := cJ0_coder_7d493) (maxL := 1) rfl (Nat.le_of_ble_eq_true rfl) ?_
  intro K C hret
  have C : Ok K l rZ cJ0_coder_7d493 RJ0 G n0 1 := C
  show J K M 0 [(0, .ref (G.2.2 (7 + w)))] []
  refine j_getsCS C tw3_11 dJ0_coder_7d493_0 ?_
  refine j_if_eq C 13 dJ0_coder_7d493_3 (by decide) (fun c => absurd c (by decide)) (fun _ => ?_)
  refine j_aload_n C 0 dJ0_coder_7d493_6 rfl rfl ?_
  refine j_of C tw7_101 (fun s h => (h.fx.1.2.1 w hw).2.1) dJ0_coder_7d493_7 ?_
  refine j_goto C 14 dJ0_coder_7d493_10 (by decide) ?_
  exact hret _ _ dJ0_coder_7d493_14
theorem c_J0_isLatin1 {w : Nat} {M : Mem} (hw : w < 7) : Ct l yJ0_isLatin1_aae02 cJ0_isLatin1_aae02 1 (some .boolean) rZ G n0 [.ref (G.2.2 (7 + w))] M (some (.int 1)) M := by
  refine ct_nar (by decide) (cc := cJ0_isLatin1_aae02) (maxL := 1) rfl (Nat.le_of_ble_eq_true rfl) ?_
  intro K C hret
  have C : Ok K l rZ cJ0_isLatin1_aae02 RJ0 G n0 1 := C
  show J K M 0 [(0, .ref (G.2.2 (7 + w)))] []
  refine j_getsCS C tw3_11 dJ0_isLatin1_aae02_0 ?_
  refine j_if_eq C 17 dJ0_isLatin1_aae02_3 (by decide) (fun c => absurd c (by decide)) (fun _ => ?_)
  refine j_aload_n C 0 dJ0_isLatin1_aae02_6 rfl rfl ?_
  refine j_of C tw7_101 (fun s h => (h.fx.1.2.1 w hw).2.1) dJ0_isLatin1_aae02_7 ?_
  refine j_if_ne C 17 dJ0_isLatin1_aae02_10 (by decide) (fun c => absurd rfl c) (fun _ => ?_)
  refine j_iconst C (1 : Int32) rfl dJ0_isLatin1_aae02_13 ?_
  refine j_goto C 18 dJ0_isLatin1_aae02_14 (by decide) ?_
  exact hret _ _ dJ0_isLatin1_aae02_18
theorem c_J0_length {w : Nat} {M : Mem} (hw : w < 7) : Ct l yJ0_length_8abf5 cJ0_length_8abf5 1 (some .int) rJ0l G n0 [.ref (G.2.2 (7 + w))] M (some (.int (wLen w))) M := by
  refine ct_int (cc := cJ0_length_8abf5) (maxL := 1) rfl (Nat.le_of_ble_eq_true rfl) ?_
  intro K C hret
  have C : Ok K l rJ0l cJ0_length_8abf5 RJ0 G n0 1 := C
  show J K M 0 [(0, .ref (G.2.2 (7 + w)))] []
  refine j_aload_n C 0 dJ0_length_8abf5_0 rfl rfl ?_
  refine j_of C tw7_100 (fun s h => (h.fx.1.2.1 w hw).2.2.1) dJ0_length_8abf5_1 ?_
  refine j_bylen C hw dJ0_length_8abf5_4 ?_
  refine j_aload_n C 0 dJ0_length_8abf5_5 rfl rfl ?_
  refine j_callX C 0 hw (c_J0_coder l G n0 hw) gv_RJ0_335 ⟨rfl, rfl⟩ (by decide +kernel) ⟨Nat.le_of_ble_eq_true rfl, Nat.le_of_ble_eq_true rfl⟩ rfl rfl (Nat.le_of_ble_eq_true rfl) dJ0_length_8abf5_6 ?_
  refine j_ishr C dJ0_length_8abf5_9 ?_
  rw [(wLn_b w hw).2.2]
  exact hret _ _ dJ0_length_8abf5_10
theorem c_J0_charAt {w : Nat} {i : Int32} {M : Mem} (hw : w < 7) (h : ¬ (i < 0 ∨ wLn w ≤ i.toNatClampNeg)) : Ct l yJ0_charAt_5068e cJ0_charAt_5068e 2 (some .char) rJ0a G n0 [.ref (G.2.2 (7 + w)), .int i] M (some (.int (wCh w i.toNatClampNeg))) M := by
  have hj : i.toNatClampNeg < wLn w := Nat.not_le.mp fun q => h (Or.inr q)
  refine ct_nar (wCh_c w hw _ hj).2 (cc := cJ0_charAt_5068e) (maxL := 2) rfl (Nat.le_of_ble_eq_true rfl) ?_
  intro K C hret
  have C : Ok K l rJ0a cJ0_charAt_5068e RJ0 G n0 2 := C
  show J K M 0 [(0, .ref (G.2.2 (7 + w))), (1, .int i)] []
  refine j_aload_n C 0 dJ0_charAt_5068e_0 rfl rfl ?_
  refine j_callX C 0 hw (c_J0_isLatin1 l G n0 hw) gv_RJ0_492 ⟨rfl, rfl⟩ (by decide +kernel) ⟨Nat.le_of_ble_eq_true rfl, Nat.le_of_ble_eq_true rfl⟩ rfl rfl (Nat.le_of_ble_eq_true rfl) dJ0_charAt_5068e_1 ?_
  refine j_if_eq C 16 dJ0_charAt_5068e_4 (by decide) (fun c => absurd c (by decide)) (fun _ => ?_)
  refine j_aload_n C 0 dJ0_charAt_5068e_7 rfl rfl ?_
  refine j_of C tw7_100 (fun s h => (h.fx.1.2.1 w hw).2.2.1) dJ0_charAt_5068e_8 ?_
  refine j_iload_n C 1 dJ0_charAt_5068e_11 rfl rfl ?_
  refine j_callS C 2 (c_J1_charAt l G n0 hw h) gs_RJ0_495 ⟨rfl, rfl⟩ (by decide +kernel) ⟨Nat.le_of_ble_eq_true rfl, Nat.le_of_ble_eq_true rfl⟩ rfl rfl (Nat.le_of_ble_eq_true rfl) dJ0_charAt_5068e_12 ?_
  exact hret _ _ dJ0_charAt_5068e_15
end STR
