def lL_isForetold_73  : Nat → Int32 → Int32 → Mem → Option (Int32 × Mem)
  | 0, _, _, _ => none
  | n + 1, a24, a25, M26 =>
  (gL_whole (3 : Int32) M26).bind fun v28 =>
  if v28 ≤ a25 then (some (a24, M26))
  else ((gL_batch a25 (2 : Int32) M26).bind (un2 fun v31 M32 =>
  lL_isForetold_73  n (a24 + v31) (a25 + 1) M32))

def fL_isForetold (x1 : Int32) (M : Mem) : Option (Bool × Mem) :=
  (gL_whole (3 : Int32) M).bind fun v2 =>
  if v2 = 0 then (some (true, M))
  else ((fL_print M).bind (un2 fun v5 M6 =>
  (gL_doughWith x1 M6).bind (un2 fun v8 M9 =>
  (fX11_bestWood M9).bind (un2 fun v11 M12 =>
  (gL_doughWith v11 M12).bind (un2 fun v14 M15 =>
  (fX11_nextForWood M15).bind fun v17 =>
  (gL_whole (6 : Int32) M15).bind fun v19 =>
  (gL_whole (7 : Int32) M15).bind fun v21 =>
  (gL_household v17 (1 : Int32) M15).bind fun v23 =>
  (lL_isForetold_73 FUEL (0 : Int32) (0 : Int32) M15).bind (un2 fun a33 M34 => (fL_print M34).bind (un2 fun v36 M37 =>
  (if v36 = v5 then (if v8 < v14 then (some (false, M37))
  else (lab (fun _ => (gL_bake x1 M37).bind (un2 fun v44 M45 =>
  if v44 = (a33 - v8) then ((gL_whole (6 : Int32) M45).bind fun v48 =>
  if v48 = (v19 + v8) then ((gL_whole (7 : Int32) M45).bind fun v51 =>
  if v51 = ((v21 + a33) - v8) then ((gL_whole (3 : Int32) M45).bind fun v54 =>
  if v54 = 0 then ((gL_household v17 (1 : Int32) M45).bind fun v57 =>
  if v57 = (v23 + x1) then ((gL_household v17 (3 : Int32) M45).bind fun v60 =>
  if v60 = 0 then ((fL_areLoads M45).bind (un2 fun b63 M64 =>
  if b63 = true then ((fL_areLoaves M64).bind fun b67 =>
  if b67 = true then ((fL_areHouses M64).bind fun b70 =>
  if b70 = true then (some (true, M64))
  else (some (false, M64)))
  else (some (false, M64)))
  else (some (false, M64))))
  else (some (false, M45)))
  else (some (false, M45)))
  else (some (false, M45)))
  else (some (false, M45)))
  else (some (false, M45)))
  else (some (false, M45))))
  (fun kl42 => if v14 < v8 then (kl42 ())
  else (if x1 < v11 then (some (false, M37))
  else (kl42 ())))))
  else (some (false, M37))).bind (un2 fun z72 M73 => if z72 = true then ((gL_undo M73).bind (un2 fun v76 M77 =>
  if v76 < 0 then (some (false, M77))
  else ((fL_print M77).bind (un2 fun v80 M81 =>
  if v80 = v5 then (some (true, M81))
  else (some (false, M81))))))
  else (some (false, M73))))))))))

def rL_isForetold : Room := { frames := 10, cells := 244, slots := 1464, locals := 192 }
set_option maxRecDepth 100000 in
set_option maxHeartbeats 8000000 in
theorem c_L_isForetold (l : Launch) (hfl : l.stackTraces = false) (G : Gx) (n0 : Nat) {x1 : Int32} {M : Mem} {r : Bool} {M' : Mem} (hf : fL_isForetold x1 M = some (r, M')) : CtK l yL_isForetold cL_isForetold 13 (some .boolean) rL_isForetold G n0 [.ref (n0 + 0), .int x1] M (some (.int (bI r))) M' 244 := by
  refine ctk_bool (cc := cL_isForetold) (maxL := 13) rfl (Nat.le_of_ble_eq_true rfl) ⟨rfl, rfl⟩ ?_
  intro K CC hret
  have CC : ∀ a, a ≤ 244 → Ok (kc K a) l rL_isForetold cL_isForetold RL G n0 13 := CC
  show J (kc K 0) M 0 [(0, .ref (n0 + 0)), (1, .int x1)] []
  have C := CC 0 (by omega)
  unfold fL_isForetold at hf
  refine j_aload_n C 0 dL_isForetold_0 rfl rfl ?_
  refine j_iconst C (3 : Int32) rfl dL_isForetold_1 ?_
  obtain ⟨v2, e1, hf⟩ := bd hf
  refine j_callR C 2 (cg_L_whole l G n0 e1) gw_L_whole_91 ⟨rfl, rfl⟩ (by decide +kernel) ⟨Nat.le_of_ble_eq_true rfl, Nat.le_of_ble_eq_true rfl⟩ rfl rfl (Nat.le_of_ble_eq_true rfl) dL_isForetold_2 ?_
  refine j_if_ne C 10 dL_isForetold_5 (by decide) (fun c3 => ?_) (fun c3 => ?_)
  · replace hf := ine c3 hf
    refine j_aload_n C 0 dL_isForetold_10 rfl rfl ?_
    obtain ⟨⟨v5, M6⟩, e4, hf⟩ := bd hf
    replace hf := un2e hf
    refine j_callK (k := 81) C (CC _ (by omega)) 1 (c_L_print l hfl G n0 e4) gs_RL_105 ⟨rfl, rfl⟩ (by decide +kernel) ⟨Nat.le_of_ble_eq_true rfl, Nat.le_of_ble_eq_true rfl⟩ rfl rfl (Nat.le_of_ble_eq_true rfl) dL_isForetold_11 ?_
    have C := CC (0 + 81) (by omega)
    refine j_lstore_n C [(2, .long v5), (0, .ref (n0 + 0)), (1, .int x1)] dL_isForetold_14 rfl (Nat.le_of_ble_eq_true rfl) rfl ?_
    refine j_aload_n C 1 dL_isForetold_15 rfl rfl ?_
    refine j_iload_n C 2 dL_isForetold_16 rfl rfl ?_
    obtain ⟨⟨v8, M9⟩, e7, hf⟩ := bd hf
    replace hf := un2e hf
    refine j_callR C 2 (cg_L_doughWith l G n0 e7) gw_L_doughWith_133 ⟨rfl, rfl⟩ (by decide +kernel) ⟨Nat.le_of_ble_eq_true rfl, Nat.le_of_ble_eq_true rfl⟩ rfl rfl (Nat.le_of_ble_eq_true rfl) dL_isForetold_17 ?_
    refine j_istore C [(4, .int v8), (2, .long v5), (0, .ref (n0 + 0)), (1, .int x1)] dL_isForetold_20 (Nat.le_of_ble_eq_true rfl) rfl ?_
    refine j_aload_n C 2 dL_isForetold_22 rfl rfl ?_
    obtain ⟨⟨v11, M12⟩, e10, hf⟩ := bd hf
    replace hf := un2e hf
    refine j_callV C 0 lc0 (ent_K _ _ _ _ _ _) rfl (c_X11_bestWood l G n0 e10) gv_RL_139 ⟨rfl, rfl⟩ (by decide +kernel) ⟨Nat.le_of_ble_eq_true rfl, Nat.le_of_ble_eq_true rfl⟩ rfl rfl (Nat.le_of_ble_eq_true rfl) dL_isForetold_23 ?_
    refine j_istore C [(5, .int v11), (4, .int v8), (2, .long v5), (0, .ref (n0 + 0)), (1, .int x1)] dL_isForetold_26 (Nat.le_of_ble_eq_true rfl) rfl ?_
    refine j_aload_n C 3 dL_isForetold_28 rfl rfl ?_
    refine j_iload C 0 dL_isForetold_29 rfl ?_
    obtain ⟨⟨v14, M15⟩, e13, hf⟩ := bd hf
    replace hf := un2e hf
    refine j_callR C 2 (cg_L_doughWith l G n0 e13) gw_L_doughWith_133 ⟨rfl, rfl⟩ (by decide +kernel) ⟨Nat.le_of_ble_eq_true rfl, Nat.le_of_ble_eq_true rfl⟩ rfl rfl (Nat.le_of_ble_eq_true rfl) dL_isForetold_31 ?_
    refine j_istore C [(6, .int v14), (5, .int v11), (4, .int v8), (2, .long v5), (0, .ref (n0 + 0)), (1, .int x1)] dL_isForetold_34 (Nat.le_of_ble_eq_true rfl) rfl ?_
    refine j_aload_n C 4 dL_isForetold_36 rfl rfl ?_
    obtain ⟨v17, e16, hf⟩ := bd hf
    refine j_callV C 0 lc0 (ent_K _ _ _ _ _ _) rfl (c_X11_nextForWood l G n0 e16) gv_RL_142 ⟨rfl, rfl⟩ (by decide +kernel) ⟨Nat.le_of_ble_eq_true rfl, Nat.le_of_ble_eq_true rfl⟩ rfl rfl (Nat.le_of_ble_eq_true rfl) dL_isForetold_37 ?_
    refine j_istore C [(7, .int v17), (6, .int v14), (5, .int v11), (4, .int v8), (2, .long v5), (0, .ref (n0 + 0)), (1, .int x1)] dL_isForetold_40 (Nat.le_of_ble_eq_true rfl) rfl ?_
    refine j_aload_n C 5 dL_isForetold_42 rfl rfl ?_
    refine j_bipush C (6 : Int32) rfl dL_isForetold_43 ?_
    obtain ⟨v19, e18, hf⟩ := bd hf
    refine j_callR C 2 (cg_L_whole l G n0 e18) gw_L_whole_91 ⟨rfl, rfl⟩ (by decide +kernel) ⟨Nat.le_of_ble_eq_true rfl, Nat.le_of_ble_eq_true rfl⟩ rfl rfl (Nat.le_of_ble_eq_true rfl) dL_isForetold_45 ?_
    refine j_istore C [(8, .int v19), (7, .int v17), (6, .int v14), (5, .int v11), (4, .int v8), (2, .long v5), (0, .ref (n0 + 0)), (1, .int x1)] dL_isForetold_48 (Nat.le_of_ble_eq_true rfl) rfl ?_
    refine j_aload_n C 6 dL_isForetold_50 rfl rfl ?_
    refine j_bipush C (7 : Int32) rfl dL_isForetold_51 ?_
    obtain ⟨v21, e20, hf⟩ := bd hf
    refine j_callR C 2 (cg_L_whole l G n0 e20) gw_L_whole_91 ⟨rfl, rfl⟩ (by decide +kernel) ⟨Nat.le_of_ble_eq_true rfl, Nat.le_of_ble_eq_true rfl⟩ rfl rfl (Nat.le_of_ble_eq_true rfl) dL_isForetold_53 ?_
    refine j_istore C [(9, .int v21), (8, .int v19), (7, .int v17), (6, .int v14), (5, .int v11), (4, .int v8), (2, .long v5), (0, .ref (n0 + 0)), (1, .int x1)] dL_isForetold_56 (Nat.le_of_ble_eq_true rfl) rfl ?_
    refine j_aload_n C 7 dL_isForetold_58 rfl rfl ?_
    refine j_iload C 2 dL_isForetold_59 rfl ?_
    refine j_iconst C (1 : Int32) rfl dL_isForetold_61 ?_
    obtain ⟨v23, e22, hf⟩ := bd hf
    refine j_callR C 3 (cg_L_household l G n0 e22) gw_L_household_96 ⟨rfl, rfl⟩ (by decide +kernel) ⟨Nat.le_of_ble_eq_true rfl, Nat.le_of_ble_eq_true rfl⟩ rfl rfl (Nat.le_of_ble_eq_true rfl) dL_isForetold_62 ?_
    refine j_istore C [(10, .int v23), (9, .int v21), (8, .int v19), (7, .int v17), (6, .int v14), (5, .int v11), (4, .int v8), (2, .long v5), (0, .ref (n0 + 0)), (1, .int x1)] dL_isForetold_65 (Nat.le_of_ble_eq_true rfl) rfl ?_
    refine j_iconst C (0 : Int32) rfl dL_isForetold_67 ?_
    refine j_istore C [(11, .int (0 : Int32)), (10, .int v23), (9, .int v21), (8, .int v19), (7, .int v17), (6, .int v14), (5, .int v11), (4, .int v8), (2, .long v5), (0, .ref (n0 + 0)), (1, .int x1)] dL_isForetold_68 (Nat.le_of_ble_eq_true rfl) rfl ?_
    refine j_iconst C (0 : Int32) rfl dL_isForetold_70 ?_
    refine j_istore C [(12, .int (0 : Int32)), (11, .int (0 : Int32)), (10, .int v23), (9, .int v21), (8, .int v19), (7, .int v17), (6, .int v14), (5, .int v11), (4, .int v8), (2, .long v5), (0, .ref (n0 + 0)), (1, .int x1)] dL_isForetold_71 (Nat.le_of_ble_eq_true rfl) rfl ?_
    obtain ⟨⟨a33, M34⟩, e83, hf⟩ := bd hf
    replace hf := un2e hf
    have hx84 : J (kc K (0 + 81)) M34 101 [(0, .ref (n0 + 0)), (1, .int x1), (2, .long v5), (4, .int v8), (5, .int v11), (6, .int v14), (7, .int v17), (8, .int v19), (9, .int v21), (10, .int v23), (11, .int a33)] [] := by
      refine j_aload_n C 0 dL_isForetold_101 rfl rfl ?_
      obtain ⟨⟨v36, M37⟩, e35, hf⟩ := bd hf
      replace hf := un2e hf
      refine j_callK (k := 81) C (CC _ (by omega)) 1 (c_L_print l hfl G n0 e35) gs_RL_105 ⟨rfl, rfl⟩ (by decide +kernel) ⟨Nat.le_of_ble_eq_true rfl, Nat.le_of_ble_eq_true rfl⟩ rfl rfl (Nat.le_of_ble_eq_true rfl) dL_isForetold_102 ?_
      have C := CC ((0 + 81) + 81) (by omega)
      refine j_lload_n C 2 dL_isForetold_105 rfl rfl ?_
      refine j_lcmp C dL_isForetold_106 ?_
      obtain ⟨⟨z72, M73⟩, e88, hf⟩ := bd hf
      replace hf := un2e hf
      have hj89 : J (kc K (((0 + 81) + 81) + 1)) M73 232 [(0, .ref (n0 + 0)), (2, .long v5)] [.int (bI z72)] := by
        have C := CC (((0 + 81) + 81) + 1) (by omega)
        refine j_istore C [(12, .int (bI z72)), (0, .ref (n0 + 0)), (2, .long v5)] dL_isForetold_232 (Nat.le_of_ble_eq_true rfl) rfl ?_
        refine j_iload C 0 dL_isForetold_234 rfl ?_
        refine j_ifz_eq C 259 dL_isForetold_236 (by decide) (fun c74 => ?_) (fun c74 => ?_)
        · replace hf := ine c74 hf
          refine j_iconst C (0 : Int32) rfl dL_isForetold_259 ?_
          obtain ⟨rfl, rfl⟩ := Prod.mk.inj (Option.some.inj hf)
          exact hret _ _ _ (by omega) dL_isForetold_260
        · replace hf := ip c74 hf
          refine j_aload_n C 1 dL_isForetold_239 rfl rfl ?_
          obtain ⟨⟨v76, M77⟩, e75, hf⟩ := bd hf
          replace hf := un2e hf
          refine j_callR C 1 (cg_L_undo l G n0 e75) gw_L_undo_162 ⟨rfl, rfl⟩ (by decide +kernel) ⟨Nat.le_of_ble_eq_true rfl, Nat.le_of_ble_eq_true rfl⟩ rfl rfl (Nat.le_of_ble_eq_true rfl) dL_isForetold_240 ?_
          refine j_if_lt C 259 dL_isForetold_243 (by decide) (fun c78 => ?_) (fun c78 => ?_)
          · replace hf := ip c78 hf
            refine j_iconst C (0 : Int32) rfl dL_isForetold_259 ?_
            obtain ⟨rfl, rfl⟩ := Prod.mk.inj (Option.some.inj hf)
            exact hret _ _ _ (by omega) dL_isForetold_260
          · replace hf := ine c78 hf
            refine j_aload_n C 1 dL_isForetold_246 rfl rfl ?_
            obtain ⟨⟨v80, M81⟩, e79, hf⟩ := bd hf
            replace hf := un2e hf
            refine j_callK (k := 81) C (CC _ (by omega)) 1 (c_L_print l hfl G n0 e79) gs_RL_105 ⟨rfl, rfl⟩ (by decide +kernel) ⟨Nat.le_of_ble_eq_true rfl, Nat.le_of_ble_eq_true rfl⟩ rfl rfl (Nat.le_of_ble_eq_true rfl) dL_isForetold_247 ?_
            have C := CC ((((0 + 81) + 81) + 1) + 81) (by omega)
            refine j_lload_n C 2 dL_isForetold_250 rfl rfl ?_
            refine j_lcmp C dL_isForetold_251 ?_
            refine j_iflc_ne C 259 dL_isForetold_252 (by decide) (fun c82 => ?_) (fun c82 => ?_)
            · replace hf := ine c82 hf
              refine j_iconst C (0 : Int32) rfl dL_isForetold_259 ?_
              obtain ⟨rfl, rfl⟩ := Prod.mk.inj (Option.some.inj hf)
              exact hret _ _ _ (by omega) dL_isForetold_260
            · replace hf := ip c82 hf
              refine j_iconst C (1 : Int32) rfl dL_isForetold_255 ?_
              refine j_goto C 260 dL_isForetold_256 (by decide) ?_
              obtain ⟨rfl, rfl⟩ := Prod.mk.inj (Option.some.inj hf)
              exact hret _ _ _ (by omega) dL_isForetold_260
      clear hf
      have hf := e88
      refine j_iflc_ne C 231 dL_isForetold_107 (by decide) (fun c38 => ?_) (fun c38 => ?_)
      · replace hf := ine c38 hf
        refine j_iconst C (0 : Int32) rfl dL_isForetold_231 ?_
        cases hf
        refine j_sub [0, 2] rfl ?_
        exact j_wid (by omega) hj89
      · replace hf := ip c38 hf
        refine j_iload C 5 dL_isForetold_110 rfl ?_
        refine j_iload C 3 dL_isForetold_112 rfl ?_
        refine j_icmp_gt C 231 dL_isForetold_114 (by decide) (fun c39 => ?_) (fun c39 => ?_)
        · replace hf := ip c39 hf
          refine j_iconst C (0 : Int32) rfl dL_isForetold_231 ?_
          cases hf
          refine j_sub [0, 2] rfl ?_
          exact j_wid (by omega) hj89
        · replace hf := ine c39 hf
          refine j_iload C 3 dL_isForetold_117 rfl ?_
          refine j_iload C 5 dL_isForetold_119 rfl ?_
          refine lab_i (α := Unit) (fun (_ : Unit) => J (kc K ((0 + 81) + 81)) M37 130 [(0, .ref (n0 + 0)), (1, .int x1), (2, .long v5), (4, .int v8), (7, .int v17), (8, .int v19), (9, .int v21), (10, .int v23), (11, .int a33)] []) hf (fun q hf => ?_) (fun kl42 hk90 hf => ?_)
          · clear q
            show J (kc K ((0 + 81) + 81)) M37 130 [(0, .ref (n0 + 0)), (1, .int x1), (2, .long v5), (4, .int v8), (7, .int v17), (8, .int v19), (9, .int v21), (10, .int v23), (11, .int a33)] []
            refine j_aload_n C 0 dL_isForetold_130 rfl rfl ?_
            refine j_iload_n C 1 dL_isForetold_131 rfl rfl ?_
            obtain ⟨⟨v44, M45⟩, e43, hf⟩ := bd hf
            replace hf := un2e hf
            refine j_callR C 2 (cg_L_bake l G n0 e43) gw_L_bake_122 ⟨rfl, rfl⟩ (by decide +kernel) ⟨Nat.le_of_ble_eq_true rfl, Nat.le_of_ble_eq_true rfl⟩ rfl rfl (Nat.le_of_ble_eq_true rfl) dL_isForetold_132 ?_
            refine j_iload C 8 dL_isForetold_135 rfl ?_
            refine j_iload C 3 dL_isForetold_137 rfl ?_
            refine j_isub C dL_isForetold_139 ?_
            refine j_icmp_ne C 231 dL_isForetold_140 (by decide) (fun c46 => ?_) (fun c46 => ?_)
            · replace hf := ine c46 hf
              refine j_iconst C (0 : Int32) rfl dL_isForetold_231 ?_
              cases hf
              refine j_sub [0, 2] rfl ?_
              exact j_wid (by omega) hj89
            · replace hf := ip c46 hf
              refine j_aload_n C 0 dL_isForetold_143 rfl rfl ?_
              refine j_bipush C (6 : Int32) rfl dL_isForetold_144 ?_
              obtain ⟨v48, e47, hf⟩ := bd hf
              refine j_callR C 2 (cg_L_whole l G n0 e47) gw_L_whole_91 ⟨rfl, rfl⟩ (by decide +kernel) ⟨Nat.le_of_ble_eq_true rfl, Nat.le_of_ble_eq_true rfl⟩ rfl rfl (Nat.le_of_ble_eq_true rfl) dL_isForetold_146 ?_
              refine j_iload C 5 dL_isForetold_149 rfl ?_
              refine j_iload C 3 dL_isForetold_151 rfl ?_
              refine j_iadd C dL_isForetold_153 ?_
              refine j_icmp_ne C 231 dL_isForetold_154 (by decide) (fun c49 => ?_) (fun c49 => ?_)
              · replace hf := ine c49 hf
                refine j_iconst C (0 : Int32) rfl dL_isForetold_231 ?_
                cases hf
                refine j_sub [0, 2] rfl ?_
                exact j_wid (by omega) hj89
              · replace hf := ip c49 hf
                refine j_aload_n C 0 dL_isForetold_157 rfl rfl ?_
                refine j_bipush C (7 : Int32) rfl dL_isForetold_158 ?_
                obtain ⟨v51, e50, hf⟩ := bd hf
                refine j_callR C 2 (cg_L_whole l G n0 e50) gw_L_whole_91 ⟨rfl, rfl⟩ (by decide +kernel) ⟨Nat.le_of_ble_eq_true rfl, Nat.le_of_ble_eq_true rfl⟩ rfl rfl (Nat.le_of_ble_eq_true rfl) dL_isForetold_160 ?_
                refine j_iload C 6 dL_isForetold_163 rfl ?_
                refine j_iload C 8 dL_isForetold_165 rfl ?_
                refine j_iadd C dL_isForetold_167 ?_
                refine j_iload C 3 dL_isForetold_168 rfl ?_
                refine j_isub C dL_isForetold_170 ?_
                refine j_icmp_ne C 231 dL_isForetold_171 (by decide) (fun c52 => ?_) (fun c52 => ?_)
                · replace hf := ine c52 hf
                  refine j_iconst C (0 : Int32) rfl dL_isForetold_231 ?_
                  cases hf
                  refine j_sub [0, 2] rfl ?_
                  exact j_wid (by omega) hj89
                · replace hf := ip c52 hf
                  refine j_aload_n C 0 dL_isForetold_174 rfl rfl ?_
                  refine j_iconst C (3 : Int32) rfl dL_isForetold_175 ?_
                  obtain ⟨v54, e53, hf⟩ := bd hf
                  refine j_callR C 2 (cg_L_whole l G n0 e53) gw_L_whole_91 ⟨rfl, rfl⟩ (by decide +kernel) ⟨Nat.le_of_ble_eq_true rfl, Nat.le_of_ble_eq_true rfl⟩ rfl rfl (Nat.le_of_ble_eq_true rfl) dL_isForetold_176 ?_
                  refine j_if_ne C 231 dL_isForetold_179 (by decide) (fun c55 => ?_) (fun c55 => ?_)
                  · replace hf := ine c55 hf
                    refine j_iconst C (0 : Int32) rfl dL_isForetold_231 ?_
                    cases hf
                    refine j_sub [0, 2] rfl ?_
                    exact j_wid (by omega) hj89
                  · replace hf := ip c55 hf
                    refine j_aload_n C 0 dL_isForetold_182 rfl rfl ?_
                    refine j_iload C 4 dL_isForetold_183 rfl ?_
                    refine j_iconst C (1 : Int32) rfl dL_isForetold_185 ?_
                    obtain ⟨v57, e56, hf⟩ := bd hf
                    refine j_callR C 3 (cg_L_household l G n0 e56) gw_L_household_96 ⟨rfl, rfl⟩ (by decide +kernel) ⟨Nat.le_of_ble_eq_true rfl, Nat.le_of_ble_eq_true rfl⟩ rfl rfl (Nat.le_of_ble_eq_true rfl) dL_isForetold_186 ?_
                    refine j_iload C 7 dL_isForetold_189 rfl ?_
                    refine j_iload_n C 1 dL_isForetold_191 rfl rfl ?_
                    refine j_iadd C dL_isForetold_192 ?_
                    refine j_icmp_ne C 231 dL_isForetold_193 (by decide) (fun c58 => ?_) (fun c58 => ?_)
                    · replace hf := ine c58 hf
                      refine j_iconst C (0 : Int32) rfl dL_isForetold_231 ?_
                      cases hf
                      refine j_sub [0, 2] rfl ?_
                      exact j_wid (by omega) hj89
                    · replace hf := ip c58 hf
                      refine j_aload_n C 0 dL_isForetold_196 rfl rfl ?_
                      refine j_iload C 4 dL_isForetold_197 rfl ?_
                      refine j_iconst C (3 : Int32) rfl dL_isForetold_199 ?_
                      obtain ⟨v60, e59, hf⟩ := bd hf
                      refine j_callR C 3 (cg_L_household l G n0 e59) gw_L_household_96 ⟨rfl, rfl⟩ (by decide +kernel) ⟨Nat.le_of_ble_eq_true rfl, Nat.le_of_ble_eq_true rfl⟩ rfl rfl (Nat.le_of_ble_eq_true rfl) dL_isForetold_200 ?_
                      refine j_if_ne C 231 dL_isForetold_203 (by decide) (fun c61 => ?_) (fun c61 => ?_)
                      · replace hf := ine c61 hf
                        refine j_iconst C (0 : Int32) rfl dL_isForetold_231 ?_
                        cases hf
                        refine j_sub [0, 2] rfl ?_
                        exact j_wid (by omega) hj89
                      · replace hf := ip c61 hf
                        refine j_aload_n C 0 dL_isForetold_206 rfl rfl ?_
                        obtain ⟨⟨b63, M64⟩, e62, hf⟩ := bd hf
                        replace hf := un2e hf
                        refine j_callK (k := 0) C (CC _ (by omega)) 1 (c_L_areLoads l hfl G n0 e62) gs_RL_152 ⟨rfl, rfl⟩ (by decide +kernel) ⟨Nat.le_of_ble_eq_true rfl, Nat.le_of_ble_eq_true rfl⟩ rfl rfl (Nat.le_of_ble_eq_true rfl) dL_isForetold_207 ?_
                        have C := CC (((0 + 81) + 81) + 0) (by omega)
                        refine j_ifz_eq C 231 dL_isForetold_210 (by decide) (fun c65 => ?_) (fun c65 => ?_)
                        · replace hf := ine c65 hf
                          refine j_iconst C (0 : Int32) rfl dL_isForetold_231 ?_
                          cases hf
                          refine j_sub [0, 2] rfl ?_
                          exact j_wid (by omega) hj89
                        · replace hf := ip c65 hf
                          refine j_aload_n C 0 dL_isForetold_213 rfl rfl ?_
                          obtain ⟨b67, e66, hf⟩ := bd hf
                          refine j_callK (k := 1) C (CC _ (by omega)) 1 (c_L_areLoaves l hfl G n0 e66) gs_RL_156 ⟨rfl, rfl⟩ (by decide +kernel) ⟨Nat.le_of_ble_eq_true rfl, Nat.le_of_ble_eq_true rfl⟩ rfl rfl (Nat.le_of_ble_eq_true rfl) dL_isForetold_214 ?_
                          have C := CC ((((0 + 81) + 81) + 0) + 1) (by omega)
                          refine j_ifz_eq C 231 dL_isForetold_217 (by decide) (fun c68 => ?_) (fun c68 => ?_)
                          · replace hf := ine c68 hf
                            refine j_iconst C (0 : Int32) rfl dL_isForetold_231 ?_
                            cases hf
                            refine j_sub [0, 2] rfl ?_
                            exact j_wid (by omega) hj89
                          · replace hf := ip c68 hf
                            refine j_aload_n C 0 dL_isForetold_220 rfl rfl ?_
                            obtain ⟨b70, e69, hf⟩ := bd hf
                            refine j_callK (k := 0) C (CC _ (by omega)) 1 (c_L_areHouses l hfl G n0 e69) gs_RL_159 ⟨rfl, rfl⟩ (by decide +kernel) ⟨Nat.le_of_ble_eq_true rfl, Nat.le_of_ble_eq_true rfl⟩ rfl rfl (Nat.le_of_ble_eq_true rfl) dL_isForetold_221 ?_
                            have C := CC (((((0 + 81) + 81) + 0) + 1) + 0) (by omega)
                            refine j_ifz_eq C 231 dL_isForetold_224 (by decide) (fun c71 => ?_) (fun c71 => ?_)
                            · replace hf := ine c71 hf
                              refine j_iconst C (0 : Int32) rfl dL_isForetold_231 ?_
                              cases hf
                              refine j_sub [0, 2] rfl ?_
                              exact j_wid (by omega) hj89
                            · replace hf := ip c71 hf
                              refine j_iconst C (1 : Int32) rfl dL_isForetold_227 ?_
                              refine j_goto C 232 dL_isForetold_228 (by decide) ?_
                              cases hf
                              refine j_sub [0, 2] rfl ?_
                              exact j_wid (by omega) hj89
          refine j_icmp_gt C 130 dL_isForetold_121 (by decide) (fun c40 => ?_) (fun c40 => ?_)
          · replace hf := ip c40 hf
            refine j_sub [0, 1, 2, 3, 6, 7, 8, 9, 10] rfl ?_
            exact j_wid (by omega) (show J (kc K ((0 + 81) + 81)) M37 130 [(0, .ref (n0 + 0)), (1, .int x1), (2, .long v5), (4, .int v8), (7, .int v17), (8, .int v19), (9, .int v21), (10, .int v23), (11, .int a33)] [] from hk90 () hf)
          · replace hf := ine c40 hf
            refine j_iload C 4 dL_isForetold_124 rfl ?_
            refine j_iload_n C 1 dL_isForetold_126 rfl rfl ?_
            refine j_icmp_gt C 231 dL_isForetold_127 (by decide) (fun c41 => ?_) (fun c41 => ?_)
            · replace hf := ip c41 hf
              refine j_iconst C (0 : Int32) rfl dL_isForetold_231 ?_
              cases hf
              refine j_sub [0, 2] rfl ?_
              exact j_wid (by omega) hj89
            · replace hf := ine c41 hf
              refine j_sub [0, 1, 2, 3, 6, 7, 8, 9, 10] rfl ?_
              exact j_wid (by omega) (show J (kc K ((0 + 81) + 81)) M37 130 [(0, .ref (n0 + 0)), (1, .int x1), (2, .long v5), (4, .int v8), (7, .int v17), (8, .int v19), (9, .int v21), (10, .int v23), (11, .int a33)] [] from hk90 () hf)
    clear hf
    have hl85 : ∀ (n : Nat) (a24 : Int32) (a25 : Int32) (M26 : Mem), lL_isForetold_73 n a24 a25 M26 = some (a33, M34) → J (kc K (0 + 81)) M26 73 [(0, .ref (n0 + 0)), (1, .int x1), (2, .long v5), (4, .int v8), (5, .int v11), (6, .int v14), (7, .int v17), (8, .int v19), (9, .int v21), (10, .int v23), (11, .int a24), (12, .int a25)] [] := by
      intro n
      induction n with
      | zero =>
        intro a24 a25 M26 hf
        exact absurd hf (by rw [lL_isForetold_73]; exact fun h => by cases h)
      | succ n ih =>
        intro a24 a25 M26 hf
        rw [lL_isForetold_73] at hf
        refine j_iload C 11 dL_isForetold_73 rfl ?_
        refine j_aload_n C 0 dL_isForetold_75 rfl rfl ?_
        refine j_iconst C (3 : Int32) rfl dL_isForetold_76 ?_
        obtain ⟨v28, e27, hf⟩ := bd hf
        refine j_callR C 2 (cg_L_whole l G n0 e27) gw_L_whole_91 ⟨rfl, rfl⟩ (by decide +kernel) ⟨Nat.le_of_ble_eq_true rfl, Nat.le_of_ble_eq_true rfl⟩ rfl rfl (Nat.le_of_ble_eq_true rfl) dL_isForetold_77 ?_
        refine j_icmp_ge C 101 dL_isForetold_80 (by decide) (fun c29 => ?_) (fun c29 => ?_)
        · replace hf := ip c29 hf
          refine j_sub [0, 1, 2, 3, 4, 5, 6, 7, 8, 9, 10] rfl ?_
          cases hf
          exact j_wid (by omega) hx84
        · replace hf := ine c29 hf
          refine j_iload C 10 dL_isForetold_83 rfl ?_
          refine j_aload_n C 0 dL_isForetold_85 rfl rfl ?_
          refine j_iload C 11 dL_isForetold_86 rfl ?_
          refine j_iconst C (2 : Int32) rfl dL_isForetold_88 ?_
          obtain ⟨⟨v31, M32⟩, e30, hf⟩ := bd hf
          replace hf := un2e hf
          refine j_callR C 3 (cg_L_batch l G n0 e30) gw_L_batch_99 ⟨rfl, rfl⟩ (by decide +kernel) ⟨Nat.le_of_ble_eq_true rfl, Nat.le_of_ble_eq_true rfl⟩ rfl rfl (Nat.le_of_ble_eq_true rfl) dL_isForetold_89 ?_
          refine j_iadd C dL_isForetold_92 ?_
          refine j_istore C [(11, .int (a24 + v31)), (0, .ref (n0 + 0)), (1, .int x1), (2, .long v5), (4, .int v8), (5, .int v11), (6, .int v14), (7, .int v17), (8, .int v19), (9, .int v21), (10, .int v23), (12, .int a25)] dL_isForetold_93 (Nat.le_of_ble_eq_true rfl) rfl ?_
          refine j_iinc C 11 (a25 + 1) [(12, .int (a25 + 1)), (11, .int (a24 + v31)), (0, .ref (n0 + 0)), (1, .int x1), (2, .long v5), (4, .int v8), (5, .int v11), (6, .int v14), (7, .int v17), (8, .int v19), (9, .int v21), (10, .int v23)] dL_isForetold_95 rfl rfl (Nat.le_of_ble_eq_true rfl) rfl ?_
          refine j_goto C 73 dL_isForetold_98 (by decide) ?_
          refine j_sub [2, 3, 4, 5, 6, 7, 8, 9, 10, 11, 1, 0] rfl ?_
          exact ih _ _ _ hf
    refine j_sub [10, 11, 9, 8, 7, 6, 5, 4, 3, 2, 1, 0] rfl ?_
    exact hl85 FUEL (0 : Int32) (0 : Int32) M15 e83
  · replace hf := ip c3 hf
    refine j_iconst C (1 : Int32) rfl dL_isForetold_8 ?_
    obtain ⟨rfl, rfl⟩ := Prod.mk.inj (Option.some.inj hf)
    exact hret _ _ _ (by omega) dL_isForetold_9
