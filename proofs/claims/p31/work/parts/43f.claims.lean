def lL_areClaims_14 (x1 : Int32) (M3 : Mem) : Nat → Int32 → Int32 → Int32 → Option (Int32 × Int32)
  | 0, _, _, _ => none
  | n + 1, a4, a5, a6 =>
  if (3 : Int32) ≤ a6 then (some (a4, a5))
  else ((gL_balance x1 a6 M3).bind fun v9 =>
  (if v9 ≤ 0 then (some (0 : Int32))
  else (some v9)).bind (fun z11 => if 0 ≤ v9 then (lL_areClaims_14 x1 M3 n (a4 + z11) (a5 + (0 : Int32)) (a6 + 1))
  else (lL_areClaims_14 x1 M3 n (a4 + z11) (a5 + (-v9)) (a6 + 1))))

def lL_areClaims_131 (x1 : Int32) (M19 : Mem) : Nat → Bool → Int32 → Option Bool
  | 0, _, _ => none
  | n + 1, a30, a31 =>
  (gL_whole (7 : Int32) M19).bind fun v33 =>
  if v33 ≤ a31 then (some a30)
  else (if a30 = true then ((gL_loaf a31 (5 : Int32) M19).bind fun v37 =>
  (if v37 = (8 : Int32) then ((gL_loaf a31 (4 : Int32) M19).bind fun v40 =>
  (gL_household x1 (0 : Int32) M19).bind fun v42 =>
  (gL_household x1 (0 : Int32) M19).bind fun v44 =>
  if (v40 ||| v42) = v44 then (some true)
  else (some false))
  else (some false)).bind (fun z46 => if z46 = true then ((gL_loaf a31 (1 : Int32) M19).bind fun v49 =>
  (gL_balance x1 v49 M19).bind fun v51 =>
  if 0 < v51 then (lL_areClaims_131 x1 M19 n false (a31 + 1))
  else (lL_areClaims_131 x1 M19 n true (a31 + 1)))
  else (lL_areClaims_131 x1 M19 n true (a31 + 1))))
  else (some a30))

def lL_areClaims_264 (x1 : Int32) (M63 : Mem) : Nat → Bool → Int32 → Option Bool
  | 0, _, _ => none
  | n + 1, a64, a65 =>
  if (3 : Int32) ≤ a65 then (some a64)
  else (if a64 = true then ((gL_balance x1 a65 M63).bind fun v69 =>
  if v69 < 0 then (lL_areClaims_264 x1 M63 n false (a65 + 1))
  else (lL_areClaims_264 x1 M63 n true (a65 + 1)))
  else (some a64))

def fL_areClaims (x1 : Int32) (M : Mem) : Option (Bool × Mem) :=
  (fL_print M).bind (un2 fun v2 M3 =>
  (lL_areClaims_14 x1 M3 FUEL (0 : Int32) (0 : Int32) (0 : Int32)).bind (un2 fun a13 a14 => (gL_whole (10 : Int32) M3).bind fun v16 =>
  (gL_claim x1 M3).bind (un2 fun v18 M19 =>
  (if v18 < 0 then (some false)
  else (if a13 < v18 then (some false)
  else ((gL_whole (10 : Int32) M19).bind fun v23 =>
  if v23 = (v16 - v18) then (some true)
  else (some false)))).bind (fun z25 => (gL_whole (7 : Int32) M19).bind fun v27 =>
  (gL_whole (9 : Int32) M19).bind fun v29 =>
  (lL_areClaims_131 x1 M19 FUEL z25 (v27 - v29)).bind (fun a53 => (if a53 = true then ((gL_returnLoaves x1 M19).bind (un2 fun v56 M57 =>
  if v56 = a14 then ((gL_whole (10 : Int32) M57).bind fun v60 =>
  if v60 = ((v16 - v18) + a14) then (some (true, M57))
  else (some (false, M57)))
  else (some (false, M57))))
  else (some (false, M19))).bind (un2 fun z62 M63 => (lL_areClaims_264 x1 M63 FUEL z62 (0 : Int32)).bind (fun a71 => if a71 = true then ((gL_undo M63).bind (un2 fun v74 M75 =>
  if v74 < 0 then (some (false, M75))
  else ((gL_undo M75).bind (un2 fun v78 M79 =>
  if v78 < 0 then (some (false, M79))
  else ((fL_print M79).bind (un2 fun v82 M83 =>
  if v82 = v2 then (some (true, M83))
  else (some (false, M83))))))))
  else (some (false, M63)))))))))

def rL_areClaims : Room := { frames := 10, cells := 162, slots := 972, locals := 180 }
set_option maxRecDepth 100000 in
set_option maxHeartbeats 8000000 in
theorem c_L_areClaims (l : Launch) (hfl : l.stackTraces = false) (G : Gx) (n0 : Nat) {x1 : Int32} {M : Mem} {r : Bool} {M' : Mem} (hf : fL_areClaims x1 M = some (r, M')) : CtK l yL_areClaims cL_areClaims 11 (some .boolean) rL_areClaims G n0 [.ref (n0 + 0), .int x1] M (some (.int (bI r))) M' 162 := by
  refine ctk_bool (cc := cL_areClaims) (maxL := 11) rfl (Nat.le_of_ble_eq_true rfl) ⟨rfl, rfl⟩ ?_
  intro K CC hret
  have CC : ∀ a, a ≤ 162 → Ok (kc K a) l rL_areClaims cL_areClaims RL G n0 11 := CC
  show J (kc K 0) M 0 [(0, .ref (n0 + 0)), (1, .int x1)] []
  have C := CC 0 (by omega)
  unfold fL_areClaims at hf
  refine j_aload_n C 0 dL_areClaims_0 rfl rfl ?_
  obtain ⟨⟨v2, M3⟩, e1, hf⟩ := bd hf
  replace hf := un2e hf
  refine j_callK (k := 81) C (CC _ (by omega)) 1 (c_L_print l hfl G n0 e1) gs_RL_105 ⟨rfl, rfl⟩ (by decide +kernel) ⟨Nat.le_of_ble_eq_true rfl, Nat.le_of_ble_eq_true rfl⟩ rfl rfl (Nat.le_of_ble_eq_true rfl) dL_areClaims_1 ?_
  have C := CC (0 + 81) (by omega)
  refine j_lstore_n C [(2, .long v2), (0, .ref (n0 + 0)), (1, .int x1)] dL_areClaims_4 rfl (Nat.le_of_ble_eq_true rfl) rfl ?_
  refine j_iconst C (0 : Int32) rfl dL_areClaims_5 ?_
  refine j_istore C [(4, .int (0 : Int32)), (2, .long v2), (0, .ref (n0 + 0)), (1, .int x1)] dL_areClaims_6 (Nat.le_of_ble_eq_true rfl) rfl ?_
  refine j_iconst C (0 : Int32) rfl dL_areClaims_8 ?_
  refine j_istore C [(5, .int (0 : Int32)), (4, .int (0 : Int32)), (2, .long v2), (0, .ref (n0 + 0)), (1, .int x1)] dL_areClaims_9 (Nat.le_of_ble_eq_true rfl) rfl ?_
  refine j_iconst C (0 : Int32) rfl dL_areClaims_11 ?_
  refine j_istore C [(6, .int (0 : Int32)), (5, .int (0 : Int32)), (4, .int (0 : Int32)), (2, .long v2), (0, .ref (n0 + 0)), (1, .int x1)] dL_areClaims_12 (Nat.le_of_ble_eq_true rfl) rfl ?_
  obtain ⟨⟨a13, a14⟩, e85, hf⟩ := bd hf
  replace hf := un2e hf
  have hx86 : J (kc K (0 + 81)) M3 68 [(0, .ref (n0 + 0)), (1, .int x1), (2, .long v2), (4, .int a13), (5, .int a14)] [] := by
    refine j_aload_n C 0 dL_areClaims_68 rfl rfl ?_
    refine j_bipush C (10 : Int32) rfl dL_areClaims_69 ?_
    obtain ⟨v16, e15, hf⟩ := bd hf
    refine j_callR C 2 (cg_L_whole l G n0 e15) gw_L_whole_91 ⟨rfl, rfl⟩ (by decide +kernel) ⟨Nat.le_of_ble_eq_true rfl, Nat.le_of_ble_eq_true rfl⟩ rfl rfl (Nat.le_of_ble_eq_true rfl) dL_areClaims_71 ?_
    refine j_istore C [(6, .int v16), (0, .ref (n0 + 0)), (1, .int x1), (2, .long v2), (4, .int a13), (5, .int a14)] dL_areClaims_74 (Nat.le_of_ble_eq_true rfl) rfl ?_
    refine j_aload_n C 1 dL_areClaims_76 rfl rfl ?_
    refine j_iload_n C 2 dL_areClaims_77 rfl rfl ?_
    obtain ⟨⟨v18, M19⟩, e17, hf⟩ := bd hf
    replace hf := un2e hf
    refine j_callR C 2 (cg_L_claim l G n0 e17) gw_L_claim_124 ⟨rfl, rfl⟩ (by decide +kernel) ⟨Nat.le_of_ble_eq_true rfl, Nat.le_of_ble_eq_true rfl⟩ rfl rfl (Nat.le_of_ble_eq_true rfl) dL_areClaims_78 ?_
    refine j_istore C [(7, .int v18), (6, .int v16), (0, .ref (n0 + 0)), (1, .int x1), (2, .long v2), (4, .int a13), (5, .int a14)] dL_areClaims_81 (Nat.le_of_ble_eq_true rfl) rfl ?_
    refine j_iload C 0 dL_areClaims_83 rfl ?_
    obtain ⟨z25, e90, hf⟩ := bd hf
    have hj91 : J (kc K (0 + 81)) M19 114 [(0, .ref (n0 + 0)), (1, .int x1), (2, .long v2), (5, .int a14), (6, .int v16), (7, .int v18)] [.int (bI z25)] := by
      refine j_istore C [(8, .int (bI z25)), (0, .ref (n0 + 0)), (1, .int x1), (2, .long v2), (5, .int a14), (6, .int v16), (7, .int v18)] dL_areClaims_114 (Nat.le_of_ble_eq_true rfl) rfl ?_
      refine j_aload_n C 1 dL_areClaims_116 rfl rfl ?_
      refine j_bipush C (7 : Int32) rfl dL_areClaims_117 ?_
      obtain ⟨v27, e26, hf⟩ := bd hf
      refine j_callR C 2 (cg_L_whole l G n0 e26) gw_L_whole_91 ⟨rfl, rfl⟩ (by decide +kernel) ⟨Nat.le_of_ble_eq_true rfl, Nat.le_of_ble_eq_true rfl⟩ rfl rfl (Nat.le_of_ble_eq_true rfl) dL_areClaims_119 ?_
      refine j_aload_n C 1 dL_areClaims_122 rfl rfl ?_
      refine j_bipush C (9 : Int32) rfl dL_areClaims_123 ?_
      obtain ⟨v29, e28, hf⟩ := bd hf
      refine j_callR C 2 (cg_L_whole l G n0 e28) gw_L_whole_91 ⟨rfl, rfl⟩ (by decide +kernel) ⟨Nat.le_of_ble_eq_true rfl, Nat.le_of_ble_eq_true rfl⟩ rfl rfl (Nat.le_of_ble_eq_true rfl) dL_areClaims_125 ?_
      refine j_isub C dL_areClaims_128 ?_
      refine j_istore C [(9, .int (v27 - v29)), (8, .int (bI z25)), (0, .ref (n0 + 0)), (1, .int x1), (2, .long v2), (5, .int a14), (6, .int v16), (7, .int v18)] dL_areClaims_129 (Nat.le_of_ble_eq_true rfl) rfl ?_
      obtain ⟨a53, e92, hf⟩ := bd hf
      have hx93 : J (kc K (0 + 81)) M19 222 [(0, .ref (n0 + 0)), (1, .int x1), (2, .long v2), (5, .int a14), (6, .int v16), (7, .int v18), (8, .int (bI a53))] [] := by
        refine j_iload C 6 dL_areClaims_222 rfl ?_
        obtain ⟨⟨z62, M63⟩, e97, hf⟩ := bd hf
        replace hf := un2e hf
        have hj98 : J (kc K (0 + 81)) M63 259 [(0, .ref (n0 + 0)), (1, .int x1), (2, .long v2)] [.int (bI z62)] := by
          refine j_istore C [(8, .int (bI z62)), (0, .ref (n0 + 0)), (1, .int x1), (2, .long v2)] dL_areClaims_259 (Nat.le_of_ble_eq_true rfl) rfl ?_
          refine j_iconst C (0 : Int32) rfl dL_areClaims_261 ?_
          refine j_istore C [(9, .int (0 : Int32)), (8, .int (bI z62)), (0, .ref (n0 + 0)), (1, .int x1), (2, .long v2)] dL_areClaims_262 (Nat.le_of_ble_eq_true rfl) rfl ?_
          obtain ⟨a71, e99, hf⟩ := bd hf
          have hx100 : J (kc K (0 + 81)) M63 298 [(0, .ref (n0 + 0)), (2, .long v2), (8, .int (bI a71))] [] := by
            refine j_iload C 2 dL_areClaims_298 rfl ?_
            refine j_ifz_eq C 330 dL_areClaims_300 (by decide) (fun c72 => ?_) (fun c72 => ?_)
            · replace hf := ine c72 hf
              refine j_iconst C (0 : Int32) rfl dL_areClaims_330 ?_
              obtain ⟨rfl, rfl⟩ := Prod.mk.inj (Option.some.inj hf)
              exact hret _ _ _ (by omega) dL_areClaims_331
            · replace hf := ip c72 hf
              refine j_aload_n C 0 dL_areClaims_303 rfl rfl ?_
              obtain ⟨⟨v74, M75⟩, e73, hf⟩ := bd hf
              replace hf := un2e hf
              refine j_callR C 1 (cg_L_undo l G n0 e73) gw_L_undo_162 ⟨rfl, rfl⟩ (by decide +kernel) ⟨Nat.le_of_ble_eq_true rfl, Nat.le_of_ble_eq_true rfl⟩ rfl rfl (Nat.le_of_ble_eq_true rfl) dL_areClaims_304 ?_
              refine j_if_lt C 330 dL_areClaims_307 (by decide) (fun c76 => ?_) (fun c76 => ?_)
              · replace hf := ip c76 hf
                refine j_iconst C (0 : Int32) rfl dL_areClaims_330 ?_
                obtain ⟨rfl, rfl⟩ := Prod.mk.inj (Option.some.inj hf)
                exact hret _ _ _ (by omega) dL_areClaims_331
              · replace hf := ine c76 hf
                refine j_aload_n C 0 dL_areClaims_310 rfl rfl ?_
                obtain ⟨⟨v78, M79⟩, e77, hf⟩ := bd hf
                replace hf := un2e hf
                refine j_callR C 1 (cg_L_undo l G n0 e77) gw_L_undo_162 ⟨rfl, rfl⟩ (by decide +kernel) ⟨Nat.le_of_ble_eq_true rfl, Nat.le_of_ble_eq_true rfl⟩ rfl rfl (Nat.le_of_ble_eq_true rfl) dL_areClaims_311 ?_
                refine j_if_lt C 330 dL_areClaims_314 (by decide) (fun c80 => ?_) (fun c80 => ?_)
                · replace hf := ip c80 hf
                  refine j_iconst C (0 : Int32) rfl dL_areClaims_330 ?_
                  obtain ⟨rfl, rfl⟩ := Prod.mk.inj (Option.some.inj hf)
                  exact hret _ _ _ (by omega) dL_areClaims_331
                · replace hf := ine c80 hf
                  refine j_aload_n C 0 dL_areClaims_317 rfl rfl ?_
                  obtain ⟨⟨v82, M83⟩, e81, hf⟩ := bd hf
                  replace hf := un2e hf
                  refine j_callK (k := 81) C (CC _ (by omega)) 1 (c_L_print l hfl G n0 e81) gs_RL_105 ⟨rfl, rfl⟩ (by decide +kernel) ⟨Nat.le_of_ble_eq_true rfl, Nat.le_of_ble_eq_true rfl⟩ rfl rfl (Nat.le_of_ble_eq_true rfl) dL_areClaims_318 ?_
                  have C := CC ((0 + 81) + 81) (by omega)
                  refine j_lload_n C 1 dL_areClaims_321 rfl rfl ?_
                  refine j_lcmp C dL_areClaims_322 ?_
                  refine j_iflc_ne C 330 dL_areClaims_323 (by decide) (fun c84 => ?_) (fun c84 => ?_)
                  · replace hf := ine c84 hf
                    refine j_iconst C (0 : Int32) rfl dL_areClaims_330 ?_
                    obtain ⟨rfl, rfl⟩ := Prod.mk.inj (Option.some.inj hf)
                    exact hret _ _ _ (by omega) dL_areClaims_331
                  · replace hf := ip c84 hf
                    refine j_iconst C (1 : Int32) rfl dL_areClaims_326 ?_
                    refine j_goto C 331 dL_areClaims_327 (by decide) ?_
                    obtain ⟨rfl, rfl⟩ := Prod.mk.inj (Option.some.inj hf)
                    exact hret _ _ _ (by omega) dL_areClaims_331
          clear hf
          have hl101 : ∀ (n : Nat) (a64 : Bool) (a65 : Int32), lL_areClaims_264 x1 M63 n a64 a65 = some a71 → J (kc K (0 + 81)) M63 264 [(0, .ref (n0 + 0)), (1, .int x1), (2, .long v2), (8, .int (bI a64)), (9, .int a65)] [] := by
            intro n
            induction n with
            | zero =>
              intro a64 a65 hf
              exact absurd hf (by rw [lL_areClaims_264]; exact fun h => by cases h)
            | succ n ih =>
              intro a64 a65 hf
              rw [lL_areClaims_264] at hf
              refine j_iload C 4 dL_areClaims_264 rfl ?_
              refine j_iconst C (3 : Int32) rfl dL_areClaims_266 ?_
              refine j_icmp_ge C 298 dL_areClaims_267 (by decide) (fun c66 => ?_) (fun c66 => ?_)
              · replace hf := ip c66 hf
                refine j_sub [0, 2, 3] rfl ?_
                cases hf
                exact j_wid (by omega) hx100
              · replace hf := ine c66 hf
                refine j_iload C 3 dL_areClaims_270 rfl ?_
                refine j_ifz_eq C 298 dL_areClaims_272 (by decide) (fun c67 => ?_) (fun c67 => ?_)
                · replace hf := ine c67 hf
                  refine j_sub [0, 2, 3] rfl ?_
                  cases hf
                  exact j_wid (by omega) hx100
                · replace hf := ip c67 hf
                  refine j_aload_n C 0 dL_areClaims_275 rfl rfl ?_
                  refine j_iload_n C 1 dL_areClaims_276 rfl rfl ?_
                  refine j_iload C 4 dL_areClaims_277 rfl ?_
                  obtain ⟨v69, e68, hf⟩ := bd hf
                  refine j_callR C 3 (cg_L_balance l G n0 e68) gw_L_balance_131 ⟨rfl, rfl⟩ (by decide +kernel) ⟨Nat.le_of_ble_eq_true rfl, Nat.le_of_ble_eq_true rfl⟩ rfl rfl (Nat.le_of_ble_eq_true rfl) dL_areClaims_279 ?_
                  refine j_if_lt C 289 dL_areClaims_282 (by decide) (fun c70 => ?_) (fun c70 => ?_)
                  · replace hf := ip c70 hf
                    refine j_iconst C (0 : Int32) rfl dL_areClaims_289 ?_
                    refine j_istore C [(8, .int (bI false)), (0, .ref (n0 + 0)), (1, .int x1), (2, .long v2), (9, .int a65)] dL_areClaims_290 (Nat.le_of_ble_eq_true rfl) rfl ?_
                    refine j_iinc C 4 (a65 + 1) [(9, .int (a65 + 1)), (8, .int (bI false)), (0, .ref (n0 + 0)), (1, .int x1), (2, .long v2)] dL_areClaims_292 rfl rfl (Nat.le_of_ble_eq_true rfl) rfl ?_
                    refine j_goto C 264 dL_areClaims_295 (by decide) ?_
                    refine j_sub [2, 3, 4, 1, 0] rfl ?_
                    exact ih _ _ hf
                  · replace hf := ine c70 hf
                    refine j_iconst C (1 : Int32) rfl dL_areClaims_285 ?_
                    refine j_goto C 290 dL_areClaims_286 (by decide) ?_
                    refine j_istore C [(8, .int (bI true)), (0, .ref (n0 + 0)), (1, .int x1), (2, .long v2), (9, .int a65)] dL_areClaims_290 (Nat.le_of_ble_eq_true rfl) rfl ?_
                    refine j_iinc C 4 (a65 + 1) [(9, .int (a65 + 1)), (8, .int (bI true)), (0, .ref (n0 + 0)), (1, .int x1), (2, .long v2)] dL_areClaims_292 rfl rfl (Nat.le_of_ble_eq_true rfl) rfl ?_
                    refine j_goto C 264 dL_areClaims_295 (by decide) ?_
                    refine j_sub [2, 3, 4, 1, 0] rfl ?_
                    exact ih _ _ hf
          refine j_sub [2, 3, 4, 1, 0] rfl ?_
          exact hl101 FUEL z62 (0 : Int32) e99
        clear hf
        have hf := e97
        refine j_ifz_eq C 258 dL_areClaims_224 (by decide) (fun c54 => ?_) (fun c54 => ?_)
        · replace hf := ine c54 hf
          refine j_iconst C (0 : Int32) rfl dL_areClaims_258 ?_
          cases hf
          refine j_sub [0, 1, 2] rfl ?_
          exact j_wid (by omega) hj98
        · replace hf := ip c54 hf
          refine j_aload_n C 0 dL_areClaims_227 rfl rfl ?_
          refine j_iload_n C 1 dL_areClaims_228 rfl rfl ?_
          obtain ⟨⟨v56, M57⟩, e55, hf⟩ := bd hf
          replace hf := un2e hf
          refine j_callR C 2 (cg_L_returnLoaves l G n0 e55) gw_L_returnLoaves_126 ⟨rfl, rfl⟩ (by decide +kernel) ⟨Nat.le_of_ble_eq_true rfl, Nat.le_of_ble_eq_true rfl⟩ rfl rfl (Nat.le_of_ble_eq_true rfl) dL_areClaims_229 ?_
          refine j_iload C 3 dL_areClaims_232 rfl ?_
          refine j_icmp_ne C 258 dL_areClaims_234 (by decide) (fun c58 => ?_) (fun c58 => ?_)
          · replace hf := ine c58 hf
            refine j_iconst C (0 : Int32) rfl dL_areClaims_258 ?_
            cases hf
            refine j_sub [0, 1, 2] rfl ?_
            exact j_wid (by omega) hj98
          · replace hf := ip c58 hf
            refine j_aload_n C 0 dL_areClaims_237 rfl rfl ?_
            refine j_bipush C (10 : Int32) rfl dL_areClaims_238 ?_
            obtain ⟨v60, e59, hf⟩ := bd hf
            refine j_callR C 2 (cg_L_whole l G n0 e59) gw_L_whole_91 ⟨rfl, rfl⟩ (by decide +kernel) ⟨Nat.le_of_ble_eq_true rfl, Nat.le_of_ble_eq_true rfl⟩ rfl rfl (Nat.le_of_ble_eq_true rfl) dL_areClaims_240 ?_
            refine j_iload C 4 dL_areClaims_243 rfl ?_
            refine j_iload C 5 dL_areClaims_245 rfl ?_
            refine j_isub C dL_areClaims_247 ?_
            refine j_iload C 3 dL_areClaims_248 rfl ?_
            refine j_iadd C dL_areClaims_250 ?_
            refine j_icmp_ne C 258 dL_areClaims_251 (by decide) (fun c61 => ?_) (fun c61 => ?_)
            · replace hf := ine c61 hf
              refine j_iconst C (0 : Int32) rfl dL_areClaims_258 ?_
              cases hf
              refine j_sub [0, 1, 2] rfl ?_
              exact j_wid (by omega) hj98
            · replace hf := ip c61 hf
              refine j_iconst C (1 : Int32) rfl dL_areClaims_254 ?_
              refine j_goto C 259 dL_areClaims_255 (by decide) ?_
              cases hf
              refine j_sub [0, 1, 2] rfl ?_
              exact j_wid (by omega) hj98
      clear hf
      have hl94 : ∀ (n : Nat) (a30 : Bool) (a31 : Int32), lL_areClaims_131 x1 M19 n a30 a31 = some a53 → J (kc K (0 + 81)) M19 131 [(0, .ref (n0 + 0)), (1, .int x1), (2, .long v2), (5, .int a14), (6, .int v16), (7, .int v18), (8, .int (bI a30)), (9, .int a31)] [] := by
        intro n
        induction n with
        | zero =>
          intro a30 a31 hf
          exact absurd hf (by rw [lL_areClaims_131]; exact fun h => by cases h)
        | succ n ih =>
          intro a30 a31 hf
          rw [lL_areClaims_131] at hf
          refine j_iload C 7 dL_areClaims_131 rfl ?_
          refine j_aload_n C 0 dL_areClaims_133 rfl rfl ?_
          refine j_bipush C (7 : Int32) rfl dL_areClaims_134 ?_
          obtain ⟨v33, e32, hf⟩ := bd hf
          refine j_callR C 2 (cg_L_whole l G n0 e32) gw_L_whole_91 ⟨rfl, rfl⟩ (by decide +kernel) ⟨Nat.le_of_ble_eq_true rfl, Nat.le_of_ble_eq_true rfl⟩ rfl rfl (Nat.le_of_ble_eq_true rfl) dL_areClaims_136 ?_
          refine j_icmp_ge C 222 dL_areClaims_139 (by decide) (fun c34 => ?_) (fun c34 => ?_)
          · replace hf := ip c34 hf
            refine j_sub [0, 1, 2, 3, 4, 5, 6] rfl ?_
            cases hf
            exact j_wid (by omega) hx93
          · replace hf := ine c34 hf
            refine j_iload C 6 dL_areClaims_142 rfl ?_
            refine j_ifz_eq C 222 dL_areClaims_144 (by decide) (fun c35 => ?_) (fun c35 => ?_)
            · replace hf := ine c35 hf
              refine j_sub [0, 1, 2, 3, 4, 5, 6] rfl ?_
              cases hf
              exact j_wid (by omega) hx93
            · replace hf := ip c35 hf
              refine j_aload_n C 0 dL_areClaims_147 rfl rfl ?_
              refine j_iload C 7 dL_areClaims_148 rfl ?_
              refine j_iconst C (5 : Int32) rfl dL_areClaims_150 ?_
              obtain ⟨v37, e36, hf⟩ := bd hf
              refine j_callR C 3 (cg_L_loaf l G n0 e36) gw_L_loaf_103 ⟨rfl, rfl⟩ (by decide +kernel) ⟨Nat.le_of_ble_eq_true rfl, Nat.le_of_ble_eq_true rfl⟩ rfl rfl (Nat.le_of_ble_eq_true rfl) dL_areClaims_151 ?_
              refine j_bipush C (8 : Int32) rfl dL_areClaims_154 ?_
              obtain ⟨z46, e104, hf⟩ := bd hf
              have hj105 : J (kc K (0 + 81)) M19 187 [(0, .ref (n0 + 0)), (1, .int x1), (2, .long v2), (5, .int a14), (6, .int v16), (7, .int v18), (9, .int a31)] [.int (bI z46)] := by
                refine j_istore C [(10, .int (bI z46)), (0, .ref (n0 + 0)), (1, .int x1), (2, .long v2), (5, .int a14), (6, .int v16), (7, .int v18), (9, .int a31)] dL_areClaims_187 (Nat.le_of_ble_eq_true rfl) rfl ?_
                refine j_iload C 0 dL_areClaims_189 rfl ?_
                refine j_ifz_eq C 209 dL_areClaims_191 (by decide) (fun c47 => ?_) (fun c47 => ?_)
                · replace hf := ine c47 hf
                  refine j_iconst C (1 : Int32) rfl dL_areClaims_209 ?_
                  refine j_goto C 214 dL_areClaims_210 (by decide) ?_
                  refine j_istore C [(8, .int (bI true)), (10, .int (bI z46)), (0, .ref (n0 + 0)), (1, .int x1), (2, .long v2), (5, .int a14), (6, .int v16), (7, .int v18), (9, .int a31)] dL_areClaims_214 (Nat.le_of_ble_eq_true rfl) rfl ?_
                  refine j_iinc C 8 (a31 + 1) [(9, .int (a31 + 1)), (8, .int (bI true)), (10, .int (bI z46)), (0, .ref (n0 + 0)), (1, .int x1), (2, .long v2), (5, .int a14), (6, .int v16), (7, .int v18)] dL_areClaims_216 rfl rfl (Nat.le_of_ble_eq_true rfl) rfl ?_
                  refine j_goto C 131 dL_areClaims_219 (by decide) ?_
                  refine j_sub [3, 4, 5, 6, 7, 8, 1, 0] rfl ?_
                  exact ih _ _ hf
                · replace hf := ip c47 hf
                  refine j_aload_n C 1 dL_areClaims_194 rfl rfl ?_
                  refine j_iload_n C 2 dL_areClaims_195 rfl rfl ?_
                  refine j_aload_n C 1 dL_areClaims_196 rfl rfl ?_
                  refine j_iload C 7 dL_areClaims_197 rfl ?_
                  refine j_iconst C (1 : Int32) rfl dL_areClaims_199 ?_
                  obtain ⟨v49, e48, hf⟩ := bd hf
                  refine j_callR C 3 (cg_L_loaf l G n0 e48) gw_L_loaf_103 ⟨rfl, rfl⟩ (by decide +kernel) ⟨Nat.le_of_ble_eq_true rfl, Nat.le_of_ble_eq_true rfl⟩ rfl rfl (Nat.le_of_ble_eq_true rfl) dL_areClaims_200 ?_
                  obtain ⟨v51, e50, hf⟩ := bd hf
                  refine j_callR C 3 (cg_L_balance l G n0 e50) gw_L_balance_131 ⟨rfl, rfl⟩ (by decide +kernel) ⟨Nat.le_of_ble_eq_true rfl, Nat.le_of_ble_eq_true rfl⟩ rfl rfl (Nat.le_of_ble_eq_true rfl) dL_areClaims_203 ?_
                  refine j_if_gt C 213 dL_areClaims_206 (by decide) (fun c52 => ?_) (fun c52 => ?_)
                  · replace hf := ip c52 hf
                    refine j_iconst C (0 : Int32) rfl dL_areClaims_213 ?_
                    refine j_istore C [(8, .int (bI false)), (10, .int (bI z46)), (0, .ref (n0 + 0)), (1, .int x1), (2, .long v2), (5, .int a14), (6, .int v16), (7, .int v18), (9, .int a31)] dL_areClaims_214 (Nat.le_of_ble_eq_true rfl) rfl ?_
                    refine j_iinc C 8 (a31 + 1) [(9, .int (a31 + 1)), (8, .int (bI false)), (10, .int (bI z46)), (0, .ref (n0 + 0)), (1, .int x1), (2, .long v2), (5, .int a14), (6, .int v16), (7, .int v18)] dL_areClaims_216 rfl rfl (Nat.le_of_ble_eq_true rfl) rfl ?_
                    refine j_goto C 131 dL_areClaims_219 (by decide) ?_
                    refine j_sub [3, 4, 5, 6, 7, 8, 1, 0] rfl ?_
                    exact ih _ _ hf
                  · replace hf := ine c52 hf
                    refine j_iconst C (1 : Int32) rfl dL_areClaims_209 ?_
                    refine j_goto C 214 dL_areClaims_210 (by decide) ?_
                    refine j_istore C [(8, .int (bI true)), (10, .int (bI z46)), (0, .ref (n0 + 0)), (1, .int x1), (2, .long v2), (5, .int a14), (6, .int v16), (7, .int v18), (9, .int a31)] dL_areClaims_214 (Nat.le_of_ble_eq_true rfl) rfl ?_
                    refine j_iinc C 8 (a31 + 1) [(9, .int (a31 + 1)), (8, .int (bI true)), (10, .int (bI z46)), (0, .ref (n0 + 0)), (1, .int x1), (2, .long v2), (5, .int a14), (6, .int v16), (7, .int v18)] dL_areClaims_216 rfl rfl (Nat.le_of_ble_eq_true rfl) rfl ?_
                    refine j_goto C 131 dL_areClaims_219 (by decide) ?_
                    refine j_sub [3, 4, 5, 6, 7, 8, 1, 0] rfl ?_
                    exact ih _ _ hf
              clear hf
              have hf := e104
              refine j_icmp_ne C 186 dL_areClaims_156 (by decide) (fun c38 => ?_) (fun c38 => ?_)
              · replace hf := ine c38 hf
                refine j_iconst C (0 : Int32) rfl dL_areClaims_186 ?_
                cases hf
                refine j_sub [0, 1, 2, 3, 4, 5, 7] rfl ?_
                exact j_wid (by omega) hj105
              · replace hf := ip c38 hf
                refine j_aload_n C 0 dL_areClaims_159 rfl rfl ?_
                refine j_iload C 7 dL_areClaims_160 rfl ?_
                refine j_iconst C (4 : Int32) rfl dL_areClaims_162 ?_
                obtain ⟨v40, e39, hf⟩ := bd hf
                refine j_callR C 3 (cg_L_loaf l G n0 e39) gw_L_loaf_103 ⟨rfl, rfl⟩ (by decide +kernel) ⟨Nat.le_of_ble_eq_true rfl, Nat.le_of_ble_eq_true rfl⟩ rfl rfl (Nat.le_of_ble_eq_true rfl) dL_areClaims_163 ?_
                refine j_aload_n C 0 dL_areClaims_166 rfl rfl ?_
                refine j_iload_n C 1 dL_areClaims_167 rfl rfl ?_
                refine j_iconst C (0 : Int32) rfl dL_areClaims_168 ?_
                obtain ⟨v42, e41, hf⟩ := bd hf
                refine j_callR C 3 (cg_L_household l G n0 e41) gw_L_household_96 ⟨rfl, rfl⟩ (by decide +kernel) ⟨Nat.le_of_ble_eq_true rfl, Nat.le_of_ble_eq_true rfl⟩ rfl rfl (Nat.le_of_ble_eq_true rfl) dL_areClaims_169 ?_
                refine j_ior C dL_areClaims_172 ?_
                refine j_aload_n C 0 dL_areClaims_173 rfl rfl ?_
                refine j_iload_n C 1 dL_areClaims_174 rfl rfl ?_
                refine j_iconst C (0 : Int32) rfl dL_areClaims_175 ?_
                obtain ⟨v44, e43, hf⟩ := bd hf
                refine j_callR C 3 (cg_L_household l G n0 e43) gw_L_household_96 ⟨rfl, rfl⟩ (by decide +kernel) ⟨Nat.le_of_ble_eq_true rfl, Nat.le_of_ble_eq_true rfl⟩ rfl rfl (Nat.le_of_ble_eq_true rfl) dL_areClaims_176 ?_
                refine j_icmp_ne C 186 dL_areClaims_179 (by decide) (fun c45 => ?_) (fun c45 => ?_)
                · replace hf := ine c45 hf
                  refine j_iconst C (0 : Int32) rfl dL_areClaims_186 ?_
                  cases hf
                  refine j_sub [0, 1, 2, 3, 4, 5, 7] rfl ?_
                  exact j_wid (by omega) hj105
                · replace hf := ip c45 hf
                  refine j_iconst C (1 : Int32) rfl dL_areClaims_182 ?_
                  refine j_goto C 187 dL_areClaims_183 (by decide) ?_
                  cases hf
                  refine j_sub [0, 1, 2, 3, 4, 5, 7] rfl ?_
                  exact j_wid (by omega) hj105
      refine j_sub [2, 3, 4, 5, 6, 7, 1, 0] rfl ?_
      exact hl94 FUEL z25 (v27 - v29) e92
    clear hf
    have hf := e90
    refine j_if_lt C 113 dL_areClaims_85 (by decide) (fun c20 => ?_) (fun c20 => ?_)
    · replace hf := ip c20 hf
      refine j_iconst C (0 : Int32) rfl dL_areClaims_113 ?_
      cases hf
      refine j_sub [2, 3, 4, 6, 1, 0] rfl ?_
      exact j_wid (by omega) hj91
    · replace hf := ine c20 hf
      refine j_iload C 0 dL_areClaims_88 rfl ?_
      refine j_iload C 5 dL_areClaims_90 rfl ?_
      refine j_icmp_gt C 113 dL_areClaims_92 (by decide) (fun c21 => ?_) (fun c21 => ?_)
      · replace hf := ip c21 hf
        refine j_iconst C (0 : Int32) rfl dL_areClaims_113 ?_
        cases hf
        refine j_sub [2, 3, 4, 6, 1, 0] rfl ?_
        exact j_wid (by omega) hj91
      · replace hf := ine c21 hf
        refine j_aload_n C 2 dL_areClaims_95 rfl rfl ?_
        refine j_bipush C (10 : Int32) rfl dL_areClaims_96 ?_
        obtain ⟨v23, e22, hf⟩ := bd hf
        refine j_callR C 2 (cg_L_whole l G n0 e22) gw_L_whole_91 ⟨rfl, rfl⟩ (by decide +kernel) ⟨Nat.le_of_ble_eq_true rfl, Nat.le_of_ble_eq_true rfl⟩ rfl rfl (Nat.le_of_ble_eq_true rfl) dL_areClaims_98 ?_
        refine j_iload C 1 dL_areClaims_101 rfl ?_
        refine j_iload C 0 dL_areClaims_103 rfl ?_
        refine j_isub C dL_areClaims_105 ?_
        refine j_icmp_ne C 113 dL_areClaims_106 (by decide) (fun c24 => ?_) (fun c24 => ?_)
        · replace hf := ine c24 hf
          refine j_iconst C (0 : Int32) rfl dL_areClaims_113 ?_
          cases hf
          refine j_sub [2, 3, 4, 6, 1, 0] rfl ?_
          exact j_wid (by omega) hj91
        · replace hf := ip c24 hf
          refine j_iconst C (1 : Int32) rfl dL_areClaims_109 ?_
          refine j_goto C 114 dL_areClaims_110 (by decide) ?_
          cases hf
          refine j_sub [2, 3, 4, 6, 1, 0] rfl ?_
          exact j_wid (by omega) hj91
  clear hf
  have hl87 : ∀ (n : Nat) (a4 : Int32) (a5 : Int32) (a6 : Int32), lL_areClaims_14 x1 M3 n a4 a5 a6 = some (a13, a14) → J (kc K (0 + 81)) M3 14 [(0, .ref (n0 + 0)), (1, .int x1), (2, .long v2), (4, .int a4), (5, .int a5), (6, .int a6)] [] := by
    intro n
    induction n with
    | zero =>
      intro a4 a5 a6 hf
      exact absurd hf (by rw [lL_areClaims_14]; exact fun h => by cases h)
    | succ n ih =>
      intro a4 a5 a6 hf
      rw [lL_areClaims_14] at hf
      refine j_iload C 5 dL_areClaims_14 rfl ?_
      refine j_iconst C (3 : Int32) rfl dL_areClaims_16 ?_
      refine j_icmp_ge C 68 dL_areClaims_17 (by decide) (fun c7 => ?_) (fun c7 => ?_)
      · replace hf := ip c7 hf
        refine j_sub [0, 1, 2, 3, 4] rfl ?_
        cases hf
        exact j_wid (by omega) hx86
      · replace hf := ine c7 hf
        refine j_aload_n C 0 dL_areClaims_20 rfl rfl ?_
        refine j_iload_n C 1 dL_areClaims_21 rfl rfl ?_
        refine j_iload C 5 dL_areClaims_22 rfl ?_
        obtain ⟨v9, e8, hf⟩ := bd hf
        refine j_callR C 3 (cg_L_balance l G n0 e8) gw_L_balance_131 ⟨rfl, rfl⟩ (by decide +kernel) ⟨Nat.le_of_ble_eq_true rfl, Nat.le_of_ble_eq_true rfl⟩ rfl rfl (Nat.le_of_ble_eq_true rfl) dL_areClaims_24 ?_
        refine j_istore C [(7, .int v9), (0, .ref (n0 + 0)), (1, .int x1), (2, .long v2), (4, .int a4), (5, .int a5), (6, .int a6)] dL_areClaims_27 (Nat.le_of_ble_eq_true rfl) rfl ?_
        refine j_iload C 4 dL_areClaims_29 rfl ?_
        refine j_iload C 0 dL_areClaims_31 rfl ?_
        obtain ⟨z11, e106, hf⟩ := bd hf
        have hj107 : J (kc K (0 + 81)) M3 42 [(0, .ref (n0 + 0)), (1, .int x1), (2, .long v2), (5, .int a5), (6, .int a6), (7, .int v9)] [.int z11, .int a4] := by
          refine j_iadd C dL_areClaims_42 ?_
          refine j_istore C [(4, .int (a4 + z11)), (0, .ref (n0 + 0)), (1, .int x1), (2, .long v2), (5, .int a5), (6, .int a6), (7, .int v9)] dL_areClaims_43 (Nat.le_of_ble_eq_true rfl) rfl ?_
          refine j_iload C 4 dL_areClaims_45 rfl ?_
          refine j_iload C 6 dL_areClaims_47 rfl ?_
          refine j_if_ge C 58 dL_areClaims_49 (by decide) (fun c12 => ?_) (fun c12 => ?_)
          · replace hf := ip c12 hf
            refine j_iconst C (0 : Int32) rfl dL_areClaims_58 ?_
            refine j_iadd C dL_areClaims_59 ?_
            refine j_istore C [(5, .int (a5 + (0 : Int32))), (4, .int (a4 + z11)), (0, .ref (n0 + 0)), (1, .int x1), (2, .long v2), (6, .int a6), (7, .int v9)] dL_areClaims_60 (Nat.le_of_ble_eq_true rfl) rfl ?_
            refine j_iinc C 5 (a6 + 1) [(6, .int (a6 + 1)), (5, .int (a5 + (0 : Int32))), (4, .int (a4 + z11)), (0, .ref (n0 + 0)), (1, .int x1), (2, .long v2), (7, .int v9)] dL_areClaims_62 rfl rfl (Nat.le_of_ble_eq_true rfl) rfl ?_
            refine j_goto C 14 dL_areClaims_65 (by decide) ?_
            refine j_sub [3, 4, 5, 2, 1, 0] rfl ?_
            exact ih _ _ _ hf
          · replace hf := ine c12 hf
            refine j_iload C 6 dL_areClaims_52 rfl ?_
            refine j_ineg C dL_areClaims_54 ?_
            refine j_goto C 59 dL_areClaims_55 (by decide) ?_
            refine j_iadd C dL_areClaims_59 ?_
            refine j_istore C [(5, .int (a5 + (-v9))), (4, .int (a4 + z11)), (0, .ref (n0 + 0)), (1, .int x1), (2, .long v2), (6, .int a6), (7, .int v9)] dL_areClaims_60 (Nat.le_of_ble_eq_true rfl) rfl ?_
            refine j_iinc C 5 (a6 + 1) [(6, .int (a6 + 1)), (5, .int (a5 + (-v9))), (4, .int (a4 + z11)), (0, .ref (n0 + 0)), (1, .int x1), (2, .long v2), (7, .int v9)] dL_areClaims_62 rfl rfl (Nat.le_of_ble_eq_true rfl) rfl ?_
            refine j_goto C 14 dL_areClaims_65 (by decide) ?_
            refine j_sub [3, 4, 5, 2, 1, 0] rfl ?_
            exact ih _ _ _ hf
        clear hf
        have hf := e106
        refine j_if_le C 41 dL_areClaims_33 (by decide) (fun c10 => ?_) (fun c10 => ?_)
        · replace hf := ip c10 hf
          refine j_iconst C (0 : Int32) rfl dL_areClaims_41 ?_
          cases hf
          refine j_sub [1, 2, 3, 5, 6, 0] rfl ?_
          exact j_wid (by omega) hj107
        · replace hf := ine c10 hf
          refine j_iload C 0 dL_areClaims_36 rfl ?_
          refine j_goto C 42 dL_areClaims_38 (by decide) ?_
          cases hf
          refine j_sub [1, 2, 3, 5, 6, 0] rfl ?_
          exact j_wid (by omega) hj107
  refine j_sub [4, 5, 3, 2, 1, 0] rfl ?_
  exact hl87 FUEL (0 : Int32) (0 : Int32) (0 : Int32) e85
