def fL_refused  (M : Mem) : Option (Bool × Mem) :=
  (fL_print M).bind (un2 fun v2 M3 =>
  (fL_whole (0 : Int32) M3).bind fun v5 =>
  (fL_join (-1 : Int32) M3).bind (un2 fun v7 M8 =>
  (if v7 = (-5000001 : Int32) then ((fL_remark v5 (0 : Int32) M8).bind (un2 fun v11 M12 =>
  if v11 = (-5000003 : Int32) then ((fL_excuse (-1 : Int32) M12).bind (un2 fun v15 M16 =>
  if v15 = (-5000003 : Int32) then ((fL_bring v5 (0 : Int32) (1 : Int32) M16).bind (un2 fun v19 M20 =>
  if v19 = (-5000003 : Int32) then ((fL_takeBack (20 : Int32) M20).bind (un2 fun v23 M24 =>
  if v23 = (-5000003 : Int32) then ((fL_setS (-5 : Int32) M24).bind (un2 fun v27 M28 =>
  if v27 = (-5000001 : Int32) then ((fL_bake (41 : Int32) M28).bind (un2 fun v31 M32 =>
  if v31 = (-5000001 : Int32) then ((fL_claim v5 M32).bind (un2 fun v35 M36 =>
  if v35 = (-5000003 : Int32) then ((fL_returnLoaves v5 M36).bind (un2 fun v39 M40 =>
  if v39 = (-5000003 : Int32) then ((fL_household v5 (0 : Int32) M40).bind fun v43 =>
  if v43 = (-5000003 : Int32) then ((fL_due v5 M40).bind fun v46 =>
  if v46 = (-5000003 : Int64) then ((fL_balance v5 (0 : Int32) M40).bind fun v49 =>
  if v49 = (-5000003 : Int32) then ((fL_batch (-1 : Int32) (0 : Int32) M40).bind (un2 fun v52 M53 =>
  if v52 = (-5000001 : Int32) then ((fL_whole (7 : Int32) M53).bind fun v56 =>
  (fL_loaf v56 (0 : Int32) M53).bind fun v58 =>
  if v58 = (-5000003 : Int32) then ((fL_load (0 : Int32) (-1 : Int32) M53).bind fun v61 =>
  if v61 = (-5000001 : Int32) then ((fL_whole (-1 : Int32) M53).bind fun v64 =>
  if v64 = (-5000001 : Int32) then (some (true, M53))
  else (some (false, M53)))
  else (some (false, M53)))
  else (some (false, M53)))
  else (some (false, M53))))
  else (some (false, M40)))
  else (some (false, M40)))
  else (some (false, M40)))
  else (some (false, M40))))
  else (some (false, M36))))
  else (some (false, M32))))
  else (some (false, M28))))
  else (some (false, M24))))
  else (some (false, M20))))
  else (some (false, M16))))
  else (some (false, M12))))
  else (some (false, M8))).bind (un2 fun z66 M67 => (if z66 = true then ((fL_doughWith (0 : Int32) M67).bind (un2 fun v70 M71 =>
  if v70 = (-5000001 : Int32) then ((fL_freeMark (17 : Int32) M71).bind fun v74 =>
  if v74 = (-5000001 : Int32) then ((fL_type (128 : Int32) M71).bind (un2 fun v77 M78 =>
  if v77 = (-5000001 : Int32) then ((fL_whole (3 : Int32) M78).bind fun v81 =>
  if 0 < v81 then (if 0 < v5 then (some (true, M78))
  else ((fX11_nextForWood M78).bind fun v85 =>
  if v85 = (-1 : Int32) then (some (true, M78))
  else (some (false, M78))))
  else ((fL_bake (1 : Int32) M78).bind (un2 fun v88 M89 =>
  if v88 = (-5000002 : Int32) then ((fX11_bestWood M89).bind (un2 fun v92 M93 =>
  if v92 = (-1 : Int32) then ((fL_doughWith (40 : Int32) M93).bind (un2 fun v96 M97 =>
  if v96 = 0 then (if 0 < v5 then (some (true, M97))
  else ((fX11_nextForWood M97).bind fun v101 =>
  if v101 = (-1 : Int32) then (some (true, M97))
  else (some (false, M97))))
  else (some (false, M97))))
  else (some (false, M93))))
  else (some (false, M89)))))
  else (some (false, M78))))
  else (some (false, M71)))
  else (some (false, M71))))
  else (some (false, M67))).bind (un2 fun z103 M104 => if z103 = true then (if v5 = 0 then ((fL_print M104).bind (un2 fun v108 M109 =>
  if v108 = v2 then (some (true, M109))
  else (some (false, M109))))
  else ((fL_household (0 : Int32) (0 : Int32) M104).bind fun v112 =>
  (fL_join v112 M104).bind (un2 fun v114 M115 =>
  if v114 = (-5000002 : Int32) then ((fL_remark (0 : Int32) (0 : Int32) M115).bind (un2 fun v118 M119 =>
  if v118 = (-5000001 : Int32) then ((fL_bring (0 : Int32) (3 : Int32) (1 : Int32) M119).bind (un2 fun v122 M123 =>
  if v122 = (-5000001 : Int32) then ((fL_balance (0 : Int32) (3 : Int32) M123).bind fun v126 =>
  if v126 = (-5000001 : Int32) then ((fL_print M123).bind (un2 fun v129 M130 =>
  if v129 = v2 then (some (true, M130))
  else (some (false, M130))))
  else (some (false, M123)))
  else (some (false, M123))))
  else (some (false, M119))))
  else (some (false, M115)))))
  else (some (false, M104))))))

def rL_refused : Room := { frames := 10, cells := 191, slots := 1146, locals := 180 }
set_option maxRecDepth 100000 in
set_option maxHeartbeats 8000000 in
theorem c_L_refused (l : Launch) (hfl : l.stackTraces = false) (G : Gx) (n0 : Nat) {M : Mem} {r : Bool} {M' : Mem} (hf : fL_refused M = some (r, M')) : CtK l yL_refused cL_refused 5 (some .boolean) rL_refused G n0 [.ref (n0 + 0)] M (some (.int (bI r))) M' 191 := by
  refine ctk_bool (cc := cL_refused) (maxL := 5) rfl (Nat.le_of_ble_eq_true rfl) ⟨rfl, rfl⟩ ?_
  intro K CC hret
  have CC : ∀ a, a ≤ 191 → Ok (kc K a) l rL_refused cL_refused RL G n0 5 := CC
  show J (kc K 0) M 0 [(0, .ref (n0 + 0))] []
  have C := CC 0 (by omega)
  unfold fL_refused at hf
  refine j_aload_n C 0 dL_refused_0 rfl rfl ?_
  obtain ⟨⟨v2, M3⟩, e1, hf⟩ := bd hf
  replace hf := un2e hf
  refine j_callK (k := 81) C (CC _ (by omega)) 1 (c_L_print l hfl G n0 e1) gs_RL_105 ⟨rfl, rfl⟩ (by decide +kernel) ⟨Nat.le_of_ble_eq_true rfl, Nat.le_of_ble_eq_true rfl⟩ rfl rfl (Nat.le_of_ble_eq_true rfl) dL_refused_1 ?_
  have C := CC (0 + 81) (by omega)
  refine j_lstore_n C [(1, .long v2), (0, .ref (n0 + 0))] dL_refused_4 rfl (Nat.le_of_ble_eq_true rfl) rfl ?_
  refine j_aload_n C 1 dL_refused_5 rfl rfl ?_
  refine j_iconst C (0 : Int32) rfl dL_refused_6 ?_
  obtain ⟨v5, e4, hf⟩ := bd hf
  refine j_callW (k := 1) C (CC _ (by omega)) 2 (cf_L_whole l hfl G n0 e4) gw_L_whole_91 ⟨rfl, rfl⟩ (by decide +kernel) ⟨Nat.le_of_ble_eq_true rfl, Nat.le_of_ble_eq_true rfl⟩ rfl rfl (Nat.le_of_ble_eq_true rfl) dL_refused_7 ?_
  have C := CC ((0 + 81) + 1) (by omega)
  refine j_istore_n C [(3, .int v5), (1, .long v2), (0, .ref (n0 + 0))] dL_refused_10 rfl (Nat.le_of_ble_eq_true rfl) rfl ?_
  refine j_aload_n C 2 dL_refused_11 rfl rfl ?_
  refine j_iconst C (-1 : Int32) rfl dL_refused_12 ?_
  obtain ⟨⟨v7, M8⟩, e6, hf⟩ := bd hf
  replace hf := un2e hf
  refine j_callW (k := 1) C (CC _ (by omega)) 2 (cf_L_join l hfl G n0 e6) gw_L_join_109 ⟨rfl, rfl⟩ (by decide +kernel) ⟨Nat.le_of_ble_eq_true rfl, Nat.le_of_ble_eq_true rfl⟩ rfl rfl (Nat.le_of_ble_eq_true rfl) dL_refused_13 ?_
  have C := CC (((0 + 81) + 1) + 1) (by omega)
  refine j_ldc C tw2_176 dL_refused_16 ?_
  obtain ⟨⟨z66, M67⟩, e132, hf⟩ := bd hf
  replace hf := un2e hf
  have hj133 : J (kc K ((((0 + 81) + 1) + 1) + 16)) M67 194 [(0, .ref (n0 + 0)), (1, .long v2), (3, .int v5)] [.int (bI z66)] := by
    have C := CC ((((0 + 81) + 1) + 1) + 16) (by omega)
    refine j_istore C [(4, .int (bI z66)), (0, .ref (n0 + 0)), (1, .long v2), (3, .int v5)] dL_refused_194 (Nat.le_of_ble_eq_true rfl) rfl ?_
    refine j_iload C 0 dL_refused_196 rfl ?_
    obtain ⟨⟨z103, M104⟩, e134, hf⟩ := bd hf
    replace hf := un2e hf
    have hj135 : J (kc K (((((0 + 81) + 1) + 1) + 16) + 6)) M104 286 [(0, .ref (n0 + 0)), (1, .long v2), (3, .int v5)] [.int (bI z103)] := by
      have C := CC (((((0 + 81) + 1) + 1) + 16) + 6) (by omega)
      refine j_istore C [(4, .int (bI z103)), (0, .ref (n0 + 0)), (1, .long v2), (3, .int v5)] dL_refused_286 (Nat.le_of_ble_eq_true rfl) rfl ?_
      refine j_iload C 0 dL_refused_288 rfl ?_
      refine j_ifz_eq C 359 dL_refused_290 (by decide) (fun c105 => ?_) (fun c105 => ?_)
      · replace hf := ine c105 hf
        refine j_iconst C (0 : Int32) rfl dL_refused_359 ?_
        obtain ⟨rfl, rfl⟩ := Prod.mk.inj (Option.some.inj hf)
        exact hret _ _ _ (by omega) dL_refused_360
      · replace hf := ip c105 hf
        refine j_iload_n C 3 dL_refused_293 rfl rfl ?_
        refine j_if_eq C 346 dL_refused_294 (by decide) (fun c106 => ?_) (fun c106 => ?_)
        · replace hf := ip c106 hf
          refine j_aload_n C 1 dL_refused_346 rfl rfl ?_
          obtain ⟨⟨v108, M109⟩, e107, hf⟩ := bd hf
          replace hf := un2e hf
          refine j_callK (k := 81) C (CC _ (by omega)) 1 (c_L_print l hfl G n0 e107) gs_RL_105 ⟨rfl, rfl⟩ (by decide +kernel) ⟨Nat.le_of_ble_eq_true rfl, Nat.le_of_ble_eq_true rfl⟩ rfl rfl (Nat.le_of_ble_eq_true rfl) dL_refused_347 ?_
          have C := CC ((((((0 + 81) + 1) + 1) + 16) + 6) + 81) (by omega)
          refine j_lload_n C 2 dL_refused_350 rfl rfl ?_
          refine j_lcmp C dL_refused_351 ?_
          refine j_iflc_ne C 359 dL_refused_352 (by decide) (fun c110 => ?_) (fun c110 => ?_)
          · replace hf := ine c110 hf
            refine j_iconst C (0 : Int32) rfl dL_refused_359 ?_
            obtain ⟨rfl, rfl⟩ := Prod.mk.inj (Option.some.inj hf)
            exact hret _ _ _ (by omega) dL_refused_360
          · replace hf := ip c110 hf
            refine j_iconst C (1 : Int32) rfl dL_refused_355 ?_
            refine j_goto C 360 dL_refused_356 (by decide) ?_
            obtain ⟨rfl, rfl⟩ := Prod.mk.inj (Option.some.inj hf)
            exact hret _ _ _ (by omega) dL_refused_360
        · replace hf := ine c106 hf
          refine j_aload_n C 1 dL_refused_297 rfl rfl ?_
          refine j_aload_n C 1 dL_refused_298 rfl rfl ?_
          refine j_iconst C (0 : Int32) rfl dL_refused_299 ?_
          refine j_iconst C (0 : Int32) rfl dL_refused_300 ?_
          obtain ⟨v112, e111, hf⟩ := bd hf
          refine j_callW (k := 1) C (CC _ (by omega)) 3 (cf_L_household l hfl G n0 e111) gw_L_household_96 ⟨rfl, rfl⟩ (by decide +kernel) ⟨Nat.le_of_ble_eq_true rfl, Nat.le_of_ble_eq_true rfl⟩ rfl rfl (Nat.le_of_ble_eq_true rfl) dL_refused_301 ?_
          have C := CC ((((((0 + 81) + 1) + 1) + 16) + 6) + 1) (by omega)
          obtain ⟨⟨v114, M115⟩, e113, hf⟩ := bd hf
          replace hf := un2e hf
          refine j_callW (k := 1) C (CC _ (by omega)) 2 (cf_L_join l hfl G n0 e113) gw_L_join_109 ⟨rfl, rfl⟩ (by decide +kernel) ⟨Nat.le_of_ble_eq_true rfl, Nat.le_of_ble_eq_true rfl⟩ rfl rfl (Nat.le_of_ble_eq_true rfl) dL_refused_304 ?_
          have C := CC (((((((0 + 81) + 1) + 1) + 16) + 6) + 1) + 1) (by omega)
          refine j_ldc C tw2_227 dL_refused_307 ?_
          refine j_icmp_ne C 359 dL_refused_309 (by decide) (fun c116 => ?_) (fun c116 => ?_)
          · replace hf := ine c116 hf
            refine j_iconst C (0 : Int32) rfl dL_refused_359 ?_
            obtain ⟨rfl, rfl⟩ := Prod.mk.inj (Option.some.inj hf)
            exact hret _ _ _ (by omega) dL_refused_360
          · replace hf := ip c116 hf
            refine j_aload_n C 1 dL_refused_312 rfl rfl ?_
            refine j_iconst C (0 : Int32) rfl dL_refused_313 ?_
            refine j_iconst C (0 : Int32) rfl dL_refused_314 ?_
            obtain ⟨⟨v118, M119⟩, e117, hf⟩ := bd hf
            replace hf := un2e hf
            refine j_callW (k := 1) C (CC _ (by omega)) 3 (cf_L_remark l hfl G n0 e117) gw_L_remark_111 ⟨rfl, rfl⟩ (by decide +kernel) ⟨Nat.le_of_ble_eq_true rfl, Nat.le_of_ble_eq_true rfl⟩ rfl rfl (Nat.le_of_ble_eq_true rfl) dL_refused_315 ?_
            have C := CC ((((((((0 + 81) + 1) + 1) + 16) + 6) + 1) + 1) + 1) (by omega)
            refine j_ldc C tw2_176 dL_refused_318 ?_
            refine j_icmp_ne C 359 dL_refused_320 (by decide) (fun c120 => ?_) (fun c120 => ?_)
            · replace hf := ine c120 hf
              refine j_iconst C (0 : Int32) rfl dL_refused_359 ?_
              obtain ⟨rfl, rfl⟩ := Prod.mk.inj (Option.some.inj hf)
              exact hret _ _ _ (by omega) dL_refused_360
            · replace hf := ip c120 hf
              refine j_aload_n C 1 dL_refused_323 rfl rfl ?_
              refine j_iconst C (0 : Int32) rfl dL_refused_324 ?_
              refine j_iconst C (3 : Int32) rfl dL_refused_325 ?_
              refine j_iconst C (1 : Int32) rfl dL_refused_326 ?_
              obtain ⟨⟨v122, M123⟩, e121, hf⟩ := bd hf
              replace hf := un2e hf
              refine j_callW (k := 1) C (CC _ (by omega)) 4 (cf_L_bring l hfl G n0 e121) gw_L_bring_115 ⟨rfl, rfl⟩ (by decide +kernel) ⟨Nat.le_of_ble_eq_true rfl, Nat.le_of_ble_eq_true rfl⟩ rfl rfl (Nat.le_of_ble_eq_true rfl) dL_refused_327 ?_
              have C := CC (((((((((0 + 81) + 1) + 1) + 16) + 6) + 1) + 1) + 1) + 1) (by omega)
              refine j_ldc C tw2_176 dL_refused_330 ?_
              refine j_icmp_ne C 359 dL_refused_332 (by decide) (fun c124 => ?_) (fun c124 => ?_)
              · replace hf := ine c124 hf
                refine j_iconst C (0 : Int32) rfl dL_refused_359 ?_
                obtain ⟨rfl, rfl⟩ := Prod.mk.inj (Option.some.inj hf)
                exact hret _ _ _ (by omega) dL_refused_360
              · replace hf := ip c124 hf
                refine j_aload_n C 1 dL_refused_335 rfl rfl ?_
                refine j_iconst C (0 : Int32) rfl dL_refused_336 ?_
                refine j_iconst C (3 : Int32) rfl dL_refused_337 ?_
                obtain ⟨v126, e125, hf⟩ := bd hf
                refine j_callW (k := 1) C (CC _ (by omega)) 3 (cf_L_balance l hfl G n0 e125) gw_L_balance_131 ⟨rfl, rfl⟩ (by decide +kernel) ⟨Nat.le_of_ble_eq_true rfl, Nat.le_of_ble_eq_true rfl⟩ rfl rfl (Nat.le_of_ble_eq_true rfl) dL_refused_338 ?_
                have C := CC ((((((((((0 + 81) + 1) + 1) + 16) + 6) + 1) + 1) + 1) + 1) + 1) (by omega)
                refine j_ldc C tw2_176 dL_refused_341 ?_
                refine j_icmp_ne C 359 dL_refused_343 (by decide) (fun c127 => ?_) (fun c127 => ?_)
                · replace hf := ine c127 hf
                  refine j_iconst C (0 : Int32) rfl dL_refused_359 ?_
                  obtain ⟨rfl, rfl⟩ := Prod.mk.inj (Option.some.inj hf)
                  exact hret _ _ _ (by omega) dL_refused_360
                · replace hf := ip c127 hf
                  refine j_aload_n C 1 dL_refused_346 rfl rfl ?_
                  obtain ⟨⟨v129, M130⟩, e128, hf⟩ := bd hf
                  replace hf := un2e hf
                  refine j_callK (k := 81) C (CC _ (by omega)) 1 (c_L_print l hfl G n0 e128) gs_RL_105 ⟨rfl, rfl⟩ (by decide +kernel) ⟨Nat.le_of_ble_eq_true rfl, Nat.le_of_ble_eq_true rfl⟩ rfl rfl (Nat.le_of_ble_eq_true rfl) dL_refused_347 ?_
                  have C := CC (((((((((((0 + 81) + 1) + 1) + 16) + 6) + 1) + 1) + 1) + 1) + 1) + 81) (by omega)
                  refine j_lload_n C 2 dL_refused_350 rfl rfl ?_
                  refine j_lcmp C dL_refused_351 ?_
                  refine j_iflc_ne C 359 dL_refused_352 (by decide) (fun c131 => ?_) (fun c131 => ?_)
                  · replace hf := ine c131 hf
                    refine j_iconst C (0 : Int32) rfl dL_refused_359 ?_
                    obtain ⟨rfl, rfl⟩ := Prod.mk.inj (Option.some.inj hf)
                    exact hret _ _ _ (by omega) dL_refused_360
                  · replace hf := ip c131 hf
                    refine j_iconst C (1 : Int32) rfl dL_refused_355 ?_
                    refine j_goto C 360 dL_refused_356 (by decide) ?_
                    obtain ⟨rfl, rfl⟩ := Prod.mk.inj (Option.some.inj hf)
                    exact hret _ _ _ (by omega) dL_refused_360
    clear hf
    have hf := e134
    refine j_ifz_eq C 285 dL_refused_198 (by decide) (fun c68 => ?_) (fun c68 => ?_)
    · replace hf := ine c68 hf
      refine j_iconst C (0 : Int32) rfl dL_refused_285 ?_
      cases hf
      refine j_sub [1, 2, 3] rfl ?_
      exact j_wid (by omega) hj135
    · replace hf := ip c68 hf
      refine j_aload_n C 1 dL_refused_201 rfl rfl ?_
      refine j_iconst C (0 : Int32) rfl dL_refused_202 ?_
      obtain ⟨⟨v70, M71⟩, e69, hf⟩ := bd hf
      replace hf := un2e hf
      refine j_callW (k := 1) C (CC _ (by omega)) 2 (cf_L_doughWith l hfl G n0 e69) gw_L_doughWith_133 ⟨rfl, rfl⟩ (by decide +kernel) ⟨Nat.le_of_ble_eq_true rfl, Nat.le_of_ble_eq_true rfl⟩ rfl rfl (Nat.le_of_ble_eq_true rfl) dL_refused_203 ?_
      have C := CC (((((0 + 81) + 1) + 1) + 16) + 1) (by omega)
      refine j_ldc C tw2_176 dL_refused_206 ?_
      refine j_icmp_ne C 285 dL_refused_208 (by decide) (fun c72 => ?_) (fun c72 => ?_)
      · replace hf := ine c72 hf
        refine j_iconst C (0 : Int32) rfl dL_refused_285 ?_
        cases hf
        refine j_sub [1, 2, 3] rfl ?_
        exact j_wid (by omega) hj135
      · replace hf := ip c72 hf
        refine j_aload_n C 1 dL_refused_211 rfl rfl ?_
        refine j_bipush C (17 : Int32) rfl dL_refused_212 ?_
        obtain ⟨v74, e73, hf⟩ := bd hf
        refine j_callW (k := 1) C (CC _ (by omega)) 2 (cf_L_freeMark l hfl G n0 e73) gw_L_freeMark_135 ⟨rfl, rfl⟩ (by decide +kernel) ⟨Nat.le_of_ble_eq_true rfl, Nat.le_of_ble_eq_true rfl⟩ rfl rfl (Nat.le_of_ble_eq_true rfl) dL_refused_214 ?_
        have C := CC ((((((0 + 81) + 1) + 1) + 16) + 1) + 1) (by omega)
        refine j_ldc C tw2_176 dL_refused_217 ?_
        refine j_icmp_ne C 285 dL_refused_219 (by decide) (fun c75 => ?_) (fun c75 => ?_)
        · replace hf := ine c75 hf
          refine j_iconst C (0 : Int32) rfl dL_refused_285 ?_
          cases hf
          refine j_sub [1, 2, 3] rfl ?_
          exact j_wid (by omega) hj135
        · replace hf := ip c75 hf
          refine j_aload_n C 1 dL_refused_222 rfl rfl ?_
          refine j_sipush C (128 : Int32) rfl dL_refused_223 ?_
          obtain ⟨⟨v77, M78⟩, e76, hf⟩ := bd hf
          replace hf := un2e hf
          refine j_callW (k := 1) C (CC _ (by omega)) 2 (cf_L_type l hfl G n0 e76) gw_L_type_137 ⟨rfl, rfl⟩ (by decide +kernel) ⟨Nat.le_of_ble_eq_true rfl, Nat.le_of_ble_eq_true rfl⟩ rfl rfl (Nat.le_of_ble_eq_true rfl) dL_refused_226 ?_
          have C := CC (((((((0 + 81) + 1) + 1) + 16) + 1) + 1) + 1) (by omega)
          refine j_ldc C tw2_176 dL_refused_229 ?_
          refine j_icmp_ne C 285 dL_refused_231 (by decide) (fun c79 => ?_) (fun c79 => ?_)
          · replace hf := ine c79 hf
            refine j_iconst C (0 : Int32) rfl dL_refused_285 ?_
            cases hf
            refine j_sub [1, 2, 3] rfl ?_
            exact j_wid (by omega) hj135
          · replace hf := ip c79 hf
            refine j_aload_n C 1 dL_refused_234 rfl rfl ?_
            refine j_iconst C (3 : Int32) rfl dL_refused_235 ?_
            obtain ⟨v81, e80, hf⟩ := bd hf
            refine j_callW (k := 1) C (CC _ (by omega)) 2 (cf_L_whole l hfl G n0 e80) gw_L_whole_91 ⟨rfl, rfl⟩ (by decide +kernel) ⟨Nat.le_of_ble_eq_true rfl, Nat.le_of_ble_eq_true rfl⟩ rfl rfl (Nat.le_of_ble_eq_true rfl) dL_refused_236 ?_
            have C := CC ((((((((0 + 81) + 1) + 1) + 16) + 1) + 1) + 1) + 1) (by omega)
            refine j_if_gt C 269 dL_refused_239 (by decide) (fun c82 => ?_) (fun c82 => ?_)
            · replace hf := ip c82 hf
              refine j_iload_n C 3 dL_refused_269 rfl rfl ?_
              refine j_if_gt C 281 dL_refused_270 (by decide) (fun c83 => ?_) (fun c83 => ?_)
              · replace hf := ip c83 hf
                refine j_iconst C (1 : Int32) rfl dL_refused_281 ?_
                refine j_goto C 286 dL_refused_282 (by decide) ?_
                cases hf
                refine j_sub [1, 2, 3] rfl ?_
                exact j_wid (by omega) hj135
              · replace hf := ine c83 hf
                refine j_aload_n C 1 dL_refused_273 rfl rfl ?_
                obtain ⟨v85, e84, hf⟩ := bd hf
                refine j_callV C 0 lc0 (ent_K _ _ _ _ _ _) rfl (c_X11_nextForWood l G n0 e84) gv_RL_142 ⟨rfl, rfl⟩ (by decide +kernel) ⟨Nat.le_of_ble_eq_true rfl, Nat.le_of_ble_eq_true rfl⟩ rfl rfl (Nat.le_of_ble_eq_true rfl) dL_refused_274 ?_
                refine j_iconst C (-1 : Int32) rfl dL_refused_277 ?_
                refine j_icmp_ne C 285 dL_refused_278 (by decide) (fun c86 => ?_) (fun c86 => ?_)
                · replace hf := ine c86 hf
                  refine j_iconst C (0 : Int32) rfl dL_refused_285 ?_
                  cases hf
                  refine j_sub [1, 2, 3] rfl ?_
                  exact j_wid (by omega) hj135
                · replace hf := ip c86 hf
                  refine j_iconst C (1 : Int32) rfl dL_refused_281 ?_
                  refine j_goto C 286 dL_refused_282 (by decide) ?_
                  cases hf
                  refine j_sub [1, 2, 3] rfl ?_
                  exact j_wid (by omega) hj135
            · replace hf := ine c82 hf
              refine j_aload_n C 1 dL_refused_242 rfl rfl ?_
              refine j_iconst C (1 : Int32) rfl dL_refused_243 ?_
              obtain ⟨⟨v88, M89⟩, e87, hf⟩ := bd hf
              replace hf := un2e hf
              refine j_callW (k := 1) C (CC _ (by omega)) 2 (cf_L_bake l hfl G n0 e87) gw_L_bake_122 ⟨rfl, rfl⟩ (by decide +kernel) ⟨Nat.le_of_ble_eq_true rfl, Nat.le_of_ble_eq_true rfl⟩ rfl rfl (Nat.le_of_ble_eq_true rfl) dL_refused_244 ?_
              have C := CC (((((((((0 + 81) + 1) + 1) + 16) + 1) + 1) + 1) + 1) + 1) (by omega)
              refine j_ldc C tw2_227 dL_refused_247 ?_
              refine j_icmp_ne C 285 dL_refused_249 (by decide) (fun c90 => ?_) (fun c90 => ?_)
              · replace hf := ine c90 hf
                refine j_iconst C (0 : Int32) rfl dL_refused_285 ?_
                cases hf
                refine j_sub [1, 2, 3] rfl ?_
                exact j_wid (by omega) hj135
              · replace hf := ip c90 hf
                refine j_aload_n C 1 dL_refused_252 rfl rfl ?_
                obtain ⟨⟨v92, M93⟩, e91, hf⟩ := bd hf
                replace hf := un2e hf
                refine j_callV C 0 lc0 (ent_K _ _ _ _ _ _) rfl (c_X11_bestWood l G n0 e91) gv_RL_139 ⟨rfl, rfl⟩ (by decide +kernel) ⟨Nat.le_of_ble_eq_true rfl, Nat.le_of_ble_eq_true rfl⟩ rfl rfl (Nat.le_of_ble_eq_true rfl) dL_refused_253 ?_
                refine j_iconst C (-1 : Int32) rfl dL_refused_256 ?_
                refine j_icmp_ne C 285 dL_refused_257 (by decide) (fun c94 => ?_) (fun c94 => ?_)
                · replace hf := ine c94 hf
                  refine j_iconst C (0 : Int32) rfl dL_refused_285 ?_
                  cases hf
                  refine j_sub [1, 2, 3] rfl ?_
                  exact j_wid (by omega) hj135
                · replace hf := ip c94 hf
                  refine j_aload_n C 1 dL_refused_260 rfl rfl ?_
                  refine j_bipush C (40 : Int32) rfl dL_refused_261 ?_
                  obtain ⟨⟨v96, M97⟩, e95, hf⟩ := bd hf
                  replace hf := un2e hf
                  refine j_callW (k := 1) C (CC _ (by omega)) 2 (cf_L_doughWith l hfl G n0 e95) gw_L_doughWith_133 ⟨rfl, rfl⟩ (by decide +kernel) ⟨Nat.le_of_ble_eq_true rfl, Nat.le_of_ble_eq_true rfl⟩ rfl rfl (Nat.le_of_ble_eq_true rfl) dL_refused_263 ?_
                  have C := CC ((((((((((0 + 81) + 1) + 1) + 16) + 1) + 1) + 1) + 1) + 1) + 1) (by omega)
                  refine j_if_ne C 285 dL_refused_266 (by decide) (fun c98 => ?_) (fun c98 => ?_)
                  · replace hf := ine c98 hf
                    refine j_iconst C (0 : Int32) rfl dL_refused_285 ?_
                    cases hf
                    refine j_sub [1, 2, 3] rfl ?_
                    exact j_wid (by omega) hj135
                  · replace hf := ip c98 hf
                    refine j_iload_n C 3 dL_refused_269 rfl rfl ?_
                    refine j_if_gt C 281 dL_refused_270 (by decide) (fun c99 => ?_) (fun c99 => ?_)
                    · replace hf := ip c99 hf
                      refine j_iconst C (1 : Int32) rfl dL_refused_281 ?_
                      refine j_goto C 286 dL_refused_282 (by decide) ?_
                      cases hf
                      refine j_sub [1, 2, 3] rfl ?_
                      exact j_wid (by omega) hj135
                    · replace hf := ine c99 hf
                      refine j_aload_n C 1 dL_refused_273 rfl rfl ?_
                      obtain ⟨v101, e100, hf⟩ := bd hf
                      refine j_callV C 0 lc0 (ent_K _ _ _ _ _ _) rfl (c_X11_nextForWood l G n0 e100) gv_RL_142 ⟨rfl, rfl⟩ (by decide +kernel) ⟨Nat.le_of_ble_eq_true rfl, Nat.le_of_ble_eq_true rfl⟩ rfl rfl (Nat.le_of_ble_eq_true rfl) dL_refused_274 ?_
                      refine j_iconst C (-1 : Int32) rfl dL_refused_277 ?_
                      refine j_icmp_ne C 285 dL_refused_278 (by decide) (fun c102 => ?_) (fun c102 => ?_)
                      · replace hf := ine c102 hf
                        refine j_iconst C (0 : Int32) rfl dL_refused_285 ?_
                        cases hf
                        refine j_sub [1, 2, 3] rfl ?_
                        exact j_wid (by omega) hj135
                      · replace hf := ip c102 hf
                        refine j_iconst C (1 : Int32) rfl dL_refused_281 ?_
                        refine j_goto C 286 dL_refused_282 (by decide) ?_
                        cases hf
                        refine j_sub [1, 2, 3] rfl ?_
                        exact j_wid (by omega) hj135
  clear hf
  have hf := e132
  refine j_icmp_ne C 193 dL_refused_18 (by decide) (fun c9 => ?_) (fun c9 => ?_)
  · replace hf := ine c9 hf
    refine j_iconst C (0 : Int32) rfl dL_refused_193 ?_
    cases hf
    refine j_sub [2, 1, 0] rfl ?_
    exact j_wid (by omega) hj133
  · replace hf := ip c9 hf
    refine j_aload_n C 2 dL_refused_21 rfl rfl ?_
    refine j_iload_n C 0 dL_refused_22 rfl rfl ?_
    refine j_iconst C (0 : Int32) rfl dL_refused_23 ?_
    obtain ⟨⟨v11, M12⟩, e10, hf⟩ := bd hf
    replace hf := un2e hf
    refine j_callW (k := 1) C (CC _ (by omega)) 3 (cf_L_remark l hfl G n0 e10) gw_L_remark_111 ⟨rfl, rfl⟩ (by decide +kernel) ⟨Nat.le_of_ble_eq_true rfl, Nat.le_of_ble_eq_true rfl⟩ rfl rfl (Nat.le_of_ble_eq_true rfl) dL_refused_24 ?_
    have C := CC ((((0 + 81) + 1) + 1) + 1) (by omega)
    refine j_ldc C tw3_24 dL_refused_27 ?_
    refine j_icmp_ne C 193 dL_refused_29 (by decide) (fun c13 => ?_) (fun c13 => ?_)
    · replace hf := ine c13 hf
      refine j_iconst C (0 : Int32) rfl dL_refused_193 ?_
      cases hf
      refine j_sub [2, 1, 0] rfl ?_
      exact j_wid (by omega) hj133
    · replace hf := ip c13 hf
      refine j_aload_n C 2 dL_refused_32 rfl rfl ?_
      refine j_iconst C (-1 : Int32) rfl dL_refused_33 ?_
      obtain ⟨⟨v15, M16⟩, e14, hf⟩ := bd hf
      replace hf := un2e hf
      refine j_callW (k := 1) C (CC _ (by omega)) 2 (cf_L_excuse l hfl G n0 e14) gw_L_excuse_113 ⟨rfl, rfl⟩ (by decide +kernel) ⟨Nat.le_of_ble_eq_true rfl, Nat.le_of_ble_eq_true rfl⟩ rfl rfl (Nat.le_of_ble_eq_true rfl) dL_refused_34 ?_
      have C := CC (((((0 + 81) + 1) + 1) + 1) + 1) (by omega)
      refine j_ldc C tw3_24 dL_refused_37 ?_
      refine j_icmp_ne C 193 dL_refused_39 (by decide) (fun c17 => ?_) (fun c17 => ?_)
      · replace hf := ine c17 hf
        refine j_iconst C (0 : Int32) rfl dL_refused_193 ?_
        cases hf
        refine j_sub [2, 1, 0] rfl ?_
        exact j_wid (by omega) hj133
      · replace hf := ip c17 hf
        refine j_aload_n C 2 dL_refused_42 rfl rfl ?_
        refine j_iload_n C 0 dL_refused_43 rfl rfl ?_
        refine j_iconst C (0 : Int32) rfl dL_refused_44 ?_
        refine j_iconst C (1 : Int32) rfl dL_refused_45 ?_
        obtain ⟨⟨v19, M20⟩, e18, hf⟩ := bd hf
        replace hf := un2e hf
        refine j_callW (k := 1) C (CC _ (by omega)) 4 (cf_L_bring l hfl G n0 e18) gw_L_bring_115 ⟨rfl, rfl⟩ (by decide +kernel) ⟨Nat.le_of_ble_eq_true rfl, Nat.le_of_ble_eq_true rfl⟩ rfl rfl (Nat.le_of_ble_eq_true rfl) dL_refused_46 ?_
        have C := CC ((((((0 + 81) + 1) + 1) + 1) + 1) + 1) (by omega)
        refine j_ldc C tw3_24 dL_refused_49 ?_
        refine j_icmp_ne C 193 dL_refused_51 (by decide) (fun c21 => ?_) (fun c21 => ?_)
        · replace hf := ine c21 hf
          refine j_iconst C (0 : Int32) rfl dL_refused_193 ?_
          cases hf
          refine j_sub [2, 1, 0] rfl ?_
          exact j_wid (by omega) hj133
        · replace hf := ip c21 hf
          refine j_aload_n C 2 dL_refused_54 rfl rfl ?_
          refine j_bipush C (20 : Int32) rfl dL_refused_55 ?_
          obtain ⟨⟨v23, M24⟩, e22, hf⟩ := bd hf
          replace hf := un2e hf
          refine j_callW (k := 1) C (CC _ (by omega)) 2 (cf_L_takeBack l hfl G n0 e22) gw_L_takeBack_118 ⟨rfl, rfl⟩ (by decide +kernel) ⟨Nat.le_of_ble_eq_true rfl, Nat.le_of_ble_eq_true rfl⟩ rfl rfl (Nat.le_of_ble_eq_true rfl) dL_refused_57 ?_
          have C := CC (((((((0 + 81) + 1) + 1) + 1) + 1) + 1) + 1) (by omega)
          refine j_ldc C tw3_24 dL_refused_60 ?_
          refine j_icmp_ne C 193 dL_refused_62 (by decide) (fun c25 => ?_) (fun c25 => ?_)
          · replace hf := ine c25 hf
            refine j_iconst C (0 : Int32) rfl dL_refused_193 ?_
            cases hf
            refine j_sub [2, 1, 0] rfl ?_
            exact j_wid (by omega) hj133
          · replace hf := ip c25 hf
            refine j_aload_n C 2 dL_refused_65 rfl rfl ?_
            refine j_bipush C (-5 : Int32) rfl dL_refused_66 ?_
            obtain ⟨⟨v27, M28⟩, e26, hf⟩ := bd hf
            replace hf := un2e hf
            refine j_callW (k := 1) C (CC _ (by omega)) 2 (cf_L_setS l hfl G n0 e26) gw_L_setS_120 ⟨rfl, rfl⟩ (by decide +kernel) ⟨Nat.le_of_ble_eq_true rfl, Nat.le_of_ble_eq_true rfl⟩ rfl rfl (Nat.le_of_ble_eq_true rfl) dL_refused_68 ?_
            have C := CC ((((((((0 + 81) + 1) + 1) + 1) + 1) + 1) + 1) + 1) (by omega)
            refine j_ldc C tw2_176 dL_refused_71 ?_
            refine j_icmp_ne C 193 dL_refused_73 (by decide) (fun c29 => ?_) (fun c29 => ?_)
            · replace hf := ine c29 hf
              refine j_iconst C (0 : Int32) rfl dL_refused_193 ?_
              cases hf
              refine j_sub [2, 1, 0] rfl ?_
              exact j_wid (by omega) hj133
            · replace hf := ip c29 hf
              refine j_aload_n C 2 dL_refused_76 rfl rfl ?_
              refine j_bipush C (41 : Int32) rfl dL_refused_77 ?_
              obtain ⟨⟨v31, M32⟩, e30, hf⟩ := bd hf
              replace hf := un2e hf
              refine j_callW (k := 1) C (CC _ (by omega)) 2 (cf_L_bake l hfl G n0 e30) gw_L_bake_122 ⟨rfl, rfl⟩ (by decide +kernel) ⟨Nat.le_of_ble_eq_true rfl, Nat.le_of_ble_eq_true rfl⟩ rfl rfl (Nat.le_of_ble_eq_true rfl) dL_refused_79 ?_
              have C := CC (((((((((0 + 81) + 1) + 1) + 1) + 1) + 1) + 1) + 1) + 1) (by omega)
              refine j_ldc C tw2_176 dL_refused_82 ?_
              refine j_icmp_ne C 193 dL_refused_84 (by decide) (fun c33 => ?_) (fun c33 => ?_)
              · replace hf := ine c33 hf
                refine j_iconst C (0 : Int32) rfl dL_refused_193 ?_
                cases hf
                refine j_sub [2, 1, 0] rfl ?_
                exact j_wid (by omega) hj133
              · replace hf := ip c33 hf
                refine j_aload_n C 2 dL_refused_87 rfl rfl ?_
                refine j_iload_n C 0 dL_refused_88 rfl rfl ?_
                obtain ⟨⟨v35, M36⟩, e34, hf⟩ := bd hf
                replace hf := un2e hf
                refine j_callW (k := 1) C (CC _ (by omega)) 2 (cf_L_claim l hfl G n0 e34) gw_L_claim_124 ⟨rfl, rfl⟩ (by decide +kernel) ⟨Nat.le_of_ble_eq_true rfl, Nat.le_of_ble_eq_true rfl⟩ rfl rfl (Nat.le_of_ble_eq_true rfl) dL_refused_89 ?_
                have C := CC ((((((((((0 + 81) + 1) + 1) + 1) + 1) + 1) + 1) + 1) + 1) + 1) (by omega)
                refine j_ldc C tw3_24 dL_refused_92 ?_
                refine j_icmp_ne C 193 dL_refused_94 (by decide) (fun c37 => ?_) (fun c37 => ?_)
                · replace hf := ine c37 hf
                  refine j_iconst C (0 : Int32) rfl dL_refused_193 ?_
                  cases hf
                  refine j_sub [2, 1, 0] rfl ?_
                  exact j_wid (by omega) hj133
                · replace hf := ip c37 hf
                  refine j_aload_n C 2 dL_refused_97 rfl rfl ?_
                  refine j_iload_n C 0 dL_refused_98 rfl rfl ?_
                  obtain ⟨⟨v39, M40⟩, e38, hf⟩ := bd hf
                  replace hf := un2e hf
                  refine j_callW (k := 1) C (CC _ (by omega)) 2 (cf_L_returnLoaves l hfl G n0 e38) gw_L_returnLoaves_126 ⟨rfl, rfl⟩ (by decide +kernel) ⟨Nat.le_of_ble_eq_true rfl, Nat.le_of_ble_eq_true rfl⟩ rfl rfl (Nat.le_of_ble_eq_true rfl) dL_refused_99 ?_
                  have C := CC (((((((((((0 + 81) + 1) + 1) + 1) + 1) + 1) + 1) + 1) + 1) + 1) + 1) (by omega)
                  refine j_ldc C tw3_24 dL_refused_102 ?_
                  refine j_icmp_ne C 193 dL_refused_104 (by decide) (fun c41 => ?_) (fun c41 => ?_)
                  · replace hf := ine c41 hf
                    refine j_iconst C (0 : Int32) rfl dL_refused_193 ?_
                    cases hf
                    refine j_sub [2, 1, 0] rfl ?_
                    exact j_wid (by omega) hj133
                  · replace hf := ip c41 hf
                    refine j_aload_n C 2 dL_refused_107 rfl rfl ?_
                    refine j_iload_n C 0 dL_refused_108 rfl rfl ?_
                    refine j_iconst C (0 : Int32) rfl dL_refused_109 ?_
                    obtain ⟨v43, e42, hf⟩ := bd hf
                    refine j_callW (k := 1) C (CC _ (by omega)) 3 (cf_L_household l hfl G n0 e42) gw_L_household_96 ⟨rfl, rfl⟩ (by decide +kernel) ⟨Nat.le_of_ble_eq_true rfl, Nat.le_of_ble_eq_true rfl⟩ rfl rfl (Nat.le_of_ble_eq_true rfl) dL_refused_110 ?_
                    have C := CC ((((((((((((0 + 81) + 1) + 1) + 1) + 1) + 1) + 1) + 1) + 1) + 1) + 1) + 1) (by omega)
                    refine j_ldc C tw3_24 dL_refused_113 ?_
                    refine j_icmp_ne C 193 dL_refused_115 (by decide) (fun c44 => ?_) (fun c44 => ?_)
                    · replace hf := ine c44 hf
                      refine j_iconst C (0 : Int32) rfl dL_refused_193 ?_
                      cases hf
                      refine j_sub [2, 1, 0] rfl ?_
                      exact j_wid (by omega) hj133
                    · replace hf := ip c44 hf
                      refine j_aload_n C 2 dL_refused_118 rfl rfl ?_
                      refine j_iload_n C 0 dL_refused_119 rfl rfl ?_
                      obtain ⟨v46, e45, hf⟩ := bd hf
                      refine j_callW (k := 1) C (CC _ (by omega)) 2 (cf_L_due l hfl G n0 e45) gw_L_due_128 ⟨rfl, rfl⟩ (by decide +kernel) ⟨Nat.le_of_ble_eq_true rfl, Nat.le_of_ble_eq_true rfl⟩ rfl rfl (Nat.le_of_ble_eq_true rfl) dL_refused_120 ?_
                      have C := CC (((((((((((((0 + 81) + 1) + 1) + 1) + 1) + 1) + 1) + 1) + 1) + 1) + 1) + 1) + 1) (by omega)
                      refine j_ldc2 C tw4_161 dL_refused_123 ?_
                      refine j_lcmp C dL_refused_126 ?_
                      refine j_iflc_ne C 193 dL_refused_127 (by decide) (fun c47 => ?_) (fun c47 => ?_)
                      · replace hf := ine c47 hf
                        refine j_iconst C (0 : Int32) rfl dL_refused_193 ?_
                        cases hf
                        refine j_sub [2, 1, 0] rfl ?_
                        exact j_wid (by omega) hj133
                      · replace hf := ip c47 hf
                        refine j_aload_n C 2 dL_refused_130 rfl rfl ?_
                        refine j_iload_n C 0 dL_refused_131 rfl rfl ?_
                        refine j_iconst C (0 : Int32) rfl dL_refused_132 ?_
                        obtain ⟨v49, e48, hf⟩ := bd hf
                        refine j_callW (k := 1) C (CC _ (by omega)) 3 (cf_L_balance l hfl G n0 e48) gw_L_balance_131 ⟨rfl, rfl⟩ (by decide +kernel) ⟨Nat.le_of_ble_eq_true rfl, Nat.le_of_ble_eq_true rfl⟩ rfl rfl (Nat.le_of_ble_eq_true rfl) dL_refused_133 ?_
                        have C := CC ((((((((((((((0 + 81) + 1) + 1) + 1) + 1) + 1) + 1) + 1) + 1) + 1) + 1) + 1) + 1) + 1) (by omega)
                        refine j_ldc C tw3_24 dL_refused_136 ?_
                        refine j_icmp_ne C 193 dL_refused_138 (by decide) (fun c50 => ?_) (fun c50 => ?_)
                        · replace hf := ine c50 hf
                          refine j_iconst C (0 : Int32) rfl dL_refused_193 ?_
                          cases hf
                          refine j_sub [2, 1, 0] rfl ?_
                          exact j_wid (by omega) hj133
                        · replace hf := ip c50 hf
                          refine j_aload_n C 2 dL_refused_141 rfl rfl ?_
                          refine j_iconst C (-1 : Int32) rfl dL_refused_142 ?_
                          refine j_iconst C (0 : Int32) rfl dL_refused_143 ?_
                          obtain ⟨⟨v52, M53⟩, e51, hf⟩ := bd hf
                          replace hf := un2e hf
                          refine j_callW (k := 1) C (CC _ (by omega)) 3 (cf_L_batch l hfl G n0 e51) gw_L_batch_99 ⟨rfl, rfl⟩ (by decide +kernel) ⟨Nat.le_of_ble_eq_true rfl, Nat.le_of_ble_eq_true rfl⟩ rfl rfl (Nat.le_of_ble_eq_true rfl) dL_refused_144 ?_
                          have C := CC (((((((((((((((0 + 81) + 1) + 1) + 1) + 1) + 1) + 1) + 1) + 1) + 1) + 1) + 1) + 1) + 1) + 1) (by omega)
                          refine j_ldc C tw2_176 dL_refused_147 ?_
                          refine j_icmp_ne C 193 dL_refused_149 (by decide) (fun c54 => ?_) (fun c54 => ?_)
                          · replace hf := ine c54 hf
                            refine j_iconst C (0 : Int32) rfl dL_refused_193 ?_
                            cases hf
                            refine j_sub [2, 1, 0] rfl ?_
                            exact j_wid (by omega) hj133
                          · replace hf := ip c54 hf
                            refine j_aload_n C 2 dL_refused_152 rfl rfl ?_
                            refine j_aload_n C 2 dL_refused_153 rfl rfl ?_
                            refine j_bipush C (7 : Int32) rfl dL_refused_154 ?_
                            obtain ⟨v56, e55, hf⟩ := bd hf
                            refine j_callW (k := 1) C (CC _ (by omega)) 2 (cf_L_whole l hfl G n0 e55) gw_L_whole_91 ⟨rfl, rfl⟩ (by decide +kernel) ⟨Nat.le_of_ble_eq_true rfl, Nat.le_of_ble_eq_true rfl⟩ rfl rfl (Nat.le_of_ble_eq_true rfl) dL_refused_156 ?_
                            have C := CC ((((((((((((((((0 + 81) + 1) + 1) + 1) + 1) + 1) + 1) + 1) + 1) + 1) + 1) + 1) + 1) + 1) + 1) + 1) (by omega)
                            refine j_iconst C (0 : Int32) rfl dL_refused_159 ?_
                            obtain ⟨v58, e57, hf⟩ := bd hf
                            refine j_callW (k := 1) C (CC _ (by omega)) 3 (cf_L_loaf l hfl G n0 e57) gw_L_loaf_103 ⟨rfl, rfl⟩ (by decide +kernel) ⟨Nat.le_of_ble_eq_true rfl, Nat.le_of_ble_eq_true rfl⟩ rfl rfl (Nat.le_of_ble_eq_true rfl) dL_refused_160 ?_
                            have C := CC (((((((((((((((((0 + 81) + 1) + 1) + 1) + 1) + 1) + 1) + 1) + 1) + 1) + 1) + 1) + 1) + 1) + 1) + 1) + 1) (by omega)
                            refine j_ldc C tw3_24 dL_refused_163 ?_
                            refine j_icmp_ne C 193 dL_refused_165 (by decide) (fun c59 => ?_) (fun c59 => ?_)
                            · replace hf := ine c59 hf
                              refine j_iconst C (0 : Int32) rfl dL_refused_193 ?_
                              cases hf
                              refine j_sub [2, 1, 0] rfl ?_
                              exact j_wid (by omega) hj133
                            · replace hf := ip c59 hf
                              refine j_aload_n C 2 dL_refused_168 rfl rfl ?_
                              refine j_iconst C (0 : Int32) rfl dL_refused_169 ?_
                              refine j_iconst C (-1 : Int32) rfl dL_refused_170 ?_
                              obtain ⟨v61, e60, hf⟩ := bd hf
                              refine j_callW (k := 1) C (CC _ (by omega)) 3 (cf_L_load l hfl G n0 e60) gw_L_load_101 ⟨rfl, rfl⟩ (by decide +kernel) ⟨Nat.le_of_ble_eq_true rfl, Nat.le_of_ble_eq_true rfl⟩ rfl rfl (Nat.le_of_ble_eq_true rfl) dL_refused_171 ?_
                              have C := CC ((((((((((((((((((0 + 81) + 1) + 1) + 1) + 1) + 1) + 1) + 1) + 1) + 1) + 1) + 1) + 1) + 1) + 1) + 1) + 1) + 1) (by omega)
                              refine j_ldc C tw2_176 dL_refused_174 ?_
                              refine j_icmp_ne C 193 dL_refused_176 (by decide) (fun c62 => ?_) (fun c62 => ?_)
                              · replace hf := ine c62 hf
                                refine j_iconst C (0 : Int32) rfl dL_refused_193 ?_
                                cases hf
                                refine j_sub [2, 1, 0] rfl ?_
                                exact j_wid (by omega) hj133
                              · replace hf := ip c62 hf
                                refine j_aload_n C 2 dL_refused_179 rfl rfl ?_
                                refine j_iconst C (-1 : Int32) rfl dL_refused_180 ?_
                                obtain ⟨v64, e63, hf⟩ := bd hf
                                refine j_callW (k := 1) C (CC _ (by omega)) 2 (cf_L_whole l hfl G n0 e63) gw_L_whole_91 ⟨rfl, rfl⟩ (by decide +kernel) ⟨Nat.le_of_ble_eq_true rfl, Nat.le_of_ble_eq_true rfl⟩ rfl rfl (Nat.le_of_ble_eq_true rfl) dL_refused_181 ?_
                                have C := CC (((((((((((((((((((0 + 81) + 1) + 1) + 1) + 1) + 1) + 1) + 1) + 1) + 1) + 1) + 1) + 1) + 1) + 1) + 1) + 1) + 1) + 1) (by omega)
                                refine j_ldc C tw2_176 dL_refused_184 ?_
                                refine j_icmp_ne C 193 dL_refused_186 (by decide) (fun c65 => ?_) (fun c65 => ?_)
                                · replace hf := ine c65 hf
                                  refine j_iconst C (0 : Int32) rfl dL_refused_193 ?_
                                  cases hf
                                  refine j_sub [2, 1, 0] rfl ?_
                                  exact j_wid (by omega) hj133
                                · replace hf := ip c65 hf
                                  refine j_iconst C (1 : Int32) rfl dL_refused_189 ?_
                                  refine j_goto C 194 dL_refused_190 (by decide) ?_
                                  cases hf
                                  refine j_sub [2, 1, 0] rfl ?_
                                  exact j_wid (by omega) hj133
