def lL_areLoads_36 (M : Mem) : Nat → Int32 → Int32 → Bool → Int32 → Option (Int32 × Bool)
  | 0, _, _, _, _ => none
  | n + 1, a8, a9, a10, a11 =>
  (gL_whole (12 : Int32) M).bind fun v13 =>
  if v13 ≤ a11 then (some (a9, a10))
  else (if a10 = true then ((gL_load a11 (0 : Int32) M).bind fun v17 =>
  (gL_load a11 (2 : Int32) M).bind fun v19 =>
  (gL_load a11 (3 : Int32) M).bind fun v21 =>
  (gL_load a11 (4 : Int32) M).bind fun v23 =>
  (if v17 = 0 then (some (260 : Int32))
  else (if v17 = (1 : Int32) then (some (180 : Int32))
  else (some (90 : Int32)))).bind (fun z26 => (if v17 = 0 then (some (400 : Int32))
  else (if v17 = (1 : Int32) then (some (300 : Int32))
  else (some (200 : Int32)))).bind (fun z29 => (if v17 = 0 then (some (2 : Int32))
  else (if v17 = (1 : Int32) then (some (5 : Int32))
  else (some (8 : Int32)))).bind (fun z32 => (if v21 < z26 then (some false)
  else (if z29 < v21 then (some false)
  else (if a8 < v21 then (some false)
  else (if v19 ≤ 0 then (some false)
  else (if (24 : Int32) < v19 then (some false)
  else ((gL_load a11 (1 : Int32) M).bind fun v39 =>
  if v39 < (1 : Int32) then (some false)
  else ((gL_load a11 (1 : Int32) M).bind fun v42 =>
  if v19 < v42 then (some false)
  else (if (20 : Int32) ≤ (v21 - (z32 * ((5 : Int32) + (v19 / (8 : Int32))))) then (if v23 = (v21 - (z32 * ((5 : Int32) + (v19 / (8 : Int32))))) then (some true)
  else (some false))
  else (if v23 = (20 : Int32) then (some true)
  else (some false)))))))))).bind (fun z47 => lL_areLoads_36 M n v23 (a9 + v19) z47 (a11 + 1))))))
  else (some (a9, a10)))

def lL_areLoads_276  : Nat → Bool → Int32 → Int32 → Mem → Option (Bool × Int32 × Mem)
  | 0, _, _, _, _ => none
  | n + 1, a50, a51, a52, M53 =>
  (gL_whole (3 : Int32) M53).bind fun v55 =>
  if v55 ≤ a52 then (some (a50, a51, M53))
  else (if a50 = true then ((gL_batch a52 (3 : Int32) M53).bind (un2 fun v59 M60 =>
  (gL_batch a52 (0 : Int32) M60).bind (un2 fun v62 M63 =>
  (gL_whole (0 : Int32) M63).bind fun v65 =>
  if v65 ≤ v62 then (lL_areLoads_276  n false (a51 ||| ((1 : Int32) <<< (v59 &&& 31))) (a52 + 1) M63)
  else ((gL_batch a52 (1 : Int32) M63).bind (un2 fun v68 M69 =>
  if (3 : Int32) ≤ v68 then (lL_areLoads_276  n false (a51 ||| ((1 : Int32) <<< (v59 &&& 31))) (a52 + 1) M69)
  else ((gL_batch a52 (2 : Int32) M69).bind (un2 fun v72 M73 =>
  if v72 ≤ 0 then (lL_areLoads_276  n false (a51 ||| ((1 : Int32) <<< (v59 &&& 31))) (a52 + 1) M73)
  else ((gL_batch a52 (2 : Int32) M73).bind (un2 fun v76 M77 =>
  if (13 : Int32) ≤ v76 then (lL_areLoads_276  n false (a51 ||| ((1 : Int32) <<< (v59 &&& 31))) (a52 + 1) M77)
  else (lL_areLoads_276  n true (a51 ||| ((1 : Int32) <<< (v59 &&& 31))) (a52 + 1) M77))))))))))
  else (some (a50, a51, M53)))

def fL_areLoads  (M : Mem) : Option (Bool × Mem) :=
  (gL_whole (2 : Int32) M).bind fun v2 =>
  (if v2 < (20 : Int32) then (some false)
  else ((gL_whole (2 : Int32) M).bind fun v5 =>
  if (400 : Int32) < v5 then (some false)
  else (some true))).bind (fun z7 => (lL_areLoads_36 M FUEL (401 : Int32) (0 : Int32) z7 (0 : Int32)).bind (un2 fun a48 a49 => (lL_areLoads_276 FUEL a49 (0 : Int32) (0 : Int32) M).bind (un3 fun a79 a80 M81 => if a79 = true then ((gL_whole (7 : Int32) M81).bind fun v84 =>
  if v84 < a48 then (some (false, M81))
  else ((gL_whole (3 : Int32) M81).bind fun v87 =>
  if a80 = (((1 : Int32) <<< (v87 &&& 31)) - (1 : Int32)) then ((gL_whole (12 : Int32) M81).bind fun v90 =>
  (gL_load v90 (0 : Int32) M81).bind fun v92 =>
  if v92 = (-1 : Int32) then ((gL_whole (3 : Int32) M81).bind fun v95 =>
  (gL_batch v95 (0 : Int32) M81).bind (un2 fun v97 M98 =>
  if v97 = (-1 : Int32) then (some (true, M98))
  else (some (false, M98))))
  else (some (false, M81)))
  else (some (false, M81))))
  else (some (false, M81)))))

def rL_areLoads : Room := { frames := 9, cells := 0, slots := 0, locals := 156 }
set_option maxRecDepth 100000 in
set_option maxHeartbeats 8000000 in
theorem c_L_areLoads (l : Launch) (hfl : l.stackTraces = false) (G : Gx) (n0 : Nat) {M : Mem} {r : Bool} {M' : Mem} (hf : fL_areLoads M = some (r, M')) : CtK l yL_areLoads cL_areLoads 12 (some .boolean) rL_areLoads G n0 [.ref (n0 + 0)] M (some (.int (bI r))) M' 0 := by
  refine ctk_bool (cc := cL_areLoads) (maxL := 12) rfl (Nat.le_of_ble_eq_true rfl) ⟨rfl, rfl⟩ ?_
  intro K CC hret
  have CC : ∀ a, a ≤ 0 → Ok (kc K a) l rL_areLoads cL_areLoads RL G n0 12 := CC
  show J (kc K 0) M 0 [(0, .ref (n0 + 0))] []
  have C := CC 0 (by omega)
  unfold fL_areLoads at hf
  refine j_sipush C (401 : Int32) rfl dL_areLoads_0 ?_
  refine j_istore_n C [(1, .int (401 : Int32)), (0, .ref (n0 + 0))] dL_areLoads_3 rfl (Nat.le_of_ble_eq_true rfl) rfl ?_
  refine j_iconst C (0 : Int32) rfl dL_areLoads_4 ?_
  refine j_istore_n C [(2, .int (0 : Int32)), (1, .int (401 : Int32)), (0, .ref (n0 + 0))] dL_areLoads_5 rfl (Nat.le_of_ble_eq_true rfl) rfl ?_
  refine j_aload_n C 2 dL_areLoads_6 rfl rfl ?_
  refine j_iconst C (2 : Int32) rfl dL_areLoads_7 ?_
  obtain ⟨v2, e1, hf⟩ := bd hf
  refine j_callR C 2 (cg_L_whole l G n0 e1) gw_L_whole_91 ⟨rfl, rfl⟩ (by decide +kernel) ⟨Nat.le_of_ble_eq_true rfl, Nat.le_of_ble_eq_true rfl⟩ rfl rfl (Nat.le_of_ble_eq_true rfl) dL_areLoads_8 ?_
  refine j_bipush C (20 : Int32) rfl dL_areLoads_11 ?_
  obtain ⟨z7, e100, hf⟩ := bd hf
  have hj101 : J (kc K 0) M 32 [(0, .ref (n0 + 0)), (1, .int (401 : Int32)), (2, .int (0 : Int32))] [.int (bI z7)] := by
    refine j_istore_n C [(3, .int (bI z7)), (0, .ref (n0 + 0)), (1, .int (401 : Int32)), (2, .int (0 : Int32))] dL_areLoads_32 rfl (Nat.le_of_ble_eq_true rfl) rfl ?_
    refine j_iconst C (0 : Int32) rfl dL_areLoads_33 ?_
    refine j_istore C [(4, .int (0 : Int32)), (3, .int (bI z7)), (0, .ref (n0 + 0)), (1, .int (401 : Int32)), (2, .int (0 : Int32))] dL_areLoads_34 (Nat.le_of_ble_eq_true rfl) rfl ?_
    obtain ⟨⟨a48, a49⟩, e102, hf⟩ := bd hf
    replace hf := un2e hf
    have hx103 : J (kc K 0) M 270 [(0, .ref (n0 + 0)), (2, .int a48), (3, .int (bI a49))] [] := by
      refine j_iconst C (0 : Int32) rfl dL_areLoads_270 ?_
      refine j_istore C [(4, .int (0 : Int32)), (0, .ref (n0 + 0)), (2, .int a48), (3, .int (bI a49))] dL_areLoads_271 (Nat.le_of_ble_eq_true rfl) rfl ?_
      refine j_iconst C (0 : Int32) rfl dL_areLoads_273 ?_
      refine j_istore C [(5, .int (0 : Int32)), (4, .int (0 : Int32)), (0, .ref (n0 + 0)), (2, .int a48), (3, .int (bI a49))] dL_areLoads_274 (Nat.le_of_ble_eq_true rfl) rfl ?_
      obtain ⟨⟨a79, a80, M81⟩, e107, hf⟩ := bd hf
      replace hf := un3e hf
      have hx108 : J (kc K 0) M81 364 [(0, .ref (n0 + 0)), (2, .int a48), (3, .int (bI a79)), (4, .int a80)] [] := by
        refine j_iload_n C 2 dL_areLoads_364 rfl rfl ?_
        refine j_ifz_eq C 425 dL_areLoads_365 (by decide) (fun c82 => ?_) (fun c82 => ?_)
        · replace hf := ine c82 hf
          refine j_iconst C (0 : Int32) rfl dL_areLoads_425 ?_
          obtain ⟨rfl, rfl⟩ := Prod.mk.inj (Option.some.inj hf)
          exact hret _ _ _ (by omega) dL_areLoads_426
        · replace hf := ip c82 hf
          refine j_iload_n C 1 dL_areLoads_368 rfl rfl ?_
          refine j_aload_n C 0 dL_areLoads_369 rfl rfl ?_
          refine j_bipush C (7 : Int32) rfl dL_areLoads_370 ?_
          obtain ⟨v84, e83, hf⟩ := bd hf
          refine j_callR C 2 (cg_L_whole l G n0 e83) gw_L_whole_91 ⟨rfl, rfl⟩ (by decide +kernel) ⟨Nat.le_of_ble_eq_true rfl, Nat.le_of_ble_eq_true rfl⟩ rfl rfl (Nat.le_of_ble_eq_true rfl) dL_areLoads_372 ?_
          refine j_icmp_gt C 425 dL_areLoads_375 (by decide) (fun c85 => ?_) (fun c85 => ?_)
          · replace hf := ip c85 hf
            refine j_iconst C (0 : Int32) rfl dL_areLoads_425 ?_
            obtain ⟨rfl, rfl⟩ := Prod.mk.inj (Option.some.inj hf)
            exact hret _ _ _ (by omega) dL_areLoads_426
          · replace hf := ine c85 hf
            refine j_iload C 3 dL_areLoads_378 rfl ?_
            refine j_iconst C (1 : Int32) rfl dL_areLoads_380 ?_
            refine j_aload_n C 0 dL_areLoads_381 rfl rfl ?_
            refine j_iconst C (3 : Int32) rfl dL_areLoads_382 ?_
            obtain ⟨v87, e86, hf⟩ := bd hf
            refine j_callR C 2 (cg_L_whole l G n0 e86) gw_L_whole_91 ⟨rfl, rfl⟩ (by decide +kernel) ⟨Nat.le_of_ble_eq_true rfl, Nat.le_of_ble_eq_true rfl⟩ rfl rfl (Nat.le_of_ble_eq_true rfl) dL_areLoads_383 ?_
            refine j_ishl C dL_areLoads_386 ?_
            refine j_iconst C (1 : Int32) rfl dL_areLoads_387 ?_
            refine j_isub C dL_areLoads_388 ?_
            refine j_icmp_ne C 425 dL_areLoads_389 (by decide) (fun c88 => ?_) (fun c88 => ?_)
            · replace hf := ine c88 hf
              refine j_iconst C (0 : Int32) rfl dL_areLoads_425 ?_
              obtain ⟨rfl, rfl⟩ := Prod.mk.inj (Option.some.inj hf)
              exact hret _ _ _ (by omega) dL_areLoads_426
            · replace hf := ip c88 hf
              refine j_aload_n C 0 dL_areLoads_392 rfl rfl ?_
              refine j_aload_n C 0 dL_areLoads_393 rfl rfl ?_
              refine j_bipush C (12 : Int32) rfl dL_areLoads_394 ?_
              obtain ⟨v90, e89, hf⟩ := bd hf
              refine j_callR C 2 (cg_L_whole l G n0 e89) gw_L_whole_91 ⟨rfl, rfl⟩ (by decide +kernel) ⟨Nat.le_of_ble_eq_true rfl, Nat.le_of_ble_eq_true rfl⟩ rfl rfl (Nat.le_of_ble_eq_true rfl) dL_areLoads_396 ?_
              refine j_iconst C (0 : Int32) rfl dL_areLoads_399 ?_
              obtain ⟨v92, e91, hf⟩ := bd hf
              refine j_callR C 3 (cg_L_load l G n0 e91) gw_L_load_101 ⟨rfl, rfl⟩ (by decide +kernel) ⟨Nat.le_of_ble_eq_true rfl, Nat.le_of_ble_eq_true rfl⟩ rfl rfl (Nat.le_of_ble_eq_true rfl) dL_areLoads_400 ?_
              refine j_iconst C (-1 : Int32) rfl dL_areLoads_403 ?_
              refine j_icmp_ne C 425 dL_areLoads_404 (by decide) (fun c93 => ?_) (fun c93 => ?_)
              · replace hf := ine c93 hf
                refine j_iconst C (0 : Int32) rfl dL_areLoads_425 ?_
                obtain ⟨rfl, rfl⟩ := Prod.mk.inj (Option.some.inj hf)
                exact hret _ _ _ (by omega) dL_areLoads_426
              · replace hf := ip c93 hf
                refine j_aload_n C 0 dL_areLoads_407 rfl rfl ?_
                refine j_aload_n C 0 dL_areLoads_408 rfl rfl ?_
                refine j_iconst C (3 : Int32) rfl dL_areLoads_409 ?_
                obtain ⟨v95, e94, hf⟩ := bd hf
                refine j_callR C 2 (cg_L_whole l G n0 e94) gw_L_whole_91 ⟨rfl, rfl⟩ (by decide +kernel) ⟨Nat.le_of_ble_eq_true rfl, Nat.le_of_ble_eq_true rfl⟩ rfl rfl (Nat.le_of_ble_eq_true rfl) dL_areLoads_410 ?_
                refine j_iconst C (0 : Int32) rfl dL_areLoads_413 ?_
                obtain ⟨⟨v97, M98⟩, e96, hf⟩ := bd hf
                replace hf := un2e hf
                refine j_callR C 3 (cg_L_batch l G n0 e96) gw_L_batch_99 ⟨rfl, rfl⟩ (by decide +kernel) ⟨Nat.le_of_ble_eq_true rfl, Nat.le_of_ble_eq_true rfl⟩ rfl rfl (Nat.le_of_ble_eq_true rfl) dL_areLoads_414 ?_
                refine j_iconst C (-1 : Int32) rfl dL_areLoads_417 ?_
                refine j_icmp_ne C 425 dL_areLoads_418 (by decide) (fun c99 => ?_) (fun c99 => ?_)
                · replace hf := ine c99 hf
                  refine j_iconst C (0 : Int32) rfl dL_areLoads_425 ?_
                  obtain ⟨rfl, rfl⟩ := Prod.mk.inj (Option.some.inj hf)
                  exact hret _ _ _ (by omega) dL_areLoads_426
                · replace hf := ip c99 hf
                  refine j_iconst C (1 : Int32) rfl dL_areLoads_421 ?_
                  refine j_goto C 426 dL_areLoads_422 (by decide) ?_
                  obtain ⟨rfl, rfl⟩ := Prod.mk.inj (Option.some.inj hf)
                  exact hret _ _ _ (by omega) dL_areLoads_426
      clear hf
      have hl109 : ∀ (n : Nat) (a50 : Bool) (a51 : Int32) (a52 : Int32) (M53 : Mem), lL_areLoads_276 n a50 a51 a52 M53 = some (a79, a80, M81) → J (kc K 0) M53 276 [(0, .ref (n0 + 0)), (2, .int a48), (3, .int (bI a50)), (4, .int a51), (5, .int a52)] [] := by
        intro n
        induction n with
        | zero =>
          intro a50 a51 a52 M53 hf
          exact absurd hf (by rw [lL_areLoads_276]; exact fun h => by cases h)
        | succ n ih =>
          intro a50 a51 a52 M53 hf
          rw [lL_areLoads_276] at hf
          refine j_iload C 4 dL_areLoads_276 rfl ?_
          refine j_aload_n C 0 dL_areLoads_278 rfl rfl ?_
          refine j_iconst C (3 : Int32) rfl dL_areLoads_279 ?_
          obtain ⟨v55, e54, hf⟩ := bd hf
          refine j_callR C 2 (cg_L_whole l G n0 e54) gw_L_whole_91 ⟨rfl, rfl⟩ (by decide +kernel) ⟨Nat.le_of_ble_eq_true rfl, Nat.le_of_ble_eq_true rfl⟩ rfl rfl (Nat.le_of_ble_eq_true rfl) dL_areLoads_280 ?_
          refine j_icmp_ge C 364 dL_areLoads_283 (by decide) (fun c56 => ?_) (fun c56 => ?_)
          · replace hf := ip c56 hf
            refine j_sub [0, 1, 2, 3] rfl ?_
            cases hf
            exact j_wid (by omega) hx108
          · replace hf := ine c56 hf
            refine j_iload_n C 2 dL_areLoads_286 rfl rfl ?_
            refine j_ifz_eq C 364 dL_areLoads_287 (by decide) (fun c57 => ?_) (fun c57 => ?_)
            · replace hf := ine c57 hf
              refine j_sub [0, 1, 2, 3] rfl ?_
              cases hf
              exact j_wid (by omega) hx108
            · replace hf := ip c57 hf
              refine j_iload C 3 dL_areLoads_290 rfl ?_
              refine j_iconst C (1 : Int32) rfl dL_areLoads_292 ?_
              refine j_aload_n C 0 dL_areLoads_293 rfl rfl ?_
              refine j_iload C 4 dL_areLoads_294 rfl ?_
              refine j_iconst C (3 : Int32) rfl dL_areLoads_296 ?_
              obtain ⟨⟨v59, M60⟩, e58, hf⟩ := bd hf
              replace hf := un2e hf
              refine j_callR C 3 (cg_L_batch l G n0 e58) gw_L_batch_99 ⟨rfl, rfl⟩ (by decide +kernel) ⟨Nat.le_of_ble_eq_true rfl, Nat.le_of_ble_eq_true rfl⟩ rfl rfl (Nat.le_of_ble_eq_true rfl) dL_areLoads_297 ?_
              refine j_ishl C dL_areLoads_300 ?_
              refine j_ior C dL_areLoads_301 ?_
              refine j_istore C [(4, .int (a51 ||| ((1 : Int32) <<< (v59 &&& 31)))), (0, .ref (n0 + 0)), (2, .int a48), (3, .int (bI a50)), (5, .int a52)] dL_areLoads_302 (Nat.le_of_ble_eq_true rfl) rfl ?_
              refine j_aload_n C 1 dL_areLoads_304 rfl rfl ?_
              refine j_iload C 4 dL_areLoads_305 rfl ?_
              refine j_iconst C (0 : Int32) rfl dL_areLoads_307 ?_
              obtain ⟨⟨v62, M63⟩, e61, hf⟩ := bd hf
              replace hf := un2e hf
              refine j_callR C 3 (cg_L_batch l G n0 e61) gw_L_batch_99 ⟨rfl, rfl⟩ (by decide +kernel) ⟨Nat.le_of_ble_eq_true rfl, Nat.le_of_ble_eq_true rfl⟩ rfl rfl (Nat.le_of_ble_eq_true rfl) dL_areLoads_308 ?_
              refine j_aload_n C 1 dL_areLoads_311 rfl rfl ?_
              refine j_iconst C (0 : Int32) rfl dL_areLoads_312 ?_
              obtain ⟨v65, e64, hf⟩ := bd hf
              refine j_callR C 2 (cg_L_whole l G n0 e64) gw_L_whole_91 ⟨rfl, rfl⟩ (by decide +kernel) ⟨Nat.le_of_ble_eq_true rfl, Nat.le_of_ble_eq_true rfl⟩ rfl rfl (Nat.le_of_ble_eq_true rfl) dL_areLoads_313 ?_
              refine j_icmp_ge C 356 dL_areLoads_316 (by decide) (fun c66 => ?_) (fun c66 => ?_)
              · replace hf := ip c66 hf
                refine j_iconst C (0 : Int32) rfl dL_areLoads_356 ?_
                refine j_istore_n C [(3, .int (bI false)), (4, .int (a51 ||| ((1 : Int32) <<< (v59 &&& 31)))), (0, .ref (n0 + 0)), (2, .int a48), (5, .int a52)] dL_areLoads_357 rfl (Nat.le_of_ble_eq_true rfl) rfl ?_
                refine j_iinc C 4 (a52 + 1) [(5, .int (a52 + 1)), (3, .int (bI false)), (4, .int (a51 ||| ((1 : Int32) <<< (v59 &&& 31)))), (0, .ref (n0 + 0)), (2, .int a48)] dL_areLoads_358 rfl rfl (Nat.le_of_ble_eq_true rfl) rfl ?_
                refine j_goto C 276 dL_areLoads_361 (by decide) ?_
                refine j_sub [3, 4, 1, 2, 0] rfl ?_
                exact ih _ _ _ _ hf
              · replace hf := ine c66 hf
                refine j_aload_n C 1 dL_areLoads_319 rfl rfl ?_
                refine j_iload C 4 dL_areLoads_320 rfl ?_
                refine j_iconst C (1 : Int32) rfl dL_areLoads_322 ?_
                obtain ⟨⟨v68, M69⟩, e67, hf⟩ := bd hf
                replace hf := un2e hf
                refine j_callR C 3 (cg_L_batch l G n0 e67) gw_L_batch_99 ⟨rfl, rfl⟩ (by decide +kernel) ⟨Nat.le_of_ble_eq_true rfl, Nat.le_of_ble_eq_true rfl⟩ rfl rfl (Nat.le_of_ble_eq_true rfl) dL_areLoads_323 ?_
                refine j_iconst C (3 : Int32) rfl dL_areLoads_326 ?_
                refine j_icmp_ge C 356 dL_areLoads_327 (by decide) (fun c70 => ?_) (fun c70 => ?_)
                · replace hf := ip c70 hf
                  refine j_iconst C (0 : Int32) rfl dL_areLoads_356 ?_
                  refine j_istore_n C [(3, .int (bI false)), (4, .int (a51 ||| ((1 : Int32) <<< (v59 &&& 31)))), (0, .ref (n0 + 0)), (2, .int a48), (5, .int a52)] dL_areLoads_357 rfl (Nat.le_of_ble_eq_true rfl) rfl ?_
                  refine j_iinc C 4 (a52 + 1) [(5, .int (a52 + 1)), (3, .int (bI false)), (4, .int (a51 ||| ((1 : Int32) <<< (v59 &&& 31)))), (0, .ref (n0 + 0)), (2, .int a48)] dL_areLoads_358 rfl rfl (Nat.le_of_ble_eq_true rfl) rfl ?_
                  refine j_goto C 276 dL_areLoads_361 (by decide) ?_
                  refine j_sub [3, 4, 1, 2, 0] rfl ?_
                  exact ih _ _ _ _ hf
                · replace hf := ine c70 hf
                  refine j_aload_n C 1 dL_areLoads_330 rfl rfl ?_
                  refine j_iload C 4 dL_areLoads_331 rfl ?_
                  refine j_iconst C (2 : Int32) rfl dL_areLoads_333 ?_
                  obtain ⟨⟨v72, M73⟩, e71, hf⟩ := bd hf
                  replace hf := un2e hf
                  refine j_callR C 3 (cg_L_batch l G n0 e71) gw_L_batch_99 ⟨rfl, rfl⟩ (by decide +kernel) ⟨Nat.le_of_ble_eq_true rfl, Nat.le_of_ble_eq_true rfl⟩ rfl rfl (Nat.le_of_ble_eq_true rfl) dL_areLoads_334 ?_
                  refine j_if_le C 356 dL_areLoads_337 (by decide) (fun c74 => ?_) (fun c74 => ?_)
                  · replace hf := ip c74 hf
                    refine j_iconst C (0 : Int32) rfl dL_areLoads_356 ?_
                    refine j_istore_n C [(3, .int (bI false)), (4, .int (a51 ||| ((1 : Int32) <<< (v59 &&& 31)))), (0, .ref (n0 + 0)), (2, .int a48), (5, .int a52)] dL_areLoads_357 rfl (Nat.le_of_ble_eq_true rfl) rfl ?_
                    refine j_iinc C 4 (a52 + 1) [(5, .int (a52 + 1)), (3, .int (bI false)), (4, .int (a51 ||| ((1 : Int32) <<< (v59 &&& 31)))), (0, .ref (n0 + 0)), (2, .int a48)] dL_areLoads_358 rfl rfl (Nat.le_of_ble_eq_true rfl) rfl ?_
                    refine j_goto C 276 dL_areLoads_361 (by decide) ?_
                    refine j_sub [3, 4, 1, 2, 0] rfl ?_
                    exact ih _ _ _ _ hf
                  · replace hf := ine c74 hf
                    refine j_aload_n C 1 dL_areLoads_340 rfl rfl ?_
                    refine j_iload C 4 dL_areLoads_341 rfl ?_
                    refine j_iconst C (2 : Int32) rfl dL_areLoads_343 ?_
                    obtain ⟨⟨v76, M77⟩, e75, hf⟩ := bd hf
                    replace hf := un2e hf
                    refine j_callR C 3 (cg_L_batch l G n0 e75) gw_L_batch_99 ⟨rfl, rfl⟩ (by decide +kernel) ⟨Nat.le_of_ble_eq_true rfl, Nat.le_of_ble_eq_true rfl⟩ rfl rfl (Nat.le_of_ble_eq_true rfl) dL_areLoads_344 ?_
                    refine j_bipush C (13 : Int32) rfl dL_areLoads_347 ?_
                    refine j_icmp_ge C 356 dL_areLoads_349 (by decide) (fun c78 => ?_) (fun c78 => ?_)
                    · replace hf := ip c78 hf
                      refine j_iconst C (0 : Int32) rfl dL_areLoads_356 ?_
                      refine j_istore_n C [(3, .int (bI false)), (4, .int (a51 ||| ((1 : Int32) <<< (v59 &&& 31)))), (0, .ref (n0 + 0)), (2, .int a48), (5, .int a52)] dL_areLoads_357 rfl (Nat.le_of_ble_eq_true rfl) rfl ?_
                      refine j_iinc C 4 (a52 + 1) [(5, .int (a52 + 1)), (3, .int (bI false)), (4, .int (a51 ||| ((1 : Int32) <<< (v59 &&& 31)))), (0, .ref (n0 + 0)), (2, .int a48)] dL_areLoads_358 rfl rfl (Nat.le_of_ble_eq_true rfl) rfl ?_
                      refine j_goto C 276 dL_areLoads_361 (by decide) ?_
                      refine j_sub [3, 4, 1, 2, 0] rfl ?_
                      exact ih _ _ _ _ hf
                    · replace hf := ine c78 hf
                      refine j_iconst C (1 : Int32) rfl dL_areLoads_352 ?_
                      refine j_goto C 357 dL_areLoads_353 (by decide) ?_
                      refine j_istore_n C [(3, .int (bI true)), (4, .int (a51 ||| ((1 : Int32) <<< (v59 &&& 31)))), (0, .ref (n0 + 0)), (2, .int a48), (5, .int a52)] dL_areLoads_357 rfl (Nat.le_of_ble_eq_true rfl) rfl ?_
                      refine j_iinc C 4 (a52 + 1) [(5, .int (a52 + 1)), (3, .int (bI true)), (4, .int (a51 ||| ((1 : Int32) <<< (v59 &&& 31)))), (0, .ref (n0 + 0)), (2, .int a48)] dL_areLoads_358 rfl rfl (Nat.le_of_ble_eq_true rfl) rfl ?_
                      refine j_goto C 276 dL_areLoads_361 (by decide) ?_
                      refine j_sub [3, 4, 1, 2, 0] rfl ?_
                      exact ih _ _ _ _ hf
      refine j_sub [2, 3, 4, 1, 0] rfl ?_
      exact hl109 FUEL a49 (0 : Int32) (0 : Int32) M e107
    clear hf
    have hl104 : ∀ (n : Nat) (a8 : Int32) (a9 : Int32) (a10 : Bool) (a11 : Int32), lL_areLoads_36 M n a8 a9 a10 a11 = some (a48, a49) → J (kc K 0) M 36 [(0, .ref (n0 + 0)), (1, .int a8), (2, .int a9), (3, .int (bI a10)), (4, .int a11)] [] := by
      intro n
      induction n with
      | zero =>
        intro a8 a9 a10 a11 hf
        exact absurd hf (by rw [lL_areLoads_36]; exact fun h => by cases h)
      | succ n ih =>
        intro a8 a9 a10 a11 hf
        rw [lL_areLoads_36] at hf
        refine j_iload C 4 dL_areLoads_36 rfl ?_
        refine j_aload_n C 0 dL_areLoads_38 rfl rfl ?_
        refine j_bipush C (12 : Int32) rfl dL_areLoads_39 ?_
        obtain ⟨v13, e12, hf⟩ := bd hf
        refine j_callR C 2 (cg_L_whole l G n0 e12) gw_L_whole_91 ⟨rfl, rfl⟩ (by decide +kernel) ⟨Nat.le_of_ble_eq_true rfl, Nat.le_of_ble_eq_true rfl⟩ rfl rfl (Nat.le_of_ble_eq_true rfl) dL_areLoads_41 ?_
        refine j_icmp_ge C 270 dL_areLoads_44 (by decide) (fun c14 => ?_) (fun c14 => ?_)
        · replace hf := ip c14 hf
          refine j_sub [0, 2, 3] rfl ?_
          cases hf
          exact j_wid (by omega) hx103
        · replace hf := ine c14 hf
          refine j_iload_n C 3 dL_areLoads_47 rfl rfl ?_
          refine j_ifz_eq C 270 dL_areLoads_48 (by decide) (fun c15 => ?_) (fun c15 => ?_)
          · replace hf := ine c15 hf
            refine j_sub [0, 2, 3] rfl ?_
            cases hf
            exact j_wid (by omega) hx103
          · replace hf := ip c15 hf
            refine j_aload_n C 0 dL_areLoads_51 rfl rfl ?_
            refine j_iload C 4 dL_areLoads_52 rfl ?_
            refine j_iconst C (0 : Int32) rfl dL_areLoads_54 ?_
            obtain ⟨v17, e16, hf⟩ := bd hf
            refine j_callR C 3 (cg_L_load l G n0 e16) gw_L_load_101 ⟨rfl, rfl⟩ (by decide +kernel) ⟨Nat.le_of_ble_eq_true rfl, Nat.le_of_ble_eq_true rfl⟩ rfl rfl (Nat.le_of_ble_eq_true rfl) dL_areLoads_55 ?_
            refine j_istore C [(5, .int v17), (0, .ref (n0 + 0)), (1, .int a8), (2, .int a9), (3, .int (bI a10)), (4, .int a11)] dL_areLoads_58 (Nat.le_of_ble_eq_true rfl) rfl ?_
            refine j_aload_n C 1 dL_areLoads_60 rfl rfl ?_
            refine j_iload C 5 dL_areLoads_61 rfl ?_
            refine j_iconst C (2 : Int32) rfl dL_areLoads_63 ?_
            obtain ⟨v19, e18, hf⟩ := bd hf
            refine j_callR C 3 (cg_L_load l G n0 e18) gw_L_load_101 ⟨rfl, rfl⟩ (by decide +kernel) ⟨Nat.le_of_ble_eq_true rfl, Nat.le_of_ble_eq_true rfl⟩ rfl rfl (Nat.le_of_ble_eq_true rfl) dL_areLoads_64 ?_
            refine j_istore C [(6, .int v19), (5, .int v17), (0, .ref (n0 + 0)), (1, .int a8), (2, .int a9), (3, .int (bI a10)), (4, .int a11)] dL_areLoads_67 (Nat.le_of_ble_eq_true rfl) rfl ?_
            refine j_aload_n C 2 dL_areLoads_69 rfl rfl ?_
            refine j_iload C 6 dL_areLoads_70 rfl ?_
            refine j_iconst C (3 : Int32) rfl dL_areLoads_72 ?_
            obtain ⟨v21, e20, hf⟩ := bd hf
            refine j_callR C 3 (cg_L_load l G n0 e20) gw_L_load_101 ⟨rfl, rfl⟩ (by decide +kernel) ⟨Nat.le_of_ble_eq_true rfl, Nat.le_of_ble_eq_true rfl⟩ rfl rfl (Nat.le_of_ble_eq_true rfl) dL_areLoads_73 ?_
            refine j_istore C [(7, .int v21), (6, .int v19), (5, .int v17), (0, .ref (n0 + 0)), (1, .int a8), (2, .int a9), (3, .int (bI a10)), (4, .int a11)] dL_areLoads_76 (Nat.le_of_ble_eq_true rfl) rfl ?_
            refine j_aload_n C 3 dL_areLoads_78 rfl rfl ?_
            refine j_iload C 7 dL_areLoads_79 rfl ?_
            refine j_iconst C (4 : Int32) rfl dL_areLoads_81 ?_
            obtain ⟨v23, e22, hf⟩ := bd hf
            refine j_callR C 3 (cg_L_load l G n0 e22) gw_L_load_101 ⟨rfl, rfl⟩ (by decide +kernel) ⟨Nat.le_of_ble_eq_true rfl, Nat.le_of_ble_eq_true rfl⟩ rfl rfl (Nat.le_of_ble_eq_true rfl) dL_areLoads_82 ?_
            refine j_istore C [(8, .int v23), (7, .int v21), (6, .int v19), (5, .int v17), (0, .ref (n0 + 0)), (1, .int a8), (2, .int a9), (3, .int (bI a10)), (4, .int a11)] dL_areLoads_85 (Nat.le_of_ble_eq_true rfl) rfl ?_
            refine j_iload C 3 dL_areLoads_87 rfl ?_
            obtain ⟨z26, e112, hf⟩ := bd hf
            have hj113 : J (kc K 0) M 112 [(0, .ref (n0 + 0)), (1, .int a8), (2, .int a9), (4, .int a11), (5, .int v17), (6, .int v19), (7, .int v21), (8, .int v23)] [.int z26] := by
              refine j_istore C [(9, .int z26), (0, .ref (n0 + 0)), (1, .int a8), (2, .int a9), (4, .int a11), (5, .int v17), (6, .int v19), (7, .int v21), (8, .int v23)] dL_areLoads_112 (Nat.le_of_ble_eq_true rfl) rfl ?_
              refine j_iload C 5 dL_areLoads_114 rfl ?_
              obtain ⟨z29, e114, hf⟩ := bd hf
              have hj115 : J (kc K 0) M 140 [(0, .ref (n0 + 0)), (1, .int a8), (2, .int a9), (4, .int a11), (5, .int v17), (6, .int v19), (7, .int v21), (8, .int v23), (9, .int z26)] [.int z29] := by
                refine j_istore C [(10, .int z29), (0, .ref (n0 + 0)), (1, .int a8), (2, .int a9), (4, .int a11), (5, .int v17), (6, .int v19), (7, .int v21), (8, .int v23), (9, .int z26)] dL_areLoads_140 (Nat.le_of_ble_eq_true rfl) rfl ?_
                refine j_iload C 7 dL_areLoads_142 rfl ?_
                refine j_iload C 5 dL_areLoads_144 rfl ?_
                obtain ⟨z32, e116, hf⟩ := bd hf
                have hj117 : J (kc K 0) M 165 [(0, .ref (n0 + 0)), (1, .int a8), (2, .int a9), (4, .int a11), (6, .int v19), (7, .int v21), (8, .int v23), (9, .int z26), (10, .int z29)] [.int z32, .int v21] := by
                  refine j_iconst C (5 : Int32) rfl dL_areLoads_165 ?_
                  refine j_iload C 4 dL_areLoads_166 rfl ?_
                  refine j_bipush C (8 : Int32) rfl dL_areLoads_168 ?_
                  refine j_idiv C (by decide) dL_areLoads_170 ?_
                  refine j_iadd C dL_areLoads_171 ?_
                  refine j_imul C dL_areLoads_172 ?_
                  refine j_isub C dL_areLoads_173 ?_
                  refine j_istore C [(11, .int (v21 - (z32 * ((5 : Int32) + (v19 / (8 : Int32)))))), (0, .ref (n0 + 0)), (1, .int a8), (2, .int a9), (4, .int a11), (6, .int v19), (7, .int v21), (8, .int v23), (9, .int z26), (10, .int z29)] dL_areLoads_174 (Nat.le_of_ble_eq_true rfl) rfl ?_
                  refine j_iload C 6 dL_areLoads_176 rfl ?_
                  refine j_iload C 8 dL_areLoads_178 rfl ?_
                  obtain ⟨z47, e118, hf⟩ := bd hf
                  have hj119 : J (kc K 0) M 255 [(0, .ref (n0 + 0)), (2, .int a9), (4, .int a11), (6, .int v19), (8, .int v23)] [.int (bI z47)] := by
                    refine j_istore_n C [(3, .int (bI z47)), (0, .ref (n0 + 0)), (2, .int a9), (4, .int a11), (6, .int v19), (8, .int v23)] dL_areLoads_255 rfl (Nat.le_of_ble_eq_true rfl) rfl ?_
                    refine j_iload C 5 dL_areLoads_256 rfl ?_
                    refine j_istore_n C [(1, .int v23), (3, .int (bI z47)), (0, .ref (n0 + 0)), (2, .int a9), (4, .int a11), (6, .int v19), (8, .int v23)] dL_areLoads_258 rfl (Nat.le_of_ble_eq_true rfl) rfl ?_
                    refine j_iload_n C 3 dL_areLoads_259 rfl rfl ?_
                    refine j_iload C 5 dL_areLoads_260 rfl ?_
                    refine j_iadd C dL_areLoads_262 ?_
                    refine j_istore_n C [(2, .int (a9 + v19)), (1, .int v23), (3, .int (bI z47)), (0, .ref (n0 + 0)), (4, .int a11), (6, .int v19), (8, .int v23)] dL_areLoads_263 rfl (Nat.le_of_ble_eq_true rfl) rfl ?_
                    refine j_iinc C 4 (a11 + 1) [(4, .int (a11 + 1)), (2, .int (a9 + v19)), (1, .int v23), (3, .int (bI z47)), (0, .ref (n0 + 0)), (6, .int v19), (8, .int v23)] dL_areLoads_264 rfl rfl (Nat.le_of_ble_eq_true rfl) rfl ?_
                    refine j_goto C 36 dL_areLoads_267 (by decide) ?_
                    refine j_sub [4, 2, 1, 3, 0] rfl ?_
                    exact ih _ _ _ _ hf
                  clear hf
                  have hf := e118
                  refine j_icmp_lt C 254 dL_areLoads_180 (by decide) (fun c33 => ?_) (fun c33 => ?_)
                  · replace hf := ip c33 hf
                    refine j_iconst C (0 : Int32) rfl dL_areLoads_254 ?_
                    cases hf
                    refine j_sub [1, 3, 4, 5, 7] rfl ?_
                    exact j_wid (by omega) hj119
                  · replace hf := ine c33 hf
                    refine j_iload C 6 dL_areLoads_183 rfl ?_
                    refine j_iload C 9 dL_areLoads_185 rfl ?_
                    refine j_icmp_gt C 254 dL_areLoads_187 (by decide) (fun c34 => ?_) (fun c34 => ?_)
                    · replace hf := ip c34 hf
                      refine j_iconst C (0 : Int32) rfl dL_areLoads_254 ?_
                      cases hf
                      refine j_sub [1, 3, 4, 5, 7] rfl ?_
                      exact j_wid (by omega) hj119
                    · replace hf := ine c34 hf
                      refine j_iload C 6 dL_areLoads_190 rfl ?_
                      refine j_iload_n C 2 dL_areLoads_192 rfl rfl ?_
                      refine j_icmp_gt C 254 dL_areLoads_193 (by decide) (fun c35 => ?_) (fun c35 => ?_)
                      · replace hf := ip c35 hf
                        refine j_iconst C (0 : Int32) rfl dL_areLoads_254 ?_
                        cases hf
                        refine j_sub [1, 3, 4, 5, 7] rfl ?_
                        exact j_wid (by omega) hj119
                      · replace hf := ine c35 hf
                        refine j_iload C 5 dL_areLoads_196 rfl ?_
                        refine j_if_le C 254 dL_areLoads_198 (by decide) (fun c36 => ?_) (fun c36 => ?_)
                        · replace hf := ip c36 hf
                          refine j_iconst C (0 : Int32) rfl dL_areLoads_254 ?_
                          cases hf
                          refine j_sub [1, 3, 4, 5, 7] rfl ?_
                          exact j_wid (by omega) hj119
                        · replace hf := ine c36 hf
                          refine j_iload C 5 dL_areLoads_201 rfl ?_
                          refine j_bipush C (24 : Int32) rfl dL_areLoads_203 ?_
                          refine j_icmp_gt C 254 dL_areLoads_205 (by decide) (fun c37 => ?_) (fun c37 => ?_)
                          · replace hf := ip c37 hf
                            refine j_iconst C (0 : Int32) rfl dL_areLoads_254 ?_
                            cases hf
                            refine j_sub [1, 3, 4, 5, 7] rfl ?_
                            exact j_wid (by omega) hj119
                          · replace hf := ine c37 hf
                            refine j_aload_n C 1 dL_areLoads_208 rfl rfl ?_
                            refine j_iload C 4 dL_areLoads_209 rfl ?_
                            refine j_iconst C (1 : Int32) rfl dL_areLoads_211 ?_
                            obtain ⟨v39, e38, hf⟩ := bd hf
                            refine j_callR C 3 (cg_L_load l G n0 e38) gw_L_load_101 ⟨rfl, rfl⟩ (by decide +kernel) ⟨Nat.le_of_ble_eq_true rfl, Nat.le_of_ble_eq_true rfl⟩ rfl rfl (Nat.le_of_ble_eq_true rfl) dL_areLoads_212 ?_
                            refine j_iconst C (1 : Int32) rfl dL_areLoads_215 ?_
                            refine j_icmp_lt C 254 dL_areLoads_216 (by decide) (fun c40 => ?_) (fun c40 => ?_)
                            · replace hf := ip c40 hf
                              refine j_iconst C (0 : Int32) rfl dL_areLoads_254 ?_
                              cases hf
                              refine j_sub [1, 3, 4, 5, 7] rfl ?_
                              exact j_wid (by omega) hj119
                            · replace hf := ine c40 hf
                              refine j_aload_n C 1 dL_areLoads_219 rfl rfl ?_
                              refine j_iload C 4 dL_areLoads_220 rfl ?_
                              refine j_iconst C (1 : Int32) rfl dL_areLoads_222 ?_
                              obtain ⟨v42, e41, hf⟩ := bd hf
                              refine j_callR C 3 (cg_L_load l G n0 e41) gw_L_load_101 ⟨rfl, rfl⟩ (by decide +kernel) ⟨Nat.le_of_ble_eq_true rfl, Nat.le_of_ble_eq_true rfl⟩ rfl rfl (Nat.le_of_ble_eq_true rfl) dL_areLoads_223 ?_
                              refine j_iload C 5 dL_areLoads_226 rfl ?_
                              refine j_icmp_gt C 254 dL_areLoads_228 (by decide) (fun c43 => ?_) (fun c43 => ?_)
                              · replace hf := ip c43 hf
                                refine j_iconst C (0 : Int32) rfl dL_areLoads_254 ?_
                                cases hf
                                refine j_sub [1, 3, 4, 5, 7] rfl ?_
                                exact j_wid (by omega) hj119
                              · replace hf := ine c43 hf
                                refine j_iload C 7 dL_areLoads_231 rfl ?_
                                refine j_iload C 0 dL_areLoads_233 rfl ?_
                                refine j_bipush C (20 : Int32) rfl dL_areLoads_235 ?_
                                refine j_icmp_ge C 245 dL_areLoads_237 (by decide) (fun c44 => ?_) (fun c44 => ?_)
                                · replace hf := ip c44 hf
                                  refine j_iload C 0 dL_areLoads_245 rfl ?_
                                  refine j_icmp_ne C 254 dL_areLoads_247 (by decide) (fun c45 => ?_) (fun c45 => ?_)
                                  · replace hf := ine c45 hf
                                    refine j_iconst C (0 : Int32) rfl dL_areLoads_254 ?_
                                    cases hf
                                    refine j_sub [1, 3, 4, 5, 7] rfl ?_
                                    exact j_wid (by omega) hj119
                                  · replace hf := ip c45 hf
                                    refine j_iconst C (1 : Int32) rfl dL_areLoads_250 ?_
                                    refine j_goto C 255 dL_areLoads_251 (by decide) ?_
                                    cases hf
                                    refine j_sub [1, 3, 4, 5, 7] rfl ?_
                                    exact j_wid (by omega) hj119
                                · replace hf := ine c44 hf
                                  refine j_bipush C (20 : Int32) rfl dL_areLoads_240 ?_
                                  refine j_goto C 247 dL_areLoads_242 (by decide) ?_
                                  refine j_icmp_ne C 254 dL_areLoads_247 (by decide) (fun c46 => ?_) (fun c46 => ?_)
                                  · replace hf := ine c46 hf
                                    refine j_iconst C (0 : Int32) rfl dL_areLoads_254 ?_
                                    cases hf
                                    refine j_sub [1, 3, 4, 5, 7] rfl ?_
                                    exact j_wid (by omega) hj119
                                  · replace hf := ip c46 hf
                                    refine j_iconst C (1 : Int32) rfl dL_areLoads_250 ?_
                                    refine j_goto C 255 dL_areLoads_251 (by decide) ?_
                                    cases hf
                                    refine j_sub [1, 3, 4, 5, 7] rfl ?_
                                    exact j_wid (by omega) hj119
                clear hf
                have hf := e116
                refine j_if_ne C 153 dL_areLoads_146 (by decide) (fun c30 => ?_) (fun c30 => ?_)
                · replace hf := ine c30 hf
                  refine j_iload C 5 dL_areLoads_153 rfl ?_
                  refine j_iconst C (1 : Int32) rfl dL_areLoads_155 ?_
                  refine j_icmp_ne C 163 dL_areLoads_156 (by decide) (fun c31 => ?_) (fun c31 => ?_)
                  · replace hf := ine c31 hf
                    refine j_bipush C (8 : Int32) rfl dL_areLoads_163 ?_
                    cases hf
                    refine j_sub [1, 2, 3, 4, 6, 7, 8, 9, 0] rfl ?_
                    exact j_wid (by omega) hj117
                  · replace hf := ip c31 hf
                    refine j_iconst C (5 : Int32) rfl dL_areLoads_159 ?_
                    refine j_goto C 165 dL_areLoads_160 (by decide) ?_
                    cases hf
                    refine j_sub [1, 2, 3, 4, 6, 7, 8, 9, 0] rfl ?_
                    exact j_wid (by omega) hj117
                · replace hf := ip c30 hf
                  refine j_iconst C (2 : Int32) rfl dL_areLoads_149 ?_
                  refine j_goto C 165 dL_areLoads_150 (by decide) ?_
                  cases hf
                  refine j_sub [1, 2, 3, 4, 6, 7, 8, 9, 0] rfl ?_
                  exact j_wid (by omega) hj117
              clear hf
              have hf := e114
              refine j_if_ne C 125 dL_areLoads_116 (by decide) (fun c27 => ?_) (fun c27 => ?_)
              · replace hf := ine c27 hf
                refine j_iload C 5 dL_areLoads_125 rfl ?_
                refine j_iconst C (1 : Int32) rfl dL_areLoads_127 ?_
                refine j_icmp_ne C 137 dL_areLoads_128 (by decide) (fun c28 => ?_) (fun c28 => ?_)
                · replace hf := ine c28 hf
                  refine j_sipush C (200 : Int32) rfl dL_areLoads_137 ?_
                  cases hf
                  refine j_sub [1, 2, 3, 4, 5, 6, 7, 8, 0] rfl ?_
                  exact j_wid (by omega) hj115
                · replace hf := ip c28 hf
                  refine j_sipush C (300 : Int32) rfl dL_areLoads_131 ?_
                  refine j_goto C 140 dL_areLoads_134 (by decide) ?_
                  cases hf
                  refine j_sub [1, 2, 3, 4, 5, 6, 7, 8, 0] rfl ?_
                  exact j_wid (by omega) hj115
              · replace hf := ip c27 hf
                refine j_sipush C (400 : Int32) rfl dL_areLoads_119 ?_
                refine j_goto C 140 dL_areLoads_122 (by decide) ?_
                cases hf
                refine j_sub [1, 2, 3, 4, 5, 6, 7, 8, 0] rfl ?_
                exact j_wid (by omega) hj115
            clear hf
            have hf := e112
            refine j_if_ne C 98 dL_areLoads_89 (by decide) (fun c24 => ?_) (fun c24 => ?_)
            · replace hf := ine c24 hf
              refine j_iload C 3 dL_areLoads_98 rfl ?_
              refine j_iconst C (1 : Int32) rfl dL_areLoads_100 ?_
              refine j_icmp_ne C 110 dL_areLoads_101 (by decide) (fun c25 => ?_) (fun c25 => ?_)
              · replace hf := ine c25 hf
                refine j_bipush C (90 : Int32) rfl dL_areLoads_110 ?_
                cases hf
                refine j_sub [4, 5, 6, 8, 3, 2, 1, 0] rfl ?_
                exact j_wid (by omega) hj113
              · replace hf := ip c25 hf
                refine j_sipush C (180 : Int32) rfl dL_areLoads_104 ?_
                refine j_goto C 112 dL_areLoads_107 (by decide) ?_
                cases hf
                refine j_sub [4, 5, 6, 8, 3, 2, 1, 0] rfl ?_
                exact j_wid (by omega) hj113
            · replace hf := ip c24 hf
              refine j_sipush C (260 : Int32) rfl dL_areLoads_92 ?_
              refine j_goto C 112 dL_areLoads_95 (by decide) ?_
              cases hf
              refine j_sub [4, 5, 6, 8, 3, 2, 1, 0] rfl ?_
              exact j_wid (by omega) hj113
    refine j_sub [2, 3, 4, 1, 0] rfl ?_
    exact hl104 FUEL (401 : Int32) (0 : Int32) z7 (0 : Int32) e102
  clear hf
  have hf := e100
  refine j_icmp_lt C 31 dL_areLoads_13 (by decide) (fun c3 => ?_) (fun c3 => ?_)
  · replace hf := ip c3 hf
    refine j_iconst C (0 : Int32) rfl dL_areLoads_31 ?_
    cases hf
    refine j_sub [2, 1, 0] rfl ?_
    exact j_wid (by omega) hj101
  · replace hf := ine c3 hf
    refine j_aload_n C 2 dL_areLoads_16 rfl rfl ?_
    refine j_iconst C (2 : Int32) rfl dL_areLoads_17 ?_
    obtain ⟨v5, e4, hf⟩ := bd hf
    refine j_callR C 2 (cg_L_whole l G n0 e4) gw_L_whole_91 ⟨rfl, rfl⟩ (by decide +kernel) ⟨Nat.le_of_ble_eq_true rfl, Nat.le_of_ble_eq_true rfl⟩ rfl rfl (Nat.le_of_ble_eq_true rfl) dL_areLoads_18 ?_
    refine j_sipush C (400 : Int32) rfl dL_areLoads_21 ?_
    refine j_icmp_gt C 31 dL_areLoads_24 (by decide) (fun c6 => ?_) (fun c6 => ?_)
    · replace hf := ip c6 hf
      refine j_iconst C (0 : Int32) rfl dL_areLoads_31 ?_
      cases hf
      refine j_sub [2, 1, 0] rfl ?_
      exact j_wid (by omega) hj101
    · replace hf := ine c6 hf
      refine j_iconst C (1 : Int32) rfl dL_areLoads_27 ?_
      refine j_goto C 32 dL_areLoads_28 (by decide) ?_
      cases hf
      refine j_sub [2, 1, 0] rfl ?_
      exact j_wid (by omega) hj101
