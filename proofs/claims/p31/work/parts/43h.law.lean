def lL_law_53 (S : Nat × (Nat → Int32)) : Nat → Bool → Int32 → Mem → Option (Bool × Mem)
  | 0, _, _, _ => none
  | n + 1, a21, a22, M23 =>
  if (52 : Int32) ≤ a22 then (some (a21, M23))
  else (if a21 = true then ((fL_cell S ((2 : Int32) * a22)).bind fun v26 =>
  (fL_cell S (((2 : Int32) * a22) + (1 : Int32))).bind fun v28 =>
  (fL_low v28 (1000000 : Int32)).bind fun v31 =>
  (fL_print M23).bind (un2 fun v33 M34 =>
  (if (5 : Int32) ≤ a22 then (if (12 : Int32) ≤ a22 then (if (a22 - a22 / (8 : Int32) * (8 : Int32)) = (7 : Int32) then (some (11 : Int32))
  else ((fL_low v26 (16 : Int32)).bind fun v39 =>
  some v39))
  else (some (4 : Int32)))
  else (some (0 : Int32))).bind (fun z40 => (fL_low (v26 >>> ((4 : Int32) &&& 31)) (99999 : Int32)).bind fun v42 =>
  (fL_acts (((16 : Int32) * v42) + z40) v31 M34).bind (un2 fun v44 M45 =>
  (if 0 ≤ v44 then (some true)
  else (if v44 = (-5000002 : Int32) then (some true)
  else (if v44 = (-5000003 : Int32) then (some true)
  else (some false)))).bind (fun z49 => (if z49 = true then (if v44 < 0 then (some (z49, M45))
  else (if ((v26 >>> ((25 : Int32) &&& 31)) &&& (3 : Int32)) = 0 then ((gL_undo M45).bind (un2 fun v54 M55 =>
  if v54 < 0 then (some (false, M55))
  else ((fL_print M55).bind (un2 fun v58 M59 =>
  if v58 = v33 then (some (true, M59))
  else (some (false, M59))))))
  else (some (z49, M45))))
  else (some (z49, M45))).bind (un2 fun z61 M62 => if z61 = true then (lab (fun _ => lab (fun _ => lab (fun M79 => lab (fun M86 => lab (fun M101 => if (a22 - a22 / (9 : Int32) * (9 : Int32)) = (4 : Int32) then ((fL_refused M101).bind (un2 fun b105 M106 =>
  if b105 = true then (lL_law_53 S n true (a22 + 1) M106)
  else (lL_law_53 S n false (a22 + 1) M106)))
  else (lL_law_53 S n true (a22 + 1) M101))
  (fun kl102 => if (a22 - a22 / (5 : Int32) * (5 : Int32)) = (4 : Int32) then ((gL_whole (0 : Int32) M86).bind fun v90 =>
  lab (fun M99 => kl102 M99)
  (fun kl100 => if v90 = 0 then (kl100 M86)
  else ((gL_whole (0 : Int32) M86).bind fun v93 =>
  if v93 = 0 then none else
  (fL_areClaims (v31 - v31 / v93 * v93) M86).bind (un2 fun b96 M97 =>
  if b96 = true then (kl100 M97)
  else (lL_law_53 S n false (a22 + 1) M97)))))
  else (kl102 M86)))
  (fun kl87 => if (a22 - a22 / (6 : Int32) * (6 : Int32)) = (5 : Int32) then ((fL_isForetold ((1 : Int32) + (v31 - v31 / (40 : Int32) * (40 : Int32))) M79).bind (un2 fun b83 M84 =>
  if b83 = true then (kl87 M84)
  else (lL_law_53 S n false (a22 + 1) M84)))
  else (kl87 M79)))
  (fun kl80 => if (a22 - a22 / (4 : Int32) * (4 : Int32)) = (3 : Int32) then ((fL_areLoads M62).bind (un2 fun b76 M77 =>
  if b76 = true then (kl80 M77)
  else (lL_law_53 S n false (a22 + 1) M77)))
  else (kl80 M62)))
  (fun kl73 => if (a22 - a22 / (3 : Int32) * (3 : Int32)) = (1 : Int32) then ((fL_areLoaves M62).bind fun b71 =>
  if b71 = true then (kl73 ())
  else (lL_law_53 S n false (a22 + 1) M62))
  else (kl73 ())))
  (fun kl68 => if (a22 - a22 / (3 : Int32) * (3 : Int32)) = (2 : Int32) then ((fL_areHouses M62).bind fun b66 =>
  if b66 = true then (kl68 ())
  else (lL_law_53 S n false (a22 + 1) M62))
  else (kl68 ())))
  else (lL_law_53 S n false (a22 + 1) M62)))))))
  else (some (a21, M23)))

def fL_law (S : Nat × (Nat → Int32)) (M : Mem) : Option (Bool × Mem) :=
  (fL_undo M).bind (un2 fun v2 M3 =>
  (if v2 = (-5000002 : Int32) then ((fL_refused M3).bind (un2 fun b6 M7 =>
  if b6 = true then ((fL_areHouses M7).bind fun b10 =>
  if b10 = true then ((fL_areLoads M7).bind (un2 fun b13 M14 =>
  if b13 = true then ((fL_areLoaves M14).bind fun b17 =>
  if b17 = true then (some (true, M14))
  else (some (false, M14)))
  else (some (false, M14))))
  else (some (false, M7)))
  else (some (false, M7))))
  else (some (false, M3))).bind (un2 fun z19 M20 => (lL_law_53 S 53 z19 (0 : Int32) M20).bind (un2 fun a108 M109 => if a108 = true then ((fL_refused M109).bind (un2 fun b112 M113 =>
  if b112 = true then ((fL_areHouses M113).bind fun b116 =>
  if b116 = true then ((fL_areLoaves M113).bind fun b119 =>
  if b119 = true then ((fL_areLoads M113).bind (un2 fun b122 M123 =>
  if b122 = true then (some (true, M123))
  else (some (false, M123))))
  else (some (false, M113)))
  else (some (false, M113)))
  else (some (false, M113))))
  else (some (false, M109)))))
set_option maxRecDepth 100000 in
set_option maxHeartbeats 8000000 in
theorem c_L_law {K : Kx} {l : Launch} (hfl : l.stackTraces = false) {G : Gx} {n0 : Nat} {S : Nat × (Nat → Int32)} (hS : S = G.2.2.2) {M M' : Mem} {r : Bool} (hf : fL_law S M = some (r, M')) (CC : ∀ a, a ≤ 40718 → Ok (kc K a) l room_1 cL_law RL G n0 10) (hret : ∀ pc L a, a ≤ 40718 → decode cL_law pc = .ok (.ireturn, 1) → J (kc K a) M' pc L [.int (bI r)]) : J (kc K 0) M 8 [(1, .ref (n0 + 0)), (0, .ref G.2.2.1)] [] := by
  have C := CC 0 (by omega)
  unfold fL_law at hf
  refine j_aload_n C 0 dL_law_8 rfl rfl ?_
  obtain ⟨⟨v2, M3⟩, e1, hf⟩ := bd hf
  replace hf := un2e hf
  refine j_callW (k := 1) C (CC _ (by omega)) 1 (cf_L_undo l hfl G n0 e1) gw_L_undo_162 ⟨rfl, rfl⟩ (by decide +kernel) ⟨Nat.le_of_ble_eq_true rfl, Nat.le_of_ble_eq_true rfl⟩ rfl rfl (Nat.le_of_ble_eq_true rfl) dL_law_9 ?_
  have C := CC (0 + 1) (by omega)
  refine j_ldc C tw2_227 dL_law_12 ?_
  obtain ⟨⟨z19, M20⟩, e125, hf⟩ := bd hf
  replace hf := un2e hf
  have hj126 : J (kc K ((0 + 1) + 192)) M20 50 [(0, .ref G.2.2.1), (1, .ref (n0 + 0))] [.int (bI z19)] := by
    have C := CC ((0 + 1) + 192) (by omega)
    refine j_istore_n C [(2, .int (bI z19)), (0, .ref G.2.2.1), (1, .ref (n0 + 0))] dL_law_50 rfl (Nat.le_of_ble_eq_true rfl) rfl ?_
    refine j_iconst C (0 : Int32) rfl dL_law_51 ?_
    refine j_istore_n C [(3, .int (0 : Int32)), (2, .int (bI z19)), (0, .ref G.2.2.1), (1, .ref (n0 + 0))] dL_law_52 rfl (Nat.le_of_ble_eq_true rfl) rfl ?_
    obtain ⟨⟨a108, M109⟩, e127, hf⟩ := bd hf
    replace hf := un2e hf
    have hx128 : J (kc K (((0 + 1) + 192) + 40333)) M109 351 [(1, .ref (n0 + 0)), (2, .int (bI a108))] [] := by
      have C := CC (((0 + 1) + 192) + 40333) (by omega)
      refine j_iload_n C 1 dL_law_351 rfl rfl ?_
      refine j_ifz_eq C 387 dL_law_352 (by decide) (fun c110 => ?_) (fun c110 => ?_)
      · replace hf := ine c110 hf
        refine j_iconst C (0 : Int32) rfl dL_law_387 ?_
        obtain ⟨rfl, rfl⟩ := Prod.mk.inj (Option.some.inj hf)
        exact hret _ _ _ (by omega) dL_law_388
      · replace hf := ip c110 hf
        refine j_aload_n C 0 dL_law_355 rfl rfl ?_
        obtain ⟨⟨b112, M113⟩, e111, hf⟩ := bd hf
        replace hf := un2e hf
        refine j_callK (k := 191) C (CC _ (by omega)) 1 (c_L_refused l hfl G n0 e111) gs_RL_173 ⟨rfl, rfl⟩ (by decide +kernel) ⟨Nat.le_of_ble_eq_true rfl, Nat.le_of_ble_eq_true rfl⟩ rfl rfl (Nat.le_of_ble_eq_true rfl) dL_law_356 ?_
        have C := CC ((((0 + 1) + 192) + 40333) + 191) (by omega)
        refine j_ifz_eq C 387 dL_law_359 (by decide) (fun c114 => ?_) (fun c114 => ?_)
        · replace hf := ine c114 hf
          refine j_iconst C (0 : Int32) rfl dL_law_387 ?_
          obtain ⟨rfl, rfl⟩ := Prod.mk.inj (Option.some.inj hf)
          exact hret _ _ _ (by omega) dL_law_388
        · replace hf := ip c114 hf
          refine j_aload_n C 0 dL_law_362 rfl rfl ?_
          obtain ⟨b116, e115, hf⟩ := bd hf
          refine j_callK (k := 0) C (CC _ (by omega)) 1 (c_L_areHouses l hfl G n0 e115) gs_RL_159 ⟨rfl, rfl⟩ (by decide +kernel) ⟨Nat.le_of_ble_eq_true rfl, Nat.le_of_ble_eq_true rfl⟩ rfl rfl (Nat.le_of_ble_eq_true rfl) dL_law_363 ?_
          have C := CC (((((0 + 1) + 192) + 40333) + 191) + 0) (by omega)
          refine j_ifz_eq C 387 dL_law_366 (by decide) (fun c117 => ?_) (fun c117 => ?_)
          · replace hf := ine c117 hf
            refine j_iconst C (0 : Int32) rfl dL_law_387 ?_
            obtain ⟨rfl, rfl⟩ := Prod.mk.inj (Option.some.inj hf)
            exact hret _ _ _ (by omega) dL_law_388
          · replace hf := ip c117 hf
            refine j_aload_n C 0 dL_law_369 rfl rfl ?_
            obtain ⟨b119, e118, hf⟩ := bd hf
            refine j_callK (k := 1) C (CC _ (by omega)) 1 (c_L_areLoaves l hfl G n0 e118) gs_RL_156 ⟨rfl, rfl⟩ (by decide +kernel) ⟨Nat.le_of_ble_eq_true rfl, Nat.le_of_ble_eq_true rfl⟩ rfl rfl (Nat.le_of_ble_eq_true rfl) dL_law_370 ?_
            have C := CC ((((((0 + 1) + 192) + 40333) + 191) + 0) + 1) (by omega)
            refine j_ifz_eq C 387 dL_law_373 (by decide) (fun c120 => ?_) (fun c120 => ?_)
            · replace hf := ine c120 hf
              refine j_iconst C (0 : Int32) rfl dL_law_387 ?_
              obtain ⟨rfl, rfl⟩ := Prod.mk.inj (Option.some.inj hf)
              exact hret _ _ _ (by omega) dL_law_388
            · replace hf := ip c120 hf
              refine j_aload_n C 0 dL_law_376 rfl rfl ?_
              obtain ⟨⟨b122, M123⟩, e121, hf⟩ := bd hf
              replace hf := un2e hf
              refine j_callK (k := 0) C (CC _ (by omega)) 1 (c_L_areLoads l hfl G n0 e121) gs_RL_152 ⟨rfl, rfl⟩ (by decide +kernel) ⟨Nat.le_of_ble_eq_true rfl, Nat.le_of_ble_eq_true rfl⟩ rfl rfl (Nat.le_of_ble_eq_true rfl) dL_law_377 ?_
              have C := CC (((((((0 + 1) + 192) + 40333) + 191) + 0) + 1) + 0) (by omega)
              refine j_ifz_eq C 387 dL_law_380 (by decide) (fun c124 => ?_) (fun c124 => ?_)
              · replace hf := ine c124 hf
                refine j_iconst C (0 : Int32) rfl dL_law_387 ?_
                obtain ⟨rfl, rfl⟩ := Prod.mk.inj (Option.some.inj hf)
                exact hret _ _ _ (by omega) dL_law_388
              · replace hf := ip c124 hf
                refine j_iconst C (1 : Int32) rfl dL_law_383 ?_
                refine j_goto C 388 dL_law_384 (by decide) ?_
                obtain ⟨rfl, rfl⟩ := Prod.mk.inj (Option.some.inj hf)
                exact hret _ _ _ (by omega) dL_law_388
    clear hf
    have hl129 : ∀ (n : Nat) (k132 : Nat) (a21 : Bool) (a22 : Int32) (M23 : Mem), k132 + n * 761 ≤ (((0 + 1) + 192) + 40333) → lL_law_53 S n a21 a22 M23 = some (a108, M109) → J (kc K k132) M23 53 [(0, .ref G.2.2.1), (1, .ref (n0 + 0)), (2, .int (bI a21)), (3, .int a22)] [] := by
      intro n
      induction n with
      | zero =>
        intro k132 a21 a22 M23 hb133 hf
        exact absurd hf (by rw [lL_law_53]; exact fun h => by cases h)
      | succ n ih =>
        intro k132 a21 a22 M23 hb133 hf
        rw [lL_law_53] at hf
        have C := CC k132 (by omega)
        refine j_iload_n C 3 dL_law_53 rfl rfl ?_
        refine j_bipush C (52 : Int32) rfl dL_law_54 ?_
        refine j_icmp_ge C 351 dL_law_56 (by decide) (fun c24 => ?_) (fun c24 => ?_)
        · replace hf := ip c24 hf
          refine j_sub [1, 2] rfl ?_
          cases hf
          exact j_wid (by omega) hx128
        · replace hf := ine c24 hf
          refine j_iload_n C 2 dL_law_59 rfl rfl ?_
          refine j_ifz_eq C 351 dL_law_60 (by decide) (fun c25 => ?_) (fun c25 => ?_)
          · replace hf := ine c25 hf
            refine j_sub [1, 2] rfl ?_
            cases hf
            exact j_wid (by omega) hx128
          · replace hf := ip c25 hf
            refine j_aload_n C 0 dL_law_63 rfl rfl ?_
            refine j_iconst C (2 : Int32) rfl dL_law_64 ?_
            refine j_iload_n C 3 dL_law_65 rfl rfl ?_
            refine j_imul C dL_law_66 ?_
            obtain ⟨v26, e27, hf⟩ := bd hf
            refine j_callS C 2 (c_L_cell l G n0 (M := M23) hS e27) gs_RL_176 ⟨rfl, rfl⟩ (by decide +kernel) ⟨Nat.le_of_ble_eq_true rfl, Nat.le_of_ble_eq_true rfl⟩ rfl rfl (Nat.le_of_ble_eq_true rfl) dL_law_67 ?_
            refine j_istore C [(4, .int v26), (0, .ref G.2.2.1), (1, .ref (n0 + 0)), (2, .int (bI a21)), (3, .int a22)] dL_law_70 (Nat.le_of_ble_eq_true rfl) rfl ?_
            refine j_aload_n C 1 dL_law_72 rfl rfl ?_
            refine j_iconst C (2 : Int32) rfl dL_law_73 ?_
            refine j_iload_n C 4 dL_law_74 rfl rfl ?_
            refine j_imul C dL_law_75 ?_
            refine j_iconst C (1 : Int32) rfl dL_law_76 ?_
            refine j_iadd C dL_law_77 ?_
            obtain ⟨v28, e29, hf⟩ := bd hf
            refine j_callS C 2 (c_L_cell l G n0 (M := M23) hS e29) gs_RL_176 ⟨rfl, rfl⟩ (by decide +kernel) ⟨Nat.le_of_ble_eq_true rfl, Nat.le_of_ble_eq_true rfl⟩ rfl rfl (Nat.le_of_ble_eq_true rfl) dL_law_78 ?_
            refine j_ldc C tw5_18 dL_law_81 ?_
            obtain ⟨v31, e30, hf⟩ := bd hf
            refine j_callS C 2 (c_L_low l G n0 (M := M23) e30) gs_RL_165 ⟨rfl, rfl⟩ (by decide +kernel) ⟨Nat.le_of_ble_eq_true rfl, Nat.le_of_ble_eq_true rfl⟩ rfl rfl (Nat.le_of_ble_eq_true rfl) dL_law_83 ?_
            refine j_istore C [(5, .int v31), (4, .int v26), (0, .ref G.2.2.1), (1, .ref (n0 + 0)), (2, .int (bI a21)), (3, .int a22)] dL_law_86 (Nat.le_of_ble_eq_true rfl) rfl ?_
            refine j_aload_n C 3 dL_law_88 rfl rfl ?_
            obtain ⟨⟨v33, M34⟩, e32, hf⟩ := bd hf
            replace hf := un2e hf
            refine j_callK (k := 81) C (CC _ (by omega)) 1 (c_L_print l hfl G n0 e32) gs_RL_105 ⟨rfl, rfl⟩ (by decide +kernel) ⟨Nat.le_of_ble_eq_true rfl, Nat.le_of_ble_eq_true rfl⟩ rfl rfl (Nat.le_of_ble_eq_true rfl) dL_law_89 ?_
            have C := CC (k132 + 81) (by omega)
            refine j_lstore C [(6, .long v33), (5, .int v31), (4, .int v26), (0, .ref G.2.2.1), (1, .ref (n0 + 0)), (2, .int (bI a21)), (3, .int a22)] dL_law_92 (Nat.le_of_ble_eq_true rfl) rfl ?_
            refine j_iload_n C 6 dL_law_94 rfl rfl ?_
            refine j_iconst C (5 : Int32) rfl dL_law_95 ?_
            obtain ⟨z40, e134, hf⟩ := bd hf
            have hj135 : J (kc K (k132 + 81)) M34 134 [(0, .ref G.2.2.1), (1, .ref (n0 + 0)), (3, .int a22), (4, .int v26), (5, .int v31), (6, .long v33)] [.int z40] := by
              refine j_istore C [(8, .int z40), (0, .ref G.2.2.1), (1, .ref (n0 + 0)), (3, .int a22), (4, .int v26), (5, .int v31), (6, .long v33)] dL_law_134 (Nat.le_of_ble_eq_true rfl) rfl ?_
              refine j_aload_n C 2 dL_law_136 rfl rfl ?_
              refine j_bipush C (16 : Int32) rfl dL_law_137 ?_
              refine j_iload C 4 dL_law_139 rfl ?_
              refine j_iconst C (4 : Int32) rfl dL_law_141 ?_
              refine j_ishr C dL_law_142 ?_
              refine j_ldc C tw5_27 dL_law_143 ?_
              obtain ⟨v42, e41, hf⟩ := bd hf
              refine j_callS C 2 (c_L_low l G n0 (M := M34) e41) gs_RL_165 ⟨rfl, rfl⟩ (by decide +kernel) ⟨Nat.le_of_ble_eq_true rfl, Nat.le_of_ble_eq_true rfl⟩ rfl rfl (Nat.le_of_ble_eq_true rfl) dL_law_145 ?_
              refine j_imul C dL_law_148 ?_
              refine j_iload C 0 dL_law_149 rfl ?_
              refine j_iadd C dL_law_151 ?_
              refine j_iload C 5 dL_law_152 rfl ?_
              obtain ⟨⟨v44, M45⟩, e43, hf⟩ := bd hf
              replace hf := un2e hf
              refine j_callK (k := 1) C (CC _ (by omega)) 3 (c_L_acts l hfl G n0 e43) gs_RL_181 ⟨rfl, rfl⟩ (by decide +kernel) ⟨Nat.le_of_ble_eq_true rfl, Nat.le_of_ble_eq_true rfl⟩ rfl rfl (Nat.le_of_ble_eq_true rfl) dL_law_154 ?_
              have C := CC ((k132 + 81) + 1) (by omega)
              refine j_istore C [(9, .int v44), (8, .int z40), (0, .ref G.2.2.1), (1, .ref (n0 + 0)), (3, .int a22), (4, .int v26), (5, .int v31), (6, .long v33)] dL_law_157 (Nat.le_of_ble_eq_true rfl) rfl ?_
              refine j_iload C 0 dL_law_159 rfl ?_
              obtain ⟨z49, e136, hf⟩ := bd hf
              have hj137 : J (kc K ((k132 + 81) + 1)) M45 183 [(0, .ref G.2.2.1), (1, .ref (n0 + 0)), (3, .int a22), (4, .int v26), (5, .int v31), (6, .long v33), (9, .int v44)] [.int (bI z49)] := by
                refine j_istore_n C [(2, .int (bI z49)), (0, .ref G.2.2.1), (1, .ref (n0 + 0)), (3, .int a22), (4, .int v26), (5, .int v31), (6, .long v33), (9, .int v44)] dL_law_183 rfl (Nat.le_of_ble_eq_true rfl) rfl ?_
                refine j_iload_n C 0 dL_law_184 rfl rfl ?_
                obtain ⟨⟨z61, M62⟩, e138, hf⟩ := bd hf
                replace hf := un2e hf
                have hj139 : J (kc K (((k132 + 81) + 1) + 81)) M62 226 [(0, .ref G.2.2.1), (1, .ref (n0 + 0)), (2, .int (bI z61)), (3, .int a22), (5, .int v31)] [] := by
                  have C := CC (((k132 + 81) + 1) + 81) (by omega)
                  refine j_iload_n C 2 dL_law_226 rfl rfl ?_
                  refine j_ifz_eq C 343 dL_law_227 (by decide) (fun c63 => ?_) (fun c63 => ?_)
                  · replace hf := ine c63 hf
                    refine j_iconst C (0 : Int32) rfl dL_law_343 ?_
                    refine j_istore_n C [(2, .int (bI false)), (0, .ref G.2.2.1), (1, .ref (n0 + 0)), (3, .int a22), (5, .int v31)] dL_law_344 rfl (Nat.le_of_ble_eq_true rfl) rfl ?_
                    refine j_iinc C 3 (a22 + 1) [(3, .int (a22 + 1)), (2, .int (bI false)), (0, .ref G.2.2.1), (1, .ref (n0 + 0)), (5, .int v31)] dL_law_345 rfl rfl (Nat.le_of_ble_eq_true rfl) rfl ?_
                    refine j_goto C 53 dL_law_348 (by decide) ?_
                    refine j_sub [2, 3, 1, 0] rfl ?_
                    exact j_wid (by omega) (ih ((((k132 + 81) + 1) + 81)) _ _ _ (by omega) hf)
                  · replace hf := ip c63 hf
                    refine j_iload_n C 3 dL_law_230 rfl rfl ?_
                    refine j_iconst C (3 : Int32) rfl dL_law_231 ?_
                    refine j_irem C (by decide) dL_law_232 ?_
                    refine j_iconst C (2 : Int32) rfl dL_law_233 ?_
                    refine lab_i (α := Unit) (fun (_ : Unit) => J (kc K (((k132 + 81) + 1) + 81)) M62 244 [(0, .ref G.2.2.1), (1, .ref (n0 + 0)), (3, .int a22), (5, .int v31)] []) hf (fun q hf => ?_) (fun kl68 hk140 hf => ?_)
                    · clear q
                      show J (kc K (((k132 + 81) + 1) + 81)) M62 244 [(0, .ref G.2.2.1), (1, .ref (n0 + 0)), (3, .int a22), (5, .int v31)] []
                      refine j_iload_n C 2 dL_law_244 rfl rfl ?_
                      refine j_iconst C (3 : Int32) rfl dL_law_245 ?_
                      refine j_irem C (by decide) dL_law_246 ?_
                      refine j_iconst C (1 : Int32) rfl dL_law_247 ?_
                      refine lab_i (α := Unit) (fun (_ : Unit) => J (kc K ((((k132 + 81) + 1) + 81) + 1)) M62 258 [(0, .ref G.2.2.1), (1, .ref (n0 + 0)), (3, .int a22), (5, .int v31)] []) hf (fun q hf => ?_) (fun kl73 hk141 hf => ?_)
                      · clear q
                        show J (kc K ((((k132 + 81) + 1) + 81) + 1)) M62 258 [(0, .ref G.2.2.1), (1, .ref (n0 + 0)), (3, .int a22), (5, .int v31)] []
                        have C := CC ((((k132 + 81) + 1) + 81) + 1) (by omega)
                        refine j_iload_n C 2 dL_law_258 rfl rfl ?_
                        refine j_iconst C (4 : Int32) rfl dL_law_259 ?_
                        refine j_irem C (by decide) dL_law_260 ?_
                        refine j_iconst C (3 : Int32) rfl dL_law_261 ?_
                        refine lab_i (α := Mem) (fun M79 => J (kc K ((((k132 + 81) + 1) + 81) + 1)) M79 272 [(0, .ref G.2.2.1), (1, .ref (n0 + 0)), (3, .int a22), (5, .int v31)] []) hf (fun M79 hf => ?_) (fun kl80 hk142 hf => ?_)
                        · skip
                          show J (kc K ((((k132 + 81) + 1) + 81) + 1)) M79 272 [(0, .ref G.2.2.1), (1, .ref (n0 + 0)), (3, .int a22), (5, .int v31)] []
                          refine j_iload_n C 2 dL_law_272 rfl rfl ?_
                          refine j_bipush C (6 : Int32) rfl dL_law_273 ?_
                          refine j_irem C (by decide) dL_law_275 ?_
                          refine j_iconst C (5 : Int32) rfl dL_law_276 ?_
                          refine lab_i (α := Mem) (fun M86 => J (kc K (((((k132 + 81) + 1) + 81) + 1) + 244)) M86 294 [(0, .ref G.2.2.1), (1, .ref (n0 + 0)), (3, .int a22), (5, .int v31)] []) hf (fun M86 hf => ?_) (fun kl87 hk143 hf => ?_)
                          · skip
                            show J (kc K (((((k132 + 81) + 1) + 81) + 1) + 244)) M86 294 [(0, .ref G.2.2.1), (1, .ref (n0 + 0)), (3, .int a22), (5, .int v31)] []
                            have C := CC (((((k132 + 81) + 1) + 81) + 1) + 244) (by omega)
                            refine j_iload_n C 2 dL_law_294 rfl rfl ?_
                            refine j_iconst C (5 : Int32) rfl dL_law_295 ?_
                            refine j_irem C (by decide) dL_law_296 ?_
                            refine j_iconst C (4 : Int32) rfl dL_law_297 ?_
                            refine lab_i (α := Mem) (fun M101 => J (kc K ((((((k132 + 81) + 1) + 81) + 1) + 244) + 162)) M101 324 [(0, .ref G.2.2.1), (1, .ref (n0 + 0)), (3, .int a22)] []) hf (fun M101 hf => ?_) (fun kl102 hk144 hf => ?_)
                            · skip
                              show J (kc K ((((((k132 + 81) + 1) + 81) + 1) + 244) + 162)) M101 324 [(0, .ref G.2.2.1), (1, .ref (n0 + 0)), (3, .int a22)] []
                              have C := CC ((((((k132 + 81) + 1) + 81) + 1) + 244) + 162) (by omega)
                              refine j_iload_n C 2 dL_law_324 rfl rfl ?_
                              refine j_bipush C (9 : Int32) rfl dL_law_325 ?_
                              refine j_irem C (by decide) dL_law_327 ?_
                              refine j_iconst C (4 : Int32) rfl dL_law_328 ?_
                              refine j_icmp_ne C 339 dL_law_329 (by decide) (fun c103 => ?_) (fun c103 => ?_)
                              · replace hf := ine c103 hf
                                refine j_iconst C (1 : Int32) rfl dL_law_339 ?_
                                refine j_goto C 344 dL_law_340 (by decide) ?_
                                refine j_istore_n C [(2, .int (bI true)), (0, .ref G.2.2.1), (1, .ref (n0 + 0)), (3, .int a22)] dL_law_344 rfl (Nat.le_of_ble_eq_true rfl) rfl ?_
                                refine j_iinc C 3 (a22 + 1) [(3, .int (a22 + 1)), (2, .int (bI true)), (0, .ref G.2.2.1), (1, .ref (n0 + 0))] dL_law_345 rfl rfl (Nat.le_of_ble_eq_true rfl) rfl ?_
                                refine j_goto C 53 dL_law_348 (by decide) ?_
                                refine j_sub [2, 3, 1, 0] rfl ?_
                                exact j_wid (by omega) (ih (((((((k132 + 81) + 1) + 81) + 1) + 244) + 162)) _ _ _ (by omega) hf)
                              · replace hf := ip c103 hf
                                refine j_aload_n C 1 dL_law_332 rfl rfl ?_
                                obtain ⟨⟨b105, M106⟩, e104, hf⟩ := bd hf
                                replace hf := un2e hf
                                refine j_callK (k := 191) C (CC _ (by omega)) 1 (c_L_refused l hfl G n0 e104) gs_RL_173 ⟨rfl, rfl⟩ (by decide +kernel) ⟨Nat.le_of_ble_eq_true rfl, Nat.le_of_ble_eq_true rfl⟩ rfl rfl (Nat.le_of_ble_eq_true rfl) dL_law_333 ?_
                                have C := CC (((((((k132 + 81) + 1) + 81) + 1) + 244) + 162) + 191) (by omega)
                                refine j_ifz_eq C 343 dL_law_336 (by decide) (fun c107 => ?_) (fun c107 => ?_)
                                · replace hf := ine c107 hf
                                  refine j_iconst C (0 : Int32) rfl dL_law_343 ?_
                                  refine j_istore_n C [(2, .int (bI false)), (0, .ref G.2.2.1), (1, .ref (n0 + 0)), (3, .int a22)] dL_law_344 rfl (Nat.le_of_ble_eq_true rfl) rfl ?_
                                  refine j_iinc C 3 (a22 + 1) [(3, .int (a22 + 1)), (2, .int (bI false)), (0, .ref G.2.2.1), (1, .ref (n0 + 0))] dL_law_345 rfl rfl (Nat.le_of_ble_eq_true rfl) rfl ?_
                                  refine j_goto C 53 dL_law_348 (by decide) ?_
                                  refine j_sub [2, 3, 1, 0] rfl ?_
                                  exact j_wid (by omega) (ih ((((((((k132 + 81) + 1) + 81) + 1) + 244) + 162) + 191)) _ _ _ (by omega) hf)
                                · replace hf := ip c107 hf
                                  refine j_iconst C (1 : Int32) rfl dL_law_339 ?_
                                  refine j_goto C 344 dL_law_340 (by decide) ?_
                                  refine j_istore_n C [(2, .int (bI true)), (0, .ref G.2.2.1), (1, .ref (n0 + 0)), (3, .int a22)] dL_law_344 rfl (Nat.le_of_ble_eq_true rfl) rfl ?_
                                  refine j_iinc C 3 (a22 + 1) [(3, .int (a22 + 1)), (2, .int (bI true)), (0, .ref G.2.2.1), (1, .ref (n0 + 0))] dL_law_345 rfl rfl (Nat.le_of_ble_eq_true rfl) rfl ?_
                                  refine j_goto C 53 dL_law_348 (by decide) ?_
                                  refine j_sub [2, 3, 1, 0] rfl ?_
                                  exact j_wid (by omega) (ih ((((((((k132 + 81) + 1) + 81) + 1) + 244) + 162) + 191)) _ _ _ (by omega) hf)
                            refine j_icmp_ne C 324 dL_law_298 (by decide) (fun c88 => ?_) (fun c88 => ?_)
                            · replace hf := ine c88 hf
                              refine j_sub [0, 1, 2] rfl ?_
                              exact j_wid (by omega) (show J (kc K ((((((k132 + 81) + 1) + 81) + 1) + 244) + 162)) M86 324 [(0, .ref G.2.2.1), (1, .ref (n0 + 0)), (3, .int a22)] [] from hk144 M86 hf)
                            · replace hf := ip c88 hf
                              refine j_aload_n C 1 dL_law_301 rfl rfl ?_
                              refine j_iconst C (0 : Int32) rfl dL_law_302 ?_
                              obtain ⟨v90, e89, hf⟩ := bd hf
                              refine j_callR C 2 (cg_L_whole l G n0 e89) gw_L_whole_91 ⟨rfl, rfl⟩ (by decide +kernel) ⟨Nat.le_of_ble_eq_true rfl, Nat.le_of_ble_eq_true rfl⟩ rfl rfl (Nat.le_of_ble_eq_true rfl) dL_law_303 ?_
                              refine lab_i (α := Mem) (fun M99 => J (kc K ((((((k132 + 81) + 1) + 81) + 1) + 244) + 162)) M99 324 [(0, .ref G.2.2.1), (1, .ref (n0 + 0)), (3, .int a22)] []) hf (fun M99 hf => ?_) (fun kl100 hk145 hf => ?_)
                              · skip
                                show J (kc K ((((((k132 + 81) + 1) + 81) + 1) + 244) + 162)) M99 324 [(0, .ref G.2.2.1), (1, .ref (n0 + 0)), (3, .int a22)] []
                                have C := CC ((((((k132 + 81) + 1) + 81) + 1) + 244) + 162) (by omega)
                                refine j_sub [0, 1, 2] rfl ?_
                                exact j_wid (by omega) (show J (kc K ((((((k132 + 81) + 1) + 81) + 1) + 244) + 162)) M99 324 [(0, .ref G.2.2.1), (1, .ref (n0 + 0)), (3, .int a22)] [] from hk144 M99 hf)
                              refine j_if_eq C 324 dL_law_306 (by decide) (fun c91 => ?_) (fun c91 => ?_)
                              · replace hf := ip c91 hf
                                refine j_sub [0, 1, 2] rfl ?_
                                exact j_wid (by omega) (show J (kc K ((((((k132 + 81) + 1) + 81) + 1) + 244) + 162)) M86 324 [(0, .ref G.2.2.1), (1, .ref (n0 + 0)), (3, .int a22)] [] from hk145 M86 hf)
                              · replace hf := ine c91 hf
                                refine j_aload_n C 1 dL_law_309 rfl rfl ?_
                                refine j_iload C 3 dL_law_310 rfl ?_
                                refine j_aload_n C 1 dL_law_312 rfl rfl ?_
                                refine j_iconst C (0 : Int32) rfl dL_law_313 ?_
                                obtain ⟨v93, e92, hf⟩ := bd hf
                                refine j_callR C 2 (cg_L_whole l G n0 e92) gw_L_whole_91 ⟨rfl, rfl⟩ (by decide +kernel) ⟨Nat.le_of_ble_eq_true rfl, Nat.le_of_ble_eq_true rfl⟩ rfl rfl (Nat.le_of_ble_eq_true rfl) dL_law_314 ?_
                                obtain ⟨hd94, hf⟩ := gd hf
                                refine j_irem C hd94 dL_law_317 ?_
                                obtain ⟨⟨b96, M97⟩, e95, hf⟩ := bd hf
                                replace hf := un2e hf
                                refine j_callK (k := 162) C (CC _ (by omega)) 2 (c_L_areClaims l hfl G n0 e95) gs_RL_188 ⟨rfl, rfl⟩ (by decide +kernel) ⟨Nat.le_of_ble_eq_true rfl, Nat.le_of_ble_eq_true rfl⟩ rfl rfl (Nat.le_of_ble_eq_true rfl) dL_law_318 ?_
                                have C := CC ((((((k132 + 81) + 1) + 81) + 1) + 244) + 162) (by omega)
                                refine j_ifz_eq C 343 dL_law_321 (by decide) (fun c98 => ?_) (fun c98 => ?_)
                                · replace hf := ine c98 hf
                                  refine j_iconst C (0 : Int32) rfl dL_law_343 ?_
                                  refine j_istore_n C [(2, .int (bI false)), (0, .ref G.2.2.1), (1, .ref (n0 + 0)), (3, .int a22), (5, .int v31)] dL_law_344 rfl (Nat.le_of_ble_eq_true rfl) rfl ?_
                                  refine j_iinc C 3 (a22 + 1) [(3, .int (a22 + 1)), (2, .int (bI false)), (0, .ref G.2.2.1), (1, .ref (n0 + 0)), (5, .int v31)] dL_law_345 rfl rfl (Nat.le_of_ble_eq_true rfl) rfl ?_
                                  refine j_goto C 53 dL_law_348 (by decide) ?_
                                  refine j_sub [2, 3, 1, 0] rfl ?_
                                  exact j_wid (by omega) (ih (((((((k132 + 81) + 1) + 81) + 1) + 244) + 162)) _ _ _ (by omega) hf)
                                · replace hf := ip c98 hf
                                  refine j_sub [0, 1, 2] rfl ?_
                                  exact j_wid (by omega) (show J (kc K ((((((k132 + 81) + 1) + 81) + 1) + 244) + 162)) M97 324 [(0, .ref G.2.2.1), (1, .ref (n0 + 0)), (3, .int a22)] [] from hk145 M97 hf)
                          refine j_icmp_ne C 294 dL_law_277 (by decide) (fun c81 => ?_) (fun c81 => ?_)
                          · replace hf := ine c81 hf
                            refine j_sub [0, 1, 2, 3] rfl ?_
                            exact j_wid (by omega) (show J (kc K (((((k132 + 81) + 1) + 81) + 1) + 244)) M79 294 [(0, .ref G.2.2.1), (1, .ref (n0 + 0)), (3, .int a22), (5, .int v31)] [] from hk143 M79 hf)
                          · replace hf := ip c81 hf
                            refine j_aload_n C 1 dL_law_280 rfl rfl ?_
                            refine j_iconst C (1 : Int32) rfl dL_law_281 ?_
                            refine j_iload C 3 dL_law_282 rfl ?_
                            refine j_bipush C (40 : Int32) rfl dL_law_284 ?_
                            refine j_irem C (by decide) dL_law_286 ?_
                            refine j_iadd C dL_law_287 ?_
                            obtain ⟨⟨b83, M84⟩, e82, hf⟩ := bd hf
                            replace hf := un2e hf
                            refine j_callK (k := 244) C (CC _ (by omega)) 2 (c_L_isForetold l hfl G n0 e82) gs_RL_184 ⟨rfl, rfl⟩ (by decide +kernel) ⟨Nat.le_of_ble_eq_true rfl, Nat.le_of_ble_eq_true rfl⟩ rfl rfl (Nat.le_of_ble_eq_true rfl) dL_law_288 ?_
                            have C := CC (((((k132 + 81) + 1) + 81) + 1) + 244) (by omega)
                            refine j_ifz_eq C 343 dL_law_291 (by decide) (fun c85 => ?_) (fun c85 => ?_)
                            · replace hf := ine c85 hf
                              refine j_iconst C (0 : Int32) rfl dL_law_343 ?_
                              refine j_istore_n C [(2, .int (bI false)), (0, .ref G.2.2.1), (1, .ref (n0 + 0)), (3, .int a22), (5, .int v31)] dL_law_344 rfl (Nat.le_of_ble_eq_true rfl) rfl ?_
                              refine j_iinc C 3 (a22 + 1) [(3, .int (a22 + 1)), (2, .int (bI false)), (0, .ref G.2.2.1), (1, .ref (n0 + 0)), (5, .int v31)] dL_law_345 rfl rfl (Nat.le_of_ble_eq_true rfl) rfl ?_
                              refine j_goto C 53 dL_law_348 (by decide) ?_
                              refine j_sub [2, 3, 1, 0] rfl ?_
                              exact j_wid (by omega) (ih ((((((k132 + 81) + 1) + 81) + 1) + 244)) _ _ _ (by omega) hf)
                            · replace hf := ip c85 hf
                              refine j_sub [0, 1, 2, 3] rfl ?_
                              exact j_wid (by omega) (show J (kc K (((((k132 + 81) + 1) + 81) + 1) + 244)) M84 294 [(0, .ref G.2.2.1), (1, .ref (n0 + 0)), (3, .int a22), (5, .int v31)] [] from hk143 M84 hf)
                        refine j_icmp_ne C 272 dL_law_262 (by decide) (fun c74 => ?_) (fun c74 => ?_)
                        · replace hf := ine c74 hf
                          refine j_sub [0, 1, 2, 3] rfl ?_
                          exact j_wid (by omega) (show J (kc K ((((k132 + 81) + 1) + 81) + 1)) M62 272 [(0, .ref G.2.2.1), (1, .ref (n0 + 0)), (3, .int a22), (5, .int v31)] [] from hk142 M62 hf)
                        · replace hf := ip c74 hf
                          refine j_aload_n C 1 dL_law_265 rfl rfl ?_
                          obtain ⟨⟨b76, M77⟩, e75, hf⟩ := bd hf
                          replace hf := un2e hf
                          refine j_callK (k := 0) C (CC _ (by omega)) 1 (c_L_areLoads l hfl G n0 e75) gs_RL_152 ⟨rfl, rfl⟩ (by decide +kernel) ⟨Nat.le_of_ble_eq_true rfl, Nat.le_of_ble_eq_true rfl⟩ rfl rfl (Nat.le_of_ble_eq_true rfl) dL_law_266 ?_
                          have C := CC (((((k132 + 81) + 1) + 81) + 1) + 0) (by omega)
                          refine j_ifz_eq C 343 dL_law_269 (by decide) (fun c78 => ?_) (fun c78 => ?_)
                          · replace hf := ine c78 hf
                            refine j_iconst C (0 : Int32) rfl dL_law_343 ?_
                            refine j_istore_n C [(2, .int (bI false)), (0, .ref G.2.2.1), (1, .ref (n0 + 0)), (3, .int a22), (5, .int v31)] dL_law_344 rfl (Nat.le_of_ble_eq_true rfl) rfl ?_
                            refine j_iinc C 3 (a22 + 1) [(3, .int (a22 + 1)), (2, .int (bI false)), (0, .ref G.2.2.1), (1, .ref (n0 + 0)), (5, .int v31)] dL_law_345 rfl rfl (Nat.le_of_ble_eq_true rfl) rfl ?_
                            refine j_goto C 53 dL_law_348 (by decide) ?_
                            refine j_sub [2, 3, 1, 0] rfl ?_
                            exact j_wid (by omega) (ih ((((((k132 + 81) + 1) + 81) + 1) + 0)) _ _ _ (by omega) hf)
                          · replace hf := ip c78 hf
                            refine j_sub [0, 1, 2, 3] rfl ?_
                            exact j_wid (by omega) (show J (kc K ((((k132 + 81) + 1) + 81) + 1)) M77 272 [(0, .ref G.2.2.1), (1, .ref (n0 + 0)), (3, .int a22), (5, .int v31)] [] from hk142 M77 hf)
                      refine j_icmp_ne C 258 dL_law_248 (by decide) (fun c69 => ?_) (fun c69 => ?_)
                      · replace hf := ine c69 hf
                        refine j_sub [0, 1, 2, 3] rfl ?_
                        exact j_wid (by omega) (show J (kc K ((((k132 + 81) + 1) + 81) + 1)) M62 258 [(0, .ref G.2.2.1), (1, .ref (n0 + 0)), (3, .int a22), (5, .int v31)] [] from hk141 () hf)
                      · replace hf := ip c69 hf
                        refine j_aload_n C 1 dL_law_251 rfl rfl ?_
                        obtain ⟨b71, e70, hf⟩ := bd hf
                        refine j_callK (k := 1) C (CC _ (by omega)) 1 (c_L_areLoaves l hfl G n0 e70) gs_RL_156 ⟨rfl, rfl⟩ (by decide +kernel) ⟨Nat.le_of_ble_eq_true rfl, Nat.le_of_ble_eq_true rfl⟩ rfl rfl (Nat.le_of_ble_eq_true rfl) dL_law_252 ?_
                        have C := CC ((((k132 + 81) + 1) + 81) + 1) (by omega)
                        refine j_ifz_eq C 343 dL_law_255 (by decide) (fun c72 => ?_) (fun c72 => ?_)
                        · replace hf := ine c72 hf
                          refine j_iconst C (0 : Int32) rfl dL_law_343 ?_
                          refine j_istore_n C [(2, .int (bI false)), (0, .ref G.2.2.1), (1, .ref (n0 + 0)), (3, .int a22), (5, .int v31)] dL_law_344 rfl (Nat.le_of_ble_eq_true rfl) rfl ?_
                          refine j_iinc C 3 (a22 + 1) [(3, .int (a22 + 1)), (2, .int (bI false)), (0, .ref G.2.2.1), (1, .ref (n0 + 0)), (5, .int v31)] dL_law_345 rfl rfl (Nat.le_of_ble_eq_true rfl) rfl ?_
                          refine j_goto C 53 dL_law_348 (by decide) ?_
                          refine j_sub [2, 3, 1, 0] rfl ?_
                          exact j_wid (by omega) (ih (((((k132 + 81) + 1) + 81) + 1)) _ _ _ (by omega) hf)
                        · replace hf := ip c72 hf
                          refine j_sub [0, 1, 2, 3] rfl ?_
                          exact j_wid (by omega) (show J (kc K ((((k132 + 81) + 1) + 81) + 1)) M62 258 [(0, .ref G.2.2.1), (1, .ref (n0 + 0)), (3, .int a22), (5, .int v31)] [] from hk141 () hf)
                    refine j_icmp_ne C 244 dL_law_234 (by decide) (fun c64 => ?_) (fun c64 => ?_)
                    · replace hf := ine c64 hf
                      refine j_sub [0, 1, 3, 4] rfl ?_
                      exact j_wid (by omega) (show J (kc K (((k132 + 81) + 1) + 81)) M62 244 [(0, .ref G.2.2.1), (1, .ref (n0 + 0)), (3, .int a22), (5, .int v31)] [] from hk140 () hf)
                    · replace hf := ip c64 hf
                      refine j_aload_n C 1 dL_law_237 rfl rfl ?_
                      obtain ⟨b66, e65, hf⟩ := bd hf
                      refine j_callK (k := 0) C (CC _ (by omega)) 1 (c_L_areHouses l hfl G n0 e65) gs_RL_159 ⟨rfl, rfl⟩ (by decide +kernel) ⟨Nat.le_of_ble_eq_true rfl, Nat.le_of_ble_eq_true rfl⟩ rfl rfl (Nat.le_of_ble_eq_true rfl) dL_law_238 ?_
                      have C := CC ((((k132 + 81) + 1) + 81) + 0) (by omega)
                      refine j_ifz_eq C 343 dL_law_241 (by decide) (fun c67 => ?_) (fun c67 => ?_)
                      · replace hf := ine c67 hf
                        refine j_iconst C (0 : Int32) rfl dL_law_343 ?_
                        refine j_istore_n C [(2, .int (bI false)), (0, .ref G.2.2.1), (1, .ref (n0 + 0)), (3, .int a22), (5, .int v31)] dL_law_344 rfl (Nat.le_of_ble_eq_true rfl) rfl ?_
                        refine j_iinc C 3 (a22 + 1) [(3, .int (a22 + 1)), (2, .int (bI false)), (0, .ref G.2.2.1), (1, .ref (n0 + 0)), (5, .int v31)] dL_law_345 rfl rfl (Nat.le_of_ble_eq_true rfl) rfl ?_
                        refine j_goto C 53 dL_law_348 (by decide) ?_
                        refine j_sub [2, 3, 1, 0] rfl ?_
                        exact j_wid (by omega) (ih (((((k132 + 81) + 1) + 81) + 0)) _ _ _ (by omega) hf)
                      · replace hf := ip c67 hf
                        refine j_sub [0, 1, 3, 4] rfl ?_
                        exact j_wid (by omega) (show J (kc K (((k132 + 81) + 1) + 81)) M62 244 [(0, .ref G.2.2.1), (1, .ref (n0 + 0)), (3, .int a22), (5, .int v31)] [] from hk140 () hf)
                clear hf
                have hf := e138
                refine j_ifz_eq C 226 dL_law_185 (by decide) (fun c50 => ?_) (fun c50 => ?_)
                · replace hf := ine c50 hf
                  cases hf
                  refine j_sub [1, 2, 0, 3, 5] rfl ?_
                  exact j_wid (by omega) hj139
                · replace hf := ip c50 hf
                  refine j_iload C 7 dL_law_188 rfl ?_
                  refine j_if_lt C 226 dL_law_190 (by decide) (fun c51 => ?_) (fun c51 => ?_)
                  · replace hf := ip c51 hf
                    cases hf
                    refine j_sub [1, 2, 0, 3, 5] rfl ?_
                    exact j_wid (by omega) hj139
                  · replace hf := ine c51 hf
                    refine j_iload C 4 dL_law_193 rfl ?_
                    refine j_bipush C (25 : Int32) rfl dL_law_195 ?_
                    refine j_ishr C dL_law_197 ?_
                    refine j_iconst C (3 : Int32) rfl dL_law_198 ?_
                    refine j_iand C dL_law_199 ?_
                    refine j_if_ne C 226 dL_law_200 (by decide) (fun c52 => ?_) (fun c52 => ?_)
                    · replace hf := ine c52 hf
                      cases hf
                      refine j_sub [1, 2, 0, 3, 5] rfl ?_
                      exact j_wid (by omega) hj139
                    · replace hf := ip c52 hf
                      refine j_aload_n C 2 dL_law_203 rfl rfl ?_
                      obtain ⟨⟨v54, M55⟩, e53, hf⟩ := bd hf
                      replace hf := un2e hf
                      refine j_callR C 1 (cg_L_undo l G n0 e53) gw_L_undo_162 ⟨rfl, rfl⟩ (by decide +kernel) ⟨Nat.le_of_ble_eq_true rfl, Nat.le_of_ble_eq_true rfl⟩ rfl rfl (Nat.le_of_ble_eq_true rfl) dL_law_204 ?_
                      refine j_if_lt C 224 dL_law_207 (by decide) (fun c56 => ?_) (fun c56 => ?_)
                      · replace hf := ip c56 hf
                        refine j_iconst C (0 : Int32) rfl dL_law_224 ?_
                        refine j_istore_n C [(2, .int (bI false)), (0, .ref G.2.2.1), (1, .ref (n0 + 0)), (3, .int a22), (4, .int v26), (5, .int v31), (6, .long v33), (9, .int v44)] dL_law_225 rfl (Nat.le_of_ble_eq_true rfl) rfl ?_
                        cases hf
                        refine j_sub [1, 2, 0, 3, 5] rfl ?_
                        exact j_wid (by omega) hj139
                      · replace hf := ine c56 hf
                        refine j_aload_n C 2 dL_law_210 rfl rfl ?_
                        obtain ⟨⟨v58, M59⟩, e57, hf⟩ := bd hf
                        replace hf := un2e hf
                        refine j_callK (k := 81) C (CC _ (by omega)) 1 (c_L_print l hfl G n0 e57) gs_RL_105 ⟨rfl, rfl⟩ (by decide +kernel) ⟨Nat.le_of_ble_eq_true rfl, Nat.le_of_ble_eq_true rfl⟩ rfl rfl (Nat.le_of_ble_eq_true rfl) dL_law_211 ?_
                        have C := CC (((k132 + 81) + 1) + 81) (by omega)
                        refine j_lload C 6 dL_law_214 rfl ?_
                        refine j_lcmp C dL_law_216 ?_
                        refine j_iflc_ne C 224 dL_law_217 (by decide) (fun c60 => ?_) (fun c60 => ?_)
                        · replace hf := ine c60 hf
                          refine j_iconst C (0 : Int32) rfl dL_law_224 ?_
                          refine j_istore_n C [(2, .int (bI false)), (0, .ref G.2.2.1), (1, .ref (n0 + 0)), (3, .int a22), (4, .int v26), (5, .int v31), (6, .long v33), (9, .int v44)] dL_law_225 rfl (Nat.le_of_ble_eq_true rfl) rfl ?_
                          cases hf
                          refine j_sub [1, 2, 0, 3, 5] rfl ?_
                          exact j_wid (by omega) hj139
                        · replace hf := ip c60 hf
                          refine j_iconst C (1 : Int32) rfl dL_law_220 ?_
                          refine j_goto C 225 dL_law_221 (by decide) ?_
                          refine j_istore_n C [(2, .int (bI true)), (0, .ref G.2.2.1), (1, .ref (n0 + 0)), (3, .int a22), (4, .int v26), (5, .int v31), (6, .long v33), (9, .int v44)] dL_law_225 rfl (Nat.le_of_ble_eq_true rfl) rfl ?_
                          cases hf
                          refine j_sub [1, 2, 0, 3, 5] rfl ?_
                          exact j_wid (by omega) hj139
              clear hf
              have hf := e136
              refine j_if_ge C 178 dL_law_161 (by decide) (fun c46 => ?_) (fun c46 => ?_)
              · replace hf := ip c46 hf
                refine j_iconst C (1 : Int32) rfl dL_law_178 ?_
                refine j_goto C 183 dL_law_179 (by decide) ?_
                cases hf
                refine j_sub [2, 3, 4, 5, 6, 7, 0] rfl ?_
                exact j_wid (by omega) hj137
              · replace hf := ine c46 hf
                refine j_iload C 0 dL_law_164 rfl ?_
                refine j_ldc C tw2_227 dL_law_166 ?_
                refine j_icmp_eq C 178 dL_law_168 (by decide) (fun c47 => ?_) (fun c47 => ?_)
                · replace hf := ip c47 hf
                  refine j_iconst C (1 : Int32) rfl dL_law_178 ?_
                  refine j_goto C 183 dL_law_179 (by decide) ?_
                  cases hf
                  refine j_sub [2, 3, 4, 5, 6, 7, 0] rfl ?_
                  exact j_wid (by omega) hj137
                · replace hf := ine c47 hf
                  refine j_iload C 0 dL_law_171 rfl ?_
                  refine j_ldc C tw3_24 dL_law_173 ?_
                  refine j_icmp_ne C 182 dL_law_175 (by decide) (fun c48 => ?_) (fun c48 => ?_)
                  · replace hf := ine c48 hf
                    refine j_iconst C (0 : Int32) rfl dL_law_182 ?_
                    cases hf
                    refine j_sub [2, 3, 4, 5, 6, 7, 0] rfl ?_
                    exact j_wid (by omega) hj137
                  · replace hf := ip c48 hf
                    refine j_iconst C (1 : Int32) rfl dL_law_178 ?_
                    refine j_goto C 183 dL_law_179 (by decide) ?_
                    cases hf
                    refine j_sub [2, 3, 4, 5, 6, 7, 0] rfl ?_
                    exact j_wid (by omega) hj137
            clear hf
            have hf := e134
            refine j_icmp_ge C 103 dL_law_96 (by decide) (fun c35 => ?_) (fun c35 => ?_)
            · replace hf := ip c35 hf
              refine j_iload_n C 6 dL_law_103 rfl rfl ?_
              refine j_bipush C (12 : Int32) rfl dL_law_104 ?_
              refine j_icmp_ge C 113 dL_law_106 (by decide) (fun c36 => ?_) (fun c36 => ?_)
              · replace hf := ip c36 hf
                refine j_iload_n C 6 dL_law_113 rfl rfl ?_
                refine j_bipush C (8 : Int32) rfl dL_law_114 ?_
                refine j_irem C (by decide) dL_law_116 ?_
                refine j_bipush C (7 : Int32) rfl dL_law_117 ?_
                refine j_icmp_ne C 127 dL_law_119 (by decide) (fun c37 => ?_) (fun c37 => ?_)
                · replace hf := ine c37 hf
                  refine j_iload C 2 dL_law_127 rfl ?_
                  refine j_bipush C (16 : Int32) rfl dL_law_129 ?_
                  obtain ⟨v39, e38, hf⟩ := bd hf
                  refine j_callS C 2 (c_L_low l G n0 (M := M34) e38) gs_RL_165 ⟨rfl, rfl⟩ (by decide +kernel) ⟨Nat.le_of_ble_eq_true rfl, Nat.le_of_ble_eq_true rfl⟩ rfl rfl (Nat.le_of_ble_eq_true rfl) dL_law_131 ?_
                  cases hf
                  refine j_sub [3, 4, 6, 2, 1, 0] rfl ?_
                  exact j_wid (by omega) hj135
                · replace hf := ip c37 hf
                  refine j_bipush C (11 : Int32) rfl dL_law_122 ?_
                  refine j_goto C 134 dL_law_124 (by decide) ?_
                  cases hf
                  refine j_sub [3, 4, 6, 2, 1, 0] rfl ?_
                  exact j_wid (by omega) hj135
              · replace hf := ine c36 hf
                refine j_iconst C (4 : Int32) rfl dL_law_109 ?_
                refine j_goto C 134 dL_law_110 (by decide) ?_
                cases hf
                refine j_sub [3, 4, 6, 2, 1, 0] rfl ?_
                exact j_wid (by omega) hj135
            · replace hf := ine c35 hf
              refine j_iconst C (0 : Int32) rfl dL_law_99 ?_
              refine j_goto C 134 dL_law_100 (by decide) ?_
              cases hf
              refine j_sub [3, 4, 6, 2, 1, 0] rfl ?_
              exact j_wid (by omega) hj135
    refine j_sub [2, 3, 1, 0] rfl ?_
    exact hl129 53 ((0 + 1) + 192) z19 (0 : Int32) M20 (by omega) e127
  clear hf
  have hf := e125
  refine j_icmp_ne C 49 dL_law_14 (by decide) (fun c4 => ?_) (fun c4 => ?_)
  · replace hf := ine c4 hf
    refine j_iconst C (0 : Int32) rfl dL_law_49 ?_
    cases hf
    refine j_sub [1, 0] rfl ?_
    exact j_wid (by omega) hj126
  · replace hf := ip c4 hf
    refine j_aload_n C 0 dL_law_17 rfl rfl ?_
    obtain ⟨⟨b6, M7⟩, e5, hf⟩ := bd hf
    replace hf := un2e hf
    refine j_callK (k := 191) C (CC _ (by omega)) 1 (c_L_refused l hfl G n0 e5) gs_RL_173 ⟨rfl, rfl⟩ (by decide +kernel) ⟨Nat.le_of_ble_eq_true rfl, Nat.le_of_ble_eq_true rfl⟩ rfl rfl (Nat.le_of_ble_eq_true rfl) dL_law_18 ?_
    have C := CC ((0 + 1) + 191) (by omega)
    refine j_ifz_eq C 49 dL_law_21 (by decide) (fun c8 => ?_) (fun c8 => ?_)
    · replace hf := ine c8 hf
      refine j_iconst C (0 : Int32) rfl dL_law_49 ?_
      cases hf
      refine j_sub [1, 0] rfl ?_
      exact j_wid (by omega) hj126
    · replace hf := ip c8 hf
      refine j_aload_n C 0 dL_law_24 rfl rfl ?_
      obtain ⟨b10, e9, hf⟩ := bd hf
      refine j_callK (k := 0) C (CC _ (by omega)) 1 (c_L_areHouses l hfl G n0 e9) gs_RL_159 ⟨rfl, rfl⟩ (by decide +kernel) ⟨Nat.le_of_ble_eq_true rfl, Nat.le_of_ble_eq_true rfl⟩ rfl rfl (Nat.le_of_ble_eq_true rfl) dL_law_25 ?_
      have C := CC (((0 + 1) + 191) + 0) (by omega)
      refine j_ifz_eq C 49 dL_law_28 (by decide) (fun c11 => ?_) (fun c11 => ?_)
      · replace hf := ine c11 hf
        refine j_iconst C (0 : Int32) rfl dL_law_49 ?_
        cases hf
        refine j_sub [1, 0] rfl ?_
        exact j_wid (by omega) hj126
      · replace hf := ip c11 hf
        refine j_aload_n C 0 dL_law_31 rfl rfl ?_
        obtain ⟨⟨b13, M14⟩, e12, hf⟩ := bd hf
        replace hf := un2e hf
        refine j_callK (k := 0) C (CC _ (by omega)) 1 (c_L_areLoads l hfl G n0 e12) gs_RL_152 ⟨rfl, rfl⟩ (by decide +kernel) ⟨Nat.le_of_ble_eq_true rfl, Nat.le_of_ble_eq_true rfl⟩ rfl rfl (Nat.le_of_ble_eq_true rfl) dL_law_32 ?_
        have C := CC ((((0 + 1) + 191) + 0) + 0) (by omega)
        refine j_ifz_eq C 49 dL_law_35 (by decide) (fun c15 => ?_) (fun c15 => ?_)
        · replace hf := ine c15 hf
          refine j_iconst C (0 : Int32) rfl dL_law_49 ?_
          cases hf
          refine j_sub [1, 0] rfl ?_
          exact j_wid (by omega) hj126
        · replace hf := ip c15 hf
          refine j_aload_n C 0 dL_law_38 rfl rfl ?_
          obtain ⟨b17, e16, hf⟩ := bd hf
          refine j_callK (k := 1) C (CC _ (by omega)) 1 (c_L_areLoaves l hfl G n0 e16) gs_RL_156 ⟨rfl, rfl⟩ (by decide +kernel) ⟨Nat.le_of_ble_eq_true rfl, Nat.le_of_ble_eq_true rfl⟩ rfl rfl (Nat.le_of_ble_eq_true rfl) dL_law_39 ?_
          have C := CC (((((0 + 1) + 191) + 0) + 0) + 1) (by omega)
          refine j_ifz_eq C 49 dL_law_42 (by decide) (fun c18 => ?_) (fun c18 => ?_)
          · replace hf := ine c18 hf
            refine j_iconst C (0 : Int32) rfl dL_law_49 ?_
            cases hf
            refine j_sub [1, 0] rfl ?_
            exact j_wid (by omega) hj126
          · replace hf := ip c18 hf
            refine j_iconst C (1 : Int32) rfl dL_law_45 ?_
            refine j_goto C 50 dL_law_46 (by decide) ?_
            cases hf
            refine j_sub [1, 0] rfl ?_
            exact j_wid (by omega) hj126
