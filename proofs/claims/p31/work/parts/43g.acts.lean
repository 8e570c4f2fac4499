def fL_acts (x1 : Int32) (x2 : Int32) (M : Mem) : Option (Int32 × Mem) :=
  (gL_whole (0 : Int32) M).bind fun v2 =>
  (if v2 = 0 then (some (0 : Int32))
  else (if v2 = 0 then none else
  some (x2 - x2 / v2 * v2))).bind (fun z5 => (fL_low x1 (16 : Int32)).bind fun v7 =>
  if v7 = 0 then ((fL_join ((((1 : Int32) <<< ((x2 - x2 / (6 : Int32) * (6 : Int32)) &&& 31)) ||| ((1 : Int32) <<< (((x2 / (6 : Int32)) - (x2 / (6 : Int32)) / (6 : Int32) * (6 : Int32)) &&& 31))) ||| ((1 : Int32) <<< (((x2 / (36 : Int32)) - (x2 / (36 : Int32)) / (16 : Int32) * (16 : Int32)) &&& 31))) M).bind (un2 fun v9 M10 =>
  some (v9, M10)))
  else if v7 = 1 then ((fL_join ((((1 : Int32) <<< ((x2 - x2 / (6 : Int32) * (6 : Int32)) &&& 31)) ||| ((1 : Int32) <<< (((x2 / (6 : Int32)) - (x2 / (6 : Int32)) / (6 : Int32) * (6 : Int32)) &&& 31))) ||| ((1 : Int32) <<< (((x2 / (36 : Int32)) - (x2 / (36 : Int32)) / (16 : Int32) * (16 : Int32)) &&& 31))) M).bind (un2 fun v12 M13 =>
  some (v12, M13)))
  else if v7 = 2 then ((fL_remark z5 (((1 : Int32) <<< ((x2 - x2 / (7 : Int32) * (7 : Int32)) &&& 31)) ||| ((1 : Int32) <<< (((x2 / (7 : Int32)) - (x2 / (7 : Int32)) / (16 : Int32) * (16 : Int32)) &&& 31))) M).bind (un2 fun v15 M16 =>
  some (v15, M16)))
  else if v7 = 3 then ((fL_excuse z5 M).bind (un2 fun v18 M19 =>
  some (v18, M19)))
  else if v7 = 4 then ((fL_bring z5 ((x2 / (8 : Int32)) - (x2 / (8 : Int32)) / (3 : Int32) * (3 : Int32)) ((1 : Int32) + ((x2 / (24 : Int32)) - (x2 / (24 : Int32)) / (12 : Int32) * (12 : Int32))) M).bind (un2 fun v21 M22 =>
  some (v21, M22)))
  else if v7 = 5 then ((fL_bring z5 ((x2 / (8 : Int32)) - (x2 / (8 : Int32)) / (3 : Int32) * (3 : Int32)) ((1 : Int32) + ((x2 / (24 : Int32)) - (x2 / (24 : Int32)) / (12 : Int32) * (12 : Int32))) M).bind (un2 fun v24 M25 =>
  some (v24, M25)))
  else if v7 = 6 then ((fL_bring z5 ((x2 / (8 : Int32)) - (x2 / (8 : Int32)) / (3 : Int32) * (3 : Int32)) ((1 : Int32) + ((x2 / (24 : Int32)) - (x2 / (24 : Int32)) / (12 : Int32) * (12 : Int32))) M).bind (un2 fun v27 M28 =>
  some (v27, M28)))
  else if v7 = 7 then ((fL_bring z5 ((x2 / (8 : Int32)) - (x2 / (8 : Int32)) / (3 : Int32) * (3 : Int32)) ((1 : Int32) + ((x2 / (24 : Int32)) - (x2 / (24 : Int32)) / (12 : Int32) * (12 : Int32))) M).bind (un2 fun v30 M31 =>
  some (v30, M31)))
  else if v7 = 8 then ((fL_bring z5 ((x2 / (8 : Int32)) - (x2 / (8 : Int32)) / (3 : Int32) * (3 : Int32)) ((1 : Int32) + ((x2 / (24 : Int32)) - (x2 / (24 : Int32)) / (12 : Int32) * (12 : Int32))) M).bind (un2 fun v33 M34 =>
  some (v33, M34)))
  else if v7 = 9 then ((gL_whole (3 : Int32) M).bind fun v36 =>
  if v36 = 0 then ((fL_takeBack (0 : Int32) M).bind (un2 fun v45 M46 =>
  some (v45, M46)))
  else ((gL_whole (3 : Int32) M).bind fun v39 =>
  if v39 = 0 then none else
  (fL_takeBack (x2 - x2 / v39 * v39) M).bind (un2 fun v42 M43 =>
  some (v42, M43))))
  else if v7 = 10 then ((fL_setS (((2000 : Int32) * (x2 - x2 / (1000000 : Int32) * (1000000 : Int32))) + (x1 - x1 / (1000 : Int32) * (1000 : Int32))) M).bind (un2 fun v48 M49 =>
  some (v48, M49)))
  else if v7 = 11 then ((fL_bake ((1 : Int32) + (x2 - x2 / (40 : Int32) * (40 : Int32))) M).bind (un2 fun v51 M52 =>
  some (v51, M52)))
  else if v7 = 12 then ((fL_bake ((1 : Int32) + (x2 - x2 / (40 : Int32) * (40 : Int32))) M).bind (un2 fun v54 M55 =>
  some (v54, M55)))
  else if v7 = 13 then ((fL_claim z5 M).bind (un2 fun v57 M58 =>
  some (v57, M58)))
  else if v7 = 14 then ((fL_returnLoaves z5 M).bind (un2 fun v60 M61 =>
  some (v60, M61)))
  else (if (x2 - x2 / (3 : Int32) * (3 : Int32)) = 0 then ((fX11_giveAway M).bind (un2 fun v67 M68 =>
  some (v67, M68)))
  else ((fL_claim z5 M).bind (un2 fun v64 M65 =>
  some (v64, M65)))))

def rL_acts : Room := { frames := 9, cells := 1, slots := 6, locals := 175 }
set_option maxRecDepth 100000 in
set_option maxHeartbeats 8000000 in
theorem c_L_acts (l : Launch) (hfl : l.stackTraces = false) (G : Gx) (n0 : Nat) {x1 : Int32} {x2 : Int32} {M : Mem} {r : Int32} {M' : Mem} (hf : fL_acts x1 x2 M = some (r, M')) : CtK l yL_acts cL_acts 5 (some .int) rL_acts G n0 [.ref (n0 + 0), .int x1, .int x2] M (some (.int r)) M' 1 := by
  refine ctk_int (cc := cL_acts) (maxL := 5) rfl (Nat.le_of_ble_eq_true rfl) ⟨rfl, rfl⟩ ?_
  intro K CC hret
  have CC : ∀ a, a ≤ 1 → Ok (kc K a) l rL_acts cL_acts RL G n0 5 := CC
  show J (kc K 0) M 0 [(0, .ref (n0 + 0)), (1, .int x1), (2, .int x2)] []
  have C := CC 0 (by omega)
  unfold fL_acts at hf
  refine j_aload_n C 0 dL_acts_0 rfl rfl ?_
  refine j_iconst C (0 : Int32) rfl dL_acts_1 ?_
  obtain ⟨v2, e1, hf⟩ := bd hf
  refine j_callR C 2 (cg_L_whole l G n0 e1) gw_L_whole_91 ⟨rfl, rfl⟩ (by decide +kernel) ⟨Nat.le_of_ble_eq_true rfl, Nat.le_of_ble_eq_true rfl⟩ rfl rfl (Nat.le_of_ble_eq_true rfl) dL_acts_2 ?_
  refine j_istore_n C [(3, .int v2), (0, .ref (n0 + 0)), (1, .int x1), (2, .int x2)] dL_acts_5 rfl (Nat.le_of_ble_eq_true rfl) rfl ?_
  refine j_iload_n C 0 dL_acts_6 rfl rfl ?_
  obtain ⟨z5, e70, hf⟩ := bd hf
  have hj71 : J (kc K 0) M 17 [(0, .ref (n0 + 0)), (1, .int x1), (2, .int x2)] [.int z5] := by
    refine j_istore C [(4, .int z5), (0, .ref (n0 + 0)), (1, .int x1), (2, .int x2)] dL_acts_17 (Nat.le_of_ble_eq_true rfl) rfl ?_
    refine j_iload_n C 2 dL_acts_19 rfl rfl ?_
    refine j_bipush C (16 : Int32) rfl dL_acts_20 ?_
    obtain ⟨v7, e6, hf⟩ := bd hf
    refine j_callS C 2 (c_L_low l G n0 (M := M) e6) gs_RL_165 ⟨rfl, rfl⟩ (by decide +kernel) ⟨Nat.le_of_ble_eq_true rfl, Nat.le_of_ble_eq_true rfl⟩ rfl rfl (Nat.le_of_ble_eq_true rfl) dL_acts_22 ?_
    by_cases c69_0 : v7 = 0
    · replace hf := ip c69_0 hf
      refine j_tsw C 100 c69_0 dL_acts_25 (by decide) rfl (by decide) ?_
      refine j_aload_n C 1 dL_acts_100 rfl rfl ?_
      refine j_iconst C (1 : Int32) rfl dL_acts_101 ?_
      refine j_iload_n C 3 dL_acts_102 rfl rfl ?_
      refine j_bipush C (6 : Int32) rfl dL_acts_103 ?_
      refine j_irem C (by decide) dL_acts_105 ?_
      refine j_ishl C dL_acts_106 ?_
      refine j_iconst C (1 : Int32) rfl dL_acts_107 ?_
      refine j_iload_n C 3 dL_acts_108 rfl rfl ?_
      refine j_bipush C (6 : Int32) rfl dL_acts_109 ?_
      refine j_idiv C (by decide) dL_acts_111 ?_
      refine j_bipush C (6 : Int32) rfl dL_acts_112 ?_
      refine j_irem C (by decide) dL_acts_114 ?_
      refine j_ishl C dL_acts_115 ?_
      refine j_ior C dL_acts_116 ?_
      refine j_iconst C (1 : Int32) rfl dL_acts_117 ?_
      refine j_iload_n C 3 dL_acts_118 rfl rfl ?_
      refine j_bipush C (36 : Int32) rfl dL_acts_119 ?_
      refine j_idiv C (by decide) dL_acts_121 ?_
      refine j_bipush C (16 : Int32) rfl dL_acts_122 ?_
      refine j_irem C (by decide) dL_acts_124 ?_
      refine j_ishl C dL_acts_125 ?_
      refine j_ior C dL_acts_126 ?_
      obtain ⟨⟨v9, M10⟩, e8, hf⟩ := bd hf
      replace hf := un2e hf
      refine j_callW (k := 1) C (CC _ (by omega)) 2 (cf_L_join l hfl G n0 e8) gw_L_join_109 ⟨rfl, rfl⟩ (by decide +kernel) ⟨Nat.le_of_ble_eq_true rfl, Nat.le_of_ble_eq_true rfl⟩ rfl rfl (Nat.le_of_ble_eq_true rfl) dL_acts_127 ?_
      have C := CC (0 + 1) (by omega)
      obtain ⟨rfl, rfl⟩ := Prod.mk.inj (Option.some.inj hf)
      exact hret _ _ _ (by omega) dL_acts_130
    · replace hf := ine c69_0 hf
      by_cases c69_1 : v7 = 1
      · replace hf := ip c69_1 hf
        refine j_tsw C 100 c69_1 dL_acts_25 (by decide) rfl (by decide) ?_
        refine j_aload_n C 1 dL_acts_100 rfl rfl ?_
        refine j_iconst C (1 : Int32) rfl dL_acts_101 ?_
        refine j_iload_n C 3 dL_acts_102 rfl rfl ?_
        refine j_bipush C (6 : Int32) rfl dL_acts_103 ?_
        refine j_irem C (by decide) dL_acts_105 ?_
        refine j_ishl C dL_acts_106 ?_
        refine j_iconst C (1 : Int32) rfl dL_acts_107 ?_
        refine j_iload_n C 3 dL_acts_108 rfl rfl ?_
        refine j_bipush C (6 : Int32) rfl dL_acts_109 ?_
        refine j_idiv C (by decide) dL_acts_111 ?_
        refine j_bipush C (6 : Int32) rfl dL_acts_112 ?_
        refine j_irem C (by decide) dL_acts_114 ?_
        refine j_ishl C dL_acts_115 ?_
        refine j_ior C dL_acts_116 ?_
        refine j_iconst C (1 : Int32) rfl dL_acts_117 ?_
        refine j_iload_n C 3 dL_acts_118 rfl rfl ?_
        refine j_bipush C (36 : Int32) rfl dL_acts_119 ?_
        refine j_idiv C (by decide) dL_acts_121 ?_
        refine j_bipush C (16 : Int32) rfl dL_acts_122 ?_
        refine j_irem C (by decide) dL_acts_124 ?_
        refine j_ishl C dL_acts_125 ?_
        refine j_ior C dL_acts_126 ?_
        obtain ⟨⟨v12, M13⟩, e11, hf⟩ := bd hf
        replace hf := un2e hf
        refine j_callW (k := 1) C (CC _ (by omega)) 2 (cf_L_join l hfl G n0 e11) gw_L_join_109 ⟨rfl, rfl⟩ (by decide +kernel) ⟨Nat.le_of_ble_eq_true rfl, Nat.le_of_ble_eq_true rfl⟩ rfl rfl (Nat.le_of_ble_eq_true rfl) dL_acts_127 ?_
        have C := CC (0 + 1) (by omega)
        obtain ⟨rfl, rfl⟩ := Prod.mk.inj (Option.some.inj hf)
        exact hret _ _ _ (by omega) dL_acts_130
      · replace hf := ine c69_1 hf
        by_cases c69_2 : v7 = 2
        · replace hf := ip c69_2 hf
          refine j_tsw C 131 c69_2 dL_acts_25 (by decide) rfl (by decide) ?_
          refine j_aload_n C 1 dL_acts_131 rfl rfl ?_
          refine j_iload C 0 dL_acts_132 rfl ?_
          refine j_iconst C (1 : Int32) rfl dL_acts_134 ?_
          refine j_iload_n C 3 dL_acts_135 rfl rfl ?_
          refine j_bipush C (7 : Int32) rfl dL_acts_136 ?_
          refine j_irem C (by decide) dL_acts_138 ?_
          refine j_ishl C dL_acts_139 ?_
          refine j_iconst C (1 : Int32) rfl dL_acts_140 ?_
          refine j_iload_n C 3 dL_acts_141 rfl rfl ?_
          refine j_bipush C (7 : Int32) rfl dL_acts_142 ?_
          refine j_idiv C (by decide) dL_acts_144 ?_
          refine j_bipush C (16 : Int32) rfl dL_acts_145 ?_
          refine j_irem C (by decide) dL_acts_147 ?_
          refine j_ishl C dL_acts_148 ?_
          refine j_ior C dL_acts_149 ?_
          obtain ⟨⟨v15, M16⟩, e14, hf⟩ := bd hf
          replace hf := un2e hf
          refine j_callW (k := 1) C (CC _ (by omega)) 3 (cf_L_remark l hfl G n0 e14) gw_L_remark_111 ⟨rfl, rfl⟩ (by decide +kernel) ⟨Nat.le_of_ble_eq_true rfl, Nat.le_of_ble_eq_true rfl⟩ rfl rfl (Nat.le_of_ble_eq_true rfl) dL_acts_150 ?_
          have C := CC (0 + 1) (by omega)
          obtain ⟨rfl, rfl⟩ := Prod.mk.inj (Option.some.inj hf)
          exact hret _ _ _ (by omega) dL_acts_153
        · replace hf := ine c69_2 hf
          by_cases c69_3 : v7 = 3
          · replace hf := ip c69_3 hf
            refine j_tsw C 154 c69_3 dL_acts_25 (by decide) rfl (by decide) ?_
            refine j_aload_n C 1 dL_acts_154 rfl rfl ?_
            refine j_iload C 0 dL_acts_155 rfl ?_
            obtain ⟨⟨v18, M19⟩, e17, hf⟩ := bd hf
            replace hf := un2e hf
            refine j_callW (k := 1) C (CC _ (by omega)) 2 (cf_L_excuse l hfl G n0 e17) gw_L_excuse_113 ⟨rfl, rfl⟩ (by decide +kernel) ⟨Nat.le_of_ble_eq_true rfl, Nat.le_of_ble_eq_true rfl⟩ rfl rfl (Nat.le_of_ble_eq_true rfl) dL_acts_157 ?_
            have C := CC (0 + 1) (by omega)
            obtain ⟨rfl, rfl⟩ := Prod.mk.inj (Option.some.inj hf)
            exact hret _ _ _ (by omega) dL_acts_160
          · replace hf := ine c69_3 hf
            by_cases c69_4 : v7 = 4
            · replace hf := ip c69_4 hf
              refine j_tsw C 161 c69_4 dL_acts_25 (by decide) rfl (by decide) ?_
              refine j_aload_n C 1 dL_acts_161 rfl rfl ?_
              refine j_iload C 0 dL_acts_162 rfl ?_
              refine j_iload_n C 3 dL_acts_164 rfl rfl ?_
              refine j_bipush C (8 : Int32) rfl dL_acts_165 ?_
              refine j_idiv C (by decide) dL_acts_167 ?_
              refine j_iconst C (3 : Int32) rfl dL_acts_168 ?_
              refine j_irem C (by decide) dL_acts_169 ?_
              refine j_iconst C (1 : Int32) rfl dL_acts_170 ?_
              refine j_iload_n C 3 dL_acts_171 rfl rfl ?_
              refine j_bipush C (24 : Int32) rfl dL_acts_172 ?_
              refine j_idiv C (by decide) dL_acts_174 ?_
              refine j_bipush C (12 : Int32) rfl dL_acts_175 ?_
              refine j_irem C (by decide) dL_acts_177 ?_
              refine j_iadd C dL_acts_178 ?_
              obtain ⟨⟨v21, M22⟩, e20, hf⟩ := bd hf
              replace hf := un2e hf
              refine j_callW (k := 1) C (CC _ (by omega)) 4 (cf_L_bring l hfl G n0 e20) gw_L_bring_115 ⟨rfl, rfl⟩ (by decide +kernel) ⟨Nat.le_of_ble_eq_true rfl, Nat.le_of_ble_eq_true rfl⟩ rfl rfl (Nat.le_of_ble_eq_true rfl) dL_acts_179 ?_
              have C := CC (0 + 1) (by omega)
              obtain ⟨rfl, rfl⟩ := Prod.mk.inj (Option.some.inj hf)
              exact hret _ _ _ (by omega) dL_acts_182
            · replace hf := ine c69_4 hf
              by_cases c69_5 : v7 = 5
              · replace hf := ip c69_5 hf
                refine j_tsw C 161 c69_5 dL_acts_25 (by decide) rfl (by decide) ?_
                refine j_aload_n C 1 dL_acts_161 rfl rfl ?_
                refine j_iload C 0 dL_acts_162 rfl ?_
                refine j_iload_n C 3 dL_acts_164 rfl rfl ?_
                refine j_bipush C (8 : Int32) rfl dL_acts_165 ?_
                refine j_idiv C (by decide) dL_acts_167 ?_
                refine j_iconst C (3 : Int32) rfl dL_acts_168 ?_
                refine j_irem C (by decide) dL_acts_169 ?_
                refine j_iconst C (1 : Int32) rfl dL_acts_170 ?_
                refine j_iload_n C 3 dL_acts_171 rfl rfl ?_
                refine j_bipush C (24 : Int32) rfl dL_acts_172 ?_
                refine j_idiv C (by decide) dL_acts_174 ?_
                refine j_bipush C (12 : Int32) rfl dL_acts_175 ?_
                refine j_irem C (by decide) dL_acts_177 ?_
                refine j_iadd C dL_acts_178 ?_
                obtain ⟨⟨v24, M25⟩, e23, hf⟩ := bd hf
                replace hf := un2e hf
                refine j_callW (k := 1) C (CC _ (by omega)) 4 (cf_L_bring l hfl G n0 e23) gw_L_bring_115 ⟨rfl, rfl⟩ (by decide +kernel) ⟨Nat.le_of_ble_eq_true rfl, Nat.le_of_ble_eq_true rfl⟩ rfl rfl (Nat.le_of_ble_eq_true rfl) dL_acts_179 ?_
                have C := CC (0 + 1) (by omega)
                obtain ⟨rfl, rfl⟩ := Prod.mk.inj (Option.some.inj hf)
                exact hret _ _ _ (by omega) dL_acts_182
              · replace hf := ine c69_5 hf
                by_cases c69_6 : v7 = 6
                · replace hf := ip c69_6 hf
                  refine j_tsw C 161 c69_6 dL_acts_25 (by decide) rfl (by decide) ?_
                  refine j_aload_n C 1 dL_acts_161 rfl rfl ?_
                  refine j_iload C 0 dL_acts_162 rfl ?_
                  refine j_iload_n C 3 dL_acts_164 rfl rfl ?_
                  refine j_bipush C (8 : Int32) rfl dL_acts_165 ?_
                  refine j_idiv C (by decide) dL_acts_167 ?_
                  refine j_iconst C (3 : Int32) rfl dL_acts_168 ?_
                  refine j_irem C (by decide) dL_acts_169 ?_
                  refine j_iconst C (1 : Int32) rfl dL_acts_170 ?_
                  refine j_iload_n C 3 dL_acts_171 rfl rfl ?_
                  refine j_bipush C (24 : Int32) rfl dL_acts_172 ?_
                  refine j_idiv C (by decide) dL_acts_174 ?_
                  refine j_bipush C (12 : Int32) rfl dL_acts_175 ?_
                  refine j_irem C (by decide) dL_acts_177 ?_
                  refine j_iadd C dL_acts_178 ?_
                  obtain ⟨⟨v27, M28⟩, e26, hf⟩ := bd hf
                  replace hf := un2e hf
                  refine j_callW (k := 1) C (CC _ (by omega)) 4 (cf_L_bring l hfl G n0 e26) gw_L_bring_115 ⟨rfl, rfl⟩ (by decide +kernel) ⟨Nat.le_of_ble_eq_true rfl, Nat.le_of_ble_eq_true rfl⟩ rfl rfl (Nat.le_of_ble_eq_true rfl) dL_acts_179 ?_
                  have C := CC (0 + 1) (by omega)
                  obtain ⟨rfl, rfl⟩ := Prod.mk.inj (Option.some.inj hf)
                  exact hret _ _ _ (by omega) dL_acts_182
                · replace hf := ine c69_6 hf
                  by_cases c69_7 : v7 = 7
                  · replace hf := ip c69_7 hf
                    refine j_tsw C 161 c69_7 dL_acts_25 (by decide) rfl (by decide) ?_
                    refine j_aload_n C 1 dL_acts_161 rfl rfl ?_
                    refine j_iload C 0 dL_acts_162 rfl ?_
                    refine j_iload_n C 3 dL_acts_164 rfl rfl ?_
                    refine j_bipush C (8 : Int32) rfl dL_acts_165 ?_
                    refine j_idiv C (by decide) dL_acts_167 ?_
                    refine j_iconst C (3 : Int32) rfl dL_acts_168 ?_
                    refine j_irem C (by decide) dL_acts_169 ?_
                    refine j_iconst C (1 : Int32) rfl dL_acts_170 ?_
                    refine j_iload_n C 3 dL_acts_171 rfl rfl ?_
                    refine j_bipush C (24 : Int32) rfl dL_acts_172 ?_
                    refine j_idiv C (by decide) dL_acts_174 ?_
                    refine j_bipush C (12 : Int32) rfl dL_acts_175 ?_
                    refine j_irem C (by decide) dL_acts_177 ?_
                    refine j_iadd C dL_acts_178 ?_
                    obtain ⟨⟨v30, M31⟩, e29, hf⟩ := bd hf
                    replace hf := un2e hf
                    refine j_callW (k := 1) C (CC _ (by omega)) 4 (cf_L_bring l hfl G n0 e29) gw_L_bring_115 ⟨rfl, rfl⟩ (by decide +kernel) ⟨Nat.le_of_ble_eq_true rfl, Nat.le_of_ble_eq_true rfl⟩ rfl rfl (Nat.le_of_ble_eq_true rfl) dL_acts_179 ?_
                    have C := CC (0 + 1) (by omega)
                    obtain ⟨rfl, rfl⟩ := Prod.mk.inj (Option.some.inj hf)
                    exact hret _ _ _ (by omega) dL_acts_182
                  · replace hf := ine c69_7 hf
                    by_cases c69_8 : v7 = 8
                    · replace hf := ip c69_8 hf
                      refine j_tsw C 161 c69_8 dL_acts_25 (by decide) rfl (by decide) ?_
                      refine j_aload_n C 1 dL_acts_161 rfl rfl ?_
                      refine j_iload C 0 dL_acts_162 rfl ?_
                      refine j_iload_n C 3 dL_acts_164 rfl rfl ?_
                      refine j_bipush C (8 : Int32) rfl dL_acts_165 ?_
                      refine j_idiv C (by decide) dL_acts_167 ?_
                      refine j_iconst C (3 : Int32) rfl dL_acts_168 ?_
                      refine j_irem C (by decide) dL_acts_169 ?_
                      refine j_iconst C (1 : Int32) rfl dL_acts_170 ?_
                      refine j_iload_n C 3 dL_acts_171 rfl rfl ?_
                      refine j_bipush C (24 : Int32) rfl dL_acts_172 ?_
                      refine j_idiv C (by decide) dL_acts_174 ?_
                      refine j_bipush C (12 : Int32) rfl dL_acts_175 ?_
                      refine j_irem C (by decide) dL_acts_177 ?_
                      refine j_iadd C dL_acts_178 ?_
                      obtain ⟨⟨v33, M34⟩, e32, hf⟩ := bd hf
                      replace hf := un2e hf
                      refine j_callW (k := 1) C (CC _ (by omega)) 4 (cf_L_bring l hfl G n0 e32) gw_L_bring_115 ⟨rfl, rfl⟩ (by decide +kernel) ⟨Nat.le_of_ble_eq_true rfl, Nat.le_of_ble_eq_true rfl⟩ rfl rfl (Nat.le_of_ble_eq_true rfl) dL_acts_179 ?_
                      have C := CC (0 + 1) (by omega)
                      obtain ⟨rfl, rfl⟩ := Prod.mk.inj (Option.some.inj hf)
                      exact hret _ _ _ (by omega) dL_acts_182
                    · replace hf := ine c69_8 hf
                      by_cases c69_9 : v7 = 9
                      · replace hf := ip c69_9 hf
                        refine j_tsw C 183 c69_9 dL_acts_25 (by decide) rfl (by decide) ?_
                        refine j_aload_n C 1 dL_acts_183 rfl rfl ?_
                        refine j_aload_n C 1 dL_acts_184 rfl rfl ?_
                        refine j_iconst C (3 : Int32) rfl dL_acts_185 ?_
                        obtain ⟨v36, e35, hf⟩ := bd hf
                        refine j_callR C 2 (cg_L_whole l G n0 e35) gw_L_whole_91 ⟨rfl, rfl⟩ (by decide +kernel) ⟨Nat.le_of_ble_eq_true rfl, Nat.le_of_ble_eq_true rfl⟩ rfl rfl (Nat.le_of_ble_eq_true rfl) dL_acts_186 ?_
                        refine j_if_ne C 196 dL_acts_189 (by decide) (fun c37 => ?_) (fun c37 => ?_)
                        · replace hf := ine c37 hf
                          refine j_iload_n C 3 dL_acts_196 rfl rfl ?_
                          refine j_aload_n C 1 dL_acts_197 rfl rfl ?_
                          refine j_iconst C (3 : Int32) rfl dL_acts_198 ?_
                          obtain ⟨v39, e38, hf⟩ := bd hf
                          refine j_callR C 2 (cg_L_whole l G n0 e38) gw_L_whole_91 ⟨rfl, rfl⟩ (by decide +kernel) ⟨Nat.le_of_ble_eq_true rfl, Nat.le_of_ble_eq_true rfl⟩ rfl rfl (Nat.le_of_ble_eq_true rfl) dL_acts_199 ?_
                          obtain ⟨hd40, hf⟩ := gd hf
                          refine j_irem C hd40 dL_acts_202 ?_
                          obtain ⟨⟨v42, M43⟩, e41, hf⟩ := bd hf
                          replace hf := un2e hf
                          refine j_callW (k := 1) C (CC _ (by omega)) 2 (cf_L_takeBack l hfl G n0 e41) gw_L_takeBack_118 ⟨rfl, rfl⟩ (by decide +kernel) ⟨Nat.le_of_ble_eq_true rfl, Nat.le_of_ble_eq_true rfl⟩ rfl rfl (Nat.le_of_ble_eq_true rfl) dL_acts_203 ?_
                          have C := CC (0 + 1) (by omega)
                          obtain ⟨rfl, rfl⟩ := Prod.mk.inj (Option.some.inj hf)
                          exact hret _ _ _ (by omega) dL_acts_206
                        · replace hf := ip c37 hf
                          refine j_iconst C (0 : Int32) rfl dL_acts_192 ?_
                          refine j_goto C 203 dL_acts_193 (by decide) ?_
                          obtain ⟨⟨v45, M46⟩, e44, hf⟩ := bd hf
                          replace hf := un2e hf
                          refine j_callW (k := 1) C (CC _ (by omega)) 2 (cf_L_takeBack l hfl G n0 e44) gw_L_takeBack_118 ⟨rfl, rfl⟩ (by decide +kernel) ⟨Nat.le_of_ble_eq_true rfl, Nat.le_of_ble_eq_true rfl⟩ rfl rfl (Nat.le_of_ble_eq_true rfl) dL_acts_203 ?_
                          have C := CC (0 + 1) (by omega)
                          obtain ⟨rfl, rfl⟩ := Prod.mk.inj (Option.some.inj hf)
                          exact hret _ _ _ (by omega) dL_acts_206
                      · replace hf := ine c69_9 hf
                        by_cases c69_10 : v7 = 10
                        · replace hf := ip c69_10 hf
                          refine j_tsw C 207 c69_10 dL_acts_25 (by decide) rfl (by decide) ?_
                          refine j_aload_n C 1 dL_acts_207 rfl rfl ?_
                          refine j_sipush C (2000 : Int32) rfl dL_acts_208 ?_
                          refine j_iload_n C 3 dL_acts_211 rfl rfl ?_
                          refine j_ldc C tw5_18 dL_acts_212 ?_
                          refine j_irem C (by decide) dL_acts_214 ?_
                          refine j_imul C dL_acts_215 ?_
                          refine j_iload_n C 2 dL_acts_216 rfl rfl ?_
                          refine j_sipush C (1000 : Int32) rfl dL_acts_217 ?_
                          refine j_irem C (by decide) dL_acts_220 ?_
                          refine j_iadd C dL_acts_221 ?_
                          obtain ⟨⟨v48, M49⟩, e47, hf⟩ := bd hf
                          replace hf := un2e hf
                          refine j_callW (k := 1) C (CC _ (by omega)) 2 (cf_L_setS l hfl G n0 e47) gw_L_setS_120 ⟨rfl, rfl⟩ (by decide +kernel) ⟨Nat.le_of_ble_eq_true rfl, Nat.le_of_ble_eq_true rfl⟩ rfl rfl (Nat.le_of_ble_eq_true rfl) dL_acts_222 ?_
                          have C := CC (0 + 1) (by omega)
                          obtain ⟨rfl, rfl⟩ := Prod.mk.inj (Option.some.inj hf)
                          exact hret _ _ _ (by omega) dL_acts_225
                        · replace hf := ine c69_10 hf
                          by_cases c69_11 : v7 = 11
                          · replace hf := ip c69_11 hf
                            refine j_tsw C 226 c69_11 dL_acts_25 (by decide) rfl (by decide) ?_
                            refine j_aload_n C 1 dL_acts_226 rfl rfl ?_
                            refine j_iconst C (1 : Int32) rfl dL_acts_227 ?_
                            refine j_iload_n C 3 dL_acts_228 rfl rfl ?_
                            refine j_bipush C (40 : Int32) rfl dL_acts_229 ?_
                            refine j_irem C (by decide) dL_acts_231 ?_
                            refine j_iadd C dL_acts_232 ?_
                            obtain ⟨⟨v51, M52⟩, e50, hf⟩ := bd hf
                            replace hf := un2e hf
                            refine j_callW (k := 1) C (CC _ (by omega)) 2 (cf_L_bake l hfl G n0 e50) gw_L_bake_122 ⟨rfl, rfl⟩ (by decide +kernel) ⟨Nat.le_of_ble_eq_true rfl, Nat.le_of_ble_eq_true rfl⟩ rfl rfl (Nat.le_of_ble_eq_true rfl) dL_acts_233 ?_
                            have C := CC (0 + 1) (by omega)
                            obtain ⟨rfl, rfl⟩ := Prod.mk.inj (Option.some.inj hf)
                            exact hret _ _ _ (by omega) dL_acts_236
                          · replace hf := ine c69_11 hf
                            by_cases c69_12 : v7 = 12
                            · replace hf := ip c69_12 hf
                              refine j_tsw C 226 c69_12 dL_acts_25 (by decide) rfl (by decide) ?_
                              refine j_aload_n C 1 dL_acts_226 rfl rfl ?_
                              refine j_iconst C (1 : Int32) rfl dL_acts_227 ?_
                              refine j_iload_n C 3 dL_acts_228 rfl rfl ?_
                              refine j_bipush C (40 : Int32) rfl dL_acts_229 ?_
                              refine j_irem C (by decide) dL_acts_231 ?_
                              refine j_iadd C dL_acts_232 ?_
                              obtain ⟨⟨v54, M55⟩, e53, hf⟩ := bd hf
                              replace hf := un2e hf
                              refine j_callW (k := 1) C (CC _ (by omega)) 2 (cf_L_bake l hfl G n0 e53) gw_L_bake_122 ⟨rfl, rfl⟩ (by decide +kernel) ⟨Nat.le_of_ble_eq_true rfl, Nat.le_of_ble_eq_true rfl⟩ rfl rfl (Nat.le_of_ble_eq_true rfl) dL_acts_233 ?_
                              have C := CC (0 + 1) (by omega)
                              obtain ⟨rfl, rfl⟩ := Prod.mk.inj (Option.some.inj hf)
                              exact hret _ _ _ (by omega) dL_acts_236
                            · replace hf := ine c69_12 hf
                              by_cases c69_13 : v7 = 13
                              · replace hf := ip c69_13 hf
                                refine j_tsw C 237 c69_13 dL_acts_25 (by decide) rfl (by decide) ?_
                                refine j_aload_n C 1 dL_acts_237 rfl rfl ?_
                                refine j_iload C 0 dL_acts_238 rfl ?_
                                obtain ⟨⟨v57, M58⟩, e56, hf⟩ := bd hf
                                replace hf := un2e hf
                                refine j_callW (k := 1) C (CC _ (by omega)) 2 (cf_L_claim l hfl G n0 e56) gw_L_claim_124 ⟨rfl, rfl⟩ (by decide +kernel) ⟨Nat.le_of_ble_eq_true rfl, Nat.le_of_ble_eq_true rfl⟩ rfl rfl (Nat.le_of_ble_eq_true rfl) dL_acts_240 ?_
                                have C := CC (0 + 1) (by omega)
                                obtain ⟨rfl, rfl⟩ := Prod.mk.inj (Option.some.inj hf)
                                exact hret _ _ _ (by omega) dL_acts_243
                              · replace hf := ine c69_13 hf
                                by_cases c69_14 : v7 = 14
                                · replace hf := ip c69_14 hf
                                  refine j_tsw C 244 c69_14 dL_acts_25 (by decide) rfl (by decide) ?_
                                  refine j_aload_n C 1 dL_acts_244 rfl rfl ?_
                                  refine j_iload C 0 dL_acts_245 rfl ?_
                                  obtain ⟨⟨v60, M61⟩, e59, hf⟩ := bd hf
                                  replace hf := un2e hf
                                  refine j_callW (k := 1) C (CC _ (by omega)) 2 (cf_L_returnLoaves l hfl G n0 e59) gw_L_returnLoaves_126 ⟨rfl, rfl⟩ (by decide +kernel) ⟨Nat.le_of_ble_eq_true rfl, Nat.le_of_ble_eq_true rfl⟩ rfl rfl (Nat.le_of_ble_eq_true rfl) dL_acts_247 ?_
                                  have C := CC (0 + 1) (by omega)
                                  obtain ⟨rfl, rfl⟩ := Prod.mk.inj (Option.some.inj hf)
                                  exact hret _ _ _ (by omega) dL_acts_250
                                · replace hf := ine c69_14 hf
                                  refine j_tswD C 251 (by have g0 := lv_neT c69_0 (show (0 : Int32).toInt = 0 by decide); have g1 := lv_neT c69_1 (show (1 : Int32).toInt = 1 by decide); have g2 := lv_neT c69_2 (show (2 : Int32).toInt = 2 by decide); have g3 := lv_neT c69_3 (show (3 : Int32).toInt = 3 by decide); have g4 := lv_neT c69_4 (show (4 : Int32).toInt = 4 by decide); have g5 := lv_neT c69_5 (show (5 : Int32).toInt = 5 by decide); have g6 := lv_neT c69_6 (show (6 : Int32).toInt = 6 by decide); have g7 := lv_neT c69_7 (show (7 : Int32).toInt = 7 by decide); have g8 := lv_neT c69_8 (show (8 : Int32).toInt = 8 by decide); have g9 := lv_neT c69_9 (show (9 : Int32).toInt = 9 by decide); have g10 := lv_neT c69_10 (show (10 : Int32).toInt = 10 by decide); have g11 := lv_neT c69_11 (show (11 : Int32).toInt = 11 by decide); have g12 := lv_neT c69_12 (show (12 : Int32).toInt = 12 by decide); have g13 := lv_neT c69_13 (show (13 : Int32).toInt = 13 by decide); have g14 := lv_neT c69_14 (show (14 : Int32).toInt = 14 by decide); omega) dL_acts_25 (by decide) ?_
                                  refine j_iload_n C 3 dL_acts_251 rfl rfl ?_
                                  refine j_iconst C (3 : Int32) rfl dL_acts_252 ?_
                                  refine j_irem C (by decide) dL_acts_253 ?_
                                  refine j_if_ne C 264 dL_acts_254 (by decide) (fun c62 => ?_) (fun c62 => ?_)
                                  · replace hf := ine c62 hf
                                    refine j_aload_n C 1 dL_acts_264 rfl rfl ?_
                                    refine j_iload C 0 dL_acts_265 rfl ?_
                                    obtain ⟨⟨v64, M65⟩, e63, hf⟩ := bd hf
                                    replace hf := un2e hf
                                    refine j_callW (k := 1) C (CC _ (by omega)) 2 (cf_L_claim l hfl G n0 e63) gw_L_claim_124 ⟨rfl, rfl⟩ (by decide +kernel) ⟨Nat.le_of_ble_eq_true rfl, Nat.le_of_ble_eq_true rfl⟩ rfl rfl (Nat.le_of_ble_eq_true rfl) dL_acts_267 ?_
                                    have C := CC (0 + 1) (by omega)
                                    obtain ⟨rfl, rfl⟩ := Prod.mk.inj (Option.some.inj hf)
                                    exact hret _ _ _ (by omega) dL_acts_270
                                  · replace hf := ip c62 hf
                                    refine j_aload_n C 1 dL_acts_257 rfl rfl ?_
                                    obtain ⟨⟨v67, M68⟩, e66, hf⟩ := bd hf
                                    replace hf := un2e hf
                                    refine j_callV C 0 lc0 (ent_K _ _ _ _ _ _) rfl (c_X11_giveAway l G n0 e66) gv_RL_169 ⟨rfl, rfl⟩ (by decide +kernel) ⟨Nat.le_of_ble_eq_true rfl, Nat.le_of_ble_eq_true rfl⟩ rfl rfl (Nat.le_of_ble_eq_true rfl) dL_acts_258 ?_
                                    refine j_goto C 270 dL_acts_261 (by decide) ?_
                                    obtain ⟨rfl, rfl⟩ := Prod.mk.inj (Option.some.inj hf)
                                    exact hret _ _ _ (by omega) dL_acts_270
  clear hf
  have hf := e70
  refine j_if_ne C 14 dL_acts_7 (by decide) (fun c3 => ?_) (fun c3 => ?_)
  · replace hf := ine c3 hf
    refine j_iload_n C 3 dL_acts_14 rfl rfl ?_
    refine j_iload_n C 0 dL_acts_15 rfl rfl ?_
    obtain ⟨hd4, hf⟩ := gd hf
    refine j_irem C hd4 dL_acts_16 ?_
    cases hf
    refine j_sub [1, 2, 3] rfl ?_
    exact j_wid (by omega) hj71
  · replace hf := ip c3 hf
    refine j_iconst C (0 : Int32) rfl dL_acts_10 ?_
    refine j_goto C 17 dL_acts_11 (by decide) ?_
    cases hf
    refine j_sub [1, 2, 3] rfl ?_
    exact j_wid (by omega) hj71
