def lL_areLoaves_93 (M : Mem) : Nat → Int32 → Int32 → Int32 → Bool → Int32 → Option (Int32 × Int32 × Bool)
  | 0, _, _, _, _, _ => none
  | n + 1, a24, a25, a26, a27, a28 =>
  (gL_whole (7 : Int32) M).bind fun v30 =>
  if v30 ≤ a28 then (some (a24, a26, a27))
  else (if a27 = true then ((gL_loaf a28 (4 : Int32) M).bind fun v34 =>
  (gL_loaf a28 (5 : Int32) M).bind fun v36 =>
  (gL_loaf a28 (0 : Int32) M).bind fun v38 =>
  (if v36 = (8 : Int32) then (some (1 : Int32))
  else (some (0 : Int32))).bind (fun z40 => (gL_loaf a28 (3 : Int32) M).bind fun v42 =>
  (if v38 < 0 then (some false)
  else ((gL_whole (0 : Int32) M).bind fun v45 =>
  if v45 ≤ v38 then (some false)
  else ((gL_loaf a28 (1 : Int32) M).bind fun v48 =>
  if v48 < 0 then (some false)
  else ((gL_loaf a28 (1 : Int32) M).bind fun v51 =>
  if (3 : Int32) ≤ v51 then (some false)
  else ((gL_loaf a28 (2 : Int32) M).bind fun v54 =>
  if v54 < a25 then (some false)
  else ((gL_loaf a28 (2 : Int32) M).bind fun v57 =>
  (gL_whole (1 : Int32) M).bind fun v59 =>
  if v59 ≤ v57 then (some false)
  else (if v34 < 0 then (some false)
  else (if (65536 : Int32) ≤ v34 then (some false)
  else ((gL_loaf a28 (6 : Int32) M).bind fun v64 =>
  if v64 < 0 then (some false)
  else ((gL_loaf a28 (6 : Int32) M).bind fun v67 =>
  if (3 : Int32) < v67 then (some false)
  else ((fL_ones v34).bind fun v70 =>
  (gL_loaf a28 (6 : Int32) M).bind fun v72 =>
  if (16 : Int32) < (v70 + v72) then (some false)
  else (if v36 < (-1 : Int32) then (if v36 = (8 : Int32) then (some true)
  else (some false))
  else ((gL_whole (0 : Int32) M).bind fun v77 =>
  if v36 < v77 then (some true)
  else (if v36 = (8 : Int32) then (some true)
  else (some false))))))))))))))).bind (fun z80 => (gL_loaf a28 (2 : Int32) M).bind fun v82 =>
  lL_areLoaves_93 M n (a24 + z40) v82 (a26 + v42) z80 (a28 + 1))))
  else (some (a24, a26, a27)))

def fL_areLoaves  (M : Mem) : Option Bool :=
  (gL_whole (7 : Int32) M).bind fun v2 =>
  (gL_whole (9 : Int32) M).bind fun v4 =>
  (gL_whole (9 : Int32) M).bind fun v6 =>
  (if (200 : Int32) < v6 then (some false)
  else (if (v2 - v4) < 0 then (some false)
  else ((gL_whole (8 : Int32) M).bind fun v10 =>
  (gL_whole (7 : Int32) M).bind fun v12 =>
  if v12 < v10 then (some false)
  else ((gL_whole (7 : Int32) M).bind fun v15 =>
  (gL_whole (5 : Int32) M).bind fun v17 =>
  if v15 = v17 then (if (v2 - v4) = 0 then (some true)
  else ((fL_loaf ((v2 - v4) - (1 : Int32)) (0 : Int32) M).bind fun v21 =>
  if v21 = (-5000003 : Int32) then (some true)
  else (some false)))
  else (some false))))).bind (fun z23 => (lL_areLoaves_93 M FUEL (0 : Int32) (0 : Int32) (0 : Int32) z23 (v2 - v4)).bind (un3 fun a83 a84 a85 => if a85 = true then ((gL_whole (10 : Int32) M).bind fun v88 =>
  if a83 = v88 then ((gL_whole (8 : Int32) M).bind fun v91 =>
  if v91 < a84 then (some false)
  else (some true))
  else (some false))
  else (some false)))

def rL_areLoaves : Room := { frames := 9, cells := 1, slots := 6, locals := 156 }
set_option maxRecDepth 100000 in
set_option maxHeartbeats 8000000 in
theorem c_L_areLoaves (l : Launch) (hfl : l.stackTraces = false) (G : Gx) (n0 : Nat) {M : Mem} {r : Bool} (hf : fL_areLoaves M = some r) : CtK l yL_areLoaves cL_areLoaves 10 (some .boolean) rL_areLoaves G n0 [.ref (n0 + 0)] M (some (.int (bI r))) M 1 := by
  refine ctk_bool (cc := cL_areLoaves) (maxL := 10) rfl (Nat.le_of_ble_eq_true rfl) ⟨rfl, rfl⟩ ?_
  intro K CC hret
  have CC : ∀ a, a ≤ 1 → Ok (kc K a) l rL_areLoaves cL_areLoaves RL G n0 10 := CC
  show J (kc K 0) M 0 [(0, .ref (n0 + 0))] []
  have C := CC 0 (by omega)
  unfold fL_areLoaves at hf
  refine j_aload_n C 0 dL_areLoaves_0 rfl rfl ?_
  refine j_bipush C (7 : Int32) rfl dL_areLoaves_1 ?_
  obtain ⟨v2, e1, hf⟩ := bd hf
  refine j_callR C 2 (cg_L_whole l G n0 e1) gw_L_whole_91 ⟨rfl, rfl⟩ (by decide +kernel) ⟨Nat.le_of_ble_eq_true rfl, Nat.le_of_ble_eq_true rfl⟩ rfl rfl (Nat.le_of_ble_eq_true rfl) dL_areLoaves_3 ?_
  refine j_aload_n C 0 dL_areLoaves_6 rfl rfl ?_
  refine j_bipush C (9 : Int32) rfl dL_areLoaves_7 ?_
  obtain ⟨v4, e3, hf⟩ := bd hf
  refine j_callR C 2 (cg_L_whole l G n0 e3) gw_L_whole_91 ⟨rfl, rfl⟩ (by decide +kernel) ⟨Nat.le_of_ble_eq_true rfl, Nat.le_of_ble_eq_true rfl⟩ rfl rfl (Nat.le_of_ble_eq_true rfl) dL_areLoaves_9 ?_
  refine j_isub C dL_areLoaves_12 ?_
  refine j_istore_n C [(1, .int (v2 - v4)), (0, .ref (n0 + 0))] dL_areLoaves_13 rfl (Nat.le_of_ble_eq_true rfl) rfl ?_
  refine j_iconst C (0 : Int32) rfl dL_areLoaves_14 ?_
  refine j_istore_n C [(2, .int (0 : Int32)), (1, .int (v2 - v4)), (0, .ref (n0 + 0))] dL_areLoaves_15 rfl (Nat.le_of_ble_eq_true rfl) rfl ?_
  refine j_iconst C (0 : Int32) rfl dL_areLoaves_16 ?_
  refine j_istore_n C [(3, .int (0 : Int32)), (2, .int (0 : Int32)), (1, .int (v2 - v4)), (0, .ref (n0 + 0))] dL_areLoaves_17 rfl (Nat.le_of_ble_eq_true rfl) rfl ?_
  refine j_iconst C (0 : Int32) rfl dL_areLoaves_18 ?_
  refine j_istore C [(4, .int (0 : Int32)), (3, .int (0 : Int32)), (2, .int (0 : Int32)), (1, .int (v2 - v4)), (0, .ref (n0 + 0))] dL_areLoaves_19 (Nat.le_of_ble_eq_true rfl) rfl ?_
  refine j_aload_n C 4 dL_areLoaves_21 rfl rfl ?_
  refine j_bipush C (9 : Int32) rfl dL_areLoaves_22 ?_
  obtain ⟨v6, e5, hf⟩ := bd hf
  refine j_callR C 2 (cg_L_whole l G n0 e5) gw_L_whole_91 ⟨rfl, rfl⟩ (by decide +kernel) ⟨Nat.le_of_ble_eq_true rfl, Nat.le_of_ble_eq_true rfl⟩ rfl rfl (Nat.le_of_ble_eq_true rfl) dL_areLoaves_24 ?_
  refine j_sipush C (200 : Int32) rfl dL_areLoaves_27 ?_
  obtain ⟨z23, e93, hf⟩ := bd hf
  have hj94 : J (kc K (0 + 1)) M 88 [(0, .ref (n0 + 0)), (1, .int (v2 - v4)), (2, .int (0 : Int32)), (3, .int (0 : Int32)), (4, .int (0 : Int32))] [.int (bI z23)] := by
    have C := CC (0 + 1) (by omega)
    refine j_istore C [(5, .int (bI z23)), (0, .ref (n0 + 0)), (1, .int (v2 - v4)), (2, .int (0 : Int32)), (3, .int (0 : Int32)), (4, .int (0 : Int32))] dL_areLoaves_88 (Nat.le_of_ble_eq_true rfl) rfl ?_
    refine j_iload_n C 2 dL_areLoaves_90 rfl rfl ?_
    refine j_istore C [(6, .int (v2 - v4)), (5, .int (bI z23)), (0, .ref (n0 + 0)), (1, .int (v2 - v4)), (2, .int (0 : Int32)), (3, .int (0 : Int32)), (4, .int (0 : Int32))] dL_areLoaves_91 (Nat.le_of_ble_eq_true rfl) rfl ?_
    obtain ⟨⟨a83, a84, a85⟩, e95, hf⟩ := bd hf
    replace hf := un3e hf
    have hx96 : J (kc K (0 + 1)) M 323 [(0, .ref (n0 + 0)), (2, .int a83), (4, .int a84), (5, .int (bI a85))] [] := by
      refine j_iload C 3 dL_areLoaves_323 rfl ?_
      refine j_ifz_eq C 353 dL_areLoaves_325 (by decide) (fun c86 => ?_) (fun c86 => ?_)
      · replace hf := ine c86 hf
        refine j_iconst C (0 : Int32) rfl dL_areLoaves_353 ?_
        obtain rfl := Option.some.inj hf
        exact hret _ _ _ (by omega) dL_areLoaves_354
      · replace hf := ip c86 hf
        refine j_iload_n C 1 dL_areLoaves_328 rfl rfl ?_
        refine j_aload_n C 0 dL_areLoaves_329 rfl rfl ?_
        refine j_bipush C (10 : Int32) rfl dL_areLoaves_330 ?_
        obtain ⟨v88, e87, hf⟩ := bd hf
        refine j_callR C 2 (cg_L_whole l G n0 e87) gw_L_whole_91 ⟨rfl, rfl⟩ (by decide +kernel) ⟨Nat.le_of_ble_eq_true rfl, Nat.le_of_ble_eq_true rfl⟩ rfl rfl (Nat.le_of_ble_eq_true rfl) dL_areLoaves_332 ?_
        refine j_icmp_ne C 353 dL_areLoaves_335 (by decide) (fun c89 => ?_) (fun c89 => ?_)
        · replace hf := ine c89 hf
          refine j_iconst C (0 : Int32) rfl dL_areLoaves_353 ?_
          obtain rfl := Option.some.inj hf
          exact hret _ _ _ (by omega) dL_areLoaves_354
        · replace hf := ip c89 hf
          refine j_iload C 2 dL_areLoaves_338 rfl ?_
          refine j_aload_n C 0 dL_areLoaves_340 rfl rfl ?_
          refine j_bipush C (8 : Int32) rfl dL_areLoaves_341 ?_
          obtain ⟨v91, e90, hf⟩ := bd hf
          refine j_callR C 2 (cg_L_whole l G n0 e90) gw_L_whole_91 ⟨rfl, rfl⟩ (by decide +kernel) ⟨Nat.le_of_ble_eq_true rfl, Nat.le_of_ble_eq_true rfl⟩ rfl rfl (Nat.le_of_ble_eq_true rfl) dL_areLoaves_343 ?_
          refine j_icmp_gt C 353 dL_areLoaves_346 (by decide) (fun c92 => ?_) (fun c92 => ?_)
          · replace hf := ip c92 hf
            refine j_iconst C (0 : Int32) rfl dL_areLoaves_353 ?_
            obtain rfl := Option.some.inj hf
            exact hret _ _ _ (by omega) dL_areLoaves_354
          · replace hf := ine c92 hf
            refine j_iconst C (1 : Int32) rfl dL_areLoaves_349 ?_
            refine j_goto C 354 dL_areLoaves_350 (by decide) ?_
            obtain rfl := Option.some.inj hf
            exact hret _ _ _ (by omega) dL_areLoaves_354
    clear hf
    have hl97 : ∀ (n : Nat) (a24 : Int32) (a25 : Int32) (a26 : Int32) (a27 : Bool) (a28 : Int32), lL_areLoaves_93 M n a24 a25 a26 a27 a28 = some (a83, a84, a85) → J (kc K (0 + 1)) M 93 [(0, .ref (n0 + 0)), (2, .int a24), (3, .int a25), (4, .int a26), (5, .int (bI a27)), (6, .int a28)] [] := by
      intro n
      induction n with
      | zero =>
        intro a24 a25 a26 a27 a28 hf
        exact absurd hf (by rw [lL_areLoaves_93]; exact fun h => by cases h)
      | succ n ih =>
        intro a24 a25 a26 a27 a28 hf
        rw [lL_areLoaves_93] at hf
        refine j_iload C 5 dL_areLoaves_93 rfl ?_
        refine j_aload_n C 0 dL_areLoaves_95 rfl rfl ?_
        refine j_bipush C (7 : Int32) rfl dL_areLoaves_96 ?_
        obtain ⟨v30, e29, hf⟩ := bd hf
        refine j_callR C 2 (cg_L_whole l G n0 e29) gw_L_whole_91 ⟨rfl, rfl⟩ (by decide +kernel) ⟨Nat.le_of_ble_eq_true rfl, Nat.le_of_ble_eq_true rfl⟩ rfl rfl (Nat.le_of_ble_eq_true rfl) dL_areLoaves_98 ?_
        refine j_icmp_ge C 323 dL_areLoaves_101 (by decide) (fun c31 => ?_) (fun c31 => ?_)
        · replace hf := ip c31 hf
          refine j_sub [0, 1, 3, 4] rfl ?_
          cases hf
          exact j_wid (by omega) hx96
        · replace hf := ine c31 hf
          refine j_iload C 4 dL_areLoaves_104 rfl ?_
          refine j_ifz_eq C 323 dL_areLoaves_106 (by decide) (fun c32 => ?_) (fun c32 => ?_)
          · replace hf := ine c32 hf
            refine j_sub [0, 1, 3, 4] rfl ?_
            cases hf
            exact j_wid (by omega) hx96
          · replace hf := ip c32 hf
            refine j_aload_n C 0 dL_areLoaves_109 rfl rfl ?_
            refine j_iload C 5 dL_areLoaves_110 rfl ?_
            refine j_iconst C (4 : Int32) rfl dL_areLoaves_112 ?_
            obtain ⟨v34, e33, hf⟩ := bd hf
            refine j_callR C 3 (cg_L_loaf l G n0 e33) gw_L_loaf_103 ⟨rfl, rfl⟩ (by decide +kernel) ⟨Nat.le_of_ble_eq_true rfl, Nat.le_of_ble_eq_true rfl⟩ rfl rfl (Nat.le_of_ble_eq_true rfl) dL_areLoaves_113 ?_
            refine j_istore C [(7, .int v34), (0, .ref (n0 + 0)), (2, .int a24), (3, .int a25), (4, .int a26), (5, .int (bI a27)), (6, .int a28)] dL_areLoaves_116 (Nat.le_of_ble_eq_true rfl) rfl ?_
            refine j_aload_n C 1 dL_areLoaves_118 rfl rfl ?_
            refine j_iload C 6 dL_areLoaves_119 rfl ?_
            refine j_iconst C (5 : Int32) rfl dL_areLoaves_121 ?_
            obtain ⟨v36, e35, hf⟩ := bd hf
            refine j_callR C 3 (cg_L_loaf l G n0 e35) gw_L_loaf_103 ⟨rfl, rfl⟩ (by decide +kernel) ⟨Nat.le_of_ble_eq_true rfl, Nat.le_of_ble_eq_true rfl⟩ rfl rfl (Nat.le_of_ble_eq_true rfl) dL_areLoaves_122 ?_
            refine j_istore C [(8, .int v36), (7, .int v34), (0, .ref (n0 + 0)), (2, .int a24), (3, .int a25), (4, .int a26), (5, .int (bI a27)), (6, .int a28)] dL_areLoaves_125 (Nat.le_of_ble_eq_true rfl) rfl ?_
            refine j_aload_n C 2 dL_areLoaves_127 rfl rfl ?_
            refine j_iload C 7 dL_areLoaves_128 rfl ?_
            refine j_iconst C (0 : Int32) rfl dL_areLoaves_130 ?_
            obtain ⟨v38, e37, hf⟩ := bd hf
            refine j_callR C 3 (cg_L_loaf l G n0 e37) gw_L_loaf_103 ⟨rfl, rfl⟩ (by decide +kernel) ⟨Nat.le_of_ble_eq_true rfl, Nat.le_of_ble_eq_true rfl⟩ rfl rfl (Nat.le_of_ble_eq_true rfl) dL_areLoaves_131 ?_
            refine j_istore C [(9, .int v38), (8, .int v36), (7, .int v34), (0, .ref (n0 + 0)), (2, .int a24), (3, .int a25), (4, .int a26), (5, .int (bI a27)), (6, .int a28)] dL_areLoaves_134 (Nat.le_of_ble_eq_true rfl) rfl ?_
            refine j_iload_n C 4 dL_areLoaves_136 rfl rfl ?_
            refine j_iload C 1 dL_areLoaves_137 rfl ?_
            refine j_bipush C (8 : Int32) rfl dL_areLoaves_139 ?_
            obtain ⟨z40, e100, hf⟩ := bd hf
            have hj101 : J (kc K (0 + 1)) M 149 [(0, .ref (n0 + 0)), (3, .int a25), (4, .int a26), (6, .int a28), (7, .int v34), (8, .int v36), (9, .int v38)] [.int z40, .int a24] := by
              refine j_iadd C dL_areLoaves_149 ?_
              refine j_istore_n C [(2, .int (a24 + z40)), (0, .ref (n0 + 0)), (3, .int a25), (4, .int a26), (6, .int a28), (7, .int v34), (8, .int v36), (9, .int v38)] dL_areLoaves_150 rfl (Nat.le_of_ble_eq_true rfl) rfl ?_
              refine j_iload C 3 dL_areLoaves_151 rfl ?_
              refine j_aload_n C 1 dL_areLoaves_153 rfl rfl ?_
              refine j_iload C 4 dL_areLoaves_154 rfl ?_
              refine j_iconst C (3 : Int32) rfl dL_areLoaves_156 ?_
              obtain ⟨v42, e41, hf⟩ := bd hf
              refine j_callR C 3 (cg_L_loaf l G n0 e41) gw_L_loaf_103 ⟨rfl, rfl⟩ (by decide +kernel) ⟨Nat.le_of_ble_eq_true rfl, Nat.le_of_ble_eq_true rfl⟩ rfl rfl (Nat.le_of_ble_eq_true rfl) dL_areLoaves_157 ?_
              refine j_iadd C dL_areLoaves_160 ?_
              refine j_istore C [(4, .int (a26 + v42)), (2, .int (a24 + z40)), (0, .ref (n0 + 0)), (3, .int a25), (6, .int a28), (7, .int v34), (8, .int v36), (9, .int v38)] dL_areLoaves_161 (Nat.le_of_ble_eq_true rfl) rfl ?_
              refine j_iload C 7 dL_areLoaves_163 rfl ?_
              obtain ⟨z80, e102, hf⟩ := bd hf
              have hj103 : J (kc K (0 + 1)) M 307 [(0, .ref (n0 + 0)), (2, .int (a24 + z40)), (4, .int (a26 + v42)), (6, .int a28)] [.int (bI z80)] := by
                refine j_istore C [(5, .int (bI z80)), (0, .ref (n0 + 0)), (2, .int (a24 + z40)), (4, .int (a26 + v42)), (6, .int a28)] dL_areLoaves_307 (Nat.le_of_ble_eq_true rfl) rfl ?_
                refine j_aload_n C 1 dL_areLoaves_309 rfl rfl ?_
                refine j_iload C 4 dL_areLoaves_310 rfl ?_
                refine j_iconst C (2 : Int32) rfl dL_areLoaves_312 ?_
                obtain ⟨v82, e81, hf⟩ := bd hf
                refine j_callR C 3 (cg_L_loaf l G n0 e81) gw_L_loaf_103 ⟨rfl, rfl⟩ (by decide +kernel) ⟨Nat.le_of_ble_eq_true rfl, Nat.le_of_ble_eq_true rfl⟩ rfl rfl (Nat.le_of_ble_eq_true rfl) dL_areLoaves_313 ?_
                refine j_istore_n C [(3, .int v82), (5, .int (bI z80)), (0, .ref (n0 + 0)), (2, .int (a24 + z40)), (4, .int (a26 + v42)), (6, .int a28)] dL_areLoaves_316 rfl (Nat.le_of_ble_eq_true rfl) rfl ?_
                refine j_iinc C 5 (a28 + 1) [(6, .int (a28 + 1)), (3, .int v82), (5, .int (bI z80)), (0, .ref (n0 + 0)), (2, .int (a24 + z40)), (4, .int (a26 + v42))] dL_areLoaves_317 rfl rfl (Nat.le_of_ble_eq_true rfl) rfl ?_
                refine j_goto C 93 dL_areLoaves_320 (by decide) ?_
                refine j_sub [3, 4, 1, 5, 2, 0] rfl ?_
                exact ih _ _ _ _ _ hf
              clear hf
              have hf := e102
              refine j_if_lt C 306 dL_areLoaves_165 (by decide) (fun c43 => ?_) (fun c43 => ?_)
              · replace hf := ip c43 hf
                refine j_iconst C (0 : Int32) rfl dL_areLoaves_306 ?_
                cases hf
                refine j_sub [2, 1, 0, 4] rfl ?_
                exact j_wid (by omega) hj103
              · replace hf := ine c43 hf
                refine j_iload C 7 dL_areLoaves_168 rfl ?_
                refine j_aload_n C 2 dL_areLoaves_170 rfl rfl ?_
                refine j_iconst C (0 : Int32) rfl dL_areLoaves_171 ?_
                obtain ⟨v45, e44, hf⟩ := bd hf
                refine j_callR C 2 (cg_L_whole l G n0 e44) gw_L_whole_91 ⟨rfl, rfl⟩ (by decide +kernel) ⟨Nat.le_of_ble_eq_true rfl, Nat.le_of_ble_eq_true rfl⟩ rfl rfl (Nat.le_of_ble_eq_true rfl) dL_areLoaves_172 ?_
                refine j_icmp_ge C 306 dL_areLoaves_175 (by decide) (fun c46 => ?_) (fun c46 => ?_)
                · replace hf := ip c46 hf
                  refine j_iconst C (0 : Int32) rfl dL_areLoaves_306 ?_
                  cases hf
                  refine j_sub [2, 1, 0, 4] rfl ?_
                  exact j_wid (by omega) hj103
                · replace hf := ine c46 hf
                  refine j_aload_n C 2 dL_areLoaves_178 rfl rfl ?_
                  refine j_iload C 4 dL_areLoaves_179 rfl ?_
                  refine j_iconst C (1 : Int32) rfl dL_areLoaves_181 ?_
                  obtain ⟨v48, e47, hf⟩ := bd hf
                  refine j_callR C 3 (cg_L_loaf l G n0 e47) gw_L_loaf_103 ⟨rfl, rfl⟩ (by decide +kernel) ⟨Nat.le_of_ble_eq_true rfl, Nat.le_of_ble_eq_true rfl⟩ rfl rfl (Nat.le_of_ble_eq_true rfl) dL_areLoaves_182 ?_
                  refine j_if_lt C 306 dL_areLoaves_185 (by decide) (fun c49 => ?_) (fun c49 => ?_)
                  · replace hf := ip c49 hf
                    refine j_iconst C (0 : Int32) rfl dL_areLoaves_306 ?_
                    cases hf
                    refine j_sub [2, 1, 0, 4] rfl ?_
                    exact j_wid (by omega) hj103
                  · replace hf := ine c49 hf
                    refine j_aload_n C 2 dL_areLoaves_188 rfl rfl ?_
                    refine j_iload C 4 dL_areLoaves_189 rfl ?_
                    refine j_iconst C (1 : Int32) rfl dL_areLoaves_191 ?_
                    obtain ⟨v51, e50, hf⟩ := bd hf
                    refine j_callR C 3 (cg_L_loaf l G n0 e50) gw_L_loaf_103 ⟨rfl, rfl⟩ (by decide +kernel) ⟨Nat.le_of_ble_eq_true rfl, Nat.le_of_ble_eq_true rfl⟩ rfl rfl (Nat.le_of_ble_eq_true rfl) dL_areLoaves_192 ?_
                    refine j_iconst C (3 : Int32) rfl dL_areLoaves_195 ?_
                    refine j_icmp_ge C 306 dL_areLoaves_196 (by decide) (fun c52 => ?_) (fun c52 => ?_)
                    · replace hf := ip c52 hf
                      refine j_iconst C (0 : Int32) rfl dL_areLoaves_306 ?_
                      cases hf
                      refine j_sub [2, 1, 0, 4] rfl ?_
                      exact j_wid (by omega) hj103
                    · replace hf := ine c52 hf
                      refine j_aload_n C 2 dL_areLoaves_199 rfl rfl ?_
                      refine j_iload C 4 dL_areLoaves_200 rfl ?_
                      refine j_iconst C (2 : Int32) rfl dL_areLoaves_202 ?_
                      obtain ⟨v54, e53, hf⟩ := bd hf
                      refine j_callR C 3 (cg_L_loaf l G n0 e53) gw_L_loaf_103 ⟨rfl, rfl⟩ (by decide +kernel) ⟨Nat.le_of_ble_eq_true rfl, Nat.le_of_ble_eq_true rfl⟩ rfl rfl (Nat.le_of_ble_eq_true rfl) dL_areLoaves_203 ?_
                      refine j_iload_n C 3 dL_areLoaves_206 rfl rfl ?_
                      refine j_icmp_lt C 306 dL_areLoaves_207 (by decide) (fun c55 => ?_) (fun c55 => ?_)
                      · replace hf := ip c55 hf
                        refine j_iconst C (0 : Int32) rfl dL_areLoaves_306 ?_
                        cases hf
                        refine j_sub [2, 1, 0, 4] rfl ?_
                        exact j_wid (by omega) hj103
                      · replace hf := ine c55 hf
                        refine j_aload_n C 2 dL_areLoaves_210 rfl rfl ?_
                        refine j_iload C 4 dL_areLoaves_211 rfl ?_
                        refine j_iconst C (2 : Int32) rfl dL_areLoaves_213 ?_
                        obtain ⟨v57, e56, hf⟩ := bd hf
                        refine j_callR C 3 (cg_L_loaf l G n0 e56) gw_L_loaf_103 ⟨rfl, rfl⟩ (by decide +kernel) ⟨Nat.le_of_ble_eq_true rfl, Nat.le_of_ble_eq_true rfl⟩ rfl rfl (Nat.le_of_ble_eq_true rfl) dL_areLoaves_214 ?_
                        refine j_aload_n C 2 dL_areLoaves_217 rfl rfl ?_
                        refine j_iconst C (1 : Int32) rfl dL_areLoaves_218 ?_
                        obtain ⟨v59, e58, hf⟩ := bd hf
                        refine j_callR C 2 (cg_L_whole l G n0 e58) gw_L_whole_91 ⟨rfl, rfl⟩ (by decide +kernel) ⟨Nat.le_of_ble_eq_true rfl, Nat.le_of_ble_eq_true rfl⟩ rfl rfl (Nat.le_of_ble_eq_true rfl) dL_areLoaves_219 ?_
                        refine j_icmp_ge C 306 dL_areLoaves_222 (by decide) (fun c60 => ?_) (fun c60 => ?_)
                        · replace hf := ip c60 hf
                          refine j_iconst C (0 : Int32) rfl dL_areLoaves_306 ?_
                          cases hf
                          refine j_sub [2, 1, 0, 4] rfl ?_
                          exact j_wid (by omega) hj103
                        · replace hf := ine c60 hf
                          refine j_iload C 5 dL_areLoaves_225 rfl ?_
                          refine j_if_lt C 306 dL_areLoaves_227 (by decide) (fun c61 => ?_) (fun c61 => ?_)
                          · replace hf := ip c61 hf
                            refine j_iconst C (0 : Int32) rfl dL_areLoaves_306 ?_
                            cases hf
                            refine j_sub [2, 1, 0, 4] rfl ?_
                            exact j_wid (by omega) hj103
                          · replace hf := ine c61 hf
                            refine j_iload C 5 dL_areLoaves_230 rfl ?_
                            refine j_ldc C tw4_231 dL_areLoaves_232 ?_
                            refine j_icmp_ge C 306 dL_areLoaves_234 (by decide) (fun c62 => ?_) (fun c62 => ?_)
                            · replace hf := ip c62 hf
                              refine j_iconst C (0 : Int32) rfl dL_areLoaves_306 ?_
                              cases hf
                              refine j_sub [2, 1, 0, 4] rfl ?_
                              exact j_wid (by omega) hj103
                            · replace hf := ine c62 hf
                              refine j_aload_n C 2 dL_areLoaves_237 rfl rfl ?_
                              refine j_iload C 4 dL_areLoaves_238 rfl ?_
                              refine j_bipush C (6 : Int32) rfl dL_areLoaves_240 ?_
                              obtain ⟨v64, e63, hf⟩ := bd hf
                              refine j_callR C 3 (cg_L_loaf l G n0 e63) gw_L_loaf_103 ⟨rfl, rfl⟩ (by decide +kernel) ⟨Nat.le_of_ble_eq_true rfl, Nat.le_of_ble_eq_true rfl⟩ rfl rfl (Nat.le_of_ble_eq_true rfl) dL_areLoaves_242 ?_
                              refine j_if_lt C 306 dL_areLoaves_245 (by decide) (fun c65 => ?_) (fun c65 => ?_)
                              · replace hf := ip c65 hf
                                refine j_iconst C (0 : Int32) rfl dL_areLoaves_306 ?_
                                cases hf
                                refine j_sub [2, 1, 0, 4] rfl ?_
                                exact j_wid (by omega) hj103
                              · replace hf := ine c65 hf
                                refine j_aload_n C 2 dL_areLoaves_248 rfl rfl ?_
                                refine j_iload C 4 dL_areLoaves_249 rfl ?_
                                refine j_bipush C (6 : Int32) rfl dL_areLoaves_251 ?_
                                obtain ⟨v67, e66, hf⟩ := bd hf
                                refine j_callR C 3 (cg_L_loaf l G n0 e66) gw_L_loaf_103 ⟨rfl, rfl⟩ (by decide +kernel) ⟨Nat.le_of_ble_eq_true rfl, Nat.le_of_ble_eq_true rfl⟩ rfl rfl (Nat.le_of_ble_eq_true rfl) dL_areLoaves_253 ?_
                                refine j_iconst C (3 : Int32) rfl dL_areLoaves_256 ?_
                                refine j_icmp_gt C 306 dL_areLoaves_257 (by decide) (fun c68 => ?_) (fun c68 => ?_)
                                · replace hf := ip c68 hf
                                  refine j_iconst C (0 : Int32) rfl dL_areLoaves_306 ?_
                                  cases hf
                                  refine j_sub [2, 1, 0, 4] rfl ?_
                                  exact j_wid (by omega) hj103
                                · replace hf := ine c68 hf
                                  refine j_iload C 5 dL_areLoaves_260 rfl ?_
                                  obtain ⟨v70, e69, hf⟩ := bd hf
                                  refine j_callS C 1 (c_L_ones l G n0 (M := M) e69) gs_RL_149 ⟨rfl, rfl⟩ (by decide +kernel) ⟨Nat.le_of_ble_eq_true rfl, Nat.le_of_ble_eq_true rfl⟩ rfl rfl (Nat.le_of_ble_eq_true rfl) dL_areLoaves_262 ?_
                                  refine j_aload_n C 2 dL_areLoaves_265 rfl rfl ?_
                                  refine j_iload C 4 dL_areLoaves_266 rfl ?_
                                  refine j_bipush C (6 : Int32) rfl dL_areLoaves_268 ?_
                                  obtain ⟨v72, e71, hf⟩ := bd hf
                                  refine j_callR C 3 (cg_L_loaf l G n0 e71) gw_L_loaf_103 ⟨rfl, rfl⟩ (by decide +kernel) ⟨Nat.le_of_ble_eq_true rfl, Nat.le_of_ble_eq_true rfl⟩ rfl rfl (Nat.le_of_ble_eq_true rfl) dL_areLoaves_270 ?_
                                  refine j_iadd C dL_areLoaves_273 ?_
                                  refine j_bipush C (16 : Int32) rfl dL_areLoaves_274 ?_
                                  refine j_icmp_gt C 306 dL_areLoaves_276 (by decide) (fun c73 => ?_) (fun c73 => ?_)
                                  · replace hf := ip c73 hf
                                    refine j_iconst C (0 : Int32) rfl dL_areLoaves_306 ?_
                                    cases hf
                                    refine j_sub [2, 1, 0, 4] rfl ?_
                                    exact j_wid (by omega) hj103
                                  · replace hf := ine c73 hf
                                    refine j_iload C 6 dL_areLoaves_279 rfl ?_
                                    refine j_iconst C (-1 : Int32) rfl dL_areLoaves_281 ?_
                                    refine j_icmp_lt C 295 dL_areLoaves_282 (by decide) (fun c74 => ?_) (fun c74 => ?_)
                                    · replace hf := ip c74 hf
                                      refine j_iload C 6 dL_areLoaves_295 rfl ?_
                                      refine j_bipush C (8 : Int32) rfl dL_areLoaves_297 ?_
                                      refine j_icmp_ne C 306 dL_areLoaves_299 (by decide) (fun c75 => ?_) (fun c75 => ?_)
                                      · replace hf := ine c75 hf
                                        refine j_iconst C (0 : Int32) rfl dL_areLoaves_306 ?_
                                        cases hf
                                        refine j_sub [2, 1, 0, 4] rfl ?_
                                        exact j_wid (by omega) hj103
                                      · replace hf := ip c75 hf
                                        refine j_iconst C (1 : Int32) rfl dL_areLoaves_302 ?_
                                        refine j_goto C 307 dL_areLoaves_303 (by decide) ?_
                                        cases hf
                                        refine j_sub [2, 1, 0, 4] rfl ?_
                                        exact j_wid (by omega) hj103
                                    · replace hf := ine c74 hf
                                      refine j_iload C 6 dL_areLoaves_285 rfl ?_
                                      refine j_aload_n C 2 dL_areLoaves_287 rfl rfl ?_
                                      refine j_iconst C (0 : Int32) rfl dL_areLoaves_288 ?_
                                      obtain ⟨v77, e76, hf⟩ := bd hf
                                      refine j_callR C 2 (cg_L_whole l G n0 e76) gw_L_whole_91 ⟨rfl, rfl⟩ (by decide +kernel) ⟨Nat.le_of_ble_eq_true rfl, Nat.le_of_ble_eq_true rfl⟩ rfl rfl (Nat.le_of_ble_eq_true rfl) dL_areLoaves_289 ?_
                                      refine j_icmp_lt C 302 dL_areLoaves_292 (by decide) (fun c78 => ?_) (fun c78 => ?_)
                                      · replace hf := ip c78 hf
                                        refine j_iconst C (1 : Int32) rfl dL_areLoaves_302 ?_
                                        refine j_goto C 307 dL_areLoaves_303 (by decide) ?_
                                        cases hf
                                        refine j_sub [2, 1, 0, 4] rfl ?_
                                        exact j_wid (by omega) hj103
                                      · replace hf := ine c78 hf
                                        refine j_iload C 6 dL_areLoaves_295 rfl ?_
                                        refine j_bipush C (8 : Int32) rfl dL_areLoaves_297 ?_
                                        refine j_icmp_ne C 306 dL_areLoaves_299 (by decide) (fun c79 => ?_) (fun c79 => ?_)
                                        · replace hf := ine c79 hf
                                          refine j_iconst C (0 : Int32) rfl dL_areLoaves_306 ?_
                                          cases hf
                                          refine j_sub [2, 1, 0, 4] rfl ?_
                                          exact j_wid (by omega) hj103
                                        · replace hf := ip c79 hf
                                          refine j_iconst C (1 : Int32) rfl dL_areLoaves_302 ?_
                                          refine j_goto C 307 dL_areLoaves_303 (by decide) ?_
                                          cases hf
                                          refine j_sub [2, 1, 0, 4] rfl ?_
                                          exact j_wid (by omega) hj103
            clear hf
            have hf := e100
            refine j_icmp_ne C 148 dL_areLoaves_141 (by decide) (fun c39 => ?_) (fun c39 => ?_)
            · replace hf := ine c39 hf
              refine j_iconst C (0 : Int32) rfl dL_areLoaves_148 ?_
              cases hf
              refine j_sub [3, 5, 6, 8, 2, 1, 0] rfl ?_
              exact j_wid (by omega) hj101
            · replace hf := ip c39 hf
              refine j_iconst C (1 : Int32) rfl dL_areLoaves_144 ?_
              refine j_goto C 149 dL_areLoaves_145 (by decide) ?_
              cases hf
              refine j_sub [3, 5, 6, 8, 2, 1, 0] rfl ?_
              exact j_wid (by omega) hj101
    refine j_sub [2, 4, 5, 6, 1, 0] rfl ?_
    exact hl97 FUEL (0 : Int32) (0 : Int32) (0 : Int32) z23 (v2 - v4) e95
  clear hf
  have hf := e93
  refine j_icmp_gt C 87 dL_areLoaves_30 (by decide) (fun c7 => ?_) (fun c7 => ?_)
  · replace hf := ip c7 hf
    refine j_iconst C (0 : Int32) rfl dL_areLoaves_87 ?_
    cases hf
    refine j_sub [4, 3, 2, 1, 0] rfl ?_
    exact j_wid (by omega) hj94
  · replace hf := ine c7 hf
    refine j_iload_n C 3 dL_areLoaves_33 rfl rfl ?_
    refine j_if_lt C 87 dL_areLoaves_34 (by decide) (fun c8 => ?_) (fun c8 => ?_)
    · replace hf := ip c8 hf
      refine j_iconst C (0 : Int32) rfl dL_areLoaves_87 ?_
      cases hf
      refine j_sub [4, 3, 2, 1, 0] rfl ?_
      exact j_wid (by omega) hj94
    · replace hf := ine c8 hf
      refine j_aload_n C 4 dL_areLoaves_37 rfl rfl ?_
      refine j_bipush C (8 : Int32) rfl dL_areLoaves_38 ?_
      obtain ⟨v10, e9, hf⟩ := bd hf
      refine j_callR C 2 (cg_L_whole l G n0 e9) gw_L_whole_91 ⟨rfl, rfl⟩ (by decide +kernel) ⟨Nat.le_of_ble_eq_true rfl, Nat.le_of_ble_eq_true rfl⟩ rfl rfl (Nat.le_of_ble_eq_true rfl) dL_areLoaves_40 ?_
      refine j_aload_n C 4 dL_areLoaves_43 rfl rfl ?_
      refine j_bipush C (7 : Int32) rfl dL_areLoaves_44 ?_
      obtain ⟨v12, e11, hf⟩ := bd hf
      refine j_callR C 2 (cg_L_whole l G n0 e11) gw_L_whole_91 ⟨rfl, rfl⟩ (by decide +kernel) ⟨Nat.le_of_ble_eq_true rfl, Nat.le_of_ble_eq_true rfl⟩ rfl rfl (Nat.le_of_ble_eq_true rfl) dL_areLoaves_46 ?_
      refine j_icmp_gt C 87 dL_areLoaves_49 (by decide) (fun c13 => ?_) (fun c13 => ?_)
      · replace hf := ip c13 hf
        refine j_iconst C (0 : Int32) rfl dL_areLoaves_87 ?_
        cases hf
        refine j_sub [4, 3, 2, 1, 0] rfl ?_
        exact j_wid (by omega) hj94
      · replace hf := ine c13 hf
        refine j_aload_n C 4 dL_areLoaves_52 rfl rfl ?_
        refine j_bipush C (7 : Int32) rfl dL_areLoaves_53 ?_
        obtain ⟨v15, e14, hf⟩ := bd hf
        refine j_callR C 2 (cg_L_whole l G n0 e14) gw_L_whole_91 ⟨rfl, rfl⟩ (by decide +kernel) ⟨Nat.le_of_ble_eq_true rfl, Nat.le_of_ble_eq_true rfl⟩ rfl rfl (Nat.le_of_ble_eq_true rfl) dL_areLoaves_55 ?_
        refine j_aload_n C 4 dL_areLoaves_58 rfl rfl ?_
        refine j_iconst C (5 : Int32) rfl dL_areLoaves_59 ?_
        obtain ⟨v17, e16, hf⟩ := bd hf
        refine j_callR C 2 (cg_L_whole l G n0 e16) gw_L_whole_91 ⟨rfl, rfl⟩ (by decide +kernel) ⟨Nat.le_of_ble_eq_true rfl, Nat.le_of_ble_eq_true rfl⟩ rfl rfl (Nat.le_of_ble_eq_true rfl) dL_areLoaves_60 ?_
        refine j_icmp_ne C 87 dL_areLoaves_63 (by decide) (fun c18 => ?_) (fun c18 => ?_)
        · replace hf := ine c18 hf
          refine j_iconst C (0 : Int32) rfl dL_areLoaves_87 ?_
          cases hf
          refine j_sub [4, 3, 2, 1, 0] rfl ?_
          exact j_wid (by omega) hj94
        · replace hf := ip c18 hf
          refine j_iload_n C 3 dL_areLoaves_66 rfl rfl ?_
          refine j_if_eq C 83 dL_areLoaves_67 (by decide) (fun c19 => ?_) (fun c19 => ?_)
          · replace hf := ip c19 hf
            refine j_iconst C (1 : Int32) rfl dL_areLoaves_83 ?_
            refine j_goto C 88 dL_areLoaves_84 (by decide) ?_
            cases hf
            refine j_sub [4, 3, 2, 1, 0] rfl ?_
            exact j_wid (by omega) hj94
          · replace hf := ine c19 hf
            refine j_aload_n C 4 dL_areLoaves_70 rfl rfl ?_
            refine j_iload_n C 3 dL_areLoaves_71 rfl rfl ?_
            refine j_iconst C (1 : Int32) rfl dL_areLoaves_72 ?_
            refine j_isub C dL_areLoaves_73 ?_
            refine j_iconst C (0 : Int32) rfl dL_areLoaves_74 ?_
            obtain ⟨v21, e20, hf⟩ := bd hf
            refine j_callW (k := 1) C (CC _ (by omega)) 3 (cf_L_loaf l hfl G n0 e20) gw_L_loaf_103 ⟨rfl, rfl⟩ (by decide +kernel) ⟨Nat.le_of_ble_eq_true rfl, Nat.le_of_ble_eq_true rfl⟩ rfl rfl (Nat.le_of_ble_eq_true rfl) dL_areLoaves_75 ?_
            have C := CC (0 + 1) (by omega)
            refine j_ldc C tw3_24 dL_areLoaves_78 ?_
            refine j_icmp_ne C 87 dL_areLoaves_80 (by decide) (fun c22 => ?_) (fun c22 => ?_)
            · replace hf := ine c22 hf
              refine j_iconst C (0 : Int32) rfl dL_areLoaves_87 ?_
              cases hf
              refine j_sub [4, 3, 2, 1, 0] rfl ?_
              exact j_wid (by omega) hj94
            · replace hf := ip c22 hf
              refine j_iconst C (1 : Int32) rfl dL_areLoaves_83 ?_
              refine j_goto C 88 dL_areLoaves_84 (by decide) ?_
              cases hf
              refine j_sub [4, 3, 2, 1, 0] rfl ?_
              exact j_wid (by omega) hj94
