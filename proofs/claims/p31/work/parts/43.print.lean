def lL_print_6 (M : Mem) : Nat → Int64 → Int32 → Option Int64
  | 0, _, _ => none
  | n + 1, a1, a2 =>
  if (14 : Int32) ≤ a2 then (some a1)
  else ((gL_whole a2 M).bind fun v5 =>
  lL_print_6 M n (((31 : Int64) * a1) + v5.toInt64) (a2 + 1))

def lL_print_42 (M : Mem) (a8 : Int32) : Nat → Int64 → Int32 → Option Int64
  | 0, _, _ => none
  | n + 1, a10, a11 =>
  if (8 : Int32) ≤ a11 then (some a10)
  else ((fL_household a8 a11 M).bind fun v14 =>
  lL_print_42 M a8 n (((31 : Int64) * a10) + v14.toInt64) (a11 + 1))

def lL_print_33 (M : Mem) : Nat → Int64 → Int32 → Option Int64
  | 0, _, _ => none
  | n + 1, a7, a8 =>
  if (8 : Int32) ≤ a8 then (some a7)
  else ((lL_print_42 M a8 9 a7 (0 : Int32)).bind (fun a15 => lL_print_33 M n a15 (a8 + 1)))

def lL_print_87 (a18 : Int32) : Nat → Int64 → Int32 → Mem → Option (Int64 × Mem)
  | 0, _, _, _ => none
  | n + 1, a21, a22, M23 =>
  if (4 : Int32) ≤ a22 then (some (a21, M23))
  else ((gL_batch a18 a22 M23).bind (un2 fun v26 M27 =>
  (gL_load a18 (a22 + (1 : Int32)) M27).bind fun v29 =>
  lL_print_87 a18 n (((31 : Int64) * (((31 : Int64) * a21) + v26.toInt64)) + v29.toInt64) (a22 + 1) M27))

def lL_print_78  : Nat → Int64 → Int32 → Mem → Option (Int64 × Mem)
  | 0, _, _, _ => none
  | n + 1, a17, a18, M19 =>
  if (20 : Int32) ≤ a18 then (some (a17, M19))
  else ((lL_print_87 a18 FUEL a17 (0 : Int32) M19).bind (un2 fun a30 M31 => lL_print_78  n a30 (a18 + 1) M31))

def lL_print_149 (M33 : Mem) : Nat → Int64 → Int32 → Option Int64
  | 0, _, _ => none
  | n + 1, a38, a39 =>
  (gL_whole (7 : Int32) M33).bind fun v41 =>
  if v41 ≤ a39 then (some a38)
  else ((gL_loaf a39 (4 : Int32) M33).bind fun v44 =>
  (gL_loaf a39 (5 : Int32) M33).bind fun v46 =>
  (gL_loaf a39 (1 : Int32) M33).bind fun v48 =>
  lL_print_149 M33 n (((31 : Int64) * (((31 : Int64) * (((31 : Int64) * a38) + v44.toInt64)) + v46.toInt64)) + v48.toInt64) (a39 + 1))

def fL_print  (M : Mem) : Option (Int64 × Mem) :=
  (lL_print_6 M FUEL (59 : Int64) (0 : Int32)).bind (fun a6 => (lL_print_33 M 9 a6 (0 : Int32)).bind (fun a16 => (lL_print_78 FUEL a16 (0 : Int32) M).bind (un2 fun a32 M33 => (gL_whole (7 : Int32) M33).bind fun v35 =>
  (gL_whole (9 : Int32) M33).bind fun v37 =>
  (lL_print_149 M33 FUEL a32 (v35 - v37)).bind (fun a49 => some (a49, M33)))))

def rL_print : Room := { frames := 9, cells := 81, slots := 486, locals := 156 }
set_option maxRecDepth 100000 in
set_option maxHeartbeats 8000000 in
theorem c_L_print (l : Launch) (hfl : l.stackTraces = false) (G : Gx) (n0 : Nat) {M : Mem} {r : Int64} {M' : Mem} (hf : fL_print M = some (r, M')) : CtK l yL_print cL_print 5 (some .long) rL_print G n0 [.ref (n0 + 0)] M (some (.long r)) M' 81 := by
  refine ctk_long (cc := cL_print) (maxL := 5) rfl (Nat.le_of_ble_eq_true rfl) ⟨rfl, rfl⟩ ?_
  intro K CC hret
  have CC : ∀ a, a ≤ 81 → Ok (kc K a) l rL_print cL_print RL G n0 5 := CC
  show J (kc K 0) M 0 [(0, .ref (n0 + 0))] []
  have C := CC 0 (by omega)
  unfold fL_print at hf
  refine j_ldc2 C tw2_231 dL_print_0 ?_
  refine j_lstore_n C [(1, .long (59 : Int64)), (0, .ref (n0 + 0))] dL_print_3 rfl (Nat.le_of_ble_eq_true rfl) rfl ?_
  refine j_iconst C (0 : Int32) rfl dL_print_4 ?_
  refine j_istore_n C [(3, .int (0 : Int32)), (1, .long (59 : Int64)), (0, .ref (n0 + 0))] dL_print_5 rfl (Nat.le_of_ble_eq_true rfl) rfl ?_
  obtain ⟨a6, e50, hf⟩ := bd hf
  have hx51 : J (kc K 0) M 31 [(0, .ref (n0 + 0)), (1, .long a6)] [] := by
    refine j_iconst C (0 : Int32) rfl dL_print_31 ?_
    refine j_istore_n C [(3, .int (0 : Int32)), (0, .ref (n0 + 0)), (1, .long a6)] dL_print_32 rfl (Nat.le_of_ble_eq_true rfl) rfl ?_
    obtain ⟨a16, e55, hf⟩ := bd hf
    have hx56 : J (kc K (0 + 81)) M 76 [(0, .ref (n0 + 0)), (1, .long a16)] [] := by
      have C := CC (0 + 81) (by omega)
      refine j_iconst C (0 : Int32) rfl dL_print_76 ?_
      refine j_istore_n C [(3, .int (0 : Int32)), (0, .ref (n0 + 0)), (1, .long a16)] dL_print_77 rfl (Nat.le_of_ble_eq_true rfl) rfl ?_
      obtain ⟨⟨a32, M33⟩, e60, hf⟩ := bd hf
      replace hf := un2e hf
      have hx61 : J (kc K (0 + 81)) M33 135 [(0, .ref (n0 + 0)), (1, .long a32)] [] := by
        refine j_aload_n C 0 dL_print_135 rfl rfl ?_
        refine j_bipush C (7 : Int32) rfl dL_print_136 ?_
        obtain ⟨v35, e34, hf⟩ := bd hf
        refine j_callR C 2 (cg_L_whole l G n0 e34) gw_L_whole_91 ⟨rfl, rfl⟩ (by decide +kernel) ⟨Nat.le_of_ble_eq_true rfl, Nat.le_of_ble_eq_true rfl⟩ rfl rfl (Nat.le_of_ble_eq_true rfl) dL_print_138 ?_
        refine j_aload_n C 0 dL_print_141 rfl rfl ?_
        refine j_bipush C (9 : Int32) rfl dL_print_142 ?_
        obtain ⟨v37, e36, hf⟩ := bd hf
        refine j_callR C 2 (cg_L_whole l G n0 e36) gw_L_whole_91 ⟨rfl, rfl⟩ (by decide +kernel) ⟨Nat.le_of_ble_eq_true rfl, Nat.le_of_ble_eq_true rfl⟩ rfl rfl (Nat.le_of_ble_eq_true rfl) dL_print_144 ?_
        refine j_isub C dL_print_147 ?_
        refine j_istore_n C [(3, .int (v35 - v37)), (0, .ref (n0 + 0)), (1, .long a32)] dL_print_148 rfl (Nat.le_of_ble_eq_true rfl) rfl ?_
        obtain ⟨a49, e65, hf⟩ := bd hf
        have hx66 : J (kc K (0 + 81)) M33 203 [(1, .long a49)] [] := by
          refine j_lload_n C 0 dL_print_203 rfl rfl ?_
          obtain ⟨rfl, rfl⟩ := Prod.mk.inj (Option.some.inj hf)
          exact hret _ _ _ (by omega) dL_print_204
        clear hf
        have hl67 : ∀ (n : Nat) (a38 : Int64) (a39 : Int32), lL_print_149 M33 n a38 a39 = some a49 → J (kc K (0 + 81)) M33 149 [(0, .ref (n0 + 0)), (1, .long a38), (3, .int a39)] [] := by
          intro n
          induction n with
          | zero =>
            intro a38 a39 hf
            exact absurd hf (by rw [lL_print_149]; exact fun h => by cases h)
          | succ n ih =>
            intro a38 a39 hf
            rw [lL_print_149] at hf
            refine j_iload_n C 2 dL_print_149 rfl rfl ?_
            refine j_aload_n C 0 dL_print_150 rfl rfl ?_
            refine j_bipush C (7 : Int32) rfl dL_print_151 ?_
            obtain ⟨v41, e40, hf⟩ := bd hf
            refine j_callR C 2 (cg_L_whole l G n0 e40) gw_L_whole_91 ⟨rfl, rfl⟩ (by decide +kernel) ⟨Nat.le_of_ble_eq_true rfl, Nat.le_of_ble_eq_true rfl⟩ rfl rfl (Nat.le_of_ble_eq_true rfl) dL_print_153 ?_
            refine j_icmp_ge C 203 dL_print_156 (by decide) (fun c42 => ?_) (fun c42 => ?_)
            · replace hf := ip c42 hf
              refine j_sub [1] rfl ?_
              cases hf
              exact j_wid (by omega) hx66
            · replace hf := ine c42 hf
              refine j_ldc2 C tw2_232 dL_print_159 ?_
              refine j_ldc2 C tw2_232 dL_print_162 ?_
              refine j_ldc2 C tw2_232 dL_print_165 ?_
              refine j_lload_n C 1 dL_print_168 rfl rfl ?_
              refine j_lmul C dL_print_169 ?_
              refine j_aload_n C 0 dL_print_170 rfl rfl ?_
              refine j_iload_n C 2 dL_print_171 rfl rfl ?_
              refine j_iconst C (4 : Int32) rfl dL_print_172 ?_
              obtain ⟨v44, e43, hf⟩ := bd hf
              refine j_callR C 3 (cg_L_loaf l G n0 e43) gw_L_loaf_103 ⟨rfl, rfl⟩ (by decide +kernel) ⟨Nat.le_of_ble_eq_true rfl, Nat.le_of_ble_eq_true rfl⟩ rfl rfl (Nat.le_of_ble_eq_true rfl) dL_print_173 ?_
              refine j_i2l C dL_print_176 ?_
              refine j_ladd C dL_print_177 ?_
              refine j_lmul C dL_print_178 ?_
              refine j_aload_n C 0 dL_print_179 rfl rfl ?_
              refine j_iload_n C 2 dL_print_180 rfl rfl ?_
              refine j_iconst C (5 : Int32) rfl dL_print_181 ?_
              obtain ⟨v46, e45, hf⟩ := bd hf
              refine j_callR C 3 (cg_L_loaf l G n0 e45) gw_L_loaf_103 ⟨rfl, rfl⟩ (by decide +kernel) ⟨Nat.le_of_ble_eq_true rfl, Nat.le_of_ble_eq_true rfl⟩ rfl rfl (Nat.le_of_ble_eq_true rfl) dL_print_182 ?_
              refine j_i2l C dL_print_185 ?_
              refine j_ladd C dL_print_186 ?_
              refine j_lmul C dL_print_187 ?_
              refine j_aload_n C 0 dL_print_188 rfl rfl ?_
              refine j_iload_n C 2 dL_print_189 rfl rfl ?_
              refine j_iconst C (1 : Int32) rfl dL_print_190 ?_
              obtain ⟨v48, e47, hf⟩ := bd hf
              refine j_callR C 3 (cg_L_loaf l G n0 e47) gw_L_loaf_103 ⟨rfl, rfl⟩ (by decide +kernel) ⟨Nat.le_of_ble_eq_true rfl, Nat.le_of_ble_eq_true rfl⟩ rfl rfl (Nat.le_of_ble_eq_true rfl) dL_print_191 ?_
              refine j_i2l C dL_print_194 ?_
              refine j_ladd C dL_print_195 ?_
              refine j_lstore_n C [(1, .long (((31 : Int64) * (((31 : Int64) * (((31 : Int64) * a38) + v44.toInt64)) + v46.toInt64)) + v48.toInt64)), (0, .ref (n0 + 0)), (3, .int a39)] dL_print_196 rfl (Nat.le_of_ble_eq_true rfl) rfl ?_
              refine j_iinc C 2 (a39 + 1) [(3, .int (a39 + 1)), (1, .long (((31 : Int64) * (((31 : Int64) * (((31 : Int64) * a38) + v44.toInt64)) + v46.toInt64)) + v48.toInt64)), (0, .ref (n0 + 0))] dL_print_197 rfl rfl (Nat.le_of_ble_eq_true rfl) rfl ?_
              refine j_goto C 149 dL_print_200 (by decide) ?_
              refine j_sub [2, 1, 0] rfl ?_
              exact ih _ _ hf
        refine j_sub [1, 2, 0] rfl ?_
        exact hl67 FUEL a32 (v35 - v37) e65
      clear hf
      have hl62 : ∀ (n : Nat) (a17 : Int64) (a18 : Int32) (M19 : Mem), lL_print_78 n a17 a18 M19 = some (a32, M33) → J (kc K (0 + 81)) M19 78 [(0, .ref (n0 + 0)), (1, .long a17), (3, .int a18)] [] := by
        intro n
        induction n with
        | zero =>
          intro a17 a18 M19 hf
          exact absurd hf (by rw [lL_print_78]; exact fun h => by cases h)
        | succ n ih =>
          intro a17 a18 M19 hf
          rw [lL_print_78] at hf
          refine j_iload_n C 2 dL_print_78 rfl rfl ?_
          refine j_bipush C (20 : Int32) rfl dL_print_79 ?_
          refine j_icmp_ge C 135 dL_print_81 (by decide) (fun c20 => ?_) (fun c20 => ?_)
          · replace hf := ip c20 hf
            refine j_sub [0, 1] rfl ?_
            cases hf
            exact j_wid (by omega) hx61
          · replace hf := ine c20 hf
            refine j_iconst C (0 : Int32) rfl dL_print_84 ?_
            refine j_istore C [(4, .int (0 : Int32)), (0, .ref (n0 + 0)), (1, .long a17), (3, .int a18)] dL_print_85 (Nat.le_of_ble_eq_true rfl) rfl ?_
            obtain ⟨⟨a30, M31⟩, e70, hf⟩ := bd hf
            replace hf := un2e hf
            have hx71 : J (kc K (0 + 81)) M31 129 [(0, .ref (n0 + 0)), (1, .long a30), (3, .int a18)] [] := by
              refine j_iinc C 2 (a18 + 1) [(3, .int (a18 + 1)), (0, .ref (n0 + 0)), (1, .long a30)] dL_print_129 rfl rfl (Nat.le_of_ble_eq_true rfl) rfl ?_
              refine j_goto C 78 dL_print_132 (by decide) ?_
              refine j_sub [1, 2, 0] rfl ?_
              exact ih _ _ _ hf
            clear hf
            have hl72 : ∀ (n : Nat) (a21 : Int64) (a22 : Int32) (M23 : Mem), lL_print_87 a18 n a21 a22 M23 = some (a30, M31) → J (kc K (0 + 81)) M23 87 [(0, .ref (n0 + 0)), (1, .long a21), (3, .int a18), (4, .int a22)] [] := by
              intro n
              induction n with
              | zero =>
                intro a21 a22 M23 hf
                exact absurd hf (by rw [lL_print_87]; exact fun h => by cases h)
              | succ n ih =>
                intro a21 a22 M23 hf
                rw [lL_print_87] at hf
                refine j_iload C 3 dL_print_87 rfl ?_
                refine j_iconst C (4 : Int32) rfl dL_print_89 ?_
                refine j_icmp_ge C 129 dL_print_90 (by decide) (fun c24 => ?_) (fun c24 => ?_)
                · replace hf := ip c24 hf
                  refine j_sub [0, 1, 2] rfl ?_
                  cases hf
                  exact j_wid (by omega) hx71
                · replace hf := ine c24 hf
                  refine j_ldc2 C tw2_232 dL_print_93 ?_
                  refine j_ldc2 C tw2_232 dL_print_96 ?_
                  refine j_lload_n C 1 dL_print_99 rfl rfl ?_
                  refine j_lmul C dL_print_100 ?_
                  refine j_aload_n C 0 dL_print_101 rfl rfl ?_
                  refine j_iload_n C 2 dL_print_102 rfl rfl ?_
                  refine j_iload C 3 dL_print_103 rfl ?_
                  obtain ⟨⟨v26, M27⟩, e25, hf⟩ := bd hf
                  replace hf := un2e hf
                  refine j_callR C 3 (cg_L_batch l G n0 e25) gw_L_batch_99 ⟨rfl, rfl⟩ (by decide +kernel) ⟨Nat.le_of_ble_eq_true rfl, Nat.le_of_ble_eq_true rfl⟩ rfl rfl (Nat.le_of_ble_eq_true rfl) dL_print_105 ?_
                  refine j_i2l C dL_print_108 ?_
                  refine j_ladd C dL_print_109 ?_
                  refine j_lmul C dL_print_110 ?_
                  refine j_aload_n C 0 dL_print_111 rfl rfl ?_
                  refine j_iload_n C 2 dL_print_112 rfl rfl ?_
                  refine j_iload C 3 dL_print_113 rfl ?_
                  refine j_iconst C (1 : Int32) rfl dL_print_115 ?_
                  refine j_iadd C dL_print_116 ?_
                  obtain ⟨v29, e28, hf⟩ := bd hf
                  refine j_callR C 3 (cg_L_load l G n0 e28) gw_L_load_101 ⟨rfl, rfl⟩ (by decide +kernel) ⟨Nat.le_of_ble_eq_true rfl, Nat.le_of_ble_eq_true rfl⟩ rfl rfl (Nat.le_of_ble_eq_true rfl) dL_print_117 ?_
                  refine j_i2l C dL_print_120 ?_
                  refine j_ladd C dL_print_121 ?_
                  refine j_lstore_n C [(1, .long (((31 : Int64) * (((31 : Int64) * a21) + v26.toInt64)) + v29.toInt64)), (0, .ref (n0 + 0)), (3, .int a18), (4, .int a22)] dL_print_122 rfl (Nat.le_of_ble_eq_true rfl) rfl ?_
                  refine j_iinc C 3 (a22 + 1) [(4, .int (a22 + 1)), (1, .long (((31 : Int64) * (((31 : Int64) * a21) + v26.toInt64)) + v29.toInt64)), (0, .ref (n0 + 0)), (3, .int a18)] dL_print_123 rfl rfl (Nat.le_of_ble_eq_true rfl) rfl ?_
                  refine j_goto C 87 dL_print_126 (by decide) ?_
                  refine j_sub [2, 1, 3, 0] rfl ?_
                  exact ih _ _ _ hf
            refine j_sub [1, 2, 3, 0] rfl ?_
            exact hl72 FUEL a17 (0 : Int32) M19 e70
      refine j_sub [1, 2, 0] rfl ?_
      exact hl62 FUEL a16 (0 : Int32) M e60
    clear hf
    have hl57 : ∀ (n : Nat) (k75 : Nat) (a7 : Int64) (a8 : Int32), k75 + n * 9 ≤ (0 + 81) → lL_print_33 M n a7 a8 = some a16 → J (kc K k75) M 33 [(0, .ref (n0 + 0)), (1, .long a7), (3, .int a8)] [] := by
      intro n
      induction n with
      | zero =>
        intro k75 a7 a8 hb76 hf
        exact absurd hf (by rw [lL_print_33]; exact fun h => by cases h)
      | succ n ih =>
        intro k75 a7 a8 hb76 hf
        rw [lL_print_33] at hf
        have C := CC k75 (by omega)
        refine j_iload_n C 2 dL_print_33 rfl rfl ?_
        refine j_bipush C (8 : Int32) rfl dL_print_34 ?_
        refine j_icmp_ge C 76 dL_print_36 (by decide) (fun c9 => ?_) (fun c9 => ?_)
        · replace hf := ip c9 hf
          refine j_sub [0, 1] rfl ?_
          cases hf
          exact j_wid (by omega) hx56
        · replace hf := ine c9 hf
          refine j_iconst C (0 : Int32) rfl dL_print_39 ?_
          refine j_istore C [(4, .int (0 : Int32)), (0, .ref (n0 + 0)), (1, .long a7), (3, .int a8)] dL_print_40 (Nat.le_of_ble_eq_true rfl) rfl ?_
          obtain ⟨a15, e77, hf⟩ := bd hf
          have hx78 : J (kc K (k75 + 9)) M 70 [(0, .ref (n0 + 0)), (1, .long a15), (3, .int a8)] [] := by
            have C := CC (k75 + 9) (by omega)
            refine j_iinc C 2 (a8 + 1) [(3, .int (a8 + 1)), (0, .ref (n0 + 0)), (1, .long a15)] dL_print_70 rfl rfl (Nat.le_of_ble_eq_true rfl) rfl ?_
            refine j_goto C 33 dL_print_73 (by decide) ?_
            refine j_sub [1, 2, 0] rfl ?_
            exact j_wid (by omega) (ih ((k75 + 9)) _ _ (by omega) hf)
          clear hf
          have hl79 : ∀ (n : Nat) (k82 : Nat) (a10 : Int64) (a11 : Int32), k82 + n * 1 ≤ (k75 + 9) → lL_print_42 M a8 n a10 a11 = some a15 → J (kc K k82) M 42 [(0, .ref (n0 + 0)), (1, .long a10), (3, .int a8), (4, .int a11)] [] := by
            intro n
            induction n with
            | zero =>
              intro k82 a10 a11 hb83 hf
              exact absurd hf (by rw [lL_print_42]; exact fun h => by cases h)
            | succ n ih =>
              intro k82 a10 a11 hb83 hf
              rw [lL_print_42] at hf
              have C := CC k82 (by omega)
              refine j_iload C 3 dL_print_42 rfl ?_
              refine j_bipush C (8 : Int32) rfl dL_print_44 ?_
              refine j_icmp_ge C 70 dL_print_46 (by decide) (fun c12 => ?_) (fun c12 => ?_)
              · replace hf := ip c12 hf
                refine j_sub [0, 1, 2] rfl ?_
                cases hf
                exact j_wid (by omega) hx78
              · replace hf := ine c12 hf
                refine j_ldc2 C tw2_232 dL_print_49 ?_
                refine j_lload_n C 1 dL_print_52 rfl rfl ?_
                refine j_lmul C dL_print_53 ?_
                refine j_aload_n C 0 dL_print_54 rfl rfl ?_
                refine j_iload_n C 2 dL_print_55 rfl rfl ?_
                refine j_iload C 3 dL_print_56 rfl ?_
                obtain ⟨v14, e13, hf⟩ := bd hf
                refine j_callW (k := 1) C (CC _ (by omega)) 3 (cf_L_household l hfl G n0 e13) gw_L_household_96 ⟨rfl, rfl⟩ (by decide +kernel) ⟨Nat.le_of_ble_eq_true rfl, Nat.le_of_ble_eq_true rfl⟩ rfl rfl (Nat.le_of_ble_eq_true rfl) dL_print_58 ?_
                have C := CC (k82 + 1) (by omega)
                refine j_i2l C dL_print_61 ?_
                refine j_ladd C dL_print_62 ?_
                refine j_lstore_n C [(1, .long (((31 : Int64) * a10) + v14.toInt64)), (0, .ref (n0 + 0)), (3, .int a8), (4, .int a11)] dL_print_63 rfl (Nat.le_of_ble_eq_true rfl) rfl ?_
                refine j_iinc C 3 (a11 + 1) [(4, .int (a11 + 1)), (1, .long (((31 : Int64) * a10) + v14.toInt64)), (0, .ref (n0 + 0)), (3, .int a8)] dL_print_64 rfl rfl (Nat.le_of_ble_eq_true rfl) rfl ?_
                refine j_goto C 42 dL_print_67 (by decide) ?_
                refine j_sub [2, 1, 3, 0] rfl ?_
                exact j_wid (by omega) (ih ((k82 + 1)) _ _ (by omega) hf)
          refine j_sub [1, 2, 3, 0] rfl ?_
          exact hl79 9 k75 a7 (0 : Int32) (by omega) e77
    refine j_sub [1, 2, 0] rfl ?_
    exact hl57 9 0 a6 (0 : Int32) (by omega) e55
  clear hf
  have hl52 : ∀ (n : Nat) (a1 : Int64) (a2 : Int32), lL_print_6 M n a1 a2 = some a6 → J (kc K 0) M 6 [(0, .ref (n0 + 0)), (1, .long a1), (3, .int a2)] [] := by
    intro n
    induction n with
    | zero =>
      intro a1 a2 hf
      exact absurd hf (by rw [lL_print_6]; exact fun h => by cases h)
    | succ n ih =>
      intro a1 a2 hf
      rw [lL_print_6] at hf
      refine j_iload_n C 2 dL_print_6 rfl rfl ?_
      refine j_bipush C (14 : Int32) rfl dL_print_7 ?_
      refine j_icmp_ge C 31 dL_print_9 (by decide) (fun c3 => ?_) (fun c3 => ?_)
      · replace hf := ip c3 hf
        refine j_sub [0, 1] rfl ?_
        cases hf
        exact j_wid (by omega) hx51
      · replace hf := ine c3 hf
        refine j_ldc2 C tw2_232 dL_print_12 ?_
        refine j_lload_n C 1 dL_print_15 rfl rfl ?_
        refine j_lmul C dL_print_16 ?_
        refine j_aload_n C 0 dL_print_17 rfl rfl ?_
        refine j_iload_n C 2 dL_print_18 rfl rfl ?_
        obtain ⟨v5, e4, hf⟩ := bd hf
        refine j_callR C 2 (cg_L_whole l G n0 e4) gw_L_whole_91 ⟨rfl, rfl⟩ (by decide +kernel) ⟨Nat.le_of_ble_eq_true rfl, Nat.le_of_ble_eq_true rfl⟩ rfl rfl (Nat.le_of_ble_eq_true rfl) dL_print_19 ?_
        refine j_i2l C dL_print_22 ?_
        refine j_ladd C dL_print_23 ?_
        refine j_lstore_n C [(1, .long (((31 : Int64) * a1) + v5.toInt64)), (0, .ref (n0 + 0)), (3, .int a2)] dL_print_24 rfl (Nat.le_of_ble_eq_true rfl) rfl ?_
        refine j_iinc C 2 (a2 + 1) [(3, .int (a2 + 1)), (1, .long (((31 : Int64) * a1) + v5.toInt64)), (0, .ref (n0 + 0))] dL_print_25 rfl rfl (Nat.le_of_ble_eq_true rfl) rfl ?_
        refine j_goto C 6 dL_print_28 (by decide) ?_
        refine j_sub [2, 1, 0] rfl ?_
        exact ih _ _ hf
  refine j_sub [2, 1, 0] rfl ?_
  exact hl52 FUEL (59 : Int64) (0 : Int32) e50
