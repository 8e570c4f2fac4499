def lX12_fills_38 (x1 : Int32) (x2 : Int32) (a4 : Int32) (v10 : Int32) : Nat → Int32 → Int32 → Mem → Option (Int32 × Mem)
  | 0, _, _, _ => none
  | n + 1, a14, a15, M16 =>
  (ald (M16.1 179) 1601 (7 : Int32)).bind fun v17 =>
  if v17 ≤ a15 then (some (a14, M16))
  else ((ald (M16.1 179) 1601 (((41 : Int32) + ((3 : Int32) * a15)) + (2 : Int32))).bind fun v21 =>
  (ald (M16.1 179) 1601 ((41 : Int32) + ((3 : Int32) * a15))).bind fun v24 =>
  if v24 = ((x2 + a4) - (x2 + a4) / v10 * v10) then ((ald (M16.1 179) 1601 (((41 : Int32) + ((3 : Int32) * a15)) + (1 : Int32))).bind fun v28 =>
  if v28 = x1 then (if a14 < v21 then (lX12_fills_38 x1 x2 a4 v10 n a14 (a15 + 1) M16)
  else ((ast M16 183 40 ((2 : Int32) * (M16.1 178 9)) ((x2 + a4) - (x2 + a4) / v10 * v10)).bind fun M33 =>
  (ast M33 183 40 (((2 : Int32) * (M33.1 178 9)) + (1 : Int32)) v21).bind fun M36 =>
  (pf M36 178 9 ((M36.1 178 9) + (1 : Int32))).bind fun M39 =>
  (fX12_dropsBatch a15 M39).bind fun M42 =>
  lX12_fills_38 x1 x2 a4 v10 n (a14 - v21) a15 M42))
  else (lX12_fills_38 x1 x2 a4 v10 n a14 (a15 + 1) M16))
  else (lX12_fills_38 x1 x2 a4 v10 n a14 (a15 + 1) M16))

def lX12_fills_11 (x1 : Int32) (x2 : Int32) : Nat → Int32 → Int32 → Mem → Option (Int32 × Mem)
  | 0, _, _, _ => none
  | n + 1, a3, a4, M5 =>
  (ald (M5.1 179) 1601 (0 : Int32)).bind fun v6 =>
  if v6 ≤ a4 then (some (a3, M5))
  else ((ald (M5.1 179) 1601 (0 : Int32)).bind fun v10 =>
  if v10 = 0 then none else
  (lX12_fills_38 x1 x2 a4 v10 FUEL a3 (0 : Int32) M5).bind (un2 fun a43 M44 => lX12_fills_11 x1 x2 n a43 (a4 + 1) M44))

def fX12_fills (x1 : Int32) (x2 : Int32) (M : Mem) : Option (Int32 × Mem) :=
  (pf M 178 9 (0 : Int32)).bind fun M1 =>
  (lX12_fills_11 x1 x2 FUEL (24 : Int32) (0 : Int32) M1).bind (un2 fun a45 M46 => some (((24 : Int32) - a45), M46))

def rX12_fills : Room := { frames := 1, cells := 0, slots := 0, locals := 22 }
set_option maxRecDepth 100000 in
set_option maxHeartbeats 4000000 in
theorem c_X12_fills (l : Launch) (G : Gx) (n0 : Nat) {x1 : Int32} {x2 : Int32} {M : Mem} {r : Int32} {M' : Mem} (hf : fX12_fills x1 x2 M = some (r, M')) : Ct l yX12_fills cX12_fills 9 (some .int) rX12_fills G n0 [.ref (n0 + 178), .int x1, .int x2] M (some (.int r)) M' := by
  refine ct_int (cc := cX12_fills) (maxL := 9) rfl (Nat.le_of_ble_eq_true rfl) ?_
  intro K C hret
  have C : Ok K l rX12_fills cX12_fills RX12 G n0 9 := C
  show J K M 0 [(0, .ref (n0 + 178)), (1, .int x1), (2, .int x2)] []
  unfold fX12_fills at hf
  refine j_bipush C (24 : Int32) rfl dX12_fills_0 ?_
  refine j_istore_n C [(3, .int (24 : Int32)), (0, .ref (n0 + 178)), (1, .int x1), (2, .int x2)] dX12_fills_2 rfl (Nat.le_of_ble_eq_true rfl) rfl ?_
  refine j_aload_n C 1 dX12_fills_3 rfl rfl ?_
  refine j_iconst C (0 : Int32) rfl dX12_fills_4 ?_
  obtain ⟨M1, e2, hf⟩ := bd hf
  refine p_X12_inMany C tw5_191 lc178 e2 dX12_fills_5 ?_
  refine j_iconst C (0 : Int32) rfl dX12_fills_8 ?_
  refine j_istore C [(4, .int (0 : Int32)), (3, .int (24 : Int32)), (0, .ref (n0 + 178)), (1, .int x1), (2, .int x2)] dX12_fills_9 (Nat.le_of_ble_eq_true rfl) rfl ?_
  obtain ⟨⟨a45, M46⟩, e47, hf⟩ := bd hf
  replace hf := un2e hf
  have hx48 : J K M46 165 [(3, .int a45)] [] := by
    refine j_bipush C (24 : Int32) rfl dX12_fills_165 ?_
    refine j_iload_n C 0 dX12_fills_167 rfl rfl ?_
    refine j_isub C dX12_fills_168 ?_
    obtain ⟨rfl, rfl⟩ := Prod.mk.inj (Option.some.inj hf)
    exact hret _ _ dX12_fills_169
  clear hf
  have hl49 : ∀ (n : Nat) (a3 : Int32) (a4 : Int32) (M5 : Mem), lX12_fills_11 x1 x2 n a3 a4 M5 = some (a45, M46) → J K M5 11 [(0, .ref (n0 + 178)), (1, .int x1), (2, .int x2), (3, .int a3), (4, .int a4)] [] := by
    intro n
    induction n with
    | zero =>
      intro a3 a4 M5 hf
      exact absurd hf (by rw [lX12_fills_11]; exact fun h => by cases h)
    | succ n ih =>
      intro a3 a4 M5 hf
      rw [lX12_fills_11] at hf
      refine j_iload C 4 dX12_fills_11 rfl ?_
      refine j_aload_n C 0 dX12_fills_13 rfl rfl ?_
      refine g_X12_now C tw5_182 lc178 179 rfl dX12_fills_14 ?_
      refine j_iconst C (0 : Int32) rfl dX12_fills_17 ?_
      obtain ⟨v6, e7, hf⟩ := bd hf
      obtain ⟨hx8, e7⟩ := ald_some e7
      refine j_iald C lc179 hx8 e7 dX12_fills_18 ?_
      refine j_icmp_ge C 165 dX12_fills_19 (by decide) (fun c9 => ?_) (fun c9 => ?_)
      · replace hf := ip c9 hf
        refine j_sub [3] rfl ?_
        cases hf
        exact hx48
      · replace hf := ine c9 hf
        refine j_iload_n C 2 dX12_fills_22 rfl rfl ?_
        refine j_iload C 4 dX12_fills_23 rfl ?_
        refine j_iadd C dX12_fills_25 ?_
        refine j_aload_n C 0 dX12_fills_26 rfl rfl ?_
        refine g_X12_now C tw5_182 lc178 179 rfl dX12_fills_27 ?_
        refine j_iconst C (0 : Int32) rfl dX12_fills_30 ?_
        obtain ⟨v10, e11, hf⟩ := bd hf
        obtain ⟨hx12, e11⟩ := ald_some e11
        refine j_iald C lc179 hx12 e11 dX12_fills_31 ?_
        obtain ⟨hd13, hf⟩ := gd hf
        refine j_irem C hd13 dX12_fills_32 ?_
        refine j_istore C [(5, .int ((x2 + a4) - (x2 + a4) / v10 * v10)), (0, .ref (n0 + 178)), (1, .int x1), (2, .int x2), (3, .int a3), (4, .int a4)] dX12_fills_33 (Nat.le_of_ble_eq_true rfl) rfl ?_
        refine j_iconst C (0 : Int32) rfl dX12_fills_35 ?_
        refine j_istore C [(6, .int (0 : Int32)), (5, .int ((x2 + a4) - (x2 + a4) / v10 * v10)), (0, .ref (n0 + 178)), (1, .int x1), (2, .int x2), (3, .int a3), (4, .int a4)] dX12_fills_36 (Nat.le_of_ble_eq_true rfl) rfl ?_
        obtain ⟨⟨a43, M44⟩, e52, hf⟩ := bd hf
        replace hf := un2e hf
        have hx53 : J K M44 159 [(0, .ref (n0 + 178)), (1, .int x1), (2, .int x2), (3, .int a43), (4, .int a4)] [] := by
          refine j_iinc C 4 (a4 + 1) [(4, .int (a4 + 1)), (0, .ref (n0 + 178)), (1, .int x1), (2, .int x2), (3, .int a43)] dX12_fills_159 rfl rfl (Nat.le_of_ble_eq_true rfl) rfl ?_
          refine j_goto C 11 dX12_fills_162 (by decide) ?_
          refine j_sub [1, 2, 3, 4, 0] rfl ?_
          exact ih _ _ _ hf
        clear hf
        have hl54 : ∀ (n : Nat) (a14 : Int32) (a15 : Int32) (M16 : Mem), lX12_fills_38 x1 x2 a4 v10 n a14 a15 M16 = some (a43, M44) → J K M16 38 [(0, .ref (n0 + 178)), (1, .int x1), (2, .int x2), (3, .int a14), (4, .int a4), (5, .int ((x2 + a4) - (x2 + a4) / v10 * v10)), (6, .int a15)] [] := by
          intro n
          induction n with
          | zero =>
            intro a14 a15 M16 hf
            exact absurd hf (by rw [lX12_fills_38]; exact fun h => by cases h)
          | succ n ih =>
            intro a14 a15 M16 hf
            rw [lX12_fills_38] at hf
            refine j_iload C 6 dX12_fills_38 rfl ?_
            refine j_aload_n C 0 dX12_fills_40 rfl rfl ?_
            refine g_X12_now C tw5_182 lc178 179 rfl dX12_fills_41 ?_
            refine j_bipush C (7 : Int32) rfl dX12_fills_44 ?_
            obtain ⟨v17, e18, hf⟩ := bd hf
            obtain ⟨hx19, e18⟩ := ald_some e18
            refine j_iald C lc179 hx19 e18 dX12_fills_46 ?_
            refine j_icmp_ge C 159 dX12_fills_47 (by decide) (fun c20 => ?_) (fun c20 => ?_)
            · replace hf := ip c20 hf
              refine j_sub [0, 1, 2, 3, 4] rfl ?_
              cases hf
              exact hx53
            · replace hf := ine c20 hf
              refine j_bipush C (41 : Int32) rfl dX12_fills_50 ?_
              refine j_iconst C (3 : Int32) rfl dX12_fills_52 ?_
              refine j_iload C 6 dX12_fills_53 rfl ?_
              refine j_imul C dX12_fills_55 ?_
              refine j_iadd C dX12_fills_56 ?_
              refine j_istore C [(7, .int ((41 : Int32) + ((3 : Int32) * a15))), (0, .ref (n0 + 178)), (1, .int x1), (2, .int x2), (3, .int a14), (4, .int a4), (5, .int ((x2 + a4) - (x2 + a4) / v10 * v10)), (6, .int a15)] dX12_fills_57 (Nat.le_of_ble_eq_true rfl) rfl ?_
              refine j_aload_n C 1 dX12_fills_59 rfl rfl ?_
              refine g_X12_now C tw5_182 lc178 179 rfl dX12_fills_60 ?_
              refine j_iload C 0 dX12_fills_63 rfl ?_
              refine j_iconst C (2 : Int32) rfl dX12_fills_65 ?_
              refine j_iadd C dX12_fills_66 ?_
              obtain ⟨v21, e22, hf⟩ := bd hf
              obtain ⟨hx23, e22⟩ := ald_some e22
              refine j_iald C lc179 hx23 e22 dX12_fills_67 ?_
              refine j_istore C [(8, .int v21), (7, .int ((41 : Int32) + ((3 : Int32) * a15))), (0, .ref (n0 + 178)), (1, .int x1), (2, .int x2), (3, .int a14), (4, .int a4), (5, .int ((x2 + a4) - (x2 + a4) / v10 * v10)), (6, .int a15)] dX12_fills_68 (Nat.le_of_ble_eq_true rfl) rfl ?_
              refine j_aload_n C 2 dX12_fills_70 rfl rfl ?_
              refine g_X12_now C tw5_182 lc178 179 rfl dX12_fills_71 ?_
              refine j_iload C 1 dX12_fills_74 rfl ?_
              obtain ⟨v24, e25, hf⟩ := bd hf
              obtain ⟨hx26, e25⟩ := ald_some e25
              refine j_iald C lc179 hx26 e25 dX12_fills_76 ?_
              refine j_iload C 7 dX12_fills_77 rfl ?_
              refine j_icmp_ne C 153 dX12_fills_79 (by decide) (fun c27 => ?_) (fun c27 => ?_)
              · replace hf := ine c27 hf
                refine j_iinc C 8 (a15 + 1) [(6, .int (a15 + 1)), (8, .int v21), (7, .int ((41 : Int32) + ((3 : Int32) * a15))), (0, .ref (n0 + 178)), (1, .int x1), (2, .int x2), (3, .int a14), (4, .int a4), (5, .int ((x2 + a4) - (x2 + a4) / v10 * v10))] dX12_fills_153 rfl rfl (Nat.le_of_ble_eq_true rfl) rfl ?_
                refine j_goto C 38 dX12_fills_156 (by decide) ?_
                refine j_sub [3, 4, 5, 6, 7, 8, 0] rfl ?_
                exact ih _ _ _ hf
              · replace hf := ip c27 hf
                refine j_aload_n C 2 dX12_fills_82 rfl rfl ?_
                refine g_X12_now C tw5_182 lc178 179 rfl dX12_fills_83 ?_
                refine j_iload C 1 dX12_fills_86 rfl ?_
                refine j_iconst C (1 : Int32) rfl dX12_fills_88 ?_
                refine j_iadd C dX12_fills_89 ?_
                obtain ⟨v28, e29, hf⟩ := bd hf
                obtain ⟨hx30, e29⟩ := ald_some e29
                refine j_iald C lc179 hx30 e29 dX12_fills_90 ?_
                refine j_iload_n C 3 dX12_fills_91 rfl rfl ?_
                refine j_icmp_ne C 153 dX12_fills_92 (by decide) (fun c31 => ?_) (fun c31 => ?_)
                · replace hf := ine c31 hf
                  refine j_iinc C 8 (a15 + 1) [(6, .int (a15 + 1)), (8, .int v21), (7, .int ((41 : Int32) + ((3 : Int32) * a15))), (0, .ref (n0 + 178)), (1, .int x1), (2, .int x2), (3, .int a14), (4, .int a4), (5, .int ((x2 + a4) - (x2 + a4) / v10 * v10))] dX12_fills_153 rfl rfl (Nat.le_of_ble_eq_true rfl) rfl ?_
                  refine j_goto C 38 dX12_fills_156 (by decide) ?_
                  refine j_sub [3, 4, 5, 6, 7, 8, 0] rfl ?_
                  exact ih _ _ _ hf
                · replace hf := ip c31 hf
                  refine j_iload C 0 dX12_fills_95 rfl ?_
                  refine j_iload_n C 5 dX12_fills_97 rfl rfl ?_
                  refine j_icmp_gt C 153 dX12_fills_98 (by decide) (fun c32 => ?_) (fun c32 => ?_)
                  · replace hf := ip c32 hf
                    refine j_iinc C 8 (a15 + 1) [(6, .int (a15 + 1)), (8, .int v21), (7, .int ((41 : Int32) + ((3 : Int32) * a15))), (0, .ref (n0 + 178)), (1, .int x1), (2, .int x2), (3, .int a14), (4, .int a4), (5, .int ((x2 + a4) - (x2 + a4) / v10 * v10))] dX12_fills_153 rfl rfl (Nat.le_of_ble_eq_true rfl) rfl ?_
                    refine j_goto C 38 dX12_fills_156 (by decide) ?_
                    refine j_sub [3, 4, 5, 6, 7, 8, 0] rfl ?_
                    exact ih _ _ _ hf
                  · replace hf := ine c32 hf
                    refine j_iload_n C 5 dX12_fills_101 rfl rfl ?_
                    refine j_iload C 0 dX12_fills_102 rfl ?_
                    refine j_isub C dX12_fills_104 ?_
                    refine j_istore_n C [(3, .int (a14 - v21)), (8, .int v21), (7, .int ((41 : Int32) + ((3 : Int32) * a15))), (0, .ref (n0 + 178)), (1, .int x1), (2, .int x2), (4, .int a4), (5, .int ((x2 + a4) - (x2 + a4) / v10 * v10)), (6, .int a15)] dX12_fills_105 rfl (Nat.le_of_ble_eq_true rfl) rfl ?_
                    refine j_aload_n C 3 dX12_fills_106 rfl rfl ?_
                    refine g_X12_inOven C tw5_190 lc178 183 rfl dX12_fills_107 ?_
                    refine j_iconst C (2 : Int32) rfl dX12_fills_110 ?_
                    refine j_aload_n C 3 dX12_fills_111 rfl rfl ?_
                    refine g_X12_inMany C tw5_191 lc178 dX12_fills_112 ?_
                    refine j_imul C dX12_fills_115 ?_
                    refine j_iload C 7 dX12_fills_116 rfl ?_
                    obtain ⟨M33, e34, hf⟩ := bd hf
                    obtain ⟨hx35, e34⟩ := ast_some e34
                    refine j_iast C lc183 hx35 e34 dX12_fills_118 ?_
                    refine j_aload_n C 3 dX12_fills_119 rfl rfl ?_
                    refine g_X12_inOven C tw5_190 lc178 183 rfl dX12_fills_120 ?_
                    refine j_iconst C (2 : Int32) rfl dX12_fills_123 ?_
                    refine j_aload_n C 3 dX12_fills_124 rfl rfl ?_
                    refine g_X12_inMany C tw5_191 lc178 dX12_fills_125 ?_
                    refine j_imul C dX12_fills_128 ?_
                    refine j_iconst C (1 : Int32) rfl dX12_fills_129 ?_
                    refine j_iadd C dX12_fills_130 ?_
                    refine j_iload C 1 dX12_fills_131 rfl ?_
                    obtain ⟨M36, e37, hf⟩ := bd hf
                    obtain ⟨hx38, e37⟩ := ast_some e37
                    refine j_iast C lc183 hx38 e37 dX12_fills_133 ?_
                    refine j_aload_n C 3 dX12_fills_134 rfl rfl ?_
                    refine j_dup C rfl dX12_fills_135 ?_
                    refine g_X12_inMany C tw5_191 lc178 dX12_fills_136 ?_
                    refine j_iconst C (1 : Int32) rfl dX12_fills_139 ?_
                    refine j_iadd C dX12_fills_140 ?_
                    obtain ⟨M39, e40, hf⟩ := bd hf
                    refine p_X12_inMany C tw5_191 lc178 e40 dX12_fills_141 ?_
                    refine j_aload_n C 3 dX12_fills_144 rfl rfl ?_
                    refine j_iload C 8 dX12_fills_145 rfl ?_
                    obtain ⟨M42, e41, hf⟩ := bd hf
                    refine j_callV C 1 lc178 (ent_K _ _ _ _ _ _) rfl (c_X12_dropsBatch l G n0 e41) gv_RX12_90 ⟨rfl, rfl⟩ (by decide +kernel) ⟨Nat.le_of_ble_eq_true rfl, Nat.le_of_ble_eq_true rfl⟩ rfl rfl (Nat.le_of_ble_eq_true rfl) dX12_fills_147 ?_
                    refine j_goto C 156 dX12_fills_150 (by decide) ?_
                    refine j_goto C 38 dX12_fills_156 (by decide) ?_
                    refine j_sub [3, 4, 5, 0, 6, 7, 8] rfl ?_
                    exact ih _ _ _ hf
        refine j_sub [2, 3, 4, 5, 6, 1, 0] rfl ?_
        exact hl54 FUEL a3 (0 : Int32) M5 e52
  refine j_sub [2, 3, 4, 1, 0] rfl ?_
  exact hl49 FUEL (24 : Int32) (0 : Int32) M1 e47
def lX12_bakes_18 (x1 : Int32) (v5 : Int32) : Nat → Int32 → Mem → Option Mem
  | 0, _, _ => none
  | n + 1, a7, M8 =>
  (fX12_ticksOf x1).bind fun v10 =>
  if v10 ≤ a7 then (some M8)
  else ((fX12_falls ((5 : Int32) + (v5 / (8 : Int32))) M8).bind fun M13 =>
  lX12_bakes_18 x1 v5 n (a7 + 1) M13)

def lX12_bakes_214 (x1 : Int32) (z48 : Bool) (a49 : Int32) (v52 : Int32) : Nat → Int32 → Mem → Option Mem
  | 0, _, _ => none
  | n + 1, a64, M65 =>
  (ald (M65.1 183) 40 (((2 : Int32) * a49) + (1 : Int32))).bind fun v66 =>
  if v66 ≤ a64 then (some M65)
  else ((fX12_comesOut v52 x1 z48 M65).bind fun M71 =>
  lX12_bakes_214 x1 z48 a49 v52 n (a64 + 1) M71)

def lX12_bakes_152 (x1 : Int32) (z48 : Bool) : Nat → Int32 → Mem → Option Mem
  | 0, _, _ => none
  | n + 1, a49, M50 =>
  if (M50.1 178 9) ≤ a49 then (some M50)
  else ((ald (M50.1 183) 40 ((2 : Int32) * a49)).bind fun v52 =>
  (pf M50 178 10 ((M50.1 178 10) ||| ((1 : Int32) <<< (v52 &&& 31)))).bind fun M55 =>
  (fX12_of v52 (2 : Int32) M55).bind fun v58 =>
  (ald (M55.1 183) 40 (((2 : Int32) * a49) + (1 : Int32))).bind fun v59 =>
  (fX12_lays v52 (2 : Int32) (v58 + v59) M55).bind fun M63 =>
  (lX12_bakes_214 x1 z48 a49 v52 FUEL (0 : Int32) M63).bind (fun M72 => lX12_bakes_152 x1 z48 n (a49 + 1) M72))

def fX12_bakes (x1 : Int32) (x2 : Int32) (M : Mem) : Option Mem :=
  (ald (M.1 179) 1601 (2 : Int32)).bind fun v1 =>
  (fX12_fills x1 x2 M).bind (un2 fun v5 M6 =>
  (lX12_bakes_18 x1 v5 FUEL (0 : Int32) M6).bind (fun M14 => (ald (M14.1 179) 1601 (8 : Int32)).bind fun v15 =>
  (ast M14 179 1601 ((101 : Int32) + ((5 : Int32) * v15)) x1).bind fun M18 =>
  (ast M18 179 1601 (((101 : Int32) + ((5 : Int32) * v15)) + (1 : Int32)) (M18.1 178 9)).bind fun M21 =>
  (ast M21 179 1601 (((101 : Int32) + ((5 : Int32) * v15)) + (2 : Int32)) v5).bind fun M24 =>
  (ast M24 179 1601 (((101 : Int32) + ((5 : Int32) * v15)) + (3 : Int32)) v1).bind fun M27 =>
  (ald (M27.1 179) 1601 (2 : Int32)).bind fun v30 =>
  (ast M27 179 1601 (((101 : Int32) + ((5 : Int32) * v15)) + (4 : Int32)) v30).bind fun M33 =>
  (ald (M33.1 179) 1601 (8 : Int32)).bind fun v36 =>
  (ast M33 179 1601 (8 : Int32) (v36 + (1 : Int32))).bind fun M39 =>
  (ald (M39.1 179) 1601 (2 : Int32)).bind fun v42 =>
  (fX12_lowest x1).bind fun v46 =>
  (if (v46 - (30 : Int32)) ≤ v42 then (some false)
  else (some true)).bind (fun z48 => (lX12_bakes_152 x1 z48 FUEL (0 : Int32) M39).bind (fun M73 => some M73))))

def rX12_bakes : Room := { frames := 2, cells := 0, slots := 0, locals := 50 }
set_option maxRecDepth 100000 in
set_option maxHeartbeats 4000000 in
theorem c_X12_bakes (l : Launch) (G : Gx) (n0 : Nat) {x1 : Int32} {x2 : Int32} {M : Mem} {M' : Mem} (hf : fX12_bakes x1 x2 M = some M') : Ct l yX12_bakes cX12_bakes 10 none rX12_bakes G n0 [.ref (n0 + 178), .int x1, .int x2] M none M' := by
  refine ct_void (cc := cX12_bakes) (maxL := 10) rfl (Nat.le_of_ble_eq_true rfl) ?_
  intro K C hret
  have C : Ok K l rX12_bakes cX12_bakes RX12 G n0 10 := C
  show J K M 0 [(0, .ref (n0 + 178)), (1, .int x1), (2, .int x2)] []
  unfold fX12_bakes at hf
  refine j_aload_n C 0 dX12_bakes_0 rfl rfl ?_
  refine g_X12_now C tw5_182 lc178 179 rfl dX12_bakes_1 ?_
  refine j_iconst C (2 : Int32) rfl dX12_bakes_4 ?_
  obtain ⟨v1, e2, hf⟩ := bd hf
  obtain ⟨hx3, e2⟩ := ald_some e2
  refine j_iald C lc179 hx3 e2 dX12_bakes_5 ?_
  refine j_istore_n C [(3, .int v1), (0, .ref (n0 + 178)), (1, .int x1), (2, .int x2)] dX12_bakes_6 rfl (Nat.le_of_ble_eq_true rfl) rfl ?_
  refine j_aload_n C 1 dX12_bakes_7 rfl rfl ?_
  refine j_iload_n C 2 dX12_bakes_8 rfl rfl ?_
  refine j_iload_n C 3 dX12_bakes_9 rfl rfl ?_
  obtain ⟨⟨v5, M6⟩, e4, hf⟩ := bd hf
  replace hf := un2e hf
  refine j_callV C 2 lc178 (ent_K _ _ _ _ _ _) rfl (c_X12_fills l G n0 e4) gv_RX12_122 ⟨rfl, rfl⟩ (by decide +kernel) ⟨Nat.le_of_ble_eq_true rfl, Nat.le_of_ble_eq_true rfl⟩ rfl rfl (Nat.le_of_ble_eq_true rfl) dX12_bakes_10 ?_
  refine j_istore C [(4, .int v5), (3, .int v1), (0, .ref (n0 + 178)), (1, .int x1), (2, .int x2)] dX12_bakes_13 (Nat.le_of_ble_eq_true rfl) rfl ?_
  refine j_iconst C (0 : Int32) rfl dX12_bakes_15 ?_
  refine j_istore C [(5, .int (0 : Int32)), (4, .int v5), (3, .int v1), (0, .ref (n0 + 178)), (1, .int x1), (2, .int x2)] dX12_bakes_16 (Nat.le_of_ble_eq_true rfl) rfl ?_
  obtain ⟨M14, e74, hf⟩ := bd hf
  have hx75 : J K M14 44 [(0, .ref (n0 + 178)), (1, .int x1), (3, .int v1), (4, .int v5)] [] := by
    refine j_bipush C (101 : Int32) rfl dX12_bakes_44 ?_
    refine j_iconst C (5 : Int32) rfl dX12_bakes_46 ?_
    refine j_aload_n C 0 dX12_bakes_47 rfl rfl ?_
    refine g_X12_now C tw5_182 lc178 179 rfl dX12_bakes_48 ?_
    refine j_bipush C (8 : Int32) rfl dX12_bakes_51 ?_
    obtain ⟨v15, e16, hf⟩ := bd hf
    obtain ⟨hx17, e16⟩ := ald_some e16
    refine j_iald C lc179 hx17 e16 dX12_bakes_53 ?_
    refine j_imul C dX12_bakes_54 ?_
    refine j_iadd C dX12_bakes_55 ?_
    refine j_istore C [(5, .int ((101 : Int32) + ((5 : Int32) * v15))), (0, .ref (n0 + 178)), (1, .int x1), (3, .int v1), (4, .int v5)] dX12_bakes_56 (Nat.le_of_ble_eq_true rfl) rfl ?_
    refine j_aload_n C 1 dX12_bakes_58 rfl rfl ?_
    refine g_X12_now C tw5_182 lc178 179 rfl dX12_bakes_59 ?_
    refine j_iload C 0 dX12_bakes_62 rfl ?_
    refine j_iload_n C 2 dX12_bakes_64 rfl rfl ?_
    obtain ⟨M18, e19, hf⟩ := bd hf
    obtain ⟨hx20, e19⟩ := ast_some e19
    refine j_iast C lc179 hx20 e19 dX12_bakes_65 ?_
    refine j_aload_n C 1 dX12_bakes_66 rfl rfl ?_
    refine g_X12_now C tw5_182 lc178 179 rfl dX12_bakes_67 ?_
    refine j_iload C 0 dX12_bakes_70 rfl ?_
    refine j_iconst C (1 : Int32) rfl dX12_bakes_72 ?_
    refine j_iadd C dX12_bakes_73 ?_
    refine j_aload_n C 1 dX12_bakes_74 rfl rfl ?_
    refine g_X12_inMany C tw5_191 lc178 dX12_bakes_75 ?_
    obtain ⟨M21, e22, hf⟩ := bd hf
    obtain ⟨hx23, e22⟩ := ast_some e22
    refine j_iast C lc179 hx23 e22 dX12_bakes_78 ?_
    refine j_aload_n C 1 dX12_bakes_79 rfl rfl ?_
    refine g_X12_now C tw5_182 lc178 179 rfl dX12_bakes_80 ?_
    refine j_iload C 0 dX12_bakes_83 rfl ?_
    refine j_iconst C (2 : Int32) rfl dX12_bakes_85 ?_
    refine j_iadd C dX12_bakes_86 ?_
    refine j_iload C 4 dX12_bakes_87 rfl ?_
    obtain ⟨M24, e25, hf⟩ := bd hf
    obtain ⟨hx26, e25⟩ := ast_some e25
    refine j_iast C lc179 hx26 e25 dX12_bakes_89 ?_
    refine j_aload_n C 1 dX12_bakes_90 rfl rfl ?_
    refine g_X12_now C tw5_182 lc178 179 rfl dX12_bakes_91 ?_
    refine j_iload C 0 dX12_bakes_94 rfl ?_
    refine j_iconst C (3 : Int32) rfl dX12_bakes_96 ?_
    refine j_iadd C dX12_bakes_97 ?_
    refine j_iload_n C 3 dX12_bakes_98 rfl rfl ?_
    obtain ⟨M27, e28, hf⟩ := bd hf
    obtain ⟨hx29, e28⟩ := ast_some e28
    refine j_iast C lc179 hx29 e28 dX12_bakes_99 ?_
    refine j_aload_n C 1 dX12_bakes_100 rfl rfl ?_
    refine g_X12_now C tw5_182 lc178 179 rfl dX12_bakes_101 ?_
    refine j_iload C 0 dX12_bakes_104 rfl ?_
    refine j_iconst C (4 : Int32) rfl dX12_bakes_106 ?_
    refine j_iadd C dX12_bakes_107 ?_
    refine j_aload_n C 1 dX12_bakes_108 rfl rfl ?_
    refine g_X12_now C tw5_182 lc178 179 rfl dX12_bakes_109 ?_
    refine j_iconst C (2 : Int32) rfl dX12_bakes_112 ?_
    obtain ⟨v30, e31, hf⟩ := bd hf
    obtain ⟨hx32, e31⟩ := ald_some e31
    refine j_iald C lc179 hx32 e31 dX12_bakes_113 ?_
    obtain ⟨M33, e34, hf⟩ := bd hf
    obtain ⟨hx35, e34⟩ := ast_some e34
    refine j_iast C lc179 hx35 e34 dX12_bakes_114 ?_
    refine j_aload_n C 1 dX12_bakes_115 rfl rfl ?_
    refine g_X12_now C tw5_182 lc178 179 rfl dX12_bakes_116 ?_
    refine j_bipush C (8 : Int32) rfl dX12_bakes_119 ?_
    refine j_dup2_11 C rfl rfl dX12_bakes_121 ?_
    obtain ⟨v36, e37, hf⟩ := bd hf
    obtain ⟨hx38, e37⟩ := ald_some e37
    refine j_iald C lc179 hx38 e37 dX12_bakes_122 ?_
    refine j_iconst C (1 : Int32) rfl dX12_bakes_123 ?_
    refine j_iadd C dX12_bakes_124 ?_
    obtain ⟨M39, e40, hf⟩ := bd hf
    obtain ⟨hx41, e40⟩ := ast_some e40
    refine j_iast C lc179 hx41 e40 dX12_bakes_125 ?_
    refine j_aload_n C 1 dX12_bakes_126 rfl rfl ?_
    refine g_X12_now C tw5_182 lc178 179 rfl dX12_bakes_127 ?_
    refine j_iconst C (2 : Int32) rfl dX12_bakes_130 ?_
    obtain ⟨v42, e43, hf⟩ := bd hf
    obtain ⟨hx44, e43⟩ := ald_some e43
    refine j_iald C lc179 hx44 e43 dX12_bakes_131 ?_
    refine j_iload_n C 2 dX12_bakes_132 rfl rfl ?_
    obtain ⟨v46, e45, hf⟩ := bd hf
    refine j_callS C 1 (c_X12_lowest l G n0 (M := M39) e45) gs_RX12_131 ⟨rfl, rfl⟩ (by decide +kernel) ⟨Nat.le_of_ble_eq_true rfl, Nat.le_of_ble_eq_true rfl⟩ rfl rfl (Nat.le_of_ble_eq_true rfl) dX12_bakes_133 ?_
    refine j_bipush C (30 : Int32) rfl dX12_bakes_136 ?_
    refine j_isub C dX12_bakes_138 ?_
    obtain ⟨z48, e79, hf⟩ := bd hf
    have hj80 : J K M39 147 [(0, .ref (n0 + 178)), (1, .int x1)] [.int (bI z48)] := by
      refine j_istore C [(6, .int (bI z48)), (0, .ref (n0 + 178)), (1, .int x1)] dX12_bakes_147 (Nat.le_of_ble_eq_true rfl) rfl ?_
      refine j_iconst C (0 : Int32) rfl dX12_bakes_149 ?_
      refine j_istore C [(7, .int (0 : Int32)), (6, .int (bI z48)), (0, .ref (n0 + 178)), (1, .int x1)] dX12_bakes_150 (Nat.le_of_ble_eq_true rfl) rfl ?_
      obtain ⟨M73, e81, hf⟩ := bd hf
      have hx82 : J K M73 251 [] [] := by
        obtain rfl := Option.some.inj hf
        exact hret _ _ dX12_bakes_251
      clear hf
      have hl83 : ∀ (n : Nat) (a49 : Int32) (M50 : Mem), lX12_bakes_152 x1 z48 n a49 M50 = some M73 → J K M50 152 [(0, .ref (n0 + 178)), (1, .int x1), (6, .int (bI z48)), (7, .int a49)] [] := by
        intro n
        induction n with
        | zero =>
          intro a49 M50 hf
          exact absurd hf (by rw [lX12_bakes_152]; exact fun h => by cases h)
        | succ n ih =>
          intro a49 M50 hf
          rw [lX12_bakes_152] at hf
          refine j_iload C 3 dX12_bakes_152 rfl ?_
          refine j_aload_n C 0 dX12_bakes_154 rfl rfl ?_
          refine g_X12_inMany C tw5_191 lc178 dX12_bakes_155 ?_
          refine j_icmp_ge C 251 dX12_bakes_158 (by decide) (fun c51 => ?_) (fun c51 => ?_)
          · replace hf := ip c51 hf
            refine j_sub [] rfl ?_
            cases hf
            exact hx82
          · replace hf := ine c51 hf
            refine j_aload_n C 0 dX12_bakes_161 rfl rfl ?_
            refine g_X12_inOven C tw5_190 lc178 183 rfl dX12_bakes_162 ?_
            refine j_iconst C (2 : Int32) rfl dX12_bakes_165 ?_
            refine j_iload C 3 dX12_bakes_166 rfl ?_
            refine j_imul C dX12_bakes_168 ?_
            obtain ⟨v52, e53, hf⟩ := bd hf
            obtain ⟨hx54, e53⟩ := ald_some e53
            refine j_iald C lc183 hx54 e53 dX12_bakes_169 ?_
            refine j_istore C [(8, .int v52), (0, .ref (n0 + 178)), (1, .int x1), (6, .int (bI z48)), (7, .int a49)] dX12_bakes_170 (Nat.le_of_ble_eq_true rfl) rfl ?_
            refine j_aload_n C 1 dX12_bakes_172 rfl rfl ?_
            refine j_dup C rfl dX12_bakes_173 ?_
            refine g_X12_baked C tw5_192 lc178 dX12_bakes_174 ?_
            refine j_iconst C (1 : Int32) rfl dX12_bakes_177 ?_
            refine j_iload C 0 dX12_bakes_178 rfl ?_
            refine j_ishl C dX12_bakes_180 ?_
            refine j_ior C dX12_bakes_181 ?_
            obtain ⟨M55, e56, hf⟩ := bd hf
            refine p_X12_baked C tw5_192 lc178 e56 dX12_bakes_182 ?_
            refine j_aload_n C 1 dX12_bakes_185 rfl rfl ?_
            refine j_iload C 0 dX12_bakes_186 rfl ?_
            refine j_iconst C (2 : Int32) rfl dX12_bakes_188 ?_
            refine j_aload_n C 1 dX12_bakes_189 rfl rfl ?_
            refine j_iload C 0 dX12_bakes_190 rfl ?_
            refine j_iconst C (2 : Int32) rfl dX12_bakes_192 ?_
            obtain ⟨v58, e57, hf⟩ := bd hf
            refine j_callV C 2 lc178 (ent_K _ _ _ _ _ _) rfl (c_X12_of l G n0 e57) gv_RX12_44 ⟨rfl, rfl⟩ (by decide +kernel) ⟨Nat.le_of_ble_eq_true rfl, Nat.le_of_ble_eq_true rfl⟩ rfl rfl (Nat.le_of_ble_eq_true rfl) dX12_bakes_193 ?_
            refine j_aload_n C 1 dX12_bakes_196 rfl rfl ?_
            refine g_X12_inOven C tw5_190 lc178 183 rfl dX12_bakes_197 ?_
            refine j_iconst C (2 : Int32) rfl dX12_bakes_200 ?_
            refine j_iload C 4 dX12_bakes_201 rfl ?_
            refine j_imul C dX12_bakes_203 ?_
            refine j_iconst C (1 : Int32) rfl dX12_bakes_204 ?_
            refine j_iadd C dX12_bakes_205 ?_
            obtain ⟨v59, e60, hf⟩ := bd hf
            obtain ⟨hx61, e60⟩ := ald_some e60
            refine j_iald C lc183 hx61 e60 dX12_bakes_206 ?_
            refine j_iadd C dX12_bakes_207 ?_
            obtain ⟨M63, e62, hf⟩ := bd hf
            refine j_callV C 3 lc178 (ent_K _ _ _ _ _ _) rfl (c_X12_lays l G n0 e62) gv_RX12_55 ⟨rfl, rfl⟩ (by decide +kernel) ⟨Nat.le_of_ble_eq_true rfl, Nat.le_of_ble_eq_true rfl⟩ rfl rfl (Nat.le_of_ble_eq_true rfl) dX12_bakes_208 ?_
            refine j_iconst C (0 : Int32) rfl dX12_bakes_211 ?_
            refine j_istore C [(9, .int (0 : Int32)), (8, .int v52), (0, .ref (n0 + 178)), (1, .int x1), (6, .int (bI z48)), (7, .int a49)] dX12_bakes_212 (Nat.le_of_ble_eq_true rfl) rfl ?_
            obtain ⟨M72, e86, hf⟩ := bd hf
            have hx87 : J K M72 245 [(0, .ref (n0 + 178)), (1, .int x1), (6, .int (bI z48)), (7, .int a49)] [] := by
              refine j_iinc C 3 (a49 + 1) [(7, .int (a49 + 1)), (0, .ref (n0 + 178)), (1, .int x1), (6, .int (bI z48))] dX12_bakes_245 rfl rfl (Nat.le_of_ble_eq_true rfl) rfl ?_
              refine j_goto C 152 dX12_bakes_248 (by decide) ?_
              refine j_sub [1, 2, 3, 0] rfl ?_
              exact ih _ _ hf
            clear hf
            have hl88 : ∀ (n : Nat) (a64 : Int32) (M65 : Mem), lX12_bakes_214 x1 z48 a49 v52 n a64 M65 = some M72 → J K M65 214 [(0, .ref (n0 + 178)), (1, .int x1), (6, .int (bI z48)), (7, .int a49), (8, .int v52), (9, .int a64)] [] := by
              intro n
              induction n with
              | zero =>
                intro a64 M65 hf
                exact absurd hf (by rw [lX12_bakes_214]; exact fun h => by cases h)
              | succ n ih =>
                intro a64 M65 hf
                rw [lX12_bakes_214] at hf
                refine j_iload C 5 dX12_bakes_214 rfl ?_
                refine j_aload_n C 0 dX12_bakes_216 rfl rfl ?_
                refine g_X12_inOven C tw5_190 lc178 183 rfl dX12_bakes_217 ?_
                refine j_iconst C (2 : Int32) rfl dX12_bakes_220 ?_
                refine j_iload C 3 dX12_bakes_221 rfl ?_
                refine j_imul C dX12_bakes_223 ?_
                refine j_iconst C (1 : Int32) rfl dX12_bakes_224 ?_
                refine j_iadd C dX12_bakes_225 ?_
                obtain ⟨v66, e67, hf⟩ := bd hf
                obtain ⟨hx68, e67⟩ := ald_some e67
                refine j_iald C lc183 hx68 e67 dX12_bakes_226 ?_
                refine j_icmp_ge C 245 dX12_bakes_227 (by decide) (fun c69 => ?_) (fun c69 => ?_)
                · replace hf := ip c69 hf
                  refine j_sub [0, 1, 2, 3] rfl ?_
                  cases hf
                  exact hx87
                · replace hf := ine c69 hf
                  refine j_aload_n C 0 dX12_bakes_230 rfl rfl ?_
                  refine j_iload C 4 dX12_bakes_231 rfl ?_
                  refine j_iload_n C 1 dX12_bakes_233 rfl rfl ?_
                  refine j_iload C 2 dX12_bakes_234 rfl ?_
                  obtain ⟨M71, e70, hf⟩ := bd hf
                  refine j_callV C 3 lc178 (ent_K _ _ _ _ _ _) rfl (c_X12_comesOut l G n0 e70) gv_RX12_137 ⟨rfl, rfl⟩ (by decide +kernel) ⟨Nat.le_of_ble_eq_true rfl, Nat.le_of_ble_eq_true rfl⟩ rfl rfl (Nat.le_of_ble_eq_true rfl) dX12_bakes_236 ?_
                  refine j_iinc C 5 (a64 + 1) [(9, .int (a64 + 1)), (0, .ref (n0 + 178)), (1, .int x1), (6, .int (bI z48)), (7, .int a49), (8, .int v52)] dX12_bakes_239 rfl rfl (Nat.le_of_ble_eq_true rfl) rfl ?_
                  refine j_goto C 214 dX12_bakes_242 (by decide) ?_
                  refine j_sub [1, 2, 3, 4, 5, 0] rfl ?_
                  exact ih _ _ hf
            refine j_sub [2, 3, 4, 5, 1, 0] rfl ?_
            exact hl88 FUEL (0 : Int32) M63 e86
      refine j_sub [2, 3, 1, 0] rfl ?_
      exact hl83 FUEL (0 : Int32) M39 e81
    clear hf
    have hf := e79
    refine j_icmp_ge C 146 dX12_bakes_139 (by decide) (fun c47 => ?_) (fun c47 => ?_)
    · replace hf := ip c47 hf
      refine j_iconst C (0 : Int32) rfl dX12_bakes_146 ?_
      cases hf
      refine j_sub [1, 2] rfl ?_
      exact hj80
    · replace hf := ine c47 hf
      refine j_iconst C (1 : Int32) rfl dX12_bakes_142 ?_
      refine j_goto C 147 dX12_bakes_143 (by decide) ?_
      cases hf
      refine j_sub [1, 2] rfl ?_
      exact hj80
  clear hf
  have hl76 : ∀ (n : Nat) (a7 : Int32) (M8 : Mem), lX12_bakes_18 x1 v5 n a7 M8 = some M14 → J K M8 18 [(0, .ref (n0 + 178)), (1, .int x1), (3, .int v1), (4, .int v5), (5, .int a7)] [] := by
    intro n
    induction n with
    | zero =>
      intro a7 M8 hf
      exact absurd hf (by rw [lX12_bakes_18]; exact fun h => by cases h)
    | succ n ih =>
      intro a7 M8 hf
      rw [lX12_bakes_18] at hf
      refine j_iload C 4 dX12_bakes_18 rfl ?_
      refine j_iload_n C 1 dX12_bakes_20 rfl rfl ?_
      obtain ⟨v10, e9, hf⟩ := bd hf
      refine j_callS C 1 (c_X12_ticksOf l G n0 (M := M8) e9) gs_RX12_125 ⟨rfl, rfl⟩ (by decide +kernel) ⟨Nat.le_of_ble_eq_true rfl, Nat.le_of_ble_eq_true rfl⟩ rfl rfl (Nat.le_of_ble_eq_true rfl) dX12_bakes_21 ?_
      refine j_icmp_ge C 44 dX12_bakes_24 (by decide) (fun c11 => ?_) (fun c11 => ?_)
      · replace hf := ip c11 hf
        refine j_sub [0, 1, 2, 3] rfl ?_
        cases hf
        exact hx75
      · replace hf := ine c11 hf
        refine j_aload_n C 0 dX12_bakes_27 rfl rfl ?_
        refine j_iconst C (5 : Int32) rfl dX12_bakes_28 ?_
        refine j_iload C 3 dX12_bakes_29 rfl ?_
        refine j_bipush C (8 : Int32) rfl dX12_bakes_31 ?_
        refine j_idiv C (by decide) dX12_bakes_33 ?_
        refine j_iadd C dX12_bakes_34 ?_
        obtain ⟨M13, e12, hf⟩ := bd hf
        refine j_callV C 1 lc178 (ent_K _ _ _ _ _ _) rfl (c_X12_falls l G n0 e12) gv_RX12_128 ⟨rfl, rfl⟩ (by decide +kernel) ⟨Nat.le_of_ble_eq_true rfl, Nat.le_of_ble_eq_true rfl⟩ rfl rfl (Nat.le_of_ble_eq_true rfl) dX12_bakes_35 ?_
        refine j_iinc C 4 (a7 + 1) [(5, .int (a7 + 1)), (0, .ref (n0 + 178)), (1, .int x1), (3, .int v1), (4, .int v5)] dX12_bakes_38 rfl rfl (Nat.le_of_ble_eq_true rfl) rfl ?_
        refine j_goto C 18 dX12_bakes_41 (by decide) ?_
        refine j_sub [1, 2, 3, 4, 0] rfl ?_
        exact ih _ _ hf
  refine j_sub [3, 4, 2, 1, 0] rfl ?_
  exact hl76 FUEL (0 : Int32) M6 e74
def lX12_kindNow_6 (M : Mem) : Nat → Int32 → Bool → Int32 → Option (Int32 × Bool)
  | 0, _, _, _ => none
  | n + 1, a1, a2, a3 =>
  if a3 < 0 then (some (a1, a2))
  else ((fX12_waits a3 M).bind fun b6 =>
  (if b6 = true then ((ald (M.1 179) 1601 (2 : Int32)).bind fun v8 =>
  (fX12_lowest a3).bind fun v12 =>
  (fX12_highest a3).bind fun v14 =>
  (fX12_in v8 v12 v14).bind fun b16 =>
  if b16 = true then (some a3)
  else (some a1))
  else (some a1)).bind (fun z18 => if a2 = true then (lX12_kindNow_6 M n z18 true (a3 + (-1)))
  else ((fX12_waits a3 M).bind fun b21 =>
  if b21 = true then ((ald (M.1 179) 1601 (2 : Int32)).bind fun v23 =>
  (fX12_highest a3).bind fun v27 =>
  if v23 ≤ v27 then (lX12_kindNow_6 M n z18 false (a3 + (-1)))
  else (lX12_kindNow_6 M n z18 true (a3 + (-1))))
  else (lX12_kindNow_6 M n z18 false (a3 + (-1))))))

def fX12_kindNow  (M : Mem) : Option Int32 :=
  (lX12_kindNow_6 M FUEL (-1 : Int32) false (2 : Int32)).bind (un2 fun a29 a30 => if a29 = (-1 : Int32) then (if a30 = true then (some (3 : Int32))
  else (some (-1 : Int32)))
  else (some a29))

def rX12_kindNow : Room := { frames := 1, cells := 0, slots := 0, locals := 23 }
set_option maxRecDepth 100000 in
set_option maxHeartbeats 4000000 in
theorem c_X12_kindNow (l : Launch) (G : Gx) (n0 : Nat) {M : Mem} {r : Int32} (hf : fX12_kindNow M = some r) : Ct l yX12_kindNow cX12_kindNow 4 (some .int) rX12_kindNow G n0 [.ref (n0 + 178)] M (some (.int r)) M := by
  refine ct_int (cc := cX12_kindNow) (maxL := 4) rfl (Nat.le_of_ble_eq_true rfl) ?_
  intro K C hret
  have C : Ok K l rX12_kindNow cX12_kindNow RX12 G n0 4 := C
  show J K M 0 [(0, .ref (n0 + 178))] []
  unfold fX12_kindNow at hf
  refine j_iconst C (-1 : Int32) rfl dX12_kindNow_0 ?_
  refine j_istore_n C [(1, .int (-1 : Int32)), (0, .ref (n0 + 178))] dX12_kindNow_1 rfl (Nat.le_of_ble_eq_true rfl) rfl ?_
  refine j_iconst C (0 : Int32) rfl dX12_kindNow_2 ?_
  refine j_istore_n C [(2, .int (bI false)), (1, .int (-1 : Int32)), (0, .ref (n0 + 178))] dX12_kindNow_3 rfl (Nat.le_of_ble_eq_true rfl) rfl ?_
  refine j_iconst C (2 : Int32) rfl dX12_kindNow_4 ?_
  refine j_istore_n C [(3, .int (2 : Int32)), (2, .int (bI false)), (1, .int (-1 : Int32)), (0, .ref (n0 + 178))] dX12_kindNow_5 rfl (Nat.le_of_ble_eq_true rfl) rfl ?_
  obtain ⟨⟨a29, a30⟩, e33, hf⟩ := bd hf
  replace hf := un2e hf
  have hx34 : J K M 81 [(1, .int a29), (2, .int (bI a30))] [] := by
    refine j_iload_n C 0 dX12_kindNow_81 rfl rfl ?_
    refine j_iconst C (-1 : Int32) rfl dX12_kindNow_82 ?_
    refine j_icmp_eq C 90 dX12_kindNow_83 (by decide) (fun c31 => ?_) (fun c31 => ?_)
    · replace hf := ip c31 hf
      refine j_iload_n C 1 dX12_kindNow_90 rfl rfl ?_
      refine j_ifz_eq C 98 dX12_kindNow_91 (by decide) (fun c32 => ?_) (fun c32 => ?_)
      · replace hf := ine c32 hf
        refine j_iconst C (-1 : Int32) rfl dX12_kindNow_98 ?_
        obtain rfl := Option.some.inj hf
        exact hret _ _ dX12_kindNow_99
      · replace hf := ip c32 hf
        refine j_iconst C (3 : Int32) rfl dX12_kindNow_94 ?_
        refine j_goto C 99 dX12_kindNow_95 (by decide) ?_
        obtain rfl := Option.some.inj hf
        exact hret _ _ dX12_kindNow_99
    · replace hf := ine c31 hf
      refine j_iload_n C 0 dX12_kindNow_86 rfl rfl ?_
      refine j_goto C 99 dX12_kindNow_87 (by decide) ?_
      obtain rfl := Option.some.inj hf
      exact hret _ _ dX12_kindNow_99
  clear hf
  have hl35 : ∀ (n : Nat) (a1 : Int32) (a2 : Bool) (a3 : Int32), lX12_kindNow_6 M n a1 a2 a3 = some (a29, a30) → J K M 6 [(0, .ref (n0 + 178)), (1, .int a1), (2, .int (bI a2)), (3, .int a3)] [] := by
    intro n
    induction n with
    | zero =>
      intro a1 a2 a3 hf
      exact absurd hf (by rw [lX12_kindNow_6]; exact fun h => by cases h)
    | succ n ih =>
      intro a1 a2 a3 hf
      rw [lX12_kindNow_6] at hf
      refine j_iload_n C 3 dX12_kindNow_6 rfl rfl ?_
      refine j_if_lt C 81 dX12_kindNow_7 (by decide) (fun c4 => ?_) (fun c4 => ?_)
      · replace hf := ip c4 hf
        refine j_sub [1, 2] rfl ?_
        cases hf
        exact hx34
      · replace hf := ine c4 hf
        refine j_aload_n C 0 dX12_kindNow_10 rfl rfl ?_
        refine j_iload_n C 3 dX12_kindNow_11 rfl rfl ?_
        obtain ⟨b6, e5, hf⟩ := bd hf
        refine j_callV C 1 lc178 (ent_K _ _ _ _ _ _) rfl (c_X12_waits l G n0 e5) gv_RX12_141 ⟨rfl, rfl⟩ (by decide +kernel) ⟨Nat.le_of_ble_eq_true rfl, Nat.le_of_ble_eq_true rfl⟩ rfl rfl (Nat.le_of_ble_eq_true rfl) dX12_kindNow_12 ?_
        obtain ⟨z18, e38, hf⟩ := bd hf
        have hj39 : J K M 43 [(0, .ref (n0 + 178)), (2, .int (bI a2)), (3, .int a3)] [.int z18] := by
          refine j_istore_n C [(1, .int z18), (0, .ref (n0 + 178)), (2, .int (bI a2)), (3, .int a3)] dX12_kindNow_43 rfl (Nat.le_of_ble_eq_true rfl) rfl ?_
          refine j_iload_n C 2 dX12_kindNow_44 rfl rfl ?_
          refine j_ifz_ne C 69 dX12_kindNow_45 (by decide) (fun c19 => ?_) (fun c19 => ?_)
          · replace hf := ip c19 hf
            refine j_iconst C (1 : Int32) rfl dX12_kindNow_69 ?_
            refine j_goto C 74 dX12_kindNow_70 (by decide) ?_
            refine j_istore_n C [(2, .int (bI true)), (1, .int z18), (0, .ref (n0 + 178)), (3, .int a3)] dX12_kindNow_74 rfl (Nat.le_of_ble_eq_true rfl) rfl ?_
            refine j_iinc C 3 (a3 + (-1)) [(3, .int (a3 + (-1))), (2, .int (bI true)), (1, .int z18), (0, .ref (n0 + 178))] dX12_kindNow_75 rfl rfl (Nat.le_of_ble_eq_true rfl) rfl ?_
            refine j_goto C 6 dX12_kindNow_78 (by decide) ?_
            refine j_sub [3, 2, 1, 0] rfl ?_
            exact ih _ _ _ hf
          · replace hf := ine c19 hf
            refine j_aload_n C 1 dX12_kindNow_48 rfl rfl ?_
            refine j_iload_n C 3 dX12_kindNow_49 rfl rfl ?_
            obtain ⟨b21, e20, hf⟩ := bd hf
            refine j_callV C 1 lc178 (ent_K _ _ _ _ _ _) rfl (c_X12_waits l G n0 e20) gv_RX12_141 ⟨rfl, rfl⟩ (by decide +kernel) ⟨Nat.le_of_ble_eq_true rfl, Nat.le_of_ble_eq_true rfl⟩ rfl rfl (Nat.le_of_ble_eq_true rfl) dX12_kindNow_50 ?_
            refine j_ifz_eq C 73 dX12_kindNow_53 (by decide) (fun c22 => ?_) (fun c22 => ?_)
            · replace hf := ine c22 hf
              refine j_iconst C (0 : Int32) rfl dX12_kindNow_73 ?_
              refine j_istore_n C [(2, .int (bI false)), (1, .int z18), (0, .ref (n0 + 178)), (3, .int a3)] dX12_kindNow_74 rfl (Nat.le_of_ble_eq_true rfl) rfl ?_
              refine j_iinc C 3 (a3 + (-1)) [(3, .int (a3 + (-1))), (2, .int (bI false)), (1, .int z18), (0, .ref (n0 + 178))] dX12_kindNow_75 rfl rfl (Nat.le_of_ble_eq_true rfl) rfl ?_
              refine j_goto C 6 dX12_kindNow_78 (by decide) ?_
              refine j_sub [3, 2, 1, 0] rfl ?_
              exact ih _ _ _ hf
            · replace hf := ip c22 hf
              refine j_aload_n C 1 dX12_kindNow_56 rfl rfl ?_
              refine g_X12_now C tw5_182 lc178 179 rfl dX12_kindNow_57 ?_
              refine j_iconst C (2 : Int32) rfl dX12_kindNow_60 ?_
              obtain ⟨v23, e24, hf⟩ := bd hf
              obtain ⟨hx25, e24⟩ := ald_some e24
              refine j_iald C lc179 hx25 e24 dX12_kindNow_61 ?_
              refine j_iload_n C 3 dX12_kindNow_62 rfl rfl ?_
              obtain ⟨v27, e26, hf⟩ := bd hf
              refine j_callS C 1 (c_X12_highest l G n0 (M := M) e26) gs_RX12_144 ⟨rfl, rfl⟩ (by decide +kernel) ⟨Nat.le_of_ble_eq_true rfl, Nat.le_of_ble_eq_true rfl⟩ rfl rfl (Nat.le_of_ble_eq_true rfl) dX12_kindNow_63 ?_
              refine j_icmp_le C 73 dX12_kindNow_66 (by decide) (fun c28 => ?_) (fun c28 => ?_)
              · replace hf := ip c28 hf
                refine j_iconst C (0 : Int32) rfl dX12_kindNow_73 ?_
                refine j_istore_n C [(2, .int (bI false)), (1, .int z18), (0, .ref (n0 + 178)), (3, .int a3)] dX12_kindNow_74 rfl (Nat.le_of_ble_eq_true rfl) rfl ?_
                refine j_iinc C 3 (a3 + (-1)) [(3, .int (a3 + (-1))), (2, .int (bI false)), (1, .int z18), (0, .ref (n0 + 178))] dX12_kindNow_75 rfl rfl (Nat.le_of_ble_eq_true rfl) rfl ?_
                refine j_goto C 6 dX12_kindNow_78 (by decide) ?_
                refine j_sub [3, 2, 1, 0] rfl ?_
                exact ih _ _ _ hf
              · replace hf := ine c28 hf
                refine j_iconst C (1 : Int32) rfl dX12_kindNow_69 ?_
                refine j_goto C 74 dX12_kindNow_70 (by decide) ?_
                refine j_istore_n C [(2, .int (bI true)), (1, .int z18), (0, .ref (n0 + 178)), (3, .int a3)] dX12_kindNow_74 rfl (Nat.le_of_ble_eq_true rfl) rfl ?_
                refine j_iinc C 3 (a3 + (-1)) [(3, .int (a3 + (-1))), (2, .int (bI true)), (1, .int z18), (0, .ref (n0 + 178))] dX12_kindNow_75 rfl rfl (Nat.le_of_ble_eq_true rfl) rfl ?_
                refine j_goto C 6 dX12_kindNow_78 (by decide) ?_
                refine j_sub [3, 2, 1, 0] rfl ?_
                exact ih _ _ _ hf
        clear hf
        have hf := e38
        refine j_ifz_eq C 42 dX12_kindNow_15 (by decide) (fun c7 => ?_) (fun c7 => ?_)
        · replace hf := ine c7 hf
          refine j_iload_n C 1 dX12_kindNow_42 rfl rfl ?_
          cases hf
          refine j_sub [0, 2, 3] rfl ?_
          exact hj39
        · replace hf := ip c7 hf
          refine j_aload_n C 0 dX12_kindNow_18 rfl rfl ?_
          refine g_X12_now C tw5_182 lc178 179 rfl dX12_kindNow_19 ?_
          refine j_iconst C (2 : Int32) rfl dX12_kindNow_22 ?_
          obtain ⟨v8, e9, hf⟩ := bd hf
          obtain ⟨hx10, e9⟩ := ald_some e9
          refine j_iald C lc179 hx10 e9 dX12_kindNow_23 ?_
          refine j_iload_n C 3 dX12_kindNow_24 rfl rfl ?_
          obtain ⟨v12, e11, hf⟩ := bd hf
          refine j_callS C 1 (c_X12_lowest l G n0 (M := M) e11) gs_RX12_131 ⟨rfl, rfl⟩ (by decide +kernel) ⟨Nat.le_of_ble_eq_true rfl, Nat.le_of_ble_eq_true rfl⟩ rfl rfl (Nat.le_of_ble_eq_true rfl) dX12_kindNow_25 ?_
          refine j_iload_n C 3 dX12_kindNow_28 rfl rfl ?_
          obtain ⟨v14, e13, hf⟩ := bd hf
          refine j_callS C 1 (c_X12_highest l G n0 (M := M) e13) gs_RX12_144 ⟨rfl, rfl⟩ (by decide +kernel) ⟨Nat.le_of_ble_eq_true rfl, Nat.le_of_ble_eq_true rfl⟩ rfl rfl (Nat.le_of_ble_eq_true rfl) dX12_kindNow_29 ?_
          obtain ⟨b16, e15, hf⟩ := bd hf
          refine j_callS C 3 (c_X12_in l G n0 (M := M) e15) gs_RX12_39 ⟨rfl, rfl⟩ (by decide +kernel) ⟨Nat.le_of_ble_eq_true rfl, Nat.le_of_ble_eq_true rfl⟩ rfl rfl (Nat.le_of_ble_eq_true rfl) dX12_kindNow_32 ?_
          refine j_ifz_eq C 42 dX12_kindNow_35 (by decide) (fun c17 => ?_) (fun c17 => ?_)
          · replace hf := ine c17 hf
            refine j_iload_n C 1 dX12_kindNow_42 rfl rfl ?_
            cases hf
            refine j_sub [0, 2, 3] rfl ?_
            exact hj39
          · replace hf := ip c17 hf
            refine j_iload_n C 3 dX12_kindNow_38 rfl rfl ?_
            refine j_goto C 43 dX12_kindNow_39 (by decide) ?_
            cases hf
            refine j_sub [0, 2, 3] rfl ?_
            exact hj39
  refine j_sub [3, 2, 1, 0] rfl ?_
  exact hl35 FUEL (-1 : Int32) false (2 : Int32) e33
def lX12_dayWith_29  : Nat → Int32 → Mem → Option Mem
  | 0, _, _ => none
  | n + 1, a10, M11 =>
  (ald (M11.1 179) 1601 (0 : Int32)).bind fun v12 =>
  if v12 ≤ a10 then (some M11)
  else ((fX12_lays a10 (3 : Int32) (0 : Int32) M11).bind fun M17 =>
  lX12_dayWith_29  n (a10 + 1) M17)

def lX12_dayWith_132  : Nat → Int32 → Mem → Option Mem
  | 0, _, _ => none
  | n + 1, a48, M49 =>
  (ald (M49.1 179) 1601 (7 : Int32)).bind fun v50 =>
  if v50 ≤ a48 then (some M49)
  else ((ald (M49.1 179) 1601 (4 : Int32)).bind fun v54 =>
  (ald (M49.1 179) 1601 (((41 : Int32) + ((3 : Int32) * a48)) + (2 : Int32))).bind fun v57 =>
  (ast M49 179 1601 (4 : Int32) (v54 + v57)).bind fun M60 =>
  lX12_dayWith_132  n (a48 + 1) M60)

def lX12_dayWith_107 (v2 : Int32) : Nat → Mem → Option Mem
  | 0, _ => none
  | n + 1, M35 =>
  (ald (M35.1 179) 1601 (7 : Int32)).bind fun v36 =>
  if v36 ≤ 0 then (some M35)
  else ((fX12_kindNow M35).bind fun v41 =>
  if v41 = (-1 : Int32) then ((lX12_dayWith_132 FUEL (0 : Int32) M35).bind (fun M63 => (ast M63 179 1601 (7 : Int32) (0 : Int32)).bind fun M64 =>
  lX12_dayWith_107 v2 n M64))
  else (if v41 = (3 : Int32) then ((fX12_falls (5 : Int32) M35).bind fun M47 =>
  lX12_dayWith_107 v2 n M47)
  else ((fX12_bakes v41 v2 M35).bind fun M45 =>
  lX12_dayWith_107 v2 n M45)))

def fX12_dayWith (x1 : Int32) (M : Mem) : Option (Int32 × Mem) :=
  (fX12_next M).bind fun v2 =>
  (ald (M.1 179) 1601 (5 : Int32)).bind fun v3 =>
  (fX12_of v2 (1 : Int32) M).bind fun v7 =>
  (fX12_lays v2 (1 : Int32) (v7 + x1) M).bind fun M9 =>
  (lX12_dayWith_29 FUEL (0 : Int32) M9).bind (fun M18 => (ald (M18.1 179) 1601 (2 : Int32)).bind fun v19 =>
  (if (v19 + ((10 : Int32) * x1)) ≤ (400 : Int32) then ((ald (M18.1 179) 1601 (2 : Int32)).bind fun v23 =>
  some (v23 + ((10 : Int32) * x1)))
  else (some (400 : Int32))).bind (fun z26 => (ast M18 179 1601 (2 : Int32) z26).bind fun M27 =>
  (ast M27 179 1601 (8 : Int32) (0 : Int32)).bind fun M30 =>
  (pf M30 178 10 (0 : Int32)).bind fun M33 =>
  (lX12_dayWith_107 v2 FUEL M33).bind (fun M67 => (ald (M67.1 179) 1601 (2 : Int32)).bind fun v68 =>
  (if (20 : Int32) ≤ (v68 / (2 : Int32)) then ((ald (M67.1 179) 1601 (2 : Int32)).bind fun v72 =>
  some (v72 / (2 : Int32)))
  else (some (20 : Int32))).bind (fun z75 => (ast M67 179 1601 (2 : Int32) z75).bind fun M76 =>
  (fX12_sorts v3 (M76.1 178 10) M76).bind fun M80 =>
  (ald (M80.1 179) 1601 (3 : Int32)).bind fun v81 =>
  (ast M80 179 1601 (3 : Int32) (v81 + (1 : Int32))).bind fun M84 =>
  (ald (M84.1 179) 1601 (5 : Int32)).bind fun v87 =>
  some ((v87 - v3), M84)))))

def rX12_dayWith : Room := { frames := 4, cells := 0, slots := 0, locals := 89 }
set_option maxRecDepth 100000 in
set_option maxHeartbeats 4000000 in
theorem c_X12_dayWith (l : Launch) (G : Gx) (n0 : Nat) {x1 : Int32} {M : Mem} {r : Int32} {M' : Mem} (hf : fX12_dayWith x1 M = some (r, M')) : Ct l yX12_dayWith cX12_dayWith 6 (some .int) rX12_dayWith G n0 [.ref (n0 + 178), .int x1] M (some (.int r)) M' := by
  refine ct_int (cc := cX12_dayWith) (maxL := 6) rfl (Nat.le_of_ble_eq_true rfl) ?_
  intro K C hret
  have C : Ok K l rX12_dayWith cX12_dayWith RX12 G n0 6 := C
  show J K M 0 [(0, .ref (n0 + 178)), (1, .int x1)] []
  unfold fX12_dayWith at hf
  refine j_aload_n C 0 dX12_dayWith_0 rfl rfl ?_
  obtain ⟨v2, e1, hf⟩ := bd hf
  refine j_callV C 0 lc178 (ent_K _ _ _ _ _ _) rfl (c_X12_next l G n0 e1) gv_RX12_147 ⟨rfl, rfl⟩ (by decide +kernel) ⟨Nat.le_of_ble_eq_true rfl, Nat.le_of_ble_eq_true rfl⟩ rfl rfl (Nat.le_of_ble_eq_true rfl) dX12_dayWith_1 ?_
  refine j_istore_n C [(2, .int v2), (0, .ref (n0 + 178)), (1, .int x1)] dX12_dayWith_4 rfl (Nat.le_of_ble_eq_true rfl) rfl ?_
  refine j_aload_n C 1 dX12_dayWith_5 rfl rfl ?_
  refine g_X12_now C tw5_182 lc178 179 rfl dX12_dayWith_6 ?_
  refine j_iconst C (5 : Int32) rfl dX12_dayWith_9 ?_
  obtain ⟨v3, e4, hf⟩ := bd hf
  obtain ⟨hx5, e4⟩ := ald_some e4
  refine j_iald C lc179 hx5 e4 dX12_dayWith_10 ?_
  refine j_istore_n C [(3, .int v3), (2, .int v2), (0, .ref (n0 + 178)), (1, .int x1)] dX12_dayWith_11 rfl (Nat.le_of_ble_eq_true rfl) rfl ?_
  refine j_aload_n C 2 dX12_dayWith_12 rfl rfl ?_
  refine j_iload_n C 1 dX12_dayWith_13 rfl rfl ?_
  refine j_iconst C (1 : Int32) rfl dX12_dayWith_14 ?_
  refine j_aload_n C 2 dX12_dayWith_15 rfl rfl ?_
  refine j_iload_n C 1 dX12_dayWith_16 rfl rfl ?_
  refine j_iconst C (1 : Int32) rfl dX12_dayWith_17 ?_
  obtain ⟨v7, e6, hf⟩ := bd hf
  refine j_callV C 2 lc178 (ent_K _ _ _ _ _ _) rfl (c_X12_of l G n0 e6) gv_RX12_44 ⟨rfl, rfl⟩ (by decide +kernel) ⟨Nat.le_of_ble_eq_true rfl, Nat.le_of_ble_eq_true rfl⟩ rfl rfl (Nat.le_of_ble_eq_true rfl) dX12_dayWith_18 ?_
  refine j_iload_n C 3 dX12_dayWith_21 rfl rfl ?_
  refine j_iadd C dX12_dayWith_22 ?_
  obtain ⟨M9, e8, hf⟩ := bd hf
  refine j_callV C 3 lc178 (ent_K _ _ _ _ _ _) rfl (c_X12_lays l G n0 e8) gv_RX12_55 ⟨rfl, rfl⟩ (by decide +kernel) ⟨Nat.le_of_ble_eq_true rfl, Nat.le_of_ble_eq_true rfl⟩ rfl rfl (Nat.le_of_ble_eq_true rfl) dX12_dayWith_23 ?_
  refine j_iconst C (0 : Int32) rfl dX12_dayWith_26 ?_
  refine j_istore C [(4, .int (0 : Int32)), (3, .int v3), (2, .int v2), (0, .ref (n0 + 178)), (1, .int x1)] dX12_dayWith_27 (Nat.le_of_ble_eq_true rfl) rfl ?_
  obtain ⟨M18, e90, hf⟩ := bd hf
  have hx91 : J K M18 54 [(0, .ref (n0 + 178)), (1, .int x1), (2, .int v2), (3, .int v3)] [] := by
    refine j_aload_n C 0 dX12_dayWith_54 rfl rfl ?_
    refine g_X12_now C tw5_182 lc178 179 rfl dX12_dayWith_55 ?_
    refine j_iconst C (2 : Int32) rfl dX12_dayWith_58 ?_
    refine j_aload_n C 0 dX12_dayWith_59 rfl rfl ?_
    refine g_X12_now C tw5_182 lc178 179 rfl dX12_dayWith_60 ?_
    refine j_iconst C (2 : Int32) rfl dX12_dayWith_63 ?_
    obtain ⟨v19, e20, hf⟩ := bd hf
    obtain ⟨hx21, e20⟩ := ald_some e20
    refine j_iald C lc179 hx21 e20 dX12_dayWith_64 ?_
    refine j_bipush C (10 : Int32) rfl dX12_dayWith_65 ?_
    refine j_iload_n C 1 dX12_dayWith_67 rfl rfl ?_
    refine j_imul C dX12_dayWith_68 ?_
    refine j_iadd C dX12_dayWith_69 ?_
    refine j_sipush C (400 : Int32) rfl dX12_dayWith_70 ?_
    obtain ⟨z26, e95, hf⟩ := bd hf
    have hj96 : J K M18 93 [(0, .ref (n0 + 178)), (2, .int v2), (3, .int v3)] [.int z26, .int (2 : Int32), .ref (n0 + 179)] := by
      obtain ⟨M27, e28, hf⟩ := bd hf
      obtain ⟨hx29, e28⟩ := ast_some e28
      refine j_iast C lc179 hx29 e28 dX12_dayWith_93 ?_
      refine j_aload_n C 0 dX12_dayWith_94 rfl rfl ?_
      refine g_X12_now C tw5_182 lc178 179 rfl dX12_dayWith_95 ?_
      refine j_bipush C (8 : Int32) rfl dX12_dayWith_98 ?_
      refine j_iconst C (0 : Int32) rfl dX12_dayWith_100 ?_
      obtain ⟨M30, e31, hf⟩ := bd hf
      obtain ⟨hx32, e31⟩ := ast_some e31
      refine j_iast C lc179 hx32 e31 dX12_dayWith_101 ?_
      refine j_aload_n C 0 dX12_dayWith_102 rfl rfl ?_
      refine j_iconst C (0 : Int32) rfl dX12_dayWith_103 ?_
      obtain ⟨M33, e34, hf⟩ := bd hf
      refine p_X12_baked C tw5_192 lc178 e34 dX12_dayWith_104 ?_
      obtain ⟨M67, e97, hf⟩ := bd hf
      have hx98 : J K M67 208 [(0, .ref (n0 + 178)), (3, .int v3)] [] := by
        refine j_aload_n C 0 dX12_dayWith_208 rfl rfl ?_
        refine g_X12_now C tw5_182 lc178 179 rfl dX12_dayWith_209 ?_
        refine j_iconst C (2 : Int32) rfl dX12_dayWith_212 ?_
        refine j_aload_n C 0 dX12_dayWith_213 rfl rfl ?_
        refine g_X12_now C tw5_182 lc178 179 rfl dX12_dayWith_214 ?_
        refine j_iconst C (2 : Int32) rfl dX12_dayWith_217 ?_
        obtain ⟨v68, e69, hf⟩ := bd hf
        obtain ⟨hx70, e69⟩ := ald_some e69
        refine j_iald C lc179 hx70 e69 dX12_dayWith_218 ?_
        refine j_iconst C (2 : Int32) rfl dX12_dayWith_219 ?_
        refine j_idiv C (by decide) dX12_dayWith_220 ?_
        refine j_bipush C (20 : Int32) rfl dX12_dayWith_221 ?_
        obtain ⟨z75, e102, hf⟩ := bd hf
        have hj103 : J K M67 239 [(0, .ref (n0 + 178)), (3, .int v3)] [.int z75, .int (2 : Int32), .ref (n0 + 179)] := by
          obtain ⟨M76, e77, hf⟩ := bd hf
          obtain ⟨hx78, e77⟩ := ast_some e77
          refine j_iast C lc179 hx78 e77 dX12_dayWith_239 ?_
          refine j_aload_n C 0 dX12_dayWith_240 rfl rfl ?_
          refine j_iload_n C 1 dX12_dayWith_241 rfl rfl ?_
          refine j_aload_n C 0 dX12_dayWith_242 rfl rfl ?_
          refine g_X12_baked C tw5_192 lc178 dX12_dayWith_243 ?_
          obtain ⟨M80, e79, hf⟩ := bd hf
          refine j_callV C 2 lc178 (ent_K _ _ _ _ _ _) rfl (c_X12_sorts l G n0 e79) gv_RX12_157 ⟨rfl, rfl⟩ (by decide +kernel) ⟨Nat.le_of_ble_eq_true rfl, Nat.le_of_ble_eq_true rfl⟩ rfl rfl (Nat.le_of_ble_eq_true rfl) dX12_dayWith_246 ?_
          refine j_aload_n C 0 dX12_dayWith_249 rfl rfl ?_
          refine g_X12_now C tw5_182 lc178 179 rfl dX12_dayWith_250 ?_
          refine j_iconst C (3 : Int32) rfl dX12_dayWith_253 ?_
          refine j_dup2_11 C rfl rfl dX12_dayWith_254 ?_
          obtain ⟨v81, e82, hf⟩ := bd hf
          obtain ⟨hx83, e82⟩ := ald_some e82
          refine j_iald C lc179 hx83 e82 dX12_dayWith_255 ?_
          refine j_iconst C (1 : Int32) rfl dX12_dayWith_256 ?_
          refine j_iadd C dX12_dayWith_257 ?_
          obtain ⟨M84, e85, hf⟩ := bd hf
          obtain ⟨hx86, e85⟩ := ast_some e85
          refine j_iast C lc179 hx86 e85 dX12_dayWith_258 ?_
          refine j_aload_n C 0 dX12_dayWith_259 rfl rfl ?_
          refine g_X12_now C tw5_182 lc178 179 rfl dX12_dayWith_260 ?_
          refine j_iconst C (5 : Int32) rfl dX12_dayWith_263 ?_
          obtain ⟨v87, e88, hf⟩ := bd hf
          obtain ⟨hx89, e88⟩ := ald_some e88
          refine j_iald C lc179 hx89 e88 dX12_dayWith_264 ?_
          refine j_iload_n C 1 dX12_dayWith_265 rfl rfl ?_
          refine j_isub C dX12_dayWith_266 ?_
          obtain ⟨rfl, rfl⟩ := Prod.mk.inj (Option.some.inj hf)
          exact hret _ _ dX12_dayWith_267
        clear hf
        have hf := e102
        refine j_icmp_ge C 231 dX12_dayWith_223 (by decide) (fun c71 => ?_) (fun c71 => ?_)
        · replace hf := ip c71 hf
          refine j_aload_n C 0 dX12_dayWith_231 rfl rfl ?_
          refine g_X12_now C tw5_182 lc178 179 rfl dX12_dayWith_232 ?_
          refine j_iconst C (2 : Int32) rfl dX12_dayWith_235 ?_
          obtain ⟨v72, e73, hf⟩ := bd hf
          obtain ⟨hx74, e73⟩ := ald_some e73
          refine j_iald C lc179 hx74 e73 dX12_dayWith_236 ?_
          refine j_iconst C (2 : Int32) rfl dX12_dayWith_237 ?_
          refine j_idiv C (by decide) dX12_dayWith_238 ?_
          cases hf
          refine j_sub [0, 1] rfl ?_
          exact hj103
        · replace hf := ine c71 hf
          refine j_bipush C (20 : Int32) rfl dX12_dayWith_226 ?_
          refine j_goto C 239 dX12_dayWith_228 (by decide) ?_
          cases hf
          refine j_sub [0, 1] rfl ?_
          exact hj103
      clear hf
      have hl99 : ∀ (n : Nat) (M35 : Mem), lX12_dayWith_107 v2 n M35 = some M67 → J K M35 107 [(0, .ref (n0 + 178)), (2, .int v2), (3, .int v3)] [] := by
        intro n
        induction n with
        | zero =>
          intro M35 hf
          exact absurd hf (by rw [lX12_dayWith_107]; exact fun h => by cases h)
        | succ n ih =>
          intro M35 hf
          rw [lX12_dayWith_107] at hf
          refine j_aload_n C 0 dX12_dayWith_107 rfl rfl ?_
          refine g_X12_now C tw5_182 lc178 179 rfl dX12_dayWith_108 ?_
          refine j_bipush C (7 : Int32) rfl dX12_dayWith_111 ?_
          obtain ⟨v36, e37, hf⟩ := bd hf
          obtain ⟨hx38, e37⟩ := ald_some e37
          refine j_iald C lc179 hx38 e37 dX12_dayWith_113 ?_
          refine j_if_le C 208 dX12_dayWith_114 (by decide) (fun c39 => ?_) (fun c39 => ?_)
          · replace hf := ip c39 hf
            refine j_sub [0, 2] rfl ?_
            cases hf
            exact hx98
          · replace hf := ine c39 hf
            refine j_aload_n C 0 dX12_dayWith_117 rfl rfl ?_
            obtain ⟨v41, e40, hf⟩ := bd hf
            refine j_callV C 0 lc178 (ent_K _ _ _ _ _ _) rfl (c_X12_kindNow l G n0 e40) gv_RX12_150 ⟨rfl, rfl⟩ (by decide +kernel) ⟨Nat.le_of_ble_eq_true rfl, Nat.le_of_ble_eq_true rfl⟩ rfl rfl (Nat.le_of_ble_eq_true rfl) dX12_dayWith_118 ?_
            refine j_istore C [(4, .int v41), (0, .ref (n0 + 178)), (2, .int v2), (3, .int v3)] dX12_dayWith_121 (Nat.le_of_ble_eq_true rfl) rfl ?_
            refine j_iload C 0 dX12_dayWith_123 rfl ?_
            refine j_iconst C (-1 : Int32) rfl dX12_dayWith_125 ?_
            refine j_icmp_ne C 184 dX12_dayWith_126 (by decide) (fun c42 => ?_) (fun c42 => ?_)
            · replace hf := ine c42 hf
              refine j_iload C 0 dX12_dayWith_184 rfl ?_
              refine j_iconst C (3 : Int32) rfl dX12_dayWith_186 ?_
              refine j_icmp_ne C 198 dX12_dayWith_187 (by decide) (fun c43 => ?_) (fun c43 => ?_)
              · replace hf := ine c43 hf
                refine j_aload_n C 1 dX12_dayWith_198 rfl rfl ?_
                refine j_iload C 0 dX12_dayWith_199 rfl ?_
                refine j_iload_n C 2 dX12_dayWith_201 rfl rfl ?_
                obtain ⟨M45, e44, hf⟩ := bd hf
                refine j_callV C 2 lc178 (ent_K _ _ _ _ _ _) rfl (c_X12_bakes l G n0 e44) gv_RX12_153 ⟨rfl, rfl⟩ (by decide +kernel) ⟨Nat.le_of_ble_eq_true rfl, Nat.le_of_ble_eq_true rfl⟩ rfl rfl (Nat.le_of_ble_eq_true rfl) dX12_dayWith_202 ?_
                refine j_goto C 107 dX12_dayWith_205 (by decide) ?_
                refine j_sub [1, 2, 3] rfl ?_
                exact ih  _ hf
              · replace hf := ip c43 hf
                refine j_aload_n C 1 dX12_dayWith_190 rfl rfl ?_
                refine j_iconst C (5 : Int32) rfl dX12_dayWith_191 ?_
                obtain ⟨M47, e46, hf⟩ := bd hf
                refine j_callV C 1 lc178 (ent_K _ _ _ _ _ _) rfl (c_X12_falls l G n0 e46) gv_RX12_128 ⟨rfl, rfl⟩ (by decide +kernel) ⟨Nat.le_of_ble_eq_true rfl, Nat.le_of_ble_eq_true rfl⟩ rfl rfl (Nat.le_of_ble_eq_true rfl) dX12_dayWith_192 ?_
                refine j_goto C 205 dX12_dayWith_195 (by decide) ?_
                refine j_goto C 107 dX12_dayWith_205 (by decide) ?_
                refine j_sub [1, 2, 3] rfl ?_
                exact ih  _ hf
            · replace hf := ip c42 hf
              refine j_iconst C (0 : Int32) rfl dX12_dayWith_129 ?_
              refine j_istore C [(5, .int (0 : Int32)), (4, .int v41), (0, .ref (n0 + 178)), (2, .int v2), (3, .int v3)] dX12_dayWith_130 (Nat.le_of_ble_eq_true rfl) rfl ?_
              obtain ⟨M63, e104, hf⟩ := bd hf
              have hx105 : J K M63 173 [(0, .ref (n0 + 178)), (2, .int v2), (3, .int v3)] [] := by
                refine j_aload_n C 0 dX12_dayWith_173 rfl rfl ?_
                refine g_X12_now C tw5_182 lc178 179 rfl dX12_dayWith_174 ?_
                refine j_bipush C (7 : Int32) rfl dX12_dayWith_177 ?_
                refine j_iconst C (0 : Int32) rfl dX12_dayWith_179 ?_
                obtain ⟨M64, e65, hf⟩ := bd hf
                obtain ⟨hx66, e65⟩ := ast_some e65
                refine j_iast C lc179 hx66 e65 dX12_dayWith_180 ?_
                refine j_goto C 205 dX12_dayWith_181 (by decide) ?_
                refine j_goto C 107 dX12_dayWith_205 (by decide) ?_
                refine j_sub [0, 1, 2] rfl ?_
                exact ih  _ hf
              clear hf
              have hl106 : ∀ (n : Nat) (a48 : Int32) (M49 : Mem), lX12_dayWith_132 n a48 M49 = some M63 → J K M49 132 [(0, .ref (n0 + 178)), (2, .int v2), (3, .int v3), (5, .int a48)] [] := by
                intro n
                induction n with
                | zero =>
                  intro a48 M49 hf
                  exact absurd hf (by rw [lX12_dayWith_132]; exact fun h => by cases h)
                | succ n ih =>
                  intro a48 M49 hf
                  rw [lX12_dayWith_132] at hf
                  refine j_iload C 3 dX12_dayWith_132 rfl ?_
                  refine j_aload_n C 0 dX12_dayWith_134 rfl rfl ?_
                  refine g_X12_now C tw5_182 lc178 179 rfl dX12_dayWith_135 ?_
                  refine j_bipush C (7 : Int32) rfl dX12_dayWith_138 ?_
                  obtain ⟨v50, e51, hf⟩ := bd hf
                  obtain ⟨hx52, e51⟩ := ald_some e51
                  refine j_iald C lc179 hx52 e51 dX12_dayWith_140 ?_
                  refine j_icmp_ge C 173 dX12_dayWith_141 (by decide) (fun c53 => ?_) (fun c53 => ?_)
                  · replace hf := ip c53 hf
                    refine j_sub [0, 1, 2] rfl ?_
                    cases hf
                    exact hx105
                  · replace hf := ine c53 hf
                    refine j_aload_n C 0 dX12_dayWith_144 rfl rfl ?_
                    refine g_X12_now C tw5_182 lc178 179 rfl dX12_dayWith_145 ?_
                    refine j_iconst C (4 : Int32) rfl dX12_dayWith_148 ?_
                    refine j_dup2_11 C rfl rfl dX12_dayWith_149 ?_
                    obtain ⟨v54, e55, hf⟩ := bd hf
                    obtain ⟨hx56, e55⟩ := ald_some e55
                    refine j_iald C lc179 hx56 e55 dX12_dayWith_150 ?_
                    refine j_aload_n C 0 dX12_dayWith_151 rfl rfl ?_
                    refine g_X12_now C tw5_182 lc178 179 rfl dX12_dayWith_152 ?_
                    refine j_bipush C (41 : Int32) rfl dX12_dayWith_155 ?_
                    refine j_iconst C (3 : Int32) rfl dX12_dayWith_157 ?_
                    refine j_iload C 3 dX12_dayWith_158 rfl ?_
                    refine j_imul C dX12_dayWith_160 ?_
                    refine j_iadd C dX12_dayWith_161 ?_
                    refine j_iconst C (2 : Int32) rfl dX12_dayWith_162 ?_
                    refine j_iadd C dX12_dayWith_163 ?_
                    obtain ⟨v57, e58, hf⟩ := bd hf
                    obtain ⟨hx59, e58⟩ := ald_some e58
                    refine j_iald C lc179 hx59 e58 dX12_dayWith_164 ?_
                    refine j_iadd C dX12_dayWith_165 ?_
                    obtain ⟨M60, e61, hf⟩ := bd hf
                    obtain ⟨hx62, e61⟩ := ast_some e61
                    refine j_iast C lc179 hx62 e61 dX12_dayWith_166 ?_
                    refine j_iinc C 3 (a48 + 1) [(5, .int (a48 + 1)), (0, .ref (n0 + 178)), (2, .int v2), (3, .int v3)] dX12_dayWith_167 rfl rfl (Nat.le_of_ble_eq_true rfl) rfl ?_
                    refine j_goto C 132 dX12_dayWith_170 (by decide) ?_
                    refine j_sub [1, 2, 3, 0] rfl ?_
                    exact ih _ _ hf
              refine j_sub [2, 3, 4, 0] rfl ?_
              exact hl106 FUEL (0 : Int32) M35 e104
      refine j_sub [0, 1, 2] rfl ?_
      exact hl99 FUEL M33 e97
    clear hf
    have hf := e95
    refine j_icmp_le C 82 dX12_dayWith_73 (by decide) (fun c22 => ?_) (fun c22 => ?_)
    · replace hf := ip c22 hf
      refine j_aload_n C 0 dX12_dayWith_82 rfl rfl ?_
      refine g_X12_now C tw5_182 lc178 179 rfl dX12_dayWith_83 ?_
      refine j_iconst C (2 : Int32) rfl dX12_dayWith_86 ?_
      obtain ⟨v23, e24, hf⟩ := bd hf
      obtain ⟨hx25, e24⟩ := ald_some e24
      refine j_iald C lc179 hx25 e24 dX12_dayWith_87 ?_
      refine j_bipush C (10 : Int32) rfl dX12_dayWith_88 ?_
      refine j_iload_n C 1 dX12_dayWith_90 rfl rfl ?_
      refine j_imul C dX12_dayWith_91 ?_
      refine j_iadd C dX12_dayWith_92 ?_
      cases hf
      refine j_sub [0, 2, 3] rfl ?_
      exact hj96
    · replace hf := ine c22 hf
      refine j_sipush C (400 : Int32) rfl dX12_dayWith_76 ?_
      refine j_goto C 93 dX12_dayWith_79 (by decide) ?_
      cases hf
      refine j_sub [0, 2, 3] rfl ?_
      exact hj96
  clear hf
  have hl92 : ∀ (n : Nat) (a10 : Int32) (M11 : Mem), lX12_dayWith_29 n a10 M11 = some M18 → J K M11 29 [(0, .ref (n0 + 178)), (1, .int x1), (2, .int v2), (3, .int v3), (4, .int a10)] [] := by
    intro n
    induction n with
    | zero =>
      intro a10 M11 hf
      exact absurd hf (by rw [lX12_dayWith_29]; exact fun h => by cases h)
    | succ n ih =>
      intro a10 M11 hf
      rw [lX12_dayWith_29] at hf
      refine j_iload C 4 dX12_dayWith_29 rfl ?_
      refine j_aload_n C 0 dX12_dayWith_31 rfl rfl ?_
      refine g_X12_now C tw5_182 lc178 179 rfl dX12_dayWith_32 ?_
      refine j_iconst C (0 : Int32) rfl dX12_dayWith_35 ?_
      obtain ⟨v12, e13, hf⟩ := bd hf
      obtain ⟨hx14, e13⟩ := ald_some e13
      refine j_iald C lc179 hx14 e13 dX12_dayWith_36 ?_
      refine j_icmp_ge C 54 dX12_dayWith_37 (by decide) (fun c15 => ?_) (fun c15 => ?_)
      · replace hf := ip c15 hf
        refine j_sub [0, 1, 2, 3] rfl ?_
        cases hf
        exact hx91
      · replace hf := ine c15 hf
        refine j_aload_n C 0 dX12_dayWith_40 rfl rfl ?_
        refine j_iload C 4 dX12_dayWith_41 rfl ?_
        refine j_iconst C (3 : Int32) rfl dX12_dayWith_43 ?_
        refine j_iconst C (0 : Int32) rfl dX12_dayWith_44 ?_
        obtain ⟨M17, e16, hf⟩ := bd hf
        refine j_callV C 3 lc178 (ent_K _ _ _ _ _ _) rfl (c_X12_lays l G n0 e16) gv_RX12_55 ⟨rfl, rfl⟩ (by decide +kernel) ⟨Nat.le_of_ble_eq_true rfl, Nat.le_of_ble_eq_true rfl⟩ rfl rfl (Nat.le_of_ble_eq_true rfl) dX12_dayWith_45 ?_
        refine j_iinc C 4 (a10 + 1) [(4, .int (a10 + 1)), (0, .ref (n0 + 178)), (1, .int x1), (2, .int v2), (3, .int v3)] dX12_dayWith_48 rfl rfl (Nat.le_of_ble_eq_true rfl) rfl ?_
        refine j_goto C 29 dX12_dayWith_51 (by decide) ?_
        refine j_sub [1, 2, 3, 4, 0] rfl ?_
        exact ih _ _ hf
  refine j_sub [3, 4, 2, 1, 0] rfl ?_
  exact hl92 FUEL (0 : Int32) M9 e90
def fX12_isWood (x0 : Int32) : Option Bool :=
  (fX12_in x0 (1 : Int32) (40 : Int32)).bind fun b2 =>
  some b2

def rX12_isWood : Room := { frames := 1, cells := 0, slots := 0, locals := 22 }
set_option maxRecDepth 100000 in
set_option maxHeartbeats 4000000 in
theorem c_X12_isWood (l : Launch) (G : Gx) (n0 : Nat) {x0 : Int32} {M : Mem} {r : Bool} (hf : fX12_isWood x0 = some r) : Ct l yX12_isWood cX12_isWood 1 (some .boolean) rX12_isWood G n0 [.int x0] M (some (.int (bI r))) M := by
  refine ct_bool (cc := cX12_isWood) (maxL := 1) rfl (Nat.le_of_ble_eq_true rfl) ?_
  intro K C hret
  have C : Ok K l rX12_isWood cX12_isWood RX12 G n0 1 := C
  show J K M 0 [(0, .int x0)] []
  unfold fX12_isWood at hf
  refine j_iload_n C 0 dX12_isWood_0 rfl rfl ?_
  refine j_iconst C (1 : Int32) rfl dX12_isWood_1 ?_
  refine j_bipush C (40 : Int32) rfl dX12_isWood_2 ?_
  obtain ⟨b2, e1, hf⟩ := bd hf
  refine j_callS C 3 (c_X12_in l G n0 (M := M) e1) gs_RX12_39 ⟨rfl, rfl⟩ (by decide +kernel) ⟨Nat.le_of_ble_eq_true rfl, Nat.le_of_ble_eq_true rfl⟩ rfl rfl (Nat.le_of_ble_eq_true rfl) dX12_isWood_4 ?_
  obtain rfl := Option.some.inj hf
  exact hret _ _ dX12_isWood_7
def fX12_badDay (x1 : Int32) (M : Mem) : Option Int32 :=
  (fX12_isWood x1).bind fun b2 =>
  if b2 = true then ((ald (M.1 179) 1601 (7 : Int32)).bind fun v4 =>
  if v4 = 0 then (some (2 : Int32))
  else (some (0 : Int32)))
  else (some (1 : Int32))

def rX12_badDay : Room := { frames := 2, cells := 0, slots := 0, locals := 42 }
set_option maxRecDepth 100000 in
set_option maxHeartbeats 4000000 in
theorem c_X12_badDay (l : Launch) (G : Gx) (n0 : Nat) {x1 : Int32} {M : Mem} {r : Int32} (hf : fX12_badDay x1 M = some r) : Ct l yX12_badDay cX12_badDay 2 (some .int) rX12_badDay G n0 [.ref (n0 + 178), .int x1] M (some (.int r)) M := by
  refine ct_int (cc := cX12_badDay) (maxL := 2) rfl (Nat.le_of_ble_eq_true rfl) ?_
  intro K C hret
  have C : Ok K l rX12_badDay cX12_badDay RX12 G n0 2 := C
  show J K M 0 [(0, .ref (n0 + 178)), (1, .int x1)] []
  unfold fX12_badDay at hf
  refine j_iload_n C 1 dX12_badDay_0 rfl rfl ?_
  obtain ⟨b2, e1, hf⟩ := bd hf
  refine j_callS C 1 (c_X12_isWood l G n0 (M := M) e1) gs_RX12_160 ⟨rfl, rfl⟩ (by decide +kernel) ⟨Nat.le_of_ble_eq_true rfl, Nat.le_of_ble_eq_true rfl⟩ rfl rfl (Nat.le_of_ble_eq_true rfl) dX12_badDay_1 ?_
  refine j_ifz_ne C 11 dX12_badDay_4 (by decide) (fun c3 => ?_) (fun c3 => ?_)
  · replace hf := ip c3 hf
    refine j_aload_n C 0 dX12_badDay_11 rfl rfl ?_
    refine g_X12_now C tw5_182 lc178 179 rfl dX12_badDay_12 ?_
    refine j_bipush C (7 : Int32) rfl dX12_badDay_15 ?_
    obtain ⟨v4, e5, hf⟩ := bd hf
    obtain ⟨hx6, e5⟩ := ald_some e5
    refine j_iald C lc179 hx6 e5 dX12_badDay_17 ?_
    refine j_if_ne C 25 dX12_badDay_18 (by decide) (fun c7 => ?_) (fun c7 => ?_)
    · replace hf := ine c7 hf
      refine j_iconst C (0 : Int32) rfl dX12_badDay_25 ?_
      obtain rfl := Option.some.inj hf
      exact hret _ _ dX12_badDay_26
    · replace hf := ip c7 hf
      refine j_iconst C (2 : Int32) rfl dX12_badDay_21 ?_
      refine j_goto C 26 dX12_badDay_22 (by decide) ?_
      obtain rfl := Option.some.inj hf
      exact hret _ _ dX12_badDay_26
  · replace hf := ine c3 hf
    refine j_iconst C (1 : Int32) rfl dX12_badDay_7 ?_
    refine j_goto C 26 dX12_badDay_8 (by decide) ?_
    obtain rfl := Option.some.inj hf
    exact hret _ _ dX12_badDay_26
def fX12_bake (x1 : Int32) (M : Mem) : Option (Int32 × Mem) :=
  (fX12_badDay x1 M).bind fun v2 =>
  (fX12_refused v2 M).bind (un2 fun b4 M5 =>
  if b4 = true then (some ((0 : Int32), M5))
  else ((fX12_saves M5).bind fun M8 =>
  (fX12_dayWith x1 M8).bind (un2 fun v10 M11 =>
  some (v10, M11))))

def rX12_bake : Room := { frames := 5, cells := 0, slots := 0, locals := 114 }
set_option maxRecDepth 100000 in
set_option maxHeartbeats 4000000 in
theorem c_X12_bake (l : Launch) (G : Gx) (n0 : Nat) {x1 : Int32} {M : Mem} {r : Int32} {M' : Mem} (hf : fX12_bake x1 M = some (r, M')) : Ct l yX12_bake cX12_bake 2 (some .int) rX12_bake G n0 [.ref (n0 + 178), .int x1] M (some (.int r)) M' := by
  refine ct_int (cc := cX12_bake) (maxL := 2) rfl (Nat.le_of_ble_eq_true rfl) ?_
  intro K C hret
  have C : Ok K l rX12_bake cX12_bake RX12 G n0 2 := C
  show J K M 0 [(0, .ref (n0 + 178)), (1, .int x1)] []
  unfold fX12_bake at hf
  refine j_aload_n C 0 dX12_bake_0 rfl rfl ?_
  refine j_aload_n C 0 dX12_bake_1 rfl rfl ?_
  refine j_iload_n C 1 dX12_bake_2 rfl rfl ?_
  obtain ⟨v2, e1, hf⟩ := bd hf
  refine j_callV C 1 lc178 (ent_K _ _ _ _ _ _) rfl (c_X12_badDay l G n0 e1) gv_RX12_163 ⟨rfl, rfl⟩ (by decide +kernel) ⟨Nat.le_of_ble_eq_true rfl, Nat.le_of_ble_eq_true rfl⟩ rfl rfl (Nat.le_of_ble_eq_true rfl) dX12_bake_3 ?_
  obtain ⟨⟨b4, M5⟩, e3, hf⟩ := bd hf
  replace hf := un2e hf
  refine j_callV C 1 lc178 (ent_K _ _ _ _ _ _) rfl (c_X12_refused l G n0 e3) gv_RX12_35 ⟨rfl, rfl⟩ (by decide +kernel) ⟨Nat.le_of_ble_eq_true rfl, Nat.le_of_ble_eq_true rfl⟩ rfl rfl (Nat.le_of_ble_eq_true rfl) dX12_bake_6 ?_
  refine j_ifz_eq C 14 dX12_bake_9 (by decide) (fun c6 => ?_) (fun c6 => ?_)
  · replace hf := ine c6 hf
    refine j_aload_n C 0 dX12_bake_14 rfl rfl ?_
    obtain ⟨M8, e7, hf⟩ := bd hf
    refine j_callV C 0 lc178 (ent_K _ _ _ _ _ _) rfl (c_X12_saves l G n0 e7) gv_RX12_63 ⟨rfl, rfl⟩ (by decide +kernel) ⟨Nat.le_of_ble_eq_true rfl, Nat.le_of_ble_eq_true rfl⟩ rfl rfl (Nat.le_of_ble_eq_true rfl) dX12_bake_15 ?_
    refine j_aload_n C 0 dX12_bake_18 rfl rfl ?_
    refine j_iload_n C 1 dX12_bake_19 rfl rfl ?_
    obtain ⟨⟨v10, M11⟩, e9, hf⟩ := bd hf
    replace hf := un2e hf
    refine j_callV C 1 lc178 (ent_K _ _ _ _ _ _) rfl (c_X12_dayWith l G n0 e9) gv_RX12_166 ⟨rfl, rfl⟩ (by decide +kernel) ⟨Nat.le_of_ble_eq_true rfl, Nat.le_of_ble_eq_true rfl⟩ rfl rfl (Nat.le_of_ble_eq_true rfl) dX12_bake_20 ?_
    obtain ⟨rfl, rfl⟩ := Prod.mk.inj (Option.some.inj hf)
    exact hret _ _ dX12_bake_23
  · replace hf := ip c6 hf
    refine j_iconst C (0 : Int32) rfl dX12_bake_12 ?_
    obtain ⟨rfl, rfl⟩ := Prod.mk.inj (Option.some.inj hf)
    exact hret _ _ dX12_bake_13
def lX12_balanceOf_8 (x1 : Int32) (x2 : Int32) (M : Mem) : Nat → Int32 → Int32 → Option Int32
  | 0, _, _ => none
  | n + 1, a3, a4 =>
  (ald (M.1 179) 1601 (5 : Int32)).bind fun v5 =>
  if v5 ≤ a4 then (some a3)
  else ((fX12_loafOf a4 (1 : Int32) M).bind fun v10 =>
  if v10 = x2 then ((fX12_loafOf a4 (0 : Int32) M).bind fun v13 =>
  (if v13 = x1 then (some (1 : Int32))
  else (some (0 : Int32))).bind (fun z15 => (fX12_loafOf a4 (5 : Int32) M).bind fun v17 =>
  if v17 = x1 then (lX12_balanceOf_8 x1 x2 M n (a3 + (z15 - (1 : Int32))) (a4 + 1))
  else (lX12_balanceOf_8 x1 x2 M n (a3 + (z15 - (0 : Int32))) (a4 + 1))))
  else (lX12_balanceOf_8 x1 x2 M n a3 (a4 + 1)))

def fX12_balanceOf (x1 : Int32) (x2 : Int32) (M : Mem) : Option Int32 :=
  (fX12_firstKept M).bind fun v2 =>
  (lX12_balanceOf_8 x1 x2 M FUEL (0 : Int32) v2).bind (fun a19 => some a19)

def rX12_balanceOf : Room := { frames := 2, cells := 0, slots := 0, locals := 42 }
set_option maxRecDepth 100000 in
set_option maxHeartbeats 4000000 in
theorem c_X12_balanceOf (l : Launch) (G : Gx) (n0 : Nat) {x1 : Int32} {x2 : Int32} {M : Mem} {r : Int32} (hf : fX12_balanceOf x1 x2 M = some r) : Ct l yX12_balanceOf cX12_balanceOf 5 (some .int) rX12_balanceOf G n0 [.ref (n0 + 178), .int x1, .int x2] M (some (.int r)) M := by
  refine ct_int (cc := cX12_balanceOf) (maxL := 5) rfl (Nat.le_of_ble_eq_true rfl) ?_
  intro K C hret
  have C : Ok K l rX12_balanceOf cX12_balanceOf RX12 G n0 5 := C
  show J K M 0 [(0, .ref (n0 + 178)), (1, .int x1), (2, .int x2)] []
  unfold fX12_balanceOf at hf
  refine j_iconst C (0 : Int32) rfl dX12_balanceOf_0 ?_
  refine j_istore_n C [(3, .int (0 : Int32)), (0, .ref (n0 + 178)), (1, .int x1), (2, .int x2)] dX12_balanceOf_1 rfl (Nat.le_of_ble_eq_true rfl) rfl ?_
  refine j_aload_n C 1 dX12_balanceOf_2 rfl rfl ?_
  obtain ⟨v2, e1, hf⟩ := bd hf
  refine j_callV C 0 lc178 (ent_K _ _ _ _ _ _) rfl (c_X12_firstKept l G n0 e1) gv_RX12_110 ⟨rfl, rfl⟩ (by decide +kernel) ⟨Nat.le_of_ble_eq_true rfl, Nat.le_of_ble_eq_true rfl⟩ rfl rfl (Nat.le_of_ble_eq_true rfl) dX12_balanceOf_3 ?_
  refine j_istore C [(4, .int v2), (3, .int (0 : Int32)), (0, .ref (n0 + 178)), (1, .int x1), (2, .int x2)] dX12_balanceOf_6 (Nat.le_of_ble_eq_true rfl) rfl ?_
  obtain ⟨a19, e20, hf⟩ := bd hf
  have hx21 : J K M 72 [(3, .int a19)] [] := by
    refine j_iload_n C 0 dX12_balanceOf_72 rfl rfl ?_
    obtain rfl := Option.some.inj hf
    exact hret _ _ dX12_balanceOf_73
  clear hf
  have hl22 : ∀ (n : Nat) (a3 : Int32) (a4 : Int32), lX12_balanceOf_8 x1 x2 M n a3 a4 = some a19 → J K M 8 [(0, .ref (n0 + 178)), (1, .int x1), (2, .int x2), (3, .int a3), (4, .int a4)] [] := by
    intro n
    induction n with
    | zero =>
      intro a3 a4 hf
      exact absurd hf (by rw [lX12_balanceOf_8]; exact fun h => by cases h)
    | succ n ih =>
      intro a3 a4 hf
      rw [lX12_balanceOf_8] at hf
      refine j_iload C 4 dX12_balanceOf_8 rfl ?_
      refine j_aload_n C 0 dX12_balanceOf_10 rfl rfl ?_
      refine g_X12_now C tw5_182 lc178 179 rfl dX12_balanceOf_11 ?_
      refine j_iconst C (5 : Int32) rfl dX12_balanceOf_14 ?_
      obtain ⟨v5, e6, hf⟩ := bd hf
      obtain ⟨hx7, e6⟩ := ald_some e6
      refine j_iald C lc179 hx7 e6 dX12_balanceOf_15 ?_
      refine j_icmp_ge C 72 dX12_balanceOf_16 (by decide) (fun c8 => ?_) (fun c8 => ?_)
      · replace hf := ip c8 hf
        refine j_sub [3] rfl ?_
        cases hf
        exact hx21
      · replace hf := ine c8 hf
        refine j_aload_n C 0 dX12_balanceOf_19 rfl rfl ?_
        refine j_iload C 4 dX12_balanceOf_20 rfl ?_
        refine j_iconst C (1 : Int32) rfl dX12_balanceOf_22 ?_
        obtain ⟨v10, e9, hf⟩ := bd hf
        refine j_callV C 2 lc178 (ent_K _ _ _ _ _ _) rfl (c_X12_loafOf l G n0 e9) gv_RX12_113 ⟨rfl, rfl⟩ (by decide +kernel) ⟨Nat.le_of_ble_eq_true rfl, Nat.le_of_ble_eq_true rfl⟩ rfl rfl (Nat.le_of_ble_eq_true rfl) dX12_balanceOf_23 ?_
        refine j_iload_n C 2 dX12_balanceOf_26 rfl rfl ?_
        refine j_icmp_ne C 66 dX12_balanceOf_27 (by decide) (fun c11 => ?_) (fun c11 => ?_)
        · replace hf := ine c11 hf
          refine j_iinc C 4 (a4 + 1) [(4, .int (a4 + 1)), (0, .ref (n0 + 178)), (1, .int x1), (2, .int x2), (3, .int a3)] dX12_balanceOf_66 rfl rfl (Nat.le_of_ble_eq_true rfl) rfl ?_
          refine j_goto C 8 dX12_balanceOf_69 (by decide) ?_
          refine j_sub [1, 2, 3, 4, 0] rfl ?_
          exact ih _ _ hf
        · replace hf := ip c11 hf
          refine j_iload_n C 3 dX12_balanceOf_30 rfl rfl ?_
          refine j_aload_n C 0 dX12_balanceOf_31 rfl rfl ?_
          refine j_iload C 4 dX12_balanceOf_32 rfl ?_
          refine j_iconst C (0 : Int32) rfl dX12_balanceOf_34 ?_
          obtain ⟨v13, e12, hf⟩ := bd hf
          refine j_callV C 2 lc178 (ent_K _ _ _ _ _ _) rfl (c_X12_loafOf l G n0 e12) gv_RX12_113 ⟨rfl, rfl⟩ (by decide +kernel) ⟨Nat.le_of_ble_eq_true rfl, Nat.le_of_ble_eq_true rfl⟩ rfl rfl (Nat.le_of_ble_eq_true rfl) dX12_balanceOf_35 ?_
          refine j_iload_n C 1 dX12_balanceOf_38 rfl rfl ?_
          obtain ⟨z15, e25, hf⟩ := bd hf
          have hj26 : J K M 47 [(0, .ref (n0 + 178)), (1, .int x1), (2, .int x2), (4, .int a4)] [.int z15, .int a3] := by
            refine j_aload_n C 0 dX12_balanceOf_47 rfl rfl ?_
            refine j_iload C 3 dX12_balanceOf_48 rfl ?_
            refine j_iconst C (5 : Int32) rfl dX12_balanceOf_50 ?_
            obtain ⟨v17, e16, hf⟩ := bd hf
            refine j_callV C 2 lc178 (ent_K _ _ _ _ _ _) rfl (c_X12_loafOf l G n0 e16) gv_RX12_113 ⟨rfl, rfl⟩ (by decide +kernel) ⟨Nat.le_of_ble_eq_true rfl, Nat.le_of_ble_eq_true rfl⟩ rfl rfl (Nat.le_of_ble_eq_true rfl) dX12_balanceOf_51 ?_
            refine j_iload_n C 1 dX12_balanceOf_54 rfl rfl ?_
            refine j_icmp_ne C 62 dX12_balanceOf_55 (by decide) (fun c18 => ?_) (fun c18 => ?_)
            · replace hf := ine c18 hf
              refine j_iconst C (0 : Int32) rfl dX12_balanceOf_62 ?_
              refine j_isub C dX12_balanceOf_63 ?_
              refine j_iadd C dX12_balanceOf_64 ?_
              refine j_istore_n C [(3, .int (a3 + (z15 - (0 : Int32)))), (0, .ref (n0 + 178)), (1, .int x1), (2, .int x2), (4, .int a4)] dX12_balanceOf_65 rfl (Nat.le_of_ble_eq_true rfl) rfl ?_
              refine j_iinc C 4 (a4 + 1) [(4, .int (a4 + 1)), (3, .int (a3 + (z15 - (0 : Int32)))), (0, .ref (n0 + 178)), (1, .int x1), (2, .int x2)] dX12_balanceOf_66 rfl rfl (Nat.le_of_ble_eq_true rfl) rfl ?_
              refine j_goto C 8 dX12_balanceOf_69 (by decide) ?_
              refine j_sub [2, 3, 4, 1, 0] rfl ?_
              exact ih _ _ hf
            · replace hf := ip c18 hf
              refine j_iconst C (1 : Int32) rfl dX12_balanceOf_58 ?_
              refine j_goto C 63 dX12_balanceOf_59 (by decide) ?_
              refine j_isub C dX12_balanceOf_63 ?_
              refine j_iadd C dX12_balanceOf_64 ?_
              refine j_istore_n C [(3, .int (a3 + (z15 - (1 : Int32)))), (0, .ref (n0 + 178)), (1, .int x1), (2, .int x2), (4, .int a4)] dX12_balanceOf_65 rfl (Nat.le_of_ble_eq_true rfl) rfl ?_
              refine j_iinc C 4 (a4 + 1) [(4, .int (a4 + 1)), (3, .int (a3 + (z15 - (1 : Int32)))), (0, .ref (n0 + 178)), (1, .int x1), (2, .int x2)] dX12_balanceOf_66 rfl rfl (Nat.le_of_ble_eq_true rfl) rfl ?_
              refine j_goto C 8 dX12_balanceOf_69 (by decide) ?_
              refine j_sub [2, 3, 4, 1, 0] rfl ?_
              exact ih _ _ hf
          clear hf
          have hf := e25
          refine j_icmp_ne C 46 dX12_balanceOf_39 (by decide) (fun c14 => ?_) (fun c14 => ?_)
          · replace hf := ine c14 hf
            refine j_iconst C (0 : Int32) rfl dX12_balanceOf_46 ?_
            cases hf
            refine j_sub [0, 1, 2, 4] rfl ?_
            exact hj26
          · replace hf := ip c14 hf
            refine j_iconst C (1 : Int32) rfl dX12_balanceOf_42 ?_
            refine j_goto C 47 dX12_balanceOf_43 (by decide) ?_
            cases hf
            refine j_sub [0, 1, 2, 4] rfl ?_
            exact hj26
  refine j_sub [2, 3, 4, 1, 0] rfl ?_
  exact hl22 FUEL (0 : Int32) v2 e20
def lX12_claims_23 (x1 : Int32) (a2 : Int32) : Nat → Int32 → Int32 → Int32 → Mem → Option (Int32 × Mem)
  | 0, _, _, _, _ => none
  | n + 1, a9, a10, a11, M12 =>
  (ald (M12.1 179) 1601 (5 : Int32)).bind fun v13 =>
  if v13 ≤ a11 then (some (a9, M12))
  else (if a10 ≤ 0 then (some (a9, M12))
  else ((fX12_loafOf a11 (1 : Int32) M12).bind fun v19 =>
  if v19 = a2 then ((fX12_loafOf a11 (5 : Int32) M12).bind fun v22 =>
  if v22 = (8 : Int32) then ((fX12_loafOf a11 (4 : Int32) M12).bind fun v25 =>
  (fX12_of x1 (0 : Int32) M12).bind fun v27 =>
  if (v25 &&& (v27 ^^^ (-1 : Int32))) = 0 then ((fX12_loafAt a11).bind fun v30 =>
  (ast M12 179 1601 (v30 + (5 : Int32)) x1).bind fun M31 =>
  lX12_claims_23 x1 a2 n (a9 + 1) (a10 + (-1)) (a11 + 1) M31)
  else (lX12_claims_23 x1 a2 n a9 a10 (a11 + 1) M12))
  else (lX12_claims_23 x1 a2 n a9 a10 (a11 + 1) M12))
  else (lX12_claims_23 x1 a2 n a9 a10 (a11 + 1) M12)))

def lX12_claims_4 (x1 : Int32) : Nat → Int32 → Int32 → Mem → Option (Int32 × Mem)
  | 0, _, _, _ => none
  | n + 1, a1, a2, M3 =>
  if (3 : Int32) ≤ a2 then (some (a1, M3))
  else ((fX12_balanceOf x1 a2 M3).bind fun v6 =>
  (fX12_firstKept M3).bind fun v8 =>
  (lX12_claims_23 x1 a2 FUEL a1 v6 v8 M3).bind (un2 fun a34 M35 => lX12_claims_4 x1 n a34 (a2 + 1) M35))

def fX12_claims (x1 : Int32) (M : Mem) : Option (Int32 × Mem) :=
  (lX12_claims_4 x1 FUEL (0 : Int32) (0 : Int32) M).bind (un2 fun a36 M37 => some (a36, M37))

def rX12_claims : Room := { frames := 3, cells := 0, slots := 0, locals := 66 }
set_option maxRecDepth 100000 in
set_option maxHeartbeats 4000000 in
theorem c_X12_claims (l : Launch) (G : Gx) (n0 : Nat) {x1 : Int32} {M : Mem} {r : Int32} {M' : Mem} (hf : fX12_claims x1 M = some (r, M')) : Ct l yX12_claims cX12_claims 6 (some .int) rX12_claims G n0 [.ref (n0 + 178), .int x1] M (some (.int r)) M' := by
  refine ct_int (cc := cX12_claims) (maxL := 6) rfl (Nat.le_of_ble_eq_true rfl) ?_
  intro K C hret
  have C : Ok K l rX12_claims cX12_claims RX12 G n0 6 := C
  show J K M 0 [(0, .ref (n0 + 178)), (1, .int x1)] []
  unfold fX12_claims at hf
  refine j_iconst C (0 : Int32) rfl dX12_claims_0 ?_
  refine j_istore_n C [(2, .int (0 : Int32)), (0, .ref (n0 + 178)), (1, .int x1)] dX12_claims_1 rfl (Nat.le_of_ble_eq_true rfl) rfl ?_
  refine j_iconst C (0 : Int32) rfl dX12_claims_2 ?_
  refine j_istore_n C [(3, .int (0 : Int32)), (2, .int (0 : Int32)), (0, .ref (n0 + 178)), (1, .int x1)] dX12_claims_3 rfl (Nat.le_of_ble_eq_true rfl) rfl ?_
  obtain ⟨⟨a36, M37⟩, e38, hf⟩ := bd hf
  replace hf := un2e hf
  have hx39 : J K M37 112 [(2, .int a36)] [] := by
    refine j_iload_n C 0 dX12_claims_112 rfl rfl ?_
    obtain ⟨rfl, rfl⟩ := Prod.mk.inj (Option.some.inj hf)
    exact hret _ _ dX12_claims_113
  clear hf
  have hl40 : ∀ (n : Nat) (a1 : Int32) (a2 : Int32) (M3 : Mem), lX12_claims_4 x1 n a1 a2 M3 = some (a36, M37) → J K M3 4 [(0, .ref (n0 + 178)), (1, .int x1), (2, .int a1), (3, .int a2)] [] := by
    intro n
    induction n with
    | zero =>
      intro a1 a2 M3 hf
      exact absurd hf (by rw [lX12_claims_4]; exact fun h => by cases h)
    | succ n ih =>
      intro a1 a2 M3 hf
      rw [lX12_claims_4] at hf
      refine j_iload_n C 3 dX12_claims_4 rfl rfl ?_
      refine j_iconst C (3 : Int32) rfl dX12_claims_5 ?_
      refine j_icmp_ge C 112 dX12_claims_6 (by decide) (fun c4 => ?_) (fun c4 => ?_)
      · replace hf := ip c4 hf
        refine j_sub [2] rfl ?_
        cases hf
        exact hx39
      · replace hf := ine c4 hf
        refine j_aload_n C 0 dX12_claims_9 rfl rfl ?_
        refine j_iload_n C 1 dX12_claims_10 rfl rfl ?_
        refine j_iload_n C 3 dX12_claims_11 rfl rfl ?_
        obtain ⟨v6, e5, hf⟩ := bd hf
        refine j_callV C 2 lc178 (ent_K _ _ _ _ _ _) rfl (c_X12_balanceOf l G n0 e5) gv_RX12_169 ⟨rfl, rfl⟩ (by decide +kernel) ⟨Nat.le_of_ble_eq_true rfl, Nat.le_of_ble_eq_true rfl⟩ rfl rfl (Nat.le_of_ble_eq_true rfl) dX12_claims_12 ?_
        refine j_istore C [(4, .int v6), (0, .ref (n0 + 178)), (1, .int x1), (2, .int a1), (3, .int a2)] dX12_claims_15 (Nat.le_of_ble_eq_true rfl) rfl ?_
        refine j_aload_n C 1 dX12_claims_17 rfl rfl ?_
        obtain ⟨v8, e7, hf⟩ := bd hf
        refine j_callV C 0 lc178 (ent_K _ _ _ _ _ _) rfl (c_X12_firstKept l G n0 e7) gv_RX12_110 ⟨rfl, rfl⟩ (by decide +kernel) ⟨Nat.le_of_ble_eq_true rfl, Nat.le_of_ble_eq_true rfl⟩ rfl rfl (Nat.le_of_ble_eq_true rfl) dX12_claims_18 ?_
        refine j_istore C [(5, .int v8), (4, .int v6), (0, .ref (n0 + 178)), (1, .int x1), (2, .int a1), (3, .int a2)] dX12_claims_21 (Nat.le_of_ble_eq_true rfl) rfl ?_
        obtain ⟨⟨a34, M35⟩, e43, hf⟩ := bd hf
        replace hf := un2e hf
        have hx44 : J K M35 106 [(0, .ref (n0 + 178)), (1, .int x1), (2, .int a34), (3, .int a2)] [] := by
          refine j_iinc C 3 (a2 + 1) [(3, .int (a2 + 1)), (0, .ref (n0 + 178)), (1, .int x1), (2, .int a34)] dX12_claims_106 rfl rfl (Nat.le_of_ble_eq_true rfl) rfl ?_
          refine j_goto C 4 dX12_claims_109 (by decide) ?_
          refine j_sub [1, 2, 3, 0] rfl ?_
          exact ih _ _ _ hf
        clear hf
        have hl45 : ∀ (n : Nat) (a9 : Int32) (a10 : Int32) (a11 : Int32) (M12 : Mem), lX12_claims_23 x1 a2 n a9 a10 a11 M12 = some (a34, M35) → J K M12 23 [(0, .ref (n0 + 178)), (1, .int x1), (2, .int a9), (3, .int a2), (4, .int a10), (5, .int a11)] [] := by
          intro n
          induction n with
          | zero =>
            intro a9 a10 a11 M12 hf
            exact absurd hf (by rw [lX12_claims_23]; exact fun h => by cases h)
          | succ n ih =>
            intro a9 a10 a11 M12 hf
            rw [lX12_claims_23] at hf
            refine j_iload C 5 dX12_claims_23 rfl ?_
            refine j_aload_n C 0 dX12_claims_25 rfl rfl ?_
            refine g_X12_now C tw5_182 lc178 179 rfl dX12_claims_26 ?_
            refine j_iconst C (5 : Int32) rfl dX12_claims_29 ?_
            obtain ⟨v13, e14, hf⟩ := bd hf
            obtain ⟨hx15, e14⟩ := ald_some e14
            refine j_iald C lc179 hx15 e14 dX12_claims_30 ?_
            refine j_icmp_ge C 106 dX12_claims_31 (by decide) (fun c16 => ?_) (fun c16 => ?_)
            · replace hf := ip c16 hf
              refine j_sub [0, 1, 2, 3] rfl ?_
              cases hf
              exact hx44
            · replace hf := ine c16 hf
              refine j_iload C 4 dX12_claims_34 rfl ?_
              refine j_if_le C 106 dX12_claims_36 (by decide) (fun c17 => ?_) (fun c17 => ?_)
              · replace hf := ip c17 hf
                refine j_sub [0, 1, 2, 3] rfl ?_
                cases hf
                exact hx44
              · replace hf := ine c17 hf
                refine j_aload_n C 0 dX12_claims_39 rfl rfl ?_
                refine j_iload C 5 dX12_claims_40 rfl ?_
                refine j_iconst C (1 : Int32) rfl dX12_claims_42 ?_
                obtain ⟨v19, e18, hf⟩ := bd hf
                refine j_callV C 2 lc178 (ent_K _ _ _ _ _ _) rfl (c_X12_loafOf l G n0 e18) gv_RX12_113 ⟨rfl, rfl⟩ (by decide +kernel) ⟨Nat.le_of_ble_eq_true rfl, Nat.le_of_ble_eq_true rfl⟩ rfl rfl (Nat.le_of_ble_eq_true rfl) dX12_claims_43 ?_
                refine j_iload_n C 3 dX12_claims_46 rfl rfl ?_
                refine j_icmp_ne C 100 dX12_claims_47 (by decide) (fun c20 => ?_) (fun c20 => ?_)
                · replace hf := ine c20 hf
                  refine j_iinc C 5 (a11 + 1) [(5, .int (a11 + 1)), (0, .ref (n0 + 178)), (1, .int x1), (2, .int a9), (3, .int a2), (4, .int a10)] dX12_claims_100 rfl rfl (Nat.le_of_ble_eq_true rfl) rfl ?_
                  refine j_goto C 23 dX12_claims_103 (by decide) ?_
                  refine j_sub [1, 2, 3, 4, 5, 0] rfl ?_
                  exact ih _ _ _ _ hf
                · replace hf := ip c20 hf
                  refine j_aload_n C 0 dX12_claims_50 rfl rfl ?_
                  refine j_iload C 5 dX12_claims_51 rfl ?_
                  refine j_iconst C (5 : Int32) rfl dX12_claims_53 ?_
                  obtain ⟨v22, e21, hf⟩ := bd hf
                  refine j_callV C 2 lc178 (ent_K _ _ _ _ _ _) rfl (c_X12_loafOf l G n0 e21) gv_RX12_113 ⟨rfl, rfl⟩ (by decide +kernel) ⟨Nat.le_of_ble_eq_true rfl, Nat.le_of_ble_eq_true rfl⟩ rfl rfl (Nat.le_of_ble_eq_true rfl) dX12_claims_54 ?_
                  refine j_bipush C (8 : Int32) rfl dX12_claims_57 ?_
                  refine j_icmp_ne C 100 dX12_claims_59 (by decide) (fun c23 => ?_) (fun c23 => ?_)
                  · replace hf := ine c23 hf
                    refine j_iinc C 5 (a11 + 1) [(5, .int (a11 + 1)), (0, .ref (n0 + 178)), (1, .int x1), (2, .int a9), (3, .int a2), (4, .int a10)] dX12_claims_100 rfl rfl (Nat.le_of_ble_eq_true rfl) rfl ?_
                    refine j_goto C 23 dX12_claims_103 (by decide) ?_
                    refine j_sub [1, 2, 3, 4, 5, 0] rfl ?_
                    exact ih _ _ _ _ hf
                  · replace hf := ip c23 hf
                    refine j_aload_n C 0 dX12_claims_62 rfl rfl ?_
                    refine j_iload C 5 dX12_claims_63 rfl ?_
                    refine j_iconst C (4 : Int32) rfl dX12_claims_65 ?_
                    obtain ⟨v25, e24, hf⟩ := bd hf
                    refine j_callV C 2 lc178 (ent_K _ _ _ _ _ _) rfl (c_X12_loafOf l G n0 e24) gv_RX12_113 ⟨rfl, rfl⟩ (by decide +kernel) ⟨Nat.le_of_ble_eq_true rfl, Nat.le_of_ble_eq_true rfl⟩ rfl rfl (Nat.le_of_ble_eq_true rfl) dX12_claims_66 ?_
                    refine j_aload_n C 0 dX12_claims_69 rfl rfl ?_
                    refine j_iload_n C 1 dX12_claims_70 rfl rfl ?_
                    refine j_iconst C (0 : Int32) rfl dX12_claims_71 ?_
                    obtain ⟨v27, e26, hf⟩ := bd hf
                    refine j_callV C 2 lc178 (ent_K _ _ _ _ _ _) rfl (c_X12_of l G n0 e26) gv_RX12_44 ⟨rfl, rfl⟩ (by decide +kernel) ⟨Nat.le_of_ble_eq_true rfl, Nat.le_of_ble_eq_true rfl⟩ rfl rfl (Nat.le_of_ble_eq_true rfl) dX12_claims_72 ?_
                    refine j_iconst C (-1 : Int32) rfl dX12_claims_75 ?_
                    refine j_ixor C dX12_claims_76 ?_
                    refine j_iand C dX12_claims_77 ?_
                    refine j_if_ne C 100 dX12_claims_78 (by decide) (fun c28 => ?_) (fun c28 => ?_)
                    · replace hf := ine c28 hf
                      refine j_iinc C 5 (a11 + 1) [(5, .int (a11 + 1)), (0, .ref (n0 + 178)), (1, .int x1), (2, .int a9), (3, .int a2), (4, .int a10)] dX12_claims_100 rfl rfl (Nat.le_of_ble_eq_true rfl) rfl ?_
                      refine j_goto C 23 dX12_claims_103 (by decide) ?_
                      refine j_sub [1, 2, 3, 4, 5, 0] rfl ?_
                      exact ih _ _ _ _ hf
                    · replace hf := ip c28 hf
                      refine j_aload_n C 0 dX12_claims_81 rfl rfl ?_
                      refine g_X12_now C tw5_182 lc178 179 rfl dX12_claims_82 ?_
                      refine j_iload C 5 dX12_claims_85 rfl ?_
                      obtain ⟨v30, e29, hf⟩ := bd hf
                      refine j_callS C 1 (c_X12_loafAt l G n0 (M := M12) e29) gs_RX12_101 ⟨rfl, rfl⟩ (by decide +kernel) ⟨Nat.le_of_ble_eq_true rfl, Nat.le_of_ble_eq_true rfl⟩ rfl rfl (Nat.le_of_ble_eq_true rfl) dX12_claims_87 ?_
                      refine j_iconst C (5 : Int32) rfl dX12_claims_90 ?_
                      refine j_iadd C dX12_claims_91 ?_
                      refine j_iload_n C 1 dX12_claims_92 rfl rfl ?_
                      obtain ⟨M31, e32, hf⟩ := bd hf
                      obtain ⟨hx33, e32⟩ := ast_some e32
                      refine j_iast C lc179 hx33 e32 dX12_claims_93 ?_
                      refine j_iinc C 4 (a10 + (-1)) [(4, .int (a10 + (-1))), (0, .ref (n0 + 178)), (1, .int x1), (2, .int a9), (3, .int a2), (5, .int a11)] dX12_claims_94 rfl rfl (Nat.le_of_ble_eq_true rfl) rfl ?_
                      refine j_iinc C 3 (a9 + 1) [(2, .int (a9 + 1)), (4, .int (a10 + (-1))), (0, .ref (n0 + 178)), (1, .int x1), (3, .int a2), (5, .int a11)] dX12_claims_97 rfl rfl (Nat.le_of_ble_eq_true rfl) rfl ?_
                      refine j_iinc C 5 (a11 + 1) [(5, .int (a11 + 1)), (2, .int (a9 + 1)), (4, .int (a10 + (-1))), (0, .ref (n0 + 178)), (1, .int x1), (3, .int a2)] dX12_claims_100 rfl rfl (Nat.le_of_ble_eq_true rfl) rfl ?_
                      refine j_goto C 23 dX12_claims_103 (by decide) ?_
                      refine j_sub [3, 4, 1, 5, 2, 0] rfl ?_
                      exact ih _ _ _ _ hf
        refine j_sub [2, 3, 4, 5, 1, 0] rfl ?_
        exact hl45 FUEL a1 v6 v8 M3 e43
  refine j_sub [2, 3, 1, 0] rfl ?_
  exact hl40 FUEL (0 : Int32) (0 : Int32) M e38
def lX12_returns_27 (x1 : Int32) (a2 : Int32) : Nat → Int32 → Int32 → Int32 → Mem → Option (Int32 × Mem)
  | 0, _, _, _, _ => none
  | n + 1, a10, a11, a12, M13 =>
  (fX12_firstKept M13).bind fun v15 =>
  if a12 < v15 then (some (a10, M13))
  else (if 0 ≤ a11 then (some (a10, M13))
  else ((fX12_loafOf a12 (1 : Int32) M13).bind fun v19 =>
  if v19 = a2 then ((fX12_loafOf a12 (5 : Int32) M13).bind fun v22 =>
  if v22 = x1 then ((fX12_loafOf a12 (0 : Int32) M13).bind fun v25 =>
  if v25 = x1 then (lX12_returns_27 x1 a2 n a10 a11 (a12 + (-1)) M13)
  else ((fX12_loafAt a12).bind fun v28 =>
  (ast M13 179 1601 (v28 + (5 : Int32)) (8 : Int32)).bind fun M29 =>
  lX12_returns_27 x1 a2 n (a10 + 1) (a11 + 1) (a12 + (-1)) M29))
  else (lX12_returns_27 x1 a2 n a10 a11 (a12 + (-1)) M13))
  else (lX12_returns_27 x1 a2 n a10 a11 (a12 + (-1)) M13)))

def lX12_returns_4 (x1 : Int32) : Nat → Int32 → Int32 → Mem → Option (Int32 × Mem)
  | 0, _, _, _ => none
  | n + 1, a1, a2, M3 =>
  if (3 : Int32) ≤ a2 then (some (a1, M3))
  else ((fX12_balanceOf x1 a2 M3).bind fun v6 =>
  (ald (M3.1 179) 1601 (5 : Int32)).bind fun v7 =>
  (lX12_returns_27 x1 a2 FUEL a1 v6 (v7 - (1 : Int32)) M3).bind (un2 fun a32 M33 => lX12_returns_4 x1 n a32 (a2 + 1) M33))

def fX12_returns (x1 : Int32) (M : Mem) : Option (Int32 × Mem) :=
  (lX12_returns_4 x1 FUEL (0 : Int32) (0 : Int32) M).bind (un2 fun a34 M35 => some (a34, M35))

def rX12_returns : Room := { frames := 3, cells := 0, slots := 0, locals := 66 }
set_option maxRecDepth 100000 in
set_option maxHeartbeats 4000000 in
theorem c_X12_returns (l : Launch) (G : Gx) (n0 : Nat) {x1 : Int32} {M : Mem} {r : Int32} {M' : Mem} (hf : fX12_returns x1 M = some (r, M')) : Ct l yX12_returns cX12_returns 6 (some .int) rX12_returns G n0 [.ref (n0 + 178), .int x1] M (some (.int r)) M' := by
  refine ct_int (cc := cX12_returns) (maxL := 6) rfl (Nat.le_of_ble_eq_true rfl) ?_
  intro K C hret
  have C : Ok K l rX12_returns cX12_returns RX12 G n0 6 := C
  show J K M 0 [(0, .ref (n0 + 178)), (1, .int x1)] []
  unfold fX12_returns at hf
  refine j_iconst C (0 : Int32) rfl dX12_returns_0 ?_
  refine j_istore_n C [(2, .int (0 : Int32)), (0, .ref (n0 + 178)), (1, .int x1)] dX12_returns_1 rfl (Nat.le_of_ble_eq_true rfl) rfl ?_
  refine j_iconst C (0 : Int32) rfl dX12_returns_2 ?_
  refine j_istore_n C [(3, .int (0 : Int32)), (2, .int (0 : Int32)), (0, .ref (n0 + 178)), (1, .int x1)] dX12_returns_3 rfl (Nat.le_of_ble_eq_true rfl) rfl ?_
  obtain ⟨⟨a34, M35⟩, e36, hf⟩ := bd hf
  replace hf := un2e hf
  have hx37 : J K M35 106 [(2, .int a34)] [] := by
    refine j_iload_n C 0 dX12_returns_106 rfl rfl ?_
    obtain ⟨rfl, rfl⟩ := Prod.mk.inj (Option.some.inj hf)
    exact hret _ _ dX12_returns_107
  clear hf
  have hl38 : ∀ (n : Nat) (a1 : Int32) (a2 : Int32) (M3 : Mem), lX12_returns_4 x1 n a1 a2 M3 = some (a34, M35) → J K M3 4 [(0, .ref (n0 + 178)), (1, .int x1), (2, .int a1), (3, .int a2)] [] := by
    intro n
    induction n with
    | zero =>
      intro a1 a2 M3 hf
      exact absurd hf (by rw [lX12_returns_4]; exact fun h => by cases h)
    | succ n ih =>
      intro a1 a2 M3 hf
      rw [lX12_returns_4] at hf
      refine j_iload_n C 3 dX12_returns_4 rfl rfl ?_
      refine j_iconst C (3 : Int32) rfl dX12_returns_5 ?_
      refine j_icmp_ge C 106 dX12_returns_6 (by decide) (fun c4 => ?_) (fun c4 => ?_)
      · replace hf := ip c4 hf
        refine j_sub [2] rfl ?_
        cases hf
        exact hx37
      · replace hf := ine c4 hf
        refine j_aload_n C 0 dX12_returns_9 rfl rfl ?_
        refine j_iload_n C 1 dX12_returns_10 rfl rfl ?_
        refine j_iload_n C 3 dX12_returns_11 rfl rfl ?_
        obtain ⟨v6, e5, hf⟩ := bd hf
        refine j_callV C 2 lc178 (ent_K _ _ _ _ _ _) rfl (c_X12_balanceOf l G n0 e5) gv_RX12_169 ⟨rfl, rfl⟩ (by decide +kernel) ⟨Nat.le_of_ble_eq_true rfl, Nat.le_of_ble_eq_true rfl⟩ rfl rfl (Nat.le_of_ble_eq_true rfl) dX12_returns_12 ?_
        refine j_istore C [(4, .int v6), (0, .ref (n0 + 178)), (1, .int x1), (2, .int a1), (3, .int a2)] dX12_returns_15 (Nat.le_of_ble_eq_true rfl) rfl ?_
        refine j_aload_n C 1 dX12_returns_17 rfl rfl ?_
        refine g_X12_now C tw5_182 lc178 179 rfl dX12_returns_18 ?_
        refine j_iconst C (5 : Int32) rfl dX12_returns_21 ?_
        obtain ⟨v7, e8, hf⟩ := bd hf
        obtain ⟨hx9, e8⟩ := ald_some e8
        refine j_iald C lc179 hx9 e8 dX12_returns_22 ?_
        refine j_iconst C (1 : Int32) rfl dX12_returns_23 ?_
        refine j_isub C dX12_returns_24 ?_
        refine j_istore C [(5, .int (v7 - (1 : Int32))), (4, .int v6), (0, .ref (n0 + 178)), (1, .int x1), (2, .int a1), (3, .int a2)] dX12_returns_25 (Nat.le_of_ble_eq_true rfl) rfl ?_
        obtain ⟨⟨a32, M33⟩, e41, hf⟩ := bd hf
        replace hf := un2e hf
        have hx42 : J K M33 100 [(0, .ref (n0 + 178)), (1, .int x1), (2, .int a32), (3, .int a2)] [] := by
          refine j_iinc C 3 (a2 + 1) [(3, .int (a2 + 1)), (0, .ref (n0 + 178)), (1, .int x1), (2, .int a32)] dX12_returns_100 rfl rfl (Nat.le_of_ble_eq_true rfl) rfl ?_
          refine j_goto C 4 dX12_returns_103 (by decide) ?_
          refine j_sub [1, 2, 3, 0] rfl ?_
          exact ih _ _ _ hf
        clear hf
        have hl43 : ∀ (n : Nat) (a10 : Int32) (a11 : Int32) (a12 : Int32) (M13 : Mem), lX12_returns_27 x1 a2 n a10 a11 a12 M13 = some (a32, M33) → J K M13 27 [(0, .ref (n0 + 178)), (1, .int x1), (2, .int a10), (3, .int a2), (4, .int a11), (5, .int a12)] [] := by
          intro n
          induction n with
          | zero =>
            intro a10 a11 a12 M13 hf
            exact absurd hf (by rw [lX12_returns_27]; exact fun h => by cases h)
          | succ n ih =>
            intro a10 a11 a12 M13 hf
            rw [lX12_returns_27] at hf
            refine j_iload C 5 dX12_returns_27 rfl ?_
            refine j_aload_n C 0 dX12_returns_29 rfl rfl ?_
            obtain ⟨v15, e14, hf⟩ := bd hf
            refine j_callV C 0 lc178 (ent_K _ _ _ _ _ _) rfl (c_X12_firstKept l G n0 e14) gv_RX12_110 ⟨rfl, rfl⟩ (by decide +kernel) ⟨Nat.le_of_ble_eq_true rfl, Nat.le_of_ble_eq_true rfl⟩ rfl rfl (Nat.le_of_ble_eq_true rfl) dX12_returns_30 ?_
            refine j_icmp_lt C 100 dX12_returns_33 (by decide) (fun c16 => ?_) (fun c16 => ?_)
            · replace hf := ip c16 hf
              refine j_sub [0, 1, 2, 3] rfl ?_
              cases hf
              exact hx42
            · replace hf := ine c16 hf
              refine j_iload C 4 dX12_returns_36 rfl ?_
              refine j_if_ge C 100 dX12_returns_38 (by decide) (fun c17 => ?_) (fun c17 => ?_)
              · replace hf := ip c17 hf
                refine j_sub [0, 1, 2, 3] rfl ?_
                cases hf
                exact hx42
              · replace hf := ine c17 hf
                refine j_aload_n C 0 dX12_returns_41 rfl rfl ?_
                refine j_iload C 5 dX12_returns_42 rfl ?_
                refine j_iconst C (1 : Int32) rfl dX12_returns_44 ?_
                obtain ⟨v19, e18, hf⟩ := bd hf
                refine j_callV C 2 lc178 (ent_K _ _ _ _ _ _) rfl (c_X12_loafOf l G n0 e18) gv_RX12_113 ⟨rfl, rfl⟩ (by decide +kernel) ⟨Nat.le_of_ble_eq_true rfl, Nat.le_of_ble_eq_true rfl⟩ rfl rfl (Nat.le_of_ble_eq_true rfl) dX12_returns_45 ?_
                refine j_iload_n C 3 dX12_returns_48 rfl rfl ?_
                refine j_icmp_ne C 94 dX12_returns_49 (by decide) (fun c20 => ?_) (fun c20 => ?_)
                · replace hf := ine c20 hf
                  refine j_iinc C 5 (a12 + (-1)) [(5, .int (a12 + (-1))), (0, .ref (n0 + 178)), (1, .int x1), (2, .int a10), (3, .int a2), (4, .int a11)] dX12_returns_94 rfl rfl (Nat.le_of_ble_eq_true rfl) rfl ?_
                  refine j_goto C 27 dX12_returns_97 (by decide) ?_
                  refine j_sub [1, 2, 3, 4, 5, 0] rfl ?_
                  exact ih _ _ _ _ hf
                · replace hf := ip c20 hf
                  refine j_aload_n C 0 dX12_returns_52 rfl rfl ?_
                  refine j_iload C 5 dX12_returns_53 rfl ?_
                  refine j_iconst C (5 : Int32) rfl dX12_returns_55 ?_
                  obtain ⟨v22, e21, hf⟩ := bd hf
                  refine j_callV C 2 lc178 (ent_K _ _ _ _ _ _) rfl (c_X12_loafOf l G n0 e21) gv_RX12_113 ⟨rfl, rfl⟩ (by decide +kernel) ⟨Nat.le_of_ble_eq_true rfl, Nat.le_of_ble_eq_true rfl⟩ rfl rfl (Nat.le_of_ble_eq_true rfl) dX12_returns_56 ?_
                  refine j_iload_n C 1 dX12_returns_59 rfl rfl ?_
                  refine j_icmp_ne C 94 dX12_returns_60 (by decide) (fun c23 => ?_) (fun c23 => ?_)
                  · replace hf := ine c23 hf
                    refine j_iinc C 5 (a12 + (-1)) [(5, .int (a12 + (-1))), (0, .ref (n0 + 178)), (1, .int x1), (2, .int a10), (3, .int a2), (4, .int a11)] dX12_returns_94 rfl rfl (Nat.le_of_ble_eq_true rfl) rfl ?_
                    refine j_goto C 27 dX12_returns_97 (by decide) ?_
                    refine j_sub [1, 2, 3, 4, 5, 0] rfl ?_
                    exact ih _ _ _ _ hf
                  · replace hf := ip c23 hf
                    refine j_aload_n C 0 dX12_returns_63 rfl rfl ?_
                    refine j_iload C 5 dX12_returns_64 rfl ?_
                    refine j_iconst C (0 : Int32) rfl dX12_returns_66 ?_
                    obtain ⟨v25, e24, hf⟩ := bd hf
                    refine j_callV C 2 lc178 (ent_K _ _ _ _ _ _) rfl (c_X12_loafOf l G n0 e24) gv_RX12_113 ⟨rfl, rfl⟩ (by decide +kernel) ⟨Nat.le_of_ble_eq_true rfl, Nat.le_of_ble_eq_true rfl⟩ rfl rfl (Nat.le_of_ble_eq_true rfl) dX12_returns_67 ?_
                    refine j_iload_n C 1 dX12_returns_70 rfl rfl ?_
                    refine j_icmp_eq C 94 dX12_returns_71 (by decide) (fun c26 => ?_) (fun c26 => ?_)
                    · replace hf := ip c26 hf
                      refine j_iinc C 5 (a12 + (-1)) [(5, .int (a12 + (-1))), (0, .ref (n0 + 178)), (1, .int x1), (2, .int a10), (3, .int a2), (4, .int a11)] dX12_returns_94 rfl rfl (Nat.le_of_ble_eq_true rfl) rfl ?_
                      refine j_goto C 27 dX12_returns_97 (by decide) ?_
                      refine j_sub [1, 2, 3, 4, 5, 0] rfl ?_
                      exact ih _ _ _ _ hf
                    · replace hf := ine c26 hf
                      refine j_aload_n C 0 dX12_returns_74 rfl rfl ?_
                      refine g_X12_now C tw5_182 lc178 179 rfl dX12_returns_75 ?_
                      refine j_iload C 5 dX12_returns_78 rfl ?_
                      obtain ⟨v28, e27, hf⟩ := bd hf
                      refine j_callS C 1 (c_X12_loafAt l G n0 (M := M13) e27) gs_RX12_101 ⟨rfl, rfl⟩ (by decide +kernel) ⟨Nat.le_of_ble_eq_true rfl, Nat.le_of_ble_eq_true rfl⟩ rfl rfl (Nat.le_of_ble_eq_true rfl) dX12_returns_80 ?_
                      refine j_iconst C (5 : Int32) rfl dX12_returns_83 ?_
                      refine j_iadd C dX12_returns_84 ?_
                      refine j_bipush C (8 : Int32) rfl dX12_returns_85 ?_
                      obtain ⟨M29, e30, hf⟩ := bd hf
                      obtain ⟨hx31, e30⟩ := ast_some e30
                      refine j_iast C lc179 hx31 e30 dX12_returns_87 ?_
                      refine j_iinc C 4 (a11 + 1) [(4, .int (a11 + 1)), (0, .ref (n0 + 178)), (1, .int x1), (2, .int a10), (3, .int a2), (5, .int a12)] dX12_returns_88 rfl rfl (Nat.le_of_ble_eq_true rfl) rfl ?_
                      refine j_iinc C 3 (a10 + 1) [(2, .int (a10 + 1)), (4, .int (a11 + 1)), (0, .ref (n0 + 178)), (1, .int x1), (3, .int a2), (5, .int a12)] dX12_returns_91 rfl rfl (Nat.le_of_ble_eq_true rfl) rfl ?_
                      refine j_iinc C 5 (a12 + (-1)) [(5, .int (a12 + (-1))), (2, .int (a10 + 1)), (4, .int (a11 + 1)), (0, .ref (n0 + 178)), (1, .int x1), (3, .int a2)] dX12_returns_94 rfl rfl (Nat.le_of_ble_eq_true rfl) rfl ?_
                      refine j_goto C 27 dX12_returns_97 (by decide) ?_
                      refine j_sub [3, 4, 1, 5, 2, 0] rfl ?_
                      exact ih _ _ _ _ hf
        refine j_sub [2, 3, 4, 5, 1, 0] rfl ?_
        exact hl43 FUEL a1 v6 (v7 - (1 : Int32)) M3 e41
  refine j_sub [2, 3, 1, 0] rfl ?_
  exact hl38 FUEL (0 : Int32) (0 : Int32) M e36
def lX12_gives_7  : Nat → Int32 → Int32 → Mem → Option (Int32 × Mem)
  | 0, _, _, _ => none
  | n + 1, a3, a4, M5 =>
  (ald (M5.1 179) 1601 (5 : Int32)).bind fun v6 =>
  if v6 ≤ a4 then (some (a3, M5))
  else ((fX12_loafOf a4 (5 : Int32) M5).bind fun v11 =>
  if v11 = (8 : Int32) then ((fX12_loafAt a4).bind fun v14 =>
  (ast M5 179 1601 (v14 + (5 : Int32)) (-1 : Int32)).bind fun M15 =>
  lX12_gives_7  n (a3 + 1) (a4 + 1) M15)
  else (lX12_gives_7  n a3 (a4 + 1) M5))

def fX12_gives  (M : Mem) : Option (Int32 × Mem) :=
  (fX12_firstKept M).bind fun v2 =>
  (lX12_gives_7 FUEL (0 : Int32) v2 M).bind (un2 fun a18 M19 => some (a18, M19))

def rX12_gives : Room := { frames := 2, cells := 0, slots := 0, locals := 42 }
set_option maxRecDepth 100000 in
set_option maxHeartbeats 4000000 in
theorem c_X12_gives (l : Launch) (G : Gx) (n0 : Nat) {M : Mem} {r : Int32} {M' : Mem} (hf : fX12_gives M = some (r, M')) : Ct l yX12_gives cX12_gives 3 (some .int) rX12_gives G n0 [.ref (n0 + 178)] M (some (.int r)) M' := by
  refine ct_int (cc := cX12_gives) (maxL := 3) rfl (Nat.le_of_ble_eq_true rfl) ?_
  intro K C hret
  have C : Ok K l rX12_gives cX12_gives RX12 G n0 3 := C
  show J K M 0 [(0, .ref (n0 + 178))] []
  unfold fX12_gives at hf
  refine j_iconst C (0 : Int32) rfl dX12_gives_0 ?_
  refine j_istore_n C [(1, .int (0 : Int32)), (0, .ref (n0 + 178))] dX12_gives_1 rfl (Nat.le_of_ble_eq_true rfl) rfl ?_
  refine j_aload_n C 1 dX12_gives_2 rfl rfl ?_
  obtain ⟨v2, e1, hf⟩ := bd hf
  refine j_callV C 0 lc178 (ent_K _ _ _ _ _ _) rfl (c_X12_firstKept l G n0 e1) gv_RX12_110 ⟨rfl, rfl⟩ (by decide +kernel) ⟨Nat.le_of_ble_eq_true rfl, Nat.le_of_ble_eq_true rfl⟩ rfl rfl (Nat.le_of_ble_eq_true rfl) dX12_gives_3 ?_
  refine j_istore_n C [(2, .int v2), (1, .int (0 : Int32)), (0, .ref (n0 + 178))] dX12_gives_6 rfl (Nat.le_of_ble_eq_true rfl) rfl ?_
  obtain ⟨⟨a18, M19⟩, e20, hf⟩ := bd hf
  replace hf := un2e hf
  have hx21 : J K M19 49 [(1, .int a18)] [] := by
    refine j_iload_n C 0 dX12_gives_49 rfl rfl ?_
    obtain ⟨rfl, rfl⟩ := Prod.mk.inj (Option.some.inj hf)
    exact hret _ _ dX12_gives_50
  clear hf
  have hl22 : ∀ (n : Nat) (a3 : Int32) (a4 : Int32) (M5 : Mem), lX12_gives_7 n a3 a4 M5 = some (a18, M19) → J K M5 7 [(0, .ref (n0 + 178)), (1, .int a3), (2, .int a4)] [] := by
    intro n
    induction n with
    | zero =>
      intro a3 a4 M5 hf
      exact absurd hf (by rw [lX12_gives_7]; exact fun h => by cases h)
    | succ n ih =>
      intro a3 a4 M5 hf
      rw [lX12_gives_7] at hf
      refine j_iload_n C 2 dX12_gives_7 rfl rfl ?_
      refine j_aload_n C 0 dX12_gives_8 rfl rfl ?_
      refine g_X12_now C tw5_182 lc178 179 rfl dX12_gives_9 ?_
      refine j_iconst C (5 : Int32) rfl dX12_gives_12 ?_
      obtain ⟨v6, e7, hf⟩ := bd hf
      obtain ⟨hx8, e7⟩ := ald_some e7
      refine j_iald C lc179 hx8 e7 dX12_gives_13 ?_
      refine j_icmp_ge C 49 dX12_gives_14 (by decide) (fun c9 => ?_) (fun c9 => ?_)
      · replace hf := ip c9 hf
        refine j_sub [1] rfl ?_
        cases hf
        exact hx21
      · replace hf := ine c9 hf
        refine j_aload_n C 0 dX12_gives_17 rfl rfl ?_
        refine j_iload_n C 2 dX12_gives_18 rfl rfl ?_
        refine j_iconst C (5 : Int32) rfl dX12_gives_19 ?_
        obtain ⟨v11, e10, hf⟩ := bd hf
        refine j_callV C 2 lc178 (ent_K _ _ _ _ _ _) rfl (c_X12_loafOf l G n0 e10) gv_RX12_113 ⟨rfl, rfl⟩ (by decide +kernel) ⟨Nat.le_of_ble_eq_true rfl, Nat.le_of_ble_eq_true rfl⟩ rfl rfl (Nat.le_of_ble_eq_true rfl) dX12_gives_20 ?_
        refine j_bipush C (8 : Int32) rfl dX12_gives_23 ?_
        refine j_icmp_ne C 43 dX12_gives_25 (by decide) (fun c12 => ?_) (fun c12 => ?_)
        · replace hf := ine c12 hf
          refine j_iinc C 2 (a4 + 1) [(2, .int (a4 + 1)), (0, .ref (n0 + 178)), (1, .int a3)] dX12_gives_43 rfl rfl (Nat.le_of_ble_eq_true rfl) rfl ?_
          refine j_goto C 7 dX12_gives_46 (by decide) ?_
          refine j_sub [1, 2, 0] rfl ?_
          exact ih _ _ _ hf
        · replace hf := ip c12 hf
          refine j_aload_n C 0 dX12_gives_28 rfl rfl ?_
          refine g_X12_now C tw5_182 lc178 179 rfl dX12_gives_29 ?_
          refine j_iload_n C 2 dX12_gives_32 rfl rfl ?_
          obtain ⟨v14, e13, hf⟩ := bd hf
          refine j_callS C 1 (c_X12_loafAt l G n0 (M := M5) e13) gs_RX12_101 ⟨rfl, rfl⟩ (by decide +kernel) ⟨Nat.le_of_ble_eq_true rfl, Nat.le_of_ble_eq_true rfl⟩ rfl rfl (Nat.le_of_ble_eq_true rfl) dX12_gives_33 ?_
          refine j_iconst C (5 : Int32) rfl dX12_gives_36 ?_
          refine j_iadd C dX12_gives_37 ?_
          refine j_iconst C (-1 : Int32) rfl dX12_gives_38 ?_
          obtain ⟨M15, e16, hf⟩ := bd hf
          obtain ⟨hx17, e16⟩ := ast_some e16
          refine j_iast C lc179 hx17 e16 dX12_gives_39 ?_
          refine j_iinc C 1 (a3 + 1) [(1, .int (a3 + 1)), (0, .ref (n0 + 178)), (2, .int a4)] dX12_gives_40 rfl rfl (Nat.le_of_ble_eq_true rfl) rfl ?_
          refine j_iinc C 2 (a4 + 1) [(2, .int (a4 + 1)), (1, .int (a3 + 1)), (0, .ref (n0 + 178))] dX12_gives_43 rfl rfl (Nat.le_of_ble_eq_true rfl) rfl ?_
          refine j_goto C 7 dX12_gives_46 (by decide) ?_
          refine j_sub [2, 1, 0] rfl ?_
          exact ih _ _ _ hf
  refine j_sub [2, 1, 0] rfl ?_
  exact hl22 FUEL (0 : Int32) v2 M e20
def fX12_claim (x1 : Int32) (M : Mem) : Option (Int32 × Mem) :=
  (fX12_isHouse x1 M).bind fun b2 =>
  (if b2 = true then (some (0 : Int32))
  else (some (1 : Int32))).bind (fun z4 => (fX12_refused z4 M).bind (un2 fun b6 M7 =>
  if b6 = true then (some ((0 : Int32), M7))
  else ((fX12_saves M7).bind fun M10 =>
  (fX12_claims x1 M10).bind (un2 fun v12 M13 =>
  some (v12, M13)))))

def rX12_claim : Room := { frames := 4, cells := 0, slots := 0, locals := 91 }
set_option maxRecDepth 100000 in
set_option maxHeartbeats 4000000 in
theorem c_X12_claim (l : Launch) (G : Gx) (n0 : Nat) {x1 : Int32} {M : Mem} {r : Int32} {M' : Mem} (hf : fX12_claim x1 M = some (r, M')) : Ct l yX12_claim cX12_claim 2 (some .int) rX12_claim G n0 [.ref (n0 + 178), .int x1] M (some (.int r)) M' := by
  refine ct_int (cc := cX12_claim) (maxL := 2) rfl (Nat.le_of_ble_eq_true rfl) ?_
  intro K C hret
  have C : Ok K l rX12_claim cX12_claim RX12 G n0 2 := C
  show J K M 0 [(0, .ref (n0 + 178)), (1, .int x1)] []
  unfold fX12_claim at hf
  refine j_aload_n C 0 dX12_claim_0 rfl rfl ?_
  refine j_aload_n C 0 dX12_claim_1 rfl rfl ?_
  refine j_iload_n C 1 dX12_claim_2 rfl rfl ?_
  obtain ⟨b2, e1, hf⟩ := bd hf
  refine j_callV C 1 lc178 (ent_K _ _ _ _ _ _) rfl (c_X12_isHouse l G n0 e1) gv_RX12_69 ⟨rfl, rfl⟩ (by decide +kernel) ⟨Nat.le_of_ble_eq_true rfl, Nat.le_of_ble_eq_true rfl⟩ rfl rfl (Nat.le_of_ble_eq_true rfl) dX12_claim_3 ?_
  obtain ⟨z4, e14, hf⟩ := bd hf
  have hj15 : J K M 14 [(0, .ref (n0 + 178)), (1, .int x1)] [.int z4, .ref (n0 + 178)] := by
    obtain ⟨⟨b6, M7⟩, e5, hf⟩ := bd hf
    replace hf := un2e hf
    refine j_callV C 1 lc178 (ent_K _ _ _ _ _ _) rfl (c_X12_refused l G n0 e5) gv_RX12_35 ⟨rfl, rfl⟩ (by decide +kernel) ⟨Nat.le_of_ble_eq_true rfl, Nat.le_of_ble_eq_true rfl⟩ rfl rfl (Nat.le_of_ble_eq_true rfl) dX12_claim_14 ?_
    refine j_ifz_eq C 22 dX12_claim_17 (by decide) (fun c8 => ?_) (fun c8 => ?_)
    · replace hf := ine c8 hf
      refine j_aload_n C 0 dX12_claim_22 rfl rfl ?_
      obtain ⟨M10, e9, hf⟩ := bd hf
      refine j_callV C 0 lc178 (ent_K _ _ _ _ _ _) rfl (c_X12_saves l G n0 e9) gv_RX12_63 ⟨rfl, rfl⟩ (by decide +kernel) ⟨Nat.le_of_ble_eq_true rfl, Nat.le_of_ble_eq_true rfl⟩ rfl rfl (Nat.le_of_ble_eq_true rfl) dX12_claim_23 ?_
      refine j_aload_n C 0 dX12_claim_26 rfl rfl ?_
      refine j_iload_n C 1 dX12_claim_27 rfl rfl ?_
      obtain ⟨⟨v12, M13⟩, e11, hf⟩ := bd hf
      replace hf := un2e hf
      refine j_callV C 1 lc178 (ent_K _ _ _ _ _ _) rfl (c_X12_claims l G n0 e11) gv_RX12_172 ⟨rfl, rfl⟩ (by decide +kernel) ⟨Nat.le_of_ble_eq_true rfl, Nat.le_of_ble_eq_true rfl⟩ rfl rfl (Nat.le_of_ble_eq_true rfl) dX12_claim_28 ?_
      obtain ⟨rfl, rfl⟩ := Prod.mk.inj (Option.some.inj hf)
      exact hret _ _ dX12_claim_31
    · replace hf := ip c8 hf
      refine j_iconst C (0 : Int32) rfl dX12_claim_20 ?_
      obtain ⟨rfl, rfl⟩ := Prod.mk.inj (Option.some.inj hf)
      exact hret _ _ dX12_claim_21
  clear hf
  have hf := e14
  refine j_ifz_eq C 13 dX12_claim_6 (by decide) (fun c3 => ?_) (fun c3 => ?_)
  · replace hf := ine c3 hf
    refine j_iconst C (1 : Int32) rfl dX12_claim_13 ?_
    cases hf
    refine j_sub [0, 1] rfl ?_
    exact hj15
  · replace hf := ip c3 hf
    refine j_iconst C (0 : Int32) rfl dX12_claim_9 ?_
    refine j_goto C 14 dX12_claim_10 (by decide) ?_
    cases hf
    refine j_sub [0, 1] rfl ?_
    exact hj15
def fX12_returnLoaves (x1 : Int32) (M : Mem) : Option (Int32 × Mem) :=
  (fX12_isHouse x1 M).bind fun b2 =>
  (if b2 = true then (some (0 : Int32))
  else (some (1 : Int32))).bind (fun z4 => (fX12_refused z4 M).bind (un2 fun b6 M7 =>
  if b6 = true then (some ((0 : Int32), M7))
  else ((fX12_saves M7).bind fun M10 =>
  (fX12_returns x1 M10).bind (un2 fun v12 M13 =>
  some (v12, M13)))))

def rX12_returnLoaves : Room := { frames := 4, cells := 0, slots := 0, locals := 91 }
set_option maxRecDepth 100000 in
set_option maxHeartbeats 4000000 in
theorem c_X12_returnLoaves (l : Launch) (G : Gx) (n0 : Nat) {x1 : Int32} {M : Mem} {r : Int32} {M' : Mem} (hf : fX12_returnLoaves x1 M = some (r, M')) : Ct l yX12_returnLoaves cX12_returnLoaves 2 (some .int) rX12_returnLoaves G n0 [.ref (n0 + 178), .int x1] M (some (.int r)) M' := by
  refine ct_int (cc := cX12_returnLoaves) (maxL := 2) rfl (Nat.le_of_ble_eq_true rfl) ?_
  intro K C hret
  have C : Ok K l rX12_returnLoaves cX12_returnLoaves RX12 G n0 2 := C
  show J K M 0 [(0, .ref (n0 + 178)), (1, .int x1)] []
  unfold fX12_returnLoaves at hf
  refine j_aload_n C 0 dX12_returnLoaves_0 rfl rfl ?_
  refine j_aload_n C 0 dX12_returnLoaves_1 rfl rfl ?_
  refine j_iload_n C 1 dX12_returnLoaves_2 rfl rfl ?_
  obtain ⟨b2, e1, hf⟩ := bd hf
  refine j_callV C 1 lc178 (ent_K _ _ _ _ _ _) rfl (c_X12_isHouse l G n0 e1) gv_RX12_69 ⟨rfl, rfl⟩ (by decide +kernel) ⟨Nat.le_of_ble_eq_true rfl, Nat.le_of_ble_eq_true rfl⟩ rfl rfl (Nat.le_of_ble_eq_true rfl) dX12_returnLoaves_3 ?_
  obtain ⟨z4, e14, hf⟩ := bd hf
  have hj15 : J K M 14 [(0, .ref (n0 + 178)), (1, .int x1)] [.int z4, .ref (n0 + 178)] := by
    obtain ⟨⟨b6, M7⟩, e5, hf⟩ := bd hf
    replace hf := un2e hf
    refine j_callV C 1 lc178 (ent_K _ _ _ _ _ _) rfl (c_X12_refused l G n0 e5) gv_RX12_35 ⟨rfl, rfl⟩ (by decide +kernel) ⟨Nat.le_of_ble_eq_true rfl, Nat.le_of_ble_eq_true rfl⟩ rfl rfl (Nat.le_of_ble_eq_true rfl) dX12_returnLoaves_14 ?_
    refine j_ifz_eq C 22 dX12_returnLoaves_17 (by decide) (fun c8 => ?_) (fun c8 => ?_)
    · replace hf := ine c8 hf
      refine j_aload_n C 0 dX12_returnLoaves_22 rfl rfl ?_
      obtain ⟨M10, e9, hf⟩ := bd hf
      refine j_callV C 0 lc178 (ent_K _ _ _ _ _ _) rfl (c_X12_saves l G n0 e9) gv_RX12_63 ⟨rfl, rfl⟩ (by decide +kernel) ⟨Nat.le_of_ble_eq_true rfl, Nat.le_of_ble_eq_true rfl⟩ rfl rfl (Nat.le_of_ble_eq_true rfl) dX12_returnLoaves_23 ?_
      refine j_aload_n C 0 dX12_returnLoaves_26 rfl rfl ?_
      refine j_iload_n C 1 dX12_returnLoaves_27 rfl rfl ?_
      obtain ⟨⟨v12, M13⟩, e11, hf⟩ := bd hf
      replace hf := un2e hf
      refine j_callV C 1 lc178 (ent_K _ _ _ _ _ _) rfl (c_X12_returns l G n0 e11) gv_RX12_175 ⟨rfl, rfl⟩ (by decide +kernel) ⟨Nat.le_of_ble_eq_true rfl, Nat.le_of_ble_eq_true rfl⟩ rfl rfl (Nat.le_of_ble_eq_true rfl) dX12_returnLoaves_28 ?_
      obtain ⟨rfl, rfl⟩ := Prod.mk.inj (Option.some.inj hf)
      exact hret _ _ dX12_returnLoaves_31
    · replace hf := ip c8 hf
      refine j_iconst C (0 : Int32) rfl dX12_returnLoaves_20 ?_
      obtain ⟨rfl, rfl⟩ := Prod.mk.inj (Option.some.inj hf)
      exact hret _ _ dX12_returnLoaves_21
  clear hf
  have hf := e14
  refine j_ifz_eq C 13 dX12_returnLoaves_6 (by decide) (fun c3 => ?_) (fun c3 => ?_)
  · replace hf := ine c3 hf
    refine j_iconst C (1 : Int32) rfl dX12_returnLoaves_13 ?_
    cases hf
    refine j_sub [0, 1] rfl ?_
    exact hj15
  · replace hf := ip c3 hf
    refine j_iconst C (0 : Int32) rfl dX12_returnLoaves_9 ?_
    refine j_goto C 14 dX12_returnLoaves_10 (by decide) ?_
    cases hf
    refine j_sub [0, 1] rfl ?_
    exact hj15
def fX12_giveAway  (M : Mem) : Option (Int32 × Mem) :=
  (pf M 178 4 (0 : Int32)).bind fun M1 =>
  (fX12_saves M1).bind fun M4 =>
  (fX12_gives M4).bind (un2 fun v6 M7 =>
  some (v6, M7))

def rX12_giveAway : Room := { frames := 3, cells := 0, slots := 0, locals := 64 }
set_option maxRecDepth 100000 in
set_option maxHeartbeats 4000000 in
theorem c_X12_giveAway (l : Launch) (G : Gx) (n0 : Nat) {M : Mem} {r : Int32} {M' : Mem} (hf : fX12_giveAway M = some (r, M')) : Ct l yX12_giveAway cX12_giveAway 1 (some .int) rX12_giveAway G n0 [.ref (n0 + 178)] M (some (.int r)) M' := by
  refine ct_int (cc := cX12_giveAway) (maxL := 1) rfl (Nat.le_of_ble_eq_true rfl) ?_
  intro K C hret
  have C : Ok K l rX12_giveAway cX12_giveAway RX12 G n0 1 := C
  show J K M 0 [(0, .ref (n0 + 178))] []
  unfold fX12_giveAway at hf
  refine j_aload_n C 0 dX12_giveAway_0 rfl rfl ?_
  refine j_iconst C (0 : Int32) rfl dX12_giveAway_1 ?_
  obtain ⟨M1, e2, hf⟩ := bd hf
  refine p_X12_refusal C tw5_186 lc178 e2 dX12_giveAway_2 ?_
  refine j_aload_n C 0 dX12_giveAway_5 rfl rfl ?_
  obtain ⟨M4, e3, hf⟩ := bd hf
  refine j_callV C 0 lc178 (ent_K _ _ _ _ _ _) rfl (c_X12_saves l G n0 e3) gv_RX12_63 ⟨rfl, rfl⟩ (by decide +kernel) ⟨Nat.le_of_ble_eq_true rfl, Nat.le_of_ble_eq_true rfl⟩ rfl rfl (Nat.le_of_ble_eq_true rfl) dX12_giveAway_6 ?_
  refine j_aload_n C 0 dX12_giveAway_9 rfl rfl ?_
  obtain ⟨⟨v6, M7⟩, e5, hf⟩ := bd hf
  replace hf := un2e hf
  refine j_callV C 0 lc178 (ent_K _ _ _ _ _ _) rfl (c_X12_gives l G n0 e5) gv_RX12_178 ⟨rfl, rfl⟩ (by decide +kernel) ⟨Nat.le_of_ble_eq_true rfl, Nat.le_of_ble_eq_true rfl⟩ rfl rfl (Nat.le_of_ble_eq_true rfl) dX12_giveAway_10 ?_
  obtain ⟨rfl, rfl⟩ := Prod.mk.inj (Option.some.inj hf)
  exact hret _ _ dX12_giveAway_13
def lX12_kept_9 (x1 : Int32) (b2 : Bool) (b3 : Bool) (M : Mem) : Nat → Int32 → Int32 → Option Int32
  | 0, _, _ => none
  | n + 1, a3, a4 =>
  (ald (M.1 179) 1601 (5 : Int32)).bind fun v5 =>
  if v5 ≤ a4 then (some a3)
  else (if b2 = true then ((fX12_loafOf a4 (0 : Int32) M).bind fun v15 =>
  if v15 = x1 then (if b3 = true then ((fX12_loafOf a4 (5 : Int32) M).bind fun v19 =>
  if v19 = x1 then (lX12_kept_9 x1 b2 b3 M n (a3 + (1 : Int32)) (a4 + 1))
  else (lX12_kept_9 x1 b2 b3 M n (a3 + (0 : Int32)) (a4 + 1)))
  else (lX12_kept_9 x1 b2 b3 M n (a3 + (1 : Int32)) (a4 + 1)))
  else (lX12_kept_9 x1 b2 b3 M n (a3 + (0 : Int32)) (a4 + 1)))
  else (if b3 = true then ((fX12_loafOf a4 (5 : Int32) M).bind fun v12 =>
  if v12 = x1 then (lX12_kept_9 x1 b2 b3 M n (a3 + (1 : Int32)) (a4 + 1))
  else (lX12_kept_9 x1 b2 b3 M n (a3 + (0 : Int32)) (a4 + 1)))
  else (lX12_kept_9 x1 b2 b3 M n (a3 + (1 : Int32)) (a4 + 1))))

def fX12_kept (x1 : Int32) (b2 : Bool) (b3 : Bool) (M : Mem) : Option Int32 :=
  (fX12_firstKept M).bind fun v2 =>
  (lX12_kept_9 x1 b2 b3 M FUEL (0 : Int32) v2).bind (fun a21 => some a21)

def rX12_kept : Room := { frames := 2, cells := 0, slots := 0, locals := 42 }
set_option maxRecDepth 100000 in
set_option maxHeartbeats 4000000 in
theorem c_X12_kept (l : Launch) (G : Gx) (n0 : Nat) {x1 : Int32} {b2 : Bool} {b3 : Bool} {M : Mem} {r : Int32} (hf : fX12_kept x1 b2 b3 M = some r) : Ct l yX12_kept cX12_kept 6 (some .int) rX12_kept G n0 [.ref (n0 + 178), .int x1, .int (bI b2), .int (bI b3)] M (some (.int r)) M := by
  refine ct_int (cc := cX12_kept) (maxL := 6) rfl (Nat.le_of_ble_eq_true rfl) ?_
  intro K C hret
  have C : Ok K l rX12_kept cX12_kept RX12 G n0 6 := C
  show J K M 0 [(0, .ref (n0 + 178)), (1, .int x1), (2, .int (bI b2)), (3, .int (bI b3))] []
  unfold fX12_kept at hf
  refine j_iconst C (0 : Int32) rfl dX12_kept_0 ?_
  refine j_istore C [(4, .int (0 : Int32)), (0, .ref (n0 + 178)), (1, .int x1), (2, .int (bI b2)), (3, .int (bI b3))] dX12_kept_1 (Nat.le_of_ble_eq_true rfl) rfl ?_
  refine j_aload_n C 1 dX12_kept_3 rfl rfl ?_
  obtain ⟨v2, e1, hf⟩ := bd hf
  refine j_callV C 0 lc178 (ent_K _ _ _ _ _ _) rfl (c_X12_firstKept l G n0 e1) gv_RX12_110 ⟨rfl, rfl⟩ (by decide +kernel) ⟨Nat.le_of_ble_eq_true rfl, Nat.le_of_ble_eq_true rfl⟩ rfl rfl (Nat.le_of_ble_eq_true rfl) dX12_kept_4 ?_
  refine j_istore C [(5, .int v2), (4, .int (0 : Int32)), (0, .ref (n0 + 178)), (1, .int x1), (2, .int (bI b2)), (3, .int (bI b3))] dX12_kept_7 (Nat.le_of_ble_eq_true rfl) rfl ?_
  obtain ⟨a21, e22, hf⟩ := bd hf
  have hx23 : J K M 66 [(4, .int a21)] [] := by
    refine j_iload C 0 dX12_kept_66 rfl ?_
    obtain rfl := Option.some.inj hf
    exact hret _ _ dX12_kept_68
  clear hf
  have hl24 : ∀ (n : Nat) (a3 : Int32) (a4 : Int32), lX12_kept_9 x1 b2 b3 M n a3 a4 = some a21 → J K M 9 [(0, .ref (n0 + 178)), (1, .int x1), (2, .int (bI b2)), (3, .int (bI b3)), (4, .int a3), (5, .int a4)] [] := by
    intro n
    induction n with
    | zero =>
      intro a3 a4 hf
      exact absurd hf (by rw [lX12_kept_9]; exact fun h => by cases h)
    | succ n ih =>
      intro a3 a4 hf
      rw [lX12_kept_9] at hf
      refine j_iload C 5 dX12_kept_9 rfl ?_
      refine j_aload_n C 0 dX12_kept_11 rfl rfl ?_
      refine g_X12_now C tw5_182 lc178 179 rfl dX12_kept_12 ?_
      refine j_iconst C (5 : Int32) rfl dX12_kept_15 ?_
      obtain ⟨v5, e6, hf⟩ := bd hf
      obtain ⟨hx7, e6⟩ := ald_some e6
      refine j_iald C lc179 hx7 e6 dX12_kept_16 ?_
      refine j_icmp_ge C 66 dX12_kept_17 (by decide) (fun c8 => ?_) (fun c8 => ?_)
      · replace hf := ip c8 hf
        refine j_sub [4] rfl ?_
        cases hf
        exact hx23
      · replace hf := ine c8 hf
        refine j_iload C 4 dX12_kept_20 rfl ?_
        refine j_iload_n C 2 dX12_kept_22 rfl rfl ?_
        refine j_ifz_eq C 37 dX12_kept_23 (by decide) (fun c9 => ?_) (fun c9 => ?_)
        · replace hf := ine c9 hf
          refine j_iload_n C 3 dX12_kept_37 rfl rfl ?_
          refine j_ifz_eq C 52 dX12_kept_38 (by decide) (fun c10 => ?_) (fun c10 => ?_)
          · replace hf := ine c10 hf
            refine j_iconst C (1 : Int32) rfl dX12_kept_52 ?_
            refine j_goto C 57 dX12_kept_53 (by decide) ?_
            refine j_iadd C dX12_kept_57 ?_
            refine j_istore C [(4, .int (a3 + (1 : Int32))), (0, .ref (n0 + 178)), (1, .int x1), (2, .int (bI b2)), (3, .int (bI b3)), (5, .int a4)] dX12_kept_58 (Nat.le_of_ble_eq_true rfl) rfl ?_
            refine j_iinc C 5 (a4 + 1) [(5, .int (a4 + 1)), (4, .int (a3 + (1 : Int32))), (0, .ref (n0 + 178)), (1, .int x1), (2, .int (bI b2)), (3, .int (bI b3))] dX12_kept_60 rfl rfl (Nat.le_of_ble_eq_true rfl) rfl ?_
            refine j_goto C 9 dX12_kept_63 (by decide) ?_
            refine j_sub [2, 3, 4, 5, 1, 0] rfl ?_
            exact ih _ _ hf
          · replace hf := ip c10 hf
            refine j_aload_n C 0 dX12_kept_41 rfl rfl ?_
            refine j_iload C 5 dX12_kept_42 rfl ?_
            refine j_iconst C (5 : Int32) rfl dX12_kept_44 ?_
            obtain ⟨v12, e11, hf⟩ := bd hf
            refine j_callV C 2 lc178 (ent_K _ _ _ _ _ _) rfl (c_X12_loafOf l G n0 e11) gv_RX12_113 ⟨rfl, rfl⟩ (by decide +kernel) ⟨Nat.le_of_ble_eq_true rfl, Nat.le_of_ble_eq_true rfl⟩ rfl rfl (Nat.le_of_ble_eq_true rfl) dX12_kept_45 ?_
            refine j_iload_n C 1 dX12_kept_48 rfl rfl ?_
            refine j_icmp_ne C 56 dX12_kept_49 (by decide) (fun c13 => ?_) (fun c13 => ?_)
            · replace hf := ine c13 hf
              refine j_iconst C (0 : Int32) rfl dX12_kept_56 ?_
              refine j_iadd C dX12_kept_57 ?_
              refine j_istore C [(4, .int (a3 + (0 : Int32))), (0, .ref (n0 + 178)), (1, .int x1), (2, .int (bI b2)), (3, .int (bI b3)), (5, .int a4)] dX12_kept_58 (Nat.le_of_ble_eq_true rfl) rfl ?_
              refine j_iinc C 5 (a4 + 1) [(5, .int (a4 + 1)), (4, .int (a3 + (0 : Int32))), (0, .ref (n0 + 178)), (1, .int x1), (2, .int (bI b2)), (3, .int (bI b3))] dX12_kept_60 rfl rfl (Nat.le_of_ble_eq_true rfl) rfl ?_
              refine j_goto C 9 dX12_kept_63 (by decide) ?_
              refine j_sub [2, 3, 4, 5, 1, 0] rfl ?_
              exact ih _ _ hf
            · replace hf := ip c13 hf
              refine j_iconst C (1 : Int32) rfl dX12_kept_52 ?_
              refine j_goto C 57 dX12_kept_53 (by decide) ?_
              refine j_iadd C dX12_kept_57 ?_
              refine j_istore C [(4, .int (a3 + (1 : Int32))), (0, .ref (n0 + 178)), (1, .int x1), (2, .int (bI b2)), (3, .int (bI b3)), (5, .int a4)] dX12_kept_58 (Nat.le_of_ble_eq_true rfl) rfl ?_
              refine j_iinc C 5 (a4 + 1) [(5, .int (a4 + 1)), (4, .int (a3 + (1 : Int32))), (0, .ref (n0 + 178)), (1, .int x1), (2, .int (bI b2)), (3, .int (bI b3))] dX12_kept_60 rfl rfl (Nat.le_of_ble_eq_true rfl) rfl ?_
              refine j_goto C 9 dX12_kept_63 (by decide) ?_
              refine j_sub [2, 3, 4, 5, 1, 0] rfl ?_
              exact ih _ _ hf
        · replace hf := ip c9 hf
          refine j_aload_n C 0 dX12_kept_26 rfl rfl ?_
          refine j_iload C 5 dX12_kept_27 rfl ?_
          refine j_iconst C (0 : Int32) rfl dX12_kept_29 ?_
          obtain ⟨v15, e14, hf⟩ := bd hf
          refine j_callV C 2 lc178 (ent_K _ _ _ _ _ _) rfl (c_X12_loafOf l G n0 e14) gv_RX12_113 ⟨rfl, rfl⟩ (by decide +kernel) ⟨Nat.le_of_ble_eq_true rfl, Nat.le_of_ble_eq_true rfl⟩ rfl rfl (Nat.le_of_ble_eq_true rfl) dX12_kept_30 ?_
          refine j_iload_n C 1 dX12_kept_33 rfl rfl ?_
          refine j_icmp_ne C 56 dX12_kept_34 (by decide) (fun c16 => ?_) (fun c16 => ?_)
          · replace hf := ine c16 hf
            refine j_iconst C (0 : Int32) rfl dX12_kept_56 ?_
            refine j_iadd C dX12_kept_57 ?_
            refine j_istore C [(4, .int (a3 + (0 : Int32))), (0, .ref (n0 + 178)), (1, .int x1), (2, .int (bI b2)), (3, .int (bI b3)), (5, .int a4)] dX12_kept_58 (Nat.le_of_ble_eq_true rfl) rfl ?_
            refine j_iinc C 5 (a4 + 1) [(5, .int (a4 + 1)), (4, .int (a3 + (0 : Int32))), (0, .ref (n0 + 178)), (1, .int x1), (2, .int (bI b2)), (3, .int (bI b3))] dX12_kept_60 rfl rfl (Nat.le_of_ble_eq_true rfl) rfl ?_
            refine j_goto C 9 dX12_kept_63 (by decide) ?_
            refine j_sub [2, 3, 4, 5, 1, 0] rfl ?_
            exact ih _ _ hf
          · replace hf := ip c16 hf
            refine j_iload_n C 3 dX12_kept_37 rfl rfl ?_
            refine j_ifz_eq C 52 dX12_kept_38 (by decide) (fun c17 => ?_) (fun c17 => ?_)
            · replace hf := ine c17 hf
              refine j_iconst C (1 : Int32) rfl dX12_kept_52 ?_
              refine j_goto C 57 dX12_kept_53 (by decide) ?_
              refine j_iadd C dX12_kept_57 ?_
              refine j_istore C [(4, .int (a3 + (1 : Int32))), (0, .ref (n0 + 178)), (1, .int x1), (2, .int (bI b2)), (3, .int (bI b3)), (5, .int a4)] dX12_kept_58 (Nat.le_of_ble_eq_true rfl) rfl ?_
              refine j_iinc C 5 (a4 + 1) [(5, .int (a4 + 1)), (4, .int (a3 + (1 : Int32))), (0, .ref (n0 + 178)), (1, .int x1), (2, .int (bI b2)), (3, .int (bI b3))] dX12_kept_60 rfl rfl (Nat.le_of_ble_eq_true rfl) rfl ?_
              refine j_goto C 9 dX12_kept_63 (by decide) ?_
              refine j_sub [2, 3, 4, 5, 1, 0] rfl ?_
              exact ih _ _ hf
            · replace hf := ip c17 hf
              refine j_aload_n C 0 dX12_kept_41 rfl rfl ?_
              refine j_iload C 5 dX12_kept_42 rfl ?_
              refine j_iconst C (5 : Int32) rfl dX12_kept_44 ?_
              obtain ⟨v19, e18, hf⟩ := bd hf
              refine j_callV C 2 lc178 (ent_K _ _ _ _ _ _) rfl (c_X12_loafOf l G n0 e18) gv_RX12_113 ⟨rfl, rfl⟩ (by decide +kernel) ⟨Nat.le_of_ble_eq_true rfl, Nat.le_of_ble_eq_true rfl⟩ rfl rfl (Nat.le_of_ble_eq_true rfl) dX12_kept_45 ?_
              refine j_iload_n C 1 dX12_kept_48 rfl rfl ?_
              refine j_icmp_ne C 56 dX12_kept_49 (by decide) (fun c20 => ?_) (fun c20 => ?_)
              · replace hf := ine c20 hf
                refine j_iconst C (0 : Int32) rfl dX12_kept_56 ?_
                refine j_iadd C dX12_kept_57 ?_
                refine j_istore C [(4, .int (a3 + (0 : Int32))), (0, .ref (n0 + 178)), (1, .int x1), (2, .int (bI b2)), (3, .int (bI b3)), (5, .int a4)] dX12_kept_58 (Nat.le_of_ble_eq_true rfl) rfl ?_
                refine j_iinc C 5 (a4 + 1) [(5, .int (a4 + 1)), (4, .int (a3 + (0 : Int32))), (0, .ref (n0 + 178)), (1, .int x1), (2, .int (bI b2)), (3, .int (bI b3))] dX12_kept_60 rfl rfl (Nat.le_of_ble_eq_true rfl) rfl ?_
                refine j_goto C 9 dX12_kept_63 (by decide) ?_
                refine j_sub [2, 3, 4, 5, 1, 0] rfl ?_
                exact ih _ _ hf
              · replace hf := ip c20 hf
                refine j_iconst C (1 : Int32) rfl dX12_kept_52 ?_
                refine j_goto C 57 dX12_kept_53 (by decide) ?_
                refine j_iadd C dX12_kept_57 ?_
                refine j_istore C [(4, .int (a3 + (1 : Int32))), (0, .ref (n0 + 178)), (1, .int x1), (2, .int (bI b2)), (3, .int (bI b3)), (5, .int a4)] dX12_kept_58 (Nat.le_of_ble_eq_true rfl) rfl ?_
                refine j_iinc C 5 (a4 + 1) [(5, .int (a4 + 1)), (4, .int (a3 + (1 : Int32))), (0, .ref (n0 + 178)), (1, .int x1), (2, .int (bI b2)), (3, .int (bI b3))] dX12_kept_60 rfl rfl (Nat.le_of_ble_eq_true rfl) rfl ?_
                refine j_goto C 9 dX12_kept_63 (by decide) ?_
                refine j_sub [2, 3, 4, 5, 1, 0] rfl ?_
                exact ih _ _ hf
  refine j_sub [2, 3, 4, 5, 1, 0] rfl ?_
  exact hl24 FUEL (0 : Int32) v2 e22
def lX12_tellHouse_59 (x1 : Int32) (M : Mem) : Nat → Int32 → Int32 → Option Int32
  | 0, _, _ => none
  | n + 1, a7, a8 =>
  (ald (M.1 179) 1601 (7 : Int32)).bind fun v9 =>
  if v9 ≤ a8 then (some a7)
  else ((ald (M.1 179) 1601 ((41 : Int32) + ((3 : Int32) * a8))).bind fun v13 =>
  if v13 = x1 then (lX12_tellHouse_59 x1 M n (a7 + (1 : Int32)) (a8 + 1))
  else (lX12_tellHouse_59 x1 M n (a7 + (0 : Int32)) (a8 + 1)))

def fX12_tellHouse (x1 : Int32) (x2 : Int32) (M : Mem) : Option Int32 :=
  if x2 = 4 then ((fX12_kept x1 true false M).bind fun v2 =>
  some v2)
  else if x2 = 5 then ((fX12_kept x1 false true M).bind fun v4 =>
  some v4)
  else if x2 = 6 then ((fX12_kept x1 true true M).bind fun v6 =>
  some v6)
  else if x2 = 7 then ((lX12_tellHouse_59 x1 M FUEL (0 : Int32) (0 : Int32)).bind (fun a17 => some a17))
  else ((fX12_of x1 x2 M).bind fun v19 =>
  some v19)

def rX12_tellHouse : Room := { frames := 3, cells := 0, slots := 0, locals := 67 }
set_option maxRecDepth 100000 in
set_option maxHeartbeats 4000000 in
theorem c_X12_tellHouse (l : Launch) (G : Gx) (n0 : Nat) {x1 : Int32} {x2 : Int32} {M : Mem} {r : Int32} (hf : fX12_tellHouse x1 x2 M = some r) : Ct l yX12_tellHouse cX12_tellHouse 5 (some .int) rX12_tellHouse G n0 [.ref (n0 + 178), .int x1, .int x2] M (some (.int r)) M := by
  refine ct_int (cc := cX12_tellHouse) (maxL := 5) rfl (Nat.le_of_ble_eq_true rfl) ?_
  intro K C hret
  have C : Ok K l rX12_tellHouse cX12_tellHouse RX12 G n0 5 := C
  show J K M 0 [(0, .ref (n0 + 178)), (1, .int x1), (2, .int x2)] []
  unfold fX12_tellHouse at hf
  refine j_iconst C (0 : Int32) rfl dX12_tellHouse_0 ?_
  refine j_istore_n C [(3, .int (0 : Int32)), (0, .ref (n0 + 178)), (1, .int x1), (2, .int x2)] dX12_tellHouse_1 rfl (Nat.le_of_ble_eq_true rfl) rfl ?_
  refine j_iload_n C 3 dX12_tellHouse_2 rfl rfl ?_
  by_cases c20_4 : x2 = 4
  · replace hf := ip c20_4 hf
    refine j_tsw C 32 c20_4 dX12_tellHouse_3 (by decide) rfl (by decide) ?_
    refine j_aload_n C 1 dX12_tellHouse_32 rfl rfl ?_
    refine j_iload_n C 2 dX12_tellHouse_33 rfl rfl ?_
    refine j_iconst C (1 : Int32) rfl dX12_tellHouse_34 ?_
    refine j_iconst C (0 : Int32) rfl dX12_tellHouse_35 ?_
    obtain ⟨v2, e1, hf⟩ := bd hf
    refine j_callV C 3 lc178 (ent_K _ _ _ _ _ _) rfl (c_X12_kept l G n0 e1) gv_RX12_181 ⟨rfl, rfl⟩ (by decide +kernel) ⟨Nat.le_of_ble_eq_true rfl, Nat.le_of_ble_eq_true rfl⟩ rfl rfl (Nat.le_of_ble_eq_true rfl) dX12_tellHouse_36 ?_
    obtain rfl := Option.some.inj hf
    exact hret _ _ dX12_tellHouse_39
  · replace hf := ine c20_4 hf
    by_cases c20_5 : x2 = 5
    · replace hf := ip c20_5 hf
      refine j_tsw C 40 c20_5 dX12_tellHouse_3 (by decide) rfl (by decide) ?_
      refine j_aload_n C 1 dX12_tellHouse_40 rfl rfl ?_
      refine j_iload_n C 2 dX12_tellHouse_41 rfl rfl ?_
      refine j_iconst C (0 : Int32) rfl dX12_tellHouse_42 ?_
      refine j_iconst C (1 : Int32) rfl dX12_tellHouse_43 ?_
      obtain ⟨v4, e3, hf⟩ := bd hf
      refine j_callV C 3 lc178 (ent_K _ _ _ _ _ _) rfl (c_X12_kept l G n0 e3) gv_RX12_181 ⟨rfl, rfl⟩ (by decide +kernel) ⟨Nat.le_of_ble_eq_true rfl, Nat.le_of_ble_eq_true rfl⟩ rfl rfl (Nat.le_of_ble_eq_true rfl) dX12_tellHouse_44 ?_
      obtain rfl := Option.some.inj hf
      exact hret _ _ dX12_tellHouse_47
    · replace hf := ine c20_5 hf
      by_cases c20_6 : x2 = 6
      · replace hf := ip c20_6 hf
        refine j_tsw C 48 c20_6 dX12_tellHouse_3 (by decide) rfl (by decide) ?_
        refine j_aload_n C 1 dX12_tellHouse_48 rfl rfl ?_
        refine j_iload_n C 2 dX12_tellHouse_49 rfl rfl ?_
        refine j_iconst C (1 : Int32) rfl dX12_tellHouse_50 ?_
        refine j_iconst C (1 : Int32) rfl dX12_tellHouse_51 ?_
        obtain ⟨v6, e5, hf⟩ := bd hf
        refine j_callV C 3 lc178 (ent_K _ _ _ _ _ _) rfl (c_X12_kept l G n0 e5) gv_RX12_181 ⟨rfl, rfl⟩ (by decide +kernel) ⟨Nat.le_of_ble_eq_true rfl, Nat.le_of_ble_eq_true rfl⟩ rfl rfl (Nat.le_of_ble_eq_true rfl) dX12_tellHouse_52 ?_
        obtain rfl := Option.some.inj hf
        exact hret _ _ dX12_tellHouse_55
      · replace hf := ine c20_6 hf
        by_cases c20_7 : x2 = 7
        · replace hf := ip c20_7 hf
          refine j_tsw C 56 c20_7 dX12_tellHouse_3 (by decide) rfl (by decide) ?_
          refine j_iconst C (0 : Int32) rfl dX12_tellHouse_56 ?_
          refine j_istore C [(4, .int (0 : Int32)), (3, .int (0 : Int32)), (0, .ref (n0 + 178)), (1, .int x1), (2, .int x2)] dX12_tellHouse_57 (Nat.le_of_ble_eq_true rfl) rfl ?_
          obtain ⟨a17, e21, hf⟩ := bd hf
          have hx22 : J K M 101 [(3, .int a17)] [] := by
            refine j_iload_n C 0 dX12_tellHouse_101 rfl rfl ?_
            obtain rfl := Option.some.inj hf
            exact hret _ _ dX12_tellHouse_102
          clear hf
          have hl23 : ∀ (n : Nat) (a7 : Int32) (a8 : Int32), lX12_tellHouse_59 x1 M n a7 a8 = some a17 → J K M 59 [(0, .ref (n0 + 178)), (1, .int x1), (3, .int a7), (4, .int a8)] [] := by
            intro n
            induction n with
            | zero =>
              intro a7 a8 hf
              exact absurd hf (by rw [lX12_tellHouse_59]; exact fun h => by cases h)
            | succ n ih =>
              intro a7 a8 hf
              rw [lX12_tellHouse_59] at hf
              refine j_iload C 3 dX12_tellHouse_59 rfl ?_
              refine j_aload_n C 0 dX12_tellHouse_61 rfl rfl ?_
              refine g_X12_now C tw5_182 lc178 179 rfl dX12_tellHouse_62 ?_
              refine j_bipush C (7 : Int32) rfl dX12_tellHouse_65 ?_
              obtain ⟨v9, e10, hf⟩ := bd hf
              obtain ⟨hx11, e10⟩ := ald_some e10
              refine j_iald C lc179 hx11 e10 dX12_tellHouse_67 ?_
              refine j_icmp_ge C 101 dX12_tellHouse_68 (by decide) (fun c12 => ?_) (fun c12 => ?_)
              · replace hf := ip c12 hf
                refine j_sub [2] rfl ?_
                cases hf
                exact hx22
              · replace hf := ine c12 hf
                refine j_iload_n C 2 dX12_tellHouse_71 rfl rfl ?_
                refine j_aload_n C 0 dX12_tellHouse_72 rfl rfl ?_
                refine g_X12_now C tw5_182 lc178 179 rfl dX12_tellHouse_73 ?_
                refine j_bipush C (41 : Int32) rfl dX12_tellHouse_76 ?_
                refine j_iconst C (3 : Int32) rfl dX12_tellHouse_78 ?_
                refine j_iload C 3 dX12_tellHouse_79 rfl ?_
                refine j_imul C dX12_tellHouse_81 ?_
                refine j_iadd C dX12_tellHouse_82 ?_
                obtain ⟨v13, e14, hf⟩ := bd hf
                obtain ⟨hx15, e14⟩ := ald_some e14
                refine j_iald C lc179 hx15 e14 dX12_tellHouse_83 ?_
                refine j_iload_n C 1 dX12_tellHouse_84 rfl rfl ?_
                refine j_icmp_ne C 92 dX12_tellHouse_85 (by decide) (fun c16 => ?_) (fun c16 => ?_)
                · replace hf := ine c16 hf
                  refine j_iconst C (0 : Int32) rfl dX12_tellHouse_92 ?_
                  refine j_iadd C dX12_tellHouse_93 ?_
                  refine j_istore_n C [(3, .int (a7 + (0 : Int32))), (0, .ref (n0 + 178)), (1, .int x1), (4, .int a8)] dX12_tellHouse_94 rfl (Nat.le_of_ble_eq_true rfl) rfl ?_
                  refine j_iinc C 3 (a8 + 1) [(4, .int (a8 + 1)), (3, .int (a7 + (0 : Int32))), (0, .ref (n0 + 178)), (1, .int x1)] dX12_tellHouse_95 rfl rfl (Nat.le_of_ble_eq_true rfl) rfl ?_
                  refine j_goto C 59 dX12_tellHouse_98 (by decide) ?_
                  refine j_sub [2, 3, 1, 0] rfl ?_
                  exact ih _ _ hf
                · replace hf := ip c16 hf
                  refine j_iconst C (1 : Int32) rfl dX12_tellHouse_88 ?_
                  refine j_goto C 93 dX12_tellHouse_89 (by decide) ?_
                  refine j_iadd C dX12_tellHouse_93 ?_
                  refine j_istore_n C [(3, .int (a7 + (1 : Int32))), (0, .ref (n0 + 178)), (1, .int x1), (4, .int a8)] dX12_tellHouse_94 rfl (Nat.le_of_ble_eq_true rfl) rfl ?_
                  refine j_iinc C 3 (a8 + 1) [(4, .int (a8 + 1)), (3, .int (a7 + (1 : Int32))), (0, .ref (n0 + 178)), (1, .int x1)] dX12_tellHouse_95 rfl rfl (Nat.le_of_ble_eq_true rfl) rfl ?_
                  refine j_goto C 59 dX12_tellHouse_98 (by decide) ?_
                  refine j_sub [2, 3, 1, 0] rfl ?_
                  exact ih _ _ hf
          refine j_sub [2, 3, 1, 0] rfl ?_
          exact hl23 FUEL (0 : Int32) (0 : Int32) e21
        · replace hf := ine c20_7 hf
          refine j_tswD C 103 (by have g4 := lv_neT c20_4 (show (4 : Int32).toInt = 4 by decide); have g5 := lv_neT c20_5 (show (5 : Int32).toInt = 5 by decide); have g6 := lv_neT c20_6 (show (6 : Int32).toInt = 6 by decide); have g7 := lv_neT c20_7 (show (7 : Int32).toInt = 7 by decide); omega) dX12_tellHouse_3 (by decide) ?_
          refine j_aload_n C 1 dX12_tellHouse_103 rfl rfl ?_
          refine j_iload_n C 2 dX12_tellHouse_104 rfl rfl ?_
          refine j_iload_n C 3 dX12_tellHouse_105 rfl rfl ?_
          obtain ⟨v19, e18, hf⟩ := bd hf
          refine j_callV C 2 lc178 (ent_K _ _ _ _ _ _) rfl (c_X12_of l G n0 e18) gv_RX12_44 ⟨rfl, rfl⟩ (by decide +kernel) ⟨Nat.le_of_ble_eq_true rfl, Nat.le_of_ble_eq_true rfl⟩ rfl rfl (Nat.le_of_ble_eq_true rfl) dX12_tellHouse_106 ?_
          obtain rfl := Option.some.inj hf
          exact hret _ _ dX12_tellHouse_109
def fX12_household (x1 : Int32) (x2 : Int32) (M : Mem) : Option (Int32 × Mem) :=
  (fX12_isHouse x1 M).bind fun b2 =>
  (if b2 = true then ((fX12_in x2 (0 : Int32) (7 : Int32)).bind fun b5 =>
  if b5 = true then (some (0 : Int32))
  else (some (2 : Int32)))
  else (some (1 : Int32))).bind (fun z7 => (fX12_refused z7 M).bind (un2 fun b9 M10 =>
  if b9 = true then (some ((0 : Int32), M10))
  else ((fX12_tellHouse x1 x2 M10).bind fun v13 =>
  some (v13, M10))))

def rX12_household : Room := { frames := 4, cells := 0, slots := 0, locals := 91 }
set_option maxRecDepth 100000 in
set_option maxHeartbeats 4000000 in
theorem c_X12_household (l : Launch) (G : Gx) (n0 : Nat) {x1 : Int32} {x2 : Int32} {M : Mem} {r : Int32} {M' : Mem} (hf : fX12_household x1 x2 M = some (r, M')) : Ct l yX12_household cX12_household 3 (some .int) rX12_household G n0 [.ref (n0 + 178), .int x1, .int x2] M (some (.int r)) M' := by
  refine ct_int (cc := cX12_household) (maxL := 3) rfl (Nat.le_of_ble_eq_true rfl) ?_
  intro K C hret
  have C : Ok K l rX12_household cX12_household RX12 G n0 3 := C
  show J K M 0 [(0, .ref (n0 + 178)), (1, .int x1), (2, .int x2)] []
  unfold fX12_household at hf
  refine j_aload_n C 0 dX12_household_0 rfl rfl ?_
  refine j_aload_n C 0 dX12_household_1 rfl rfl ?_
  refine j_iload_n C 1 dX12_household_2 rfl rfl ?_
  obtain ⟨b2, e1, hf⟩ := bd hf
  refine j_callV C 1 lc178 (ent_K _ _ _ _ _ _) rfl (c_X12_isHouse l G n0 e1) gv_RX12_69 ⟨rfl, rfl⟩ (by decide +kernel) ⟨Nat.le_of_ble_eq_true rfl, Nat.le_of_ble_eq_true rfl⟩ rfl rfl (Nat.le_of_ble_eq_true rfl) dX12_household_3 ?_
  obtain ⟨z7, e14, hf⟩ := bd hf
  have hj15 : J K M 28 [(0, .ref (n0 + 178)), (1, .int x1), (2, .int x2)] [.int z7, .ref (n0 + 178)] := by
    obtain ⟨⟨b9, M10⟩, e8, hf⟩ := bd hf
    replace hf := un2e hf
    refine j_callV C 1 lc178 (ent_K _ _ _ _ _ _) rfl (c_X12_refused l G n0 e8) gv_RX12_35 ⟨rfl, rfl⟩ (by decide +kernel) ⟨Nat.le_of_ble_eq_true rfl, Nat.le_of_ble_eq_true rfl⟩ rfl rfl (Nat.le_of_ble_eq_true rfl) dX12_household_28 ?_
    refine j_ifz_eq C 38 dX12_household_31 (by decide) (fun c11 => ?_) (fun c11 => ?_)
    · replace hf := ine c11 hf
      refine j_aload_n C 0 dX12_household_38 rfl rfl ?_
      refine j_iload_n C 1 dX12_household_39 rfl rfl ?_
      refine j_iload_n C 2 dX12_household_40 rfl rfl ?_
      obtain ⟨v13, e12, hf⟩ := bd hf
      refine j_callV C 2 lc178 (ent_K _ _ _ _ _ _) rfl (c_X12_tellHouse l G n0 e12) gv_RX12_185 ⟨rfl, rfl⟩ (by decide +kernel) ⟨Nat.le_of_ble_eq_true rfl, Nat.le_of_ble_eq_true rfl⟩ rfl rfl (Nat.le_of_ble_eq_true rfl) dX12_household_41 ?_
      obtain ⟨rfl, rfl⟩ := Prod.mk.inj (Option.some.inj hf)
      exact hret _ _ dX12_household_44
    · replace hf := ip c11 hf
      refine j_iconst C (0 : Int32) rfl dX12_household_34 ?_
      refine j_goto C 44 dX12_household_35 (by decide) ?_
      obtain ⟨rfl, rfl⟩ := Prod.mk.inj (Option.some.inj hf)
      exact hret _ _ dX12_household_44
  clear hf
  have hf := e14
  refine j_ifz_ne C 13 dX12_household_6 (by decide) (fun c3 => ?_) (fun c3 => ?_)
  · replace hf := ip c3 hf
    refine j_iload_n C 2 dX12_household_13 rfl rfl ?_
    refine j_iconst C (0 : Int32) rfl dX12_household_14 ?_
    refine j_bipush C (7 : Int32) rfl dX12_household_15 ?_
    obtain ⟨b5, e4, hf⟩ := bd hf
    refine j_callS C 3 (c_X12_in l G n0 (M := M) e4) gs_RX12_39 ⟨rfl, rfl⟩ (by decide +kernel) ⟨Nat.le_of_ble_eq_true rfl, Nat.le_of_ble_eq_true rfl⟩ rfl rfl (Nat.le_of_ble_eq_true rfl) dX12_household_17 ?_
    refine j_ifz_eq C 27 dX12_household_20 (by decide) (fun c6 => ?_) (fun c6 => ?_)
    · replace hf := ine c6 hf
      refine j_iconst C (2 : Int32) rfl dX12_household_27 ?_
      cases hf
      refine j_sub [0, 1, 2] rfl ?_
      exact hj15
    · replace hf := ip c6 hf
      refine j_iconst C (0 : Int32) rfl dX12_household_23 ?_
      refine j_goto C 28 dX12_household_24 (by decide) ?_
      cases hf
      refine j_sub [0, 1, 2] rfl ?_
      exact hj15
  · replace hf := ine c3 hf
    refine j_iconst C (1 : Int32) rfl dX12_household_9 ?_
    refine j_goto C 28 dX12_household_10 (by decide) ?_
    cases hf
    refine j_sub [0, 1, 2] rfl ?_
    exact hj15
def fX12_due (x1 : Int32) (M : Mem) : Option (Int64 × Mem) :=
  (fX12_isHouse x1 M).bind fun b2 =>
  (if b2 = true then (some (0 : Int32))
  else (some (1 : Int32))).bind (fun z4 => (fX12_refused z4 M).bind (un2 fun b6 M7 =>
  if b6 = true then (some ((0 : Int64), M7))
  else ((fX12_dueOf x1 M7).bind fun v10 =>
  some (v10, M7))))

def rX12_due : Room := { frames := 3, cells := 0, slots := 0, locals := 66 }
set_option maxRecDepth 100000 in
set_option maxHeartbeats 4000000 in
theorem c_X12_due (l : Launch) (G : Gx) (n0 : Nat) {x1 : Int32} {M : Mem} {r : Int64} {M' : Mem} (hf : fX12_due x1 M = some (r, M')) : Ct l yX12_due cX12_due 2 (some .long) rX12_due G n0 [.ref (n0 + 178), .int x1] M (some (.long r)) M' := by
  refine ct_long (cc := cX12_due) (maxL := 2) rfl (Nat.le_of_ble_eq_true rfl) ?_
  intro K C hret
  have C : Ok K l rX12_due cX12_due RX12 G n0 2 := C
  show J K M 0 [(0, .ref (n0 + 178)), (1, .int x1)] []
  unfold fX12_due at hf
  refine j_aload_n C 0 dX12_due_0 rfl rfl ?_
  refine j_aload_n C 0 dX12_due_1 rfl rfl ?_
  refine j_iload_n C 1 dX12_due_2 rfl rfl ?_
  obtain ⟨b2, e1, hf⟩ := bd hf
  refine j_callV C 1 lc178 (ent_K _ _ _ _ _ _) rfl (c_X12_isHouse l G n0 e1) gv_RX12_69 ⟨rfl, rfl⟩ (by decide +kernel) ⟨Nat.le_of_ble_eq_true rfl, Nat.le_of_ble_eq_true rfl⟩ rfl rfl (Nat.le_of_ble_eq_true rfl) dX12_due_3 ?_
  obtain ⟨z4, e11, hf⟩ := bd hf
  have hj12 : J K M 14 [(0, .ref (n0 + 178)), (1, .int x1)] [.int z4, .ref (n0 + 178)] := by
    obtain ⟨⟨b6, M7⟩, e5, hf⟩ := bd hf
    replace hf := un2e hf
    refine j_callV C 1 lc178 (ent_K _ _ _ _ _ _) rfl (c_X12_refused l G n0 e5) gv_RX12_35 ⟨rfl, rfl⟩ (by decide +kernel) ⟨Nat.le_of_ble_eq_true rfl, Nat.le_of_ble_eq_true rfl⟩ rfl rfl (Nat.le_of_ble_eq_true rfl) dX12_due_14 ?_
    refine j_ifz_eq C 24 dX12_due_17 (by decide) (fun c8 => ?_) (fun c8 => ?_)
    · replace hf := ine c8 hf
      refine j_aload_n C 0 dX12_due_24 rfl rfl ?_
      refine j_iload_n C 1 dX12_due_25 rfl rfl ?_
      obtain ⟨v10, e9, hf⟩ := bd hf
      refine j_callV C 1 lc178 (ent_K _ _ _ _ _ _) rfl (c_X12_dueOf l G n0 e9) gv_RX12_79 ⟨rfl, rfl⟩ (by decide +kernel) ⟨Nat.le_of_ble_eq_true rfl, Nat.le_of_ble_eq_true rfl⟩ rfl rfl (Nat.le_of_ble_eq_true rfl) dX12_due_26 ?_
      obtain ⟨rfl, rfl⟩ := Prod.mk.inj (Option.some.inj hf)
      exact hret _ _ dX12_due_29
    · replace hf := ip c8 hf
      refine j_lconst C (0 : Int64) rfl dX12_due_20 ?_
      refine j_goto C 29 dX12_due_21 (by decide) ?_
      obtain ⟨rfl, rfl⟩ := Prod.mk.inj (Option.some.inj hf)
      exact hret _ _ dX12_due_29
  clear hf
  have hf := e11
  refine j_ifz_eq C 13 dX12_due_6 (by decide) (fun c3 => ?_) (fun c3 => ?_)
  · replace hf := ine c3 hf
    refine j_iconst C (1 : Int32) rfl dX12_due_13 ?_
    cases hf
    refine j_sub [0, 1] rfl ?_
    exact hj12
  · replace hf := ip c3 hf
    refine j_iconst C (0 : Int32) rfl dX12_due_9 ?_
    refine j_goto C 14 dX12_due_10 (by decide) ?_
    cases hf
    refine j_sub [0, 1] rfl ?_
    exact hj12
def fX12_nextForWood  (M : Mem) : Option (Int32 × Mem) :=
  (pf M 178 4 (0 : Int32)).bind fun M1 =>
  (fX12_next M1).bind fun v4 =>
  some (v4, M1)

def rX12_nextForWood : Room := { frames := 4, cells := 0, slots := 0, locals := 89 }
set_option maxRecDepth 100000 in
set_option maxHeartbeats 4000000 in
theorem c_X12_nextForWood (l : Launch) (G : Gx) (n0 : Nat) {M : Mem} {r : Int32} {M' : Mem} (hf : fX12_nextForWood M = some (r, M')) : Ct l yX12_nextForWood cX12_nextForWood 1 (some .int) rX12_nextForWood G n0 [.ref (n0 + 178)] M (some (.int r)) M' := by
  refine ct_int (cc := cX12_nextForWood) (maxL := 1) rfl (Nat.le_of_ble_eq_true rfl) ?_
  intro K C hret
  have C : Ok K l rX12_nextForWood cX12_nextForWood RX12 G n0 1 := C
  show J K M 0 [(0, .ref (n0 + 178))] []
  unfold fX12_nextForWood at hf
  refine j_aload_n C 0 dX12_nextForWood_0 rfl rfl ?_
  refine j_iconst C (0 : Int32) rfl dX12_nextForWood_1 ?_
  obtain ⟨M1, e2, hf⟩ := bd hf
  refine p_X12_refusal C tw5_186 lc178 e2 dX12_nextForWood_2 ?_
  refine j_aload_n C 0 dX12_nextForWood_5 rfl rfl ?_
  obtain ⟨v4, e3, hf⟩ := bd hf
  refine j_callV C 0 lc178 (ent_K _ _ _ _ _ _) rfl (c_X12_next l G n0 e3) gv_RX12_147 ⟨rfl, rfl⟩ (by decide +kernel) ⟨Nat.le_of_ble_eq_true rfl, Nat.le_of_ble_eq_true rfl⟩ rfl rfl (Nat.le_of_ble_eq_true rfl) dX12_nextForWood_6 ?_
  obtain ⟨rfl, rfl⟩ := Prod.mk.inj (Option.some.inj hf)
  exact hret _ _ dX12_nextForWood_9
def fX12_balance (x1 : Int32) (x2 : Int32) (M : Mem) : Option (Int32 × Mem) :=
  (fX12_isHouse x1 M).bind fun b2 =>
  (if b2 = true then ((fX12_in x2 (0 : Int32) (2 : Int32)).bind fun b5 =>
  if b5 = true then (some (0 : Int32))
  else (some (2 : Int32)))
  else (some (1 : Int32))).bind (fun z7 => (fX12_refused z7 M).bind (un2 fun b9 M10 =>
  if b9 = true then (some ((0 : Int32), M10))
  else ((fX12_balanceOf x1 x2 M10).bind fun v13 =>
  some (v13, M10))))

def rX12_balance : Room := { frames := 3, cells := 0, slots := 0, locals := 66 }
set_option maxRecDepth 100000 in
set_option maxHeartbeats 4000000 in
theorem c_X12_balance (l : Launch) (G : Gx) (n0 : Nat) {x1 : Int32} {x2 : Int32} {M : Mem} {r : Int32} {M' : Mem} (hf : fX12_balance x1 x2 M = some (r, M')) : Ct l yX12_balance cX12_balance 3 (some .int) rX12_balance G n0 [.ref (n0 + 178), .int x1, .int x2] M (some (.int r)) M' := by
  refine ct_int (cc := cX12_balance) (maxL := 3) rfl (Nat.le_of_ble_eq_true rfl) ?_
  intro K C hret
  have C : Ok K l rX12_balance cX12_balance RX12 G n0 3 := C
  show J K M 0 [(0, .ref (n0 + 178)), (1, .int x1), (2, .int x2)] []
  unfold fX12_balance at hf
  refine j_aload_n C 0 dX12_balance_0 rfl rfl ?_
  refine j_aload_n C 0 dX12_balance_1 rfl rfl ?_
  refine j_iload_n C 1 dX12_balance_2 rfl rfl ?_
  obtain ⟨b2, e1, hf⟩ := bd hf
  refine j_callV C 1 lc178 (ent_K _ _ _ _ _ _) rfl (c_X12_isHouse l G n0 e1) gv_RX12_69 ⟨rfl, rfl⟩ (by decide +kernel) ⟨Nat.le_of_ble_eq_true rfl, Nat.le_of_ble_eq_true rfl⟩ rfl rfl (Nat.le_of_ble_eq_true rfl) dX12_balance_3 ?_
  obtain ⟨z7, e14, hf⟩ := bd hf
  have hj15 : J K M 27 [(0, .ref (n0 + 178)), (1, .int x1), (2, .int x2)] [.int z7, .ref (n0 + 178)] := by
    obtain ⟨⟨b9, M10⟩, e8, hf⟩ := bd hf
    replace hf := un2e hf
    refine j_callV C 1 lc178 (ent_K _ _ _ _ _ _) rfl (c_X12_refused l G n0 e8) gv_RX12_35 ⟨rfl, rfl⟩ (by decide +kernel) ⟨Nat.le_of_ble_eq_true rfl, Nat.le_of_ble_eq_true rfl⟩ rfl rfl (Nat.le_of_ble_eq_true rfl) dX12_balance_27 ?_
    refine j_ifz_eq C 37 dX12_balance_30 (by decide) (fun c11 => ?_) (fun c11 => ?_)
    · replace hf := ine c11 hf
      refine j_aload_n C 0 dX12_balance_37 rfl rfl ?_
      refine j_iload_n C 1 dX12_balance_38 rfl rfl ?_
      refine j_iload_n C 2 dX12_balance_39 rfl rfl ?_
      obtain ⟨v13, e12, hf⟩ := bd hf
      refine j_callV C 2 lc178 (ent_K _ _ _ _ _ _) rfl (c_X12_balanceOf l G n0 e12) gv_RX12_169 ⟨rfl, rfl⟩ (by decide +kernel) ⟨Nat.le_of_ble_eq_true rfl, Nat.le_of_ble_eq_true rfl⟩ rfl rfl (Nat.le_of_ble_eq_true rfl) dX12_balance_40 ?_
      obtain ⟨rfl, rfl⟩ := Prod.mk.inj (Option.some.inj hf)
      exact hret _ _ dX12_balance_43
    · replace hf := ip c11 hf
      refine j_iconst C (0 : Int32) rfl dX12_balance_33 ?_
      refine j_goto C 43 dX12_balance_34 (by decide) ?_
      obtain ⟨rfl, rfl⟩ := Prod.mk.inj (Option.some.inj hf)
      exact hret _ _ dX12_balance_43
  clear hf
  have hf := e14
  refine j_ifz_ne C 13 dX12_balance_6 (by decide) (fun c3 => ?_) (fun c3 => ?_)
  · replace hf := ip c3 hf
    refine j_iload_n C 2 dX12_balance_13 rfl rfl ?_
    refine j_iconst C (0 : Int32) rfl dX12_balance_14 ?_
    refine j_iconst C (2 : Int32) rfl dX12_balance_15 ?_
    obtain ⟨b5, e4, hf⟩ := bd hf
    refine j_callS C 3 (c_X12_in l G n0 (M := M) e4) gs_RX12_39 ⟨rfl, rfl⟩ (by decide +kernel) ⟨Nat.le_of_ble_eq_true rfl, Nat.le_of_ble_eq_true rfl⟩ rfl rfl (Nat.le_of_ble_eq_true rfl) dX12_balance_16 ?_
    refine j_ifz_eq C 26 dX12_balance_19 (by decide) (fun c6 => ?_) (fun c6 => ?_)
    · replace hf := ine c6 hf
      refine j_iconst C (2 : Int32) rfl dX12_balance_26 ?_
      cases hf
      refine j_sub [0, 1, 2] rfl ?_
      exact hj15
    · replace hf := ip c6 hf
      refine j_iconst C (0 : Int32) rfl dX12_balance_22 ?_
      refine j_goto C 27 dX12_balance_23 (by decide) ?_
      cases hf
      refine j_sub [0, 1, 2] rfl ?_
      exact hj15
  · replace hf := ine c3 hf
    refine j_iconst C (1 : Int32) rfl dX12_balance_9 ?_
    refine j_goto C 27 dX12_balance_10 (by decide) ?_
    cases hf
    refine j_sub [0, 1, 2] rfl ?_
    exact hj15
def fX12_behind (x1 : Int32) (M : Mem) : Option Int32 :=
  (fX12_next M).bind fun v2 =>
  (ald (M.1 179) 1601 (0 : Int32)).bind fun v3 =>
  (ald (M.1 179) 1601 (0 : Int32)).bind fun v6 =>
  if v6 = 0 then none else
  some (((x1 - v2) + v3) - ((x1 - v2) + v3) / v6 * v6)

def rX12_behind : Room := { frames := 4, cells := 0, slots := 0, locals := 89 }
set_option maxRecDepth 100000 in
set_option maxHeartbeats 4000000 in
theorem c_X12_behind (l : Launch) (G : Gx) (n0 : Nat) {x1 : Int32} {M : Mem} {r : Int32} (hf : fX12_behind x1 M = some r) : Ct l yX12_behind cX12_behind 2 (some .int) rX12_behind G n0 [.ref (n0 + 178), .int x1] M (some (.int r)) M := by
  refine ct_int (cc := cX12_behind) (maxL := 2) rfl (Nat.le_of_ble_eq_true rfl) ?_
  intro K C hret
  have C : Ok K l rX12_behind cX12_behind RX12 G n0 2 := C
  show J K M 0 [(0, .ref (n0 + 178)), (1, .int x1)] []
  unfold fX12_behind at hf
  refine j_iload_n C 1 dX12_behind_0 rfl rfl ?_
  refine j_aload_n C 0 dX12_behind_1 rfl rfl ?_
  obtain ⟨v2, e1, hf⟩ := bd hf
  refine j_callV C 0 lc178 (ent_K _ _ _ _ _ _) rfl (c_X12_next l G n0 e1) gv_RX12_147 ⟨rfl, rfl⟩ (by decide +kernel) ⟨Nat.le_of_ble_eq_true rfl, Nat.le_of_ble_eq_true rfl⟩ rfl rfl (Nat.le_of_ble_eq_true rfl) dX12_behind_2 ?_
  refine j_isub C dX12_behind_5 ?_
  refine j_aload_n C 0 dX12_behind_6 rfl rfl ?_
  refine g_X12_now C tw5_182 lc178 179 rfl dX12_behind_7 ?_
  refine j_iconst C (0 : Int32) rfl dX12_behind_10 ?_
  obtain ⟨v3, e4, hf⟩ := bd hf
  obtain ⟨hx5, e4⟩ := ald_some e4
  refine j_iald C lc179 hx5 e4 dX12_behind_11 ?_
  refine j_iadd C dX12_behind_12 ?_
  refine j_aload_n C 0 dX12_behind_13 rfl rfl ?_
  refine g_X12_now C tw5_182 lc178 179 rfl dX12_behind_14 ?_
  refine j_iconst C (0 : Int32) rfl dX12_behind_17 ?_
  obtain ⟨v6, e7, hf⟩ := bd hf
  obtain ⟨hx8, e7⟩ := ald_some e7
  refine j_iald C lc179 hx8 e7 dX12_behind_18 ?_
  obtain ⟨hd9, hf⟩ := gd hf
  refine j_irem C hd9 dX12_behind_19 ?_
  obtain rfl := Option.some.inj hf
  exact hret _ _ dX12_behind_20
def lX12_placeOf_21 (x1 : Int32) (M : Mem) (v5 : Int32) : Nat → Int32 → Int32 → Option Int32
  | 0, _, _ => none
  | n + 1, a6, a7 =>
  (ald (M.1 179) 1601 (7 : Int32)).bind fun v8 =>
  if v8 ≤ a7 then (some a6)
  else ((ald (M.1 179) 1601 ((41 : Int32) + ((3 : Int32) * a7))).bind fun v12 =>
  (fX12_behind v12 M).bind fun v16 =>
  if v16 < v5 then (lX12_placeOf_21 x1 M v5 n (a6 + (1 : Int32)) (a7 + 1))
  else (if v16 = v5 then (if x1 ≤ a7 then (lX12_placeOf_21 x1 M v5 n (a6 + (0 : Int32)) (a7 + 1))
  else (lX12_placeOf_21 x1 M v5 n (a6 + (1 : Int32)) (a7 + 1)))
  else (lX12_placeOf_21 x1 M v5 n (a6 + (0 : Int32)) (a7 + 1))))

def fX12_placeOf (x1 : Int32) (M : Mem) : Option Int32 :=
  (ald (M.1 179) 1601 ((41 : Int32) + ((3 : Int32) * x1))).bind fun v1 =>
  (fX12_behind v1 M).bind fun v5 =>
  (lX12_placeOf_21 x1 M v5 FUEL (0 : Int32) (0 : Int32)).bind (fun a20 => some a20)

def rX12_placeOf : Room := { frames := 5, cells := 0, slots := 0, locals := 110 }
set_option maxRecDepth 100000 in
set_option maxHeartbeats 4000000 in
theorem c_X12_placeOf (l : Launch) (G : Gx) (n0 : Nat) {x1 : Int32} {M : Mem} {r : Int32} (hf : fX12_placeOf x1 M = some r) : Ct l yX12_placeOf cX12_placeOf 6 (some .int) rX12_placeOf G n0 [.ref (n0 + 178), .int x1] M (some (.int r)) M := by
  refine ct_int (cc := cX12_placeOf) (maxL := 6) rfl (Nat.le_of_ble_eq_true rfl) ?_
  intro K C hret
  have C : Ok K l rX12_placeOf cX12_placeOf RX12 G n0 6 := C
  show J K M 0 [(0, .ref (n0 + 178)), (1, .int x1)] []
  unfold fX12_placeOf at hf
  refine j_aload_n C 0 dX12_placeOf_0 rfl rfl ?_
  refine j_aload_n C 0 dX12_placeOf_1 rfl rfl ?_
  refine g_X12_now C tw5_182 lc178 179 rfl dX12_placeOf_2 ?_
  refine j_bipush C (41 : Int32) rfl dX12_placeOf_5 ?_
  refine j_iconst C (3 : Int32) rfl dX12_placeOf_7 ?_
  refine j_iload_n C 1 dX12_placeOf_8 rfl rfl ?_
  refine j_imul C dX12_placeOf_9 ?_
  refine j_iadd C dX12_placeOf_10 ?_
  obtain ⟨v1, e2, hf⟩ := bd hf
  obtain ⟨hx3, e2⟩ := ald_some e2
  refine j_iald C lc179 hx3 e2 dX12_placeOf_11 ?_
  obtain ⟨v5, e4, hf⟩ := bd hf
  refine j_callV C 1 lc178 (ent_K _ _ _ _ _ _) rfl (c_X12_behind l G n0 e4) gv_RX12_188 ⟨rfl, rfl⟩ (by decide +kernel) ⟨Nat.le_of_ble_eq_true rfl, Nat.le_of_ble_eq_true rfl⟩ rfl rfl (Nat.le_of_ble_eq_true rfl) dX12_placeOf_12 ?_
  refine j_istore_n C [(2, .int v5), (0, .ref (n0 + 178)), (1, .int x1)] dX12_placeOf_15 rfl (Nat.le_of_ble_eq_true rfl) rfl ?_
  refine j_iconst C (0 : Int32) rfl dX12_placeOf_16 ?_
  refine j_istore_n C [(3, .int (0 : Int32)), (2, .int v5), (0, .ref (n0 + 178)), (1, .int x1)] dX12_placeOf_17 rfl (Nat.le_of_ble_eq_true rfl) rfl ?_
  refine j_iconst C (0 : Int32) rfl dX12_placeOf_18 ?_
  refine j_istore C [(4, .int (0 : Int32)), (3, .int (0 : Int32)), (2, .int v5), (0, .ref (n0 + 178)), (1, .int x1)] dX12_placeOf_19 (Nat.le_of_ble_eq_true rfl) rfl ?_
  obtain ⟨a20, e21, hf⟩ := bd hf
  have hx22 : J K M 83 [(3, .int a20)] [] := by
    refine j_iload_n C 0 dX12_placeOf_83 rfl rfl ?_
    obtain rfl := Option.some.inj hf
    exact hret _ _ dX12_placeOf_84
  clear hf
  have hl23 : ∀ (n : Nat) (a6 : Int32) (a7 : Int32), lX12_placeOf_21 x1 M v5 n a6 a7 = some a20 → J K M 21 [(0, .ref (n0 + 178)), (1, .int x1), (2, .int v5), (3, .int a6), (4, .int a7)] [] := by
    intro n
    induction n with
    | zero =>
      intro a6 a7 hf
      exact absurd hf (by rw [lX12_placeOf_21]; exact fun h => by cases h)
    | succ n ih =>
      intro a6 a7 hf
      rw [lX12_placeOf_21] at hf
      refine j_iload C 4 dX12_placeOf_21 rfl ?_
      refine j_aload_n C 0 dX12_placeOf_23 rfl rfl ?_
      refine g_X12_now C tw5_182 lc178 179 rfl dX12_placeOf_24 ?_
      refine j_bipush C (7 : Int32) rfl dX12_placeOf_27 ?_
      obtain ⟨v8, e9, hf⟩ := bd hf
      obtain ⟨hx10, e9⟩ := ald_some e9
      refine j_iald C lc179 hx10 e9 dX12_placeOf_29 ?_
      refine j_icmp_ge C 83 dX12_placeOf_30 (by decide) (fun c11 => ?_) (fun c11 => ?_)
      · replace hf := ip c11 hf
        refine j_sub [3] rfl ?_
        cases hf
        exact hx22
      · replace hf := ine c11 hf
        refine j_aload_n C 0 dX12_placeOf_33 rfl rfl ?_
        refine j_aload_n C 0 dX12_placeOf_34 rfl rfl ?_
        refine g_X12_now C tw5_182 lc178 179 rfl dX12_placeOf_35 ?_
        refine j_bipush C (41 : Int32) rfl dX12_placeOf_38 ?_
        refine j_iconst C (3 : Int32) rfl dX12_placeOf_40 ?_
        refine j_iload C 4 dX12_placeOf_41 rfl ?_
        refine j_imul C dX12_placeOf_43 ?_
        refine j_iadd C dX12_placeOf_44 ?_
        obtain ⟨v12, e13, hf⟩ := bd hf
        obtain ⟨hx14, e13⟩ := ald_some e13
        refine j_iald C lc179 hx14 e13 dX12_placeOf_45 ?_
        obtain ⟨v16, e15, hf⟩ := bd hf
        refine j_callV C 1 lc178 (ent_K _ _ _ _ _ _) rfl (c_X12_behind l G n0 e15) gv_RX12_188 ⟨rfl, rfl⟩ (by decide +kernel) ⟨Nat.le_of_ble_eq_true rfl, Nat.le_of_ble_eq_true rfl⟩ rfl rfl (Nat.le_of_ble_eq_true rfl) dX12_placeOf_46 ?_
        refine j_istore C [(5, .int v16), (0, .ref (n0 + 178)), (1, .int x1), (2, .int v5), (3, .int a6), (4, .int a7)] dX12_placeOf_49 (Nat.le_of_ble_eq_true rfl) rfl ?_
        refine j_iload_n C 4 dX12_placeOf_51 rfl rfl ?_
        refine j_iload C 0 dX12_placeOf_52 rfl ?_
        refine j_iload_n C 3 dX12_placeOf_54 rfl rfl ?_
        refine j_icmp_lt C 70 dX12_placeOf_55 (by decide) (fun c17 => ?_) (fun c17 => ?_)
        · replace hf := ip c17 hf
          refine j_iconst C (1 : Int32) rfl dX12_placeOf_70 ?_
          refine j_goto C 75 dX12_placeOf_71 (by decide) ?_
          refine j_iadd C dX12_placeOf_75 ?_
          refine j_istore_n C [(3, .int (a6 + (1 : Int32))), (5, .int v16), (0, .ref (n0 + 178)), (1, .int x1), (2, .int v5), (4, .int a7)] dX12_placeOf_76 rfl (Nat.le_of_ble_eq_true rfl) rfl ?_
          refine j_iinc C 5 (a7 + 1) [(4, .int (a7 + 1)), (3, .int (a6 + (1 : Int32))), (5, .int v16), (0, .ref (n0 + 178)), (1, .int x1), (2, .int v5)] dX12_placeOf_77 rfl rfl (Nat.le_of_ble_eq_true rfl) rfl ?_
          refine j_goto C 21 dX12_placeOf_80 (by decide) ?_
          refine j_sub [3, 4, 5, 1, 0] rfl ?_
          exact ih _ _ hf
        · replace hf := ine c17 hf
          refine j_iload C 0 dX12_placeOf_58 rfl ?_
          refine j_iload_n C 3 dX12_placeOf_60 rfl rfl ?_
          refine j_icmp_ne C 74 dX12_placeOf_61 (by decide) (fun c18 => ?_) (fun c18 => ?_)
          · replace hf := ine c18 hf
            refine j_iconst C (0 : Int32) rfl dX12_placeOf_74 ?_
            refine j_iadd C dX12_placeOf_75 ?_
            refine j_istore_n C [(3, .int (a6 + (0 : Int32))), (5, .int v16), (0, .ref (n0 + 178)), (1, .int x1), (2, .int v5), (4, .int a7)] dX12_placeOf_76 rfl (Nat.le_of_ble_eq_true rfl) rfl ?_
            refine j_iinc C 5 (a7 + 1) [(4, .int (a7 + 1)), (3, .int (a6 + (0 : Int32))), (5, .int v16), (0, .ref (n0 + 178)), (1, .int x1), (2, .int v5)] dX12_placeOf_77 rfl rfl (Nat.le_of_ble_eq_true rfl) rfl ?_
            refine j_goto C 21 dX12_placeOf_80 (by decide) ?_
            refine j_sub [3, 4, 5, 1, 0] rfl ?_
            exact ih _ _ hf
          · replace hf := ip c18 hf
            refine j_iload C 5 dX12_placeOf_64 rfl ?_
            refine j_iload_n C 2 dX12_placeOf_66 rfl rfl ?_
            refine j_icmp_ge C 74 dX12_placeOf_67 (by decide) (fun c19 => ?_) (fun c19 => ?_)
            · replace hf := ip c19 hf
              refine j_iconst C (0 : Int32) rfl dX12_placeOf_74 ?_
              refine j_iadd C dX12_placeOf_75 ?_
              refine j_istore_n C [(3, .int (a6 + (0 : Int32))), (5, .int v16), (0, .ref (n0 + 178)), (1, .int x1), (2, .int v5), (4, .int a7)] dX12_placeOf_76 rfl (Nat.le_of_ble_eq_true rfl) rfl ?_
              refine j_iinc C 5 (a7 + 1) [(4, .int (a7 + 1)), (3, .int (a6 + (0 : Int32))), (5, .int v16), (0, .ref (n0 + 178)), (1, .int x1), (2, .int v5)] dX12_placeOf_77 rfl rfl (Nat.le_of_ble_eq_true rfl) rfl ?_
              refine j_goto C 21 dX12_placeOf_80 (by decide) ?_
              refine j_sub [3, 4, 5, 1, 0] rfl ?_
              exact ih _ _ hf
            · replace hf := ine c19 hf
              refine j_iconst C (1 : Int32) rfl dX12_placeOf_70 ?_
              refine j_goto C 75 dX12_placeOf_71 (by decide) ?_
              refine j_iadd C dX12_placeOf_75 ?_
              refine j_istore_n C [(3, .int (a6 + (1 : Int32))), (5, .int v16), (0, .ref (n0 + 178)), (1, .int x1), (2, .int v5), (4, .int a7)] dX12_placeOf_76 rfl (Nat.le_of_ble_eq_true rfl) rfl ?_
              refine j_iinc C 5 (a7 + 1) [(4, .int (a7 + 1)), (3, .int (a6 + (1 : Int32))), (5, .int v16), (0, .ref (n0 + 178)), (1, .int x1), (2, .int v5)] dX12_placeOf_77 rfl rfl (Nat.le_of_ble_eq_true rfl) rfl ?_
              refine j_goto C 21 dX12_placeOf_80 (by decide) ?_
              refine j_sub [3, 4, 5, 1, 0] rfl ?_
              exact ih _ _ hf
  refine j_sub [3, 4, 2, 1, 0] rfl ?_
  exact hl23 FUEL (0 : Int32) (0 : Int32) e21
def fX12_batch (x1 : Int32) (x2 : Int32) (M : Mem) : Option (Int32 × Mem) :=
  (if x1 < 0 then (some (1 : Int32))
  else ((fX12_in x2 (0 : Int32) (3 : Int32)).bind fun b3 =>
  if b3 = true then (some (0 : Int32))
  else (some (1 : Int32)))).bind (fun z5 => (fX12_refused z5 M).bind (un2 fun b7 M8 =>
  if b7 = true then (some ((0 : Int32), M8))
  else ((ald (M8.1 179) 1601 (7 : Int32)).bind fun v10 =>
  if x1 < v10 then (if x2 = (3 : Int32) then ((fX12_placeOf x1 M8).bind fun v19 =>
  some (v19, M8))
  else ((ald (M8.1 179) 1601 (((41 : Int32) + ((3 : Int32) * x1)) + x2)).bind fun v15 =>
  some (v15, M8)))
  else (some ((-1 : Int32), M8)))))

def rX12_batch : Room := { frames := 6, cells := 0, slots := 0, locals := 135 }
set_option maxRecDepth 100000 in
set_option maxHeartbeats 4000000 in
theorem c_X12_batch (l : Launch) (G : Gx) (n0 : Nat) {x1 : Int32} {x2 : Int32} {M : Mem} {r : Int32} {M' : Mem} (hf : fX12_batch x1 x2 M = some (r, M')) : Ct l yX12_batch cX12_batch 3 (some .int) rX12_batch G n0 [.ref (n0 + 178), .int x1, .int x2] M (some (.int r)) M' := by
  refine ct_int (cc := cX12_batch) (maxL := 3) rfl (Nat.le_of_ble_eq_true rfl) ?_
  intro K C hret
  have C : Ok K l rX12_batch cX12_batch RX12 G n0 3 := C
  show J K M 0 [(0, .ref (n0 + 178)), (1, .int x1), (2, .int x2)] []
  unfold fX12_batch at hf
  refine j_aload_n C 0 dX12_batch_0 rfl rfl ?_
  refine j_iload_n C 1 dX12_batch_1 rfl rfl ?_
  obtain ⟨z5, e20, hf⟩ := bd hf
  have hj21 : J K M 19 [(0, .ref (n0 + 178)), (1, .int x1), (2, .int x2)] [.int z5, .ref (n0 + 178)] := by
    obtain ⟨⟨b7, M8⟩, e6, hf⟩ := bd hf
    replace hf := un2e hf
    refine j_callV C 1 lc178 (ent_K _ _ _ _ _ _) rfl (c_X12_refused l G n0 e6) gv_RX12_35 ⟨rfl, rfl⟩ (by decide +kernel) ⟨Nat.le_of_ble_eq_true rfl, Nat.le_of_ble_eq_true rfl⟩ rfl rfl (Nat.le_of_ble_eq_true rfl) dX12_batch_19 ?_
    refine j_ifz_eq C 27 dX12_batch_22 (by decide) (fun c9 => ?_) (fun c9 => ?_)
    · replace hf := ine c9 hf
      refine j_iload_n C 1 dX12_batch_27 rfl rfl ?_
      refine j_aload_n C 0 dX12_batch_28 rfl rfl ?_
      refine g_X12_now C tw5_182 lc178 179 rfl dX12_batch_29 ?_
      refine j_bipush C (7 : Int32) rfl dX12_batch_32 ?_
      obtain ⟨v10, e11, hf⟩ := bd hf
      obtain ⟨hx12, e11⟩ := ald_some e11
      refine j_iald C lc179 hx12 e11 dX12_batch_34 ?_
      refine j_icmp_lt C 42 dX12_batch_35 (by decide) (fun c13 => ?_) (fun c13 => ?_)
      · replace hf := ip c13 hf
        refine j_iload_n C 2 dX12_batch_42 rfl rfl ?_
        refine j_iconst C (3 : Int32) rfl dX12_batch_43 ?_
        refine j_icmp_ne C 55 dX12_batch_44 (by decide) (fun c14 => ?_) (fun c14 => ?_)
        · replace hf := ine c14 hf
          refine j_aload_n C 0 dX12_batch_55 rfl rfl ?_
          refine g_X12_now C tw5_182 lc178 179 rfl dX12_batch_56 ?_
          refine j_bipush C (41 : Int32) rfl dX12_batch_59 ?_
          refine j_iconst C (3 : Int32) rfl dX12_batch_61 ?_
          refine j_iload_n C 1 dX12_batch_62 rfl rfl ?_
          refine j_imul C dX12_batch_63 ?_
          refine j_iadd C dX12_batch_64 ?_
          refine j_iload_n C 2 dX12_batch_65 rfl rfl ?_
          refine j_iadd C dX12_batch_66 ?_
          obtain ⟨v15, e16, hf⟩ := bd hf
          obtain ⟨hx17, e16⟩ := ald_some e16
          refine j_iald C lc179 hx17 e16 dX12_batch_67 ?_
          obtain ⟨rfl, rfl⟩ := Prod.mk.inj (Option.some.inj hf)
          exact hret _ _ dX12_batch_68
        · replace hf := ip c14 hf
          refine j_aload_n C 0 dX12_batch_47 rfl rfl ?_
          refine j_iload_n C 1 dX12_batch_48 rfl rfl ?_
          obtain ⟨v19, e18, hf⟩ := bd hf
          refine j_callV C 1 lc178 (ent_K _ _ _ _ _ _) rfl (c_X12_placeOf l G n0 e18) gv_RX12_191 ⟨rfl, rfl⟩ (by decide +kernel) ⟨Nat.le_of_ble_eq_true rfl, Nat.le_of_ble_eq_true rfl⟩ rfl rfl (Nat.le_of_ble_eq_true rfl) dX12_batch_49 ?_
          refine j_goto C 68 dX12_batch_52 (by decide) ?_
          obtain ⟨rfl, rfl⟩ := Prod.mk.inj (Option.some.inj hf)
          exact hret _ _ dX12_batch_68
      · replace hf := ine c13 hf
        refine j_iconst C (-1 : Int32) rfl dX12_batch_38 ?_
        refine j_goto C 68 dX12_batch_39 (by decide) ?_
        obtain ⟨rfl, rfl⟩ := Prod.mk.inj (Option.some.inj hf)
        exact hret _ _ dX12_batch_68
    · replace hf := ip c9 hf
      refine j_iconst C (0 : Int32) rfl dX12_batch_25 ?_
      obtain ⟨rfl, rfl⟩ := Prod.mk.inj (Option.some.inj hf)
      exact hret _ _ dX12_batch_26
  clear hf
  have hf := e20
  refine j_if_lt C 14 dX12_batch_2 (by decide) (fun c1 => ?_) (fun c1 => ?_)
  · replace hf := ip c1 hf
    refine j_iconst C (1 : Int32) rfl dX12_batch_14 ?_
    refine j_goto C 19 dX12_batch_15 (by decide) ?_
    cases hf
    refine j_sub [0, 1, 2] rfl ?_
    exact hj21
  · replace hf := ine c1 hf
    refine j_iload_n C 2 dX12_batch_5 rfl rfl ?_
    refine j_iconst C (0 : Int32) rfl dX12_batch_6 ?_
    refine j_iconst C (3 : Int32) rfl dX12_batch_7 ?_
    obtain ⟨b3, e2, hf⟩ := bd hf
    refine j_callS C 3 (c_X12_in l G n0 (M := M) e2) gs_RX12_39 ⟨rfl, rfl⟩ (by decide +kernel) ⟨Nat.le_of_ble_eq_true rfl, Nat.le_of_ble_eq_true rfl⟩ rfl rfl (Nat.le_of_ble_eq_true rfl) dX12_batch_8 ?_
    refine j_ifz_ne C 18 dX12_batch_11 (by decide) (fun c4 => ?_) (fun c4 => ?_)
    · replace hf := ip c4 hf
      refine j_iconst C (0 : Int32) rfl dX12_batch_18 ?_
      cases hf
      refine j_sub [0, 1, 2] rfl ?_
      exact hj21
    · replace hf := ine c4 hf
      refine j_iconst C (1 : Int32) rfl dX12_batch_14 ?_
      refine j_goto C 19 dX12_batch_15 (by decide) ?_
      cases hf
      refine j_sub [0, 1, 2] rfl ?_
      exact hj21
def fX12_loaf (x1 : Int32) (x2 : Int32) (M : Mem) : Option (Int32 × Mem) :=
  (fX12_firstKept M).bind fun v2 =>
  (ald (M.1 179) 1601 (5 : Int32)).bind fun v3 =>
  (fX12_in x1 v2 (v3 - (1 : Int32))).bind fun b7 =>
  (if b7 = true then ((fX12_in x2 (0 : Int32) (6 : Int32)).bind fun b10 =>
  if b10 = true then (some (0 : Int32))
  else (some (2 : Int32)))
  else (some (1 : Int32))).bind (fun z12 => (fX12_refused z12 M).bind (un2 fun b14 M15 =>
  if b14 = true then (some ((0 : Int32), M15))
  else ((fX12_loafOf x1 x2 M15).bind fun v18 =>
  some (v18, M15))))

def rX12_loaf : Room := { frames := 2, cells := 0, slots := 0, locals := 42 }
set_option maxRecDepth 100000 in
set_option maxHeartbeats 4000000 in
theorem c_X12_loaf (l : Launch) (G : Gx) (n0 : Nat) {x1 : Int32} {x2 : Int32} {M : Mem} {r : Int32} {M' : Mem} (hf : fX12_loaf x1 x2 M = some (r, M')) : Ct l yX12_loaf cX12_loaf 3 (some .int) rX12_loaf G n0 [.ref (n0 + 178), .int x1, .int x2] M (some (.int r)) M' := by
  refine ct_int (cc := cX12_loaf) (maxL := 3) rfl (Nat.le_of_ble_eq_true rfl) ?_
  intro K C hret
  have C : Ok K l rX12_loaf cX12_loaf RX12 G n0 3 := C
  show J K M 0 [(0, .ref (n0 + 178)), (1, .int x1), (2, .int x2)] []
  unfold fX12_loaf at hf
  refine j_aload_n C 0 dX12_loaf_0 rfl rfl ?_
  refine j_iload_n C 1 dX12_loaf_1 rfl rfl ?_
  refine j_aload_n C 0 dX12_loaf_2 rfl rfl ?_
  obtain ⟨v2, e1, hf⟩ := bd hf
  refine j_callV C 0 lc178 (ent_K _ _ _ _ _ _) rfl (c_X12_firstKept l G n0 e1) gv_RX12_110 ⟨rfl, rfl⟩ (by decide +kernel) ⟨Nat.le_of_ble_eq_true rfl, Nat.le_of_ble_eq_true rfl⟩ rfl rfl (Nat.le_of_ble_eq_true rfl) dX12_loaf_3 ?_
  refine j_aload_n C 0 dX12_loaf_6 rfl rfl ?_
  refine g_X12_now C tw5_182 lc178 179 rfl dX12_loaf_7 ?_
  refine j_iconst C (5 : Int32) rfl dX12_loaf_10 ?_
  obtain ⟨v3, e4, hf⟩ := bd hf
  obtain ⟨hx5, e4⟩ := ald_some e4
  refine j_iald C lc179 hx5 e4 dX12_loaf_11 ?_
  refine j_iconst C (1 : Int32) rfl dX12_loaf_12 ?_
  refine j_isub C dX12_loaf_13 ?_
  obtain ⟨b7, e6, hf⟩ := bd hf
  refine j_callS C 3 (c_X12_in l G n0 (M := M) e6) gs_RX12_39 ⟨rfl, rfl⟩ (by decide +kernel) ⟨Nat.le_of_ble_eq_true rfl, Nat.le_of_ble_eq_true rfl⟩ rfl rfl (Nat.le_of_ble_eq_true rfl) dX12_loaf_14 ?_
  obtain ⟨z12, e19, hf⟩ := bd hf
  have hj20 : J K M 39 [(0, .ref (n0 + 178)), (1, .int x1), (2, .int x2)] [.int z12, .ref (n0 + 178)] := by
    obtain ⟨⟨b14, M15⟩, e13, hf⟩ := bd hf
    replace hf := un2e hf
    refine j_callV C 1 lc178 (ent_K _ _ _ _ _ _) rfl (c_X12_refused l G n0 e13) gv_RX12_35 ⟨rfl, rfl⟩ (by decide +kernel) ⟨Nat.le_of_ble_eq_true rfl, Nat.le_of_ble_eq_true rfl⟩ rfl rfl (Nat.le_of_ble_eq_true rfl) dX12_loaf_39 ?_
    refine j_ifz_eq C 49 dX12_loaf_42 (by decide) (fun c16 => ?_) (fun c16 => ?_)
    · replace hf := ine c16 hf
      refine j_aload_n C 0 dX12_loaf_49 rfl rfl ?_
      refine j_iload_n C 1 dX12_loaf_50 rfl rfl ?_
      refine j_iload_n C 2 dX12_loaf_51 rfl rfl ?_
      obtain ⟨v18, e17, hf⟩ := bd hf
      refine j_callV C 2 lc178 (ent_K _ _ _ _ _ _) rfl (c_X12_loafOf l G n0 e17) gv_RX12_113 ⟨rfl, rfl⟩ (by decide +kernel) ⟨Nat.le_of_ble_eq_true rfl, Nat.le_of_ble_eq_true rfl⟩ rfl rfl (Nat.le_of_ble_eq_true rfl) dX12_loaf_52 ?_
      obtain ⟨rfl, rfl⟩ := Prod.mk.inj (Option.some.inj hf)
      exact hret _ _ dX12_loaf_55
    · replace hf := ip c16 hf
      refine j_iconst C (0 : Int32) rfl dX12_loaf_45 ?_
      refine j_goto C 55 dX12_loaf_46 (by decide) ?_
      obtain ⟨rfl, rfl⟩ := Prod.mk.inj (Option.some.inj hf)
      exact hret _ _ dX12_loaf_55
  clear hf
  have hf := e19
  refine j_ifz_ne C 24 dX12_loaf_17 (by decide) (fun c8 => ?_) (fun c8 => ?_)
  · replace hf := ip c8 hf
    refine j_iload_n C 2 dX12_loaf_24 rfl rfl ?_
    refine j_iconst C (0 : Int32) rfl dX12_loaf_25 ?_
    refine j_bipush C (6 : Int32) rfl dX12_loaf_26 ?_
    obtain ⟨b10, e9, hf⟩ := bd hf
    refine j_callS C 3 (c_X12_in l G n0 (M := M) e9) gs_RX12_39 ⟨rfl, rfl⟩ (by decide +kernel) ⟨Nat.le_of_ble_eq_true rfl, Nat.le_of_ble_eq_true rfl⟩ rfl rfl (Nat.le_of_ble_eq_true rfl) dX12_loaf_28 ?_
    refine j_ifz_eq C 38 dX12_loaf_31 (by decide) (fun c11 => ?_) (fun c11 => ?_)
    · replace hf := ine c11 hf
      refine j_iconst C (2 : Int32) rfl dX12_loaf_38 ?_
      cases hf
      refine j_sub [0, 1, 2] rfl ?_
      exact hj20
    · replace hf := ip c11 hf
      refine j_iconst C (0 : Int32) rfl dX12_loaf_34 ?_
      refine j_goto C 39 dX12_loaf_35 (by decide) ?_
      cases hf
      refine j_sub [0, 1, 2] rfl ?_
      exact hj20
  · replace hf := ine c8 hf
    refine j_iconst C (1 : Int32) rfl dX12_loaf_20 ?_
    refine j_goto C 39 dX12_loaf_21 (by decide) ?_
    cases hf
    refine j_sub [0, 1, 2] rfl ?_
    exact hj20
def fX12_load (x1 : Int32) (x2 : Int32) (M : Mem) : Option (Int32 × Mem) :=
  (if x1 < 0 then (some (1 : Int32))
  else ((fX12_in x2 (0 : Int32) (4 : Int32)).bind fun b3 =>
  if b3 = true then (some (0 : Int32))
  else (some (1 : Int32)))).bind (fun z5 => (fX12_refused z5 M).bind (un2 fun b7 M8 =>
  if b7 = true then (some ((0 : Int32), M8))
  else ((ald (M8.1 179) 1601 (8 : Int32)).bind fun v10 =>
  if x1 < v10 then ((ald (M8.1 179) 1601 (((101 : Int32) + ((5 : Int32) * x1)) + x2)).bind fun v14 =>
  some (v14, M8))
  else (some ((-1 : Int32), M8)))))

def rX12_load : Room := { frames := 1, cells := 0, slots := 0, locals := 22 }
set_option maxRecDepth 100000 in
set_option maxHeartbeats 4000000 in
theorem c_X12_load (l : Launch) (G : Gx) (n0 : Nat) {x1 : Int32} {x2 : Int32} {M : Mem} {r : Int32} {M' : Mem} (hf : fX12_load x1 x2 M = some (r, M')) : Ct l yX12_load cX12_load 3 (some .int) rX12_load G n0 [.ref (n0 + 178), .int x1, .int x2] M (some (.int r)) M' := by
  refine ct_int (cc := cX12_load) (maxL := 3) rfl (Nat.le_of_ble_eq_true rfl) ?_
  intro K C hret
  have C : Ok K l rX12_load cX12_load RX12 G n0 3 := C
  show J K M 0 [(0, .ref (n0 + 178)), (1, .int x1), (2, .int x2)] []
  unfold fX12_load at hf
  refine j_aload_n C 0 dX12_load_0 rfl rfl ?_
  refine j_iload_n C 1 dX12_load_1 rfl rfl ?_
  obtain ⟨z5, e17, hf⟩ := bd hf
  have hj18 : J K M 19 [(0, .ref (n0 + 178)), (1, .int x1), (2, .int x2)] [.int z5, .ref (n0 + 178)] := by
    obtain ⟨⟨b7, M8⟩, e6, hf⟩ := bd hf
    replace hf := un2e hf
    refine j_callV C 1 lc178 (ent_K _ _ _ _ _ _) rfl (c_X12_refused l G n0 e6) gv_RX12_35 ⟨rfl, rfl⟩ (by decide +kernel) ⟨Nat.le_of_ble_eq_true rfl, Nat.le_of_ble_eq_true rfl⟩ rfl rfl (Nat.le_of_ble_eq_true rfl) dX12_load_19 ?_
    refine j_ifz_eq C 27 dX12_load_22 (by decide) (fun c9 => ?_) (fun c9 => ?_)
    · replace hf := ine c9 hf
      refine j_iload_n C 1 dX12_load_27 rfl rfl ?_
      refine j_aload_n C 0 dX12_load_28 rfl rfl ?_
      refine g_X12_now C tw5_182 lc178 179 rfl dX12_load_29 ?_
      refine j_bipush C (8 : Int32) rfl dX12_load_32 ?_
      obtain ⟨v10, e11, hf⟩ := bd hf
      obtain ⟨hx12, e11⟩ := ald_some e11
      refine j_iald C lc179 hx12 e11 dX12_load_34 ?_
      refine j_icmp_lt C 42 dX12_load_35 (by decide) (fun c13 => ?_) (fun c13 => ?_)
      · replace hf := ip c13 hf
        refine j_aload_n C 0 dX12_load_42 rfl rfl ?_
        refine g_X12_now C tw5_182 lc178 179 rfl dX12_load_43 ?_
        refine j_bipush C (101 : Int32) rfl dX12_load_46 ?_
        refine j_iconst C (5 : Int32) rfl dX12_load_48 ?_
        refine j_iload_n C 1 dX12_load_49 rfl rfl ?_
        refine j_imul C dX12_load_50 ?_
        refine j_iadd C dX12_load_51 ?_
        refine j_iload_n C 2 dX12_load_52 rfl rfl ?_
        refine j_iadd C dX12_load_53 ?_
        obtain ⟨v14, e15, hf⟩ := bd hf
        obtain ⟨hx16, e15⟩ := ald_some e15
        refine j_iald C lc179 hx16 e15 dX12_load_54 ?_
        obtain ⟨rfl, rfl⟩ := Prod.mk.inj (Option.some.inj hf)
        exact hret _ _ dX12_load_55
      · replace hf := ine c13 hf
        refine j_iconst C (-1 : Int32) rfl dX12_load_38 ?_
        refine j_goto C 55 dX12_load_39 (by decide) ?_
        obtain ⟨rfl, rfl⟩ := Prod.mk.inj (Option.some.inj hf)
        exact hret _ _ dX12_load_55
    · replace hf := ip c9 hf
      refine j_iconst C (0 : Int32) rfl dX12_load_25 ?_
      obtain ⟨rfl, rfl⟩ := Prod.mk.inj (Option.some.inj hf)
      exact hret _ _ dX12_load_26
  clear hf
  have hf := e17
  refine j_if_lt C 14 dX12_load_2 (by decide) (fun c1 => ?_) (fun c1 => ?_)
  · replace hf := ip c1 hf
    refine j_iconst C (1 : Int32) rfl dX12_load_14 ?_
    refine j_goto C 19 dX12_load_15 (by decide) ?_
    cases hf
    refine j_sub [0, 1, 2] rfl ?_
    exact hj18
  · replace hf := ine c1 hf
    refine j_iload_n C 2 dX12_load_5 rfl rfl ?_
    refine j_iconst C (0 : Int32) rfl dX12_load_6 ?_
    refine j_iconst C (4 : Int32) rfl dX12_load_7 ?_
    obtain ⟨b3, e2, hf⟩ := bd hf
    refine j_callS C 3 (c_X12_in l G n0 (M := M) e2) gs_RX12_39 ⟨rfl, rfl⟩ (by decide +kernel) ⟨Nat.le_of_ble_eq_true rfl, Nat.le_of_ble_eq_true rfl⟩ rfl rfl (Nat.le_of_ble_eq_true rfl) dX12_load_8 ?_
    refine j_ifz_ne C 18 dX12_load_11 (by decide) (fun c4 => ?_) (fun c4 => ?_)
    · replace hf := ip c4 hf
      refine j_iconst C (0 : Int32) rfl dX12_load_18 ?_
      cases hf
      refine j_sub [0, 1, 2] rfl ?_
      exact hj18
    · replace hf := ine c4 hf
      refine j_iconst C (1 : Int32) rfl dX12_load_14 ?_
      refine j_goto C 19 dX12_load_15 (by decide) ?_
      cases hf
      refine j_sub [0, 1, 2] rfl ?_
      exact hj18
