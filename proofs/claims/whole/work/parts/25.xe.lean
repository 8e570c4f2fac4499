def lX12_keptWith_7 (b1 : Bool) (M : Mem) : Nat → Int32 → Int32 → Option Int32
  | 0, _, _ => none
  | n + 1, a3, a4 =>
  (ald (M.1 179) 1601 (5 : Int32)).bind fun v5 =>
  if v5 ≤ a4 then (some a3)
  else ((fX12_loafOf a4 (5 : Int32) M).bind fun v10 =>
  if b1 = true then (if v10 = (8 : Int32) then (lX12_keptWith_7 b1 M n (a3 + (1 : Int32)) (a4 + 1))
  else (lX12_keptWith_7 b1 M n (a3 + (0 : Int32)) (a4 + 1)))
  else ((fX12_in v10 (0 : Int32) (7 : Int32)).bind fun b13 =>
  if b13 = true then ((fX12_loafOf a4 (0 : Int32) M).bind fun v16 =>
  if v10 = v16 then (lX12_keptWith_7 b1 M n (a3 + (0 : Int32)) (a4 + 1))
  else (lX12_keptWith_7 b1 M n (a3 + (1 : Int32)) (a4 + 1)))
  else (lX12_keptWith_7 b1 M n (a3 + (0 : Int32)) (a4 + 1))))

def fX12_keptWith (b1 : Bool) (M : Mem) : Option Int32 :=
  (fX12_firstKept M).bind fun v2 =>
  (lX12_keptWith_7 b1 M FUEL (0 : Int32) v2).bind (fun a19 => some a19)

def rX12_keptWith : Room := { frames := 2, cells := 0, slots := 0, locals := 42 }
set_option maxRecDepth 100000 in
set_option maxHeartbeats 4000000 in
theorem c_X12_keptWith (l : Launch) (G : Gx) (n0 : Nat) {b1 : Bool} {M : Mem} {r : Int32} (hf : fX12_keptWith b1 M = some r) : Ct l yX12_keptWith cX12_keptWith 5 (some .int) rX12_keptWith G n0 [.ref (n0 + 178), .int (bI b1)] M (some (.int r)) M := by
  refine ct_int (cc := cX12_keptWith) (maxL := 5) rfl (Nat.le_of_ble_eq_true rfl) ?_
  intro K C hret
  have C : Ok K l rX12_keptWith cX12_keptWith RX12 G n0 5 := C
  show J K M 0 [(0, .ref (n0 + 178)), (1, .int (bI b1))] []
  unfold fX12_keptWith at hf
  refine j_iconst C (0 : Int32) rfl dX12_keptWith_0 ?_
  refine j_istore_n C [(2, .int (0 : Int32)), (0, .ref (n0 + 178)), (1, .int (bI b1))] dX12_keptWith_1 rfl (Nat.le_of_ble_eq_true rfl) rfl ?_
  refine j_aload_n C 1 dX12_keptWith_2 rfl rfl ?_
  obtain ⟨v2, e1, hf⟩ := bd hf
  refine j_callV C 0 lc178 (ent_K _ _ _ _ _ _) rfl (c_X12_firstKept l G n0 e1) gv_RX12_110 ⟨rfl, rfl⟩ (by decide +kernel) ⟨Nat.le_of_ble_eq_true rfl, Nat.le_of_ble_eq_true rfl⟩ rfl rfl (Nat.le_of_ble_eq_true rfl) dX12_keptWith_3 ?_
  refine j_istore_n C [(3, .int v2), (2, .int (0 : Int32)), (0, .ref (n0 + 178)), (1, .int (bI b1))] dX12_keptWith_6 rfl (Nat.le_of_ble_eq_true rfl) rfl ?_
  obtain ⟨a19, e20, hf⟩ := bd hf
  have hx21 : J K M 80 [(2, .int a19)] [] := by
    refine j_iload_n C 0 dX12_keptWith_80 rfl rfl ?_
    obtain rfl := Option.some.inj hf
    exact hret _ _ dX12_keptWith_81
  clear hf
  have hl22 : ∀ (n : Nat) (a3 : Int32) (a4 : Int32), lX12_keptWith_7 b1 M n a3 a4 = some a19 → J K M 7 [(0, .ref (n0 + 178)), (1, .int (bI b1)), (2, .int a3), (3, .int a4)] [] := by
    intro n
    induction n with
    | zero =>
      intro a3 a4 hf
      exact absurd hf (by rw [lX12_keptWith_7]; exact fun h => by cases h)
    | succ n ih =>
      intro a3 a4 hf
      rw [lX12_keptWith_7] at hf
      refine j_iload_n C 3 dX12_keptWith_7 rfl rfl ?_
      refine j_aload_n C 0 dX12_keptWith_8 rfl rfl ?_
      refine g_X12_now C tw5_182 lc178 179 rfl dX12_keptWith_9 ?_
      refine j_iconst C (5 : Int32) rfl dX12_keptWith_12 ?_
      obtain ⟨v5, e6, hf⟩ := bd hf
      obtain ⟨hx7, e6⟩ := ald_some e6
      refine j_iald C lc179 hx7 e6 dX12_keptWith_13 ?_
      refine j_icmp_ge C 80 dX12_keptWith_14 (by decide) (fun c8 => ?_) (fun c8 => ?_)
      · replace hf := ip c8 hf
        refine j_sub [2] rfl ?_
        cases hf
        exact hx21
      · replace hf := ine c8 hf
        refine j_aload_n C 0 dX12_keptWith_17 rfl rfl ?_
        refine j_iload_n C 3 dX12_keptWith_18 rfl rfl ?_
        refine j_iconst C (5 : Int32) rfl dX12_keptWith_19 ?_
        obtain ⟨v10, e9, hf⟩ := bd hf
        refine j_callV C 2 lc178 (ent_K _ _ _ _ _ _) rfl (c_X12_loafOf l G n0 e9) gv_RX12_113 ⟨rfl, rfl⟩ (by decide +kernel) ⟨Nat.le_of_ble_eq_true rfl, Nat.le_of_ble_eq_true rfl⟩ rfl rfl (Nat.le_of_ble_eq_true rfl) dX12_keptWith_20 ?_
        refine j_istore C [(4, .int v10), (0, .ref (n0 + 178)), (1, .int (bI b1)), (2, .int a3), (3, .int a4)] dX12_keptWith_23 (Nat.le_of_ble_eq_true rfl) rfl ?_
        refine j_iload_n C 3 dX12_keptWith_25 rfl rfl ?_
        refine j_iload_n C 2 dX12_keptWith_26 rfl rfl ?_
        refine j_ifz_eq C 45 dX12_keptWith_27 (by decide) (fun c11 => ?_) (fun c11 => ?_)
        · replace hf := ine c11 hf
          refine j_iload C 0 dX12_keptWith_45 rfl ?_
          refine j_iconst C (0 : Int32) rfl dX12_keptWith_47 ?_
          refine j_bipush C (7 : Int32) rfl dX12_keptWith_48 ?_
          obtain ⟨b13, e12, hf⟩ := bd hf
          refine j_callS C 3 (c_X12_in l G n0 (M := M) e12) gs_RX12_39 ⟨rfl, rfl⟩ (by decide +kernel) ⟨Nat.le_of_ble_eq_true rfl, Nat.le_of_ble_eq_true rfl⟩ rfl rfl (Nat.le_of_ble_eq_true rfl) dX12_keptWith_50 ?_
          refine j_ifz_eq C 71 dX12_keptWith_53 (by decide) (fun c14 => ?_) (fun c14 => ?_)
          · replace hf := ine c14 hf
            refine j_iconst C (0 : Int32) rfl dX12_keptWith_71 ?_
            refine j_iadd C dX12_keptWith_72 ?_
            refine j_istore_n C [(2, .int (a3 + (0 : Int32))), (4, .int v10), (0, .ref (n0 + 178)), (1, .int (bI b1)), (3, .int a4)] dX12_keptWith_73 rfl (Nat.le_of_ble_eq_true rfl) rfl ?_
            refine j_iinc C 4 (a4 + 1) [(3, .int (a4 + 1)), (2, .int (a3 + (0 : Int32))), (4, .int v10), (0, .ref (n0 + 178)), (1, .int (bI b1))] dX12_keptWith_74 rfl rfl (Nat.le_of_ble_eq_true rfl) rfl ?_
            refine j_goto C 7 dX12_keptWith_77 (by decide) ?_
            refine j_sub [3, 4, 1, 0] rfl ?_
            exact ih _ _ hf
          · replace hf := ip c14 hf
            refine j_iload C 0 dX12_keptWith_56 rfl ?_
            refine j_aload_n C 1 dX12_keptWith_58 rfl rfl ?_
            refine j_iload_n C 4 dX12_keptWith_59 rfl rfl ?_
            refine j_iconst C (0 : Int32) rfl dX12_keptWith_60 ?_
            obtain ⟨v16, e15, hf⟩ := bd hf
            refine j_callV C 2 lc178 (ent_K _ _ _ _ _ _) rfl (c_X12_loafOf l G n0 e15) gv_RX12_113 ⟨rfl, rfl⟩ (by decide +kernel) ⟨Nat.le_of_ble_eq_true rfl, Nat.le_of_ble_eq_true rfl⟩ rfl rfl (Nat.le_of_ble_eq_true rfl) dX12_keptWith_61 ?_
            refine j_icmp_eq C 71 dX12_keptWith_64 (by decide) (fun c17 => ?_) (fun c17 => ?_)
            · replace hf := ip c17 hf
              refine j_iconst C (0 : Int32) rfl dX12_keptWith_71 ?_
              refine j_iadd C dX12_keptWith_72 ?_
              refine j_istore_n C [(2, .int (a3 + (0 : Int32))), (4, .int v10), (0, .ref (n0 + 178)), (1, .int (bI b1)), (3, .int a4)] dX12_keptWith_73 rfl (Nat.le_of_ble_eq_true rfl) rfl ?_
              refine j_iinc C 4 (a4 + 1) [(3, .int (a4 + 1)), (2, .int (a3 + (0 : Int32))), (4, .int v10), (0, .ref (n0 + 178)), (1, .int (bI b1))] dX12_keptWith_74 rfl rfl (Nat.le_of_ble_eq_true rfl) rfl ?_
              refine j_goto C 7 dX12_keptWith_77 (by decide) ?_
              refine j_sub [3, 4, 1, 0] rfl ?_
              exact ih _ _ hf
            · replace hf := ine c17 hf
              refine j_iconst C (1 : Int32) rfl dX12_keptWith_67 ?_
              refine j_goto C 72 dX12_keptWith_68 (by decide) ?_
              refine j_iadd C dX12_keptWith_72 ?_
              refine j_istore_n C [(2, .int (a3 + (1 : Int32))), (4, .int v10), (0, .ref (n0 + 178)), (1, .int (bI b1)), (3, .int a4)] dX12_keptWith_73 rfl (Nat.le_of_ble_eq_true rfl) rfl ?_
              refine j_iinc C 4 (a4 + 1) [(3, .int (a4 + 1)), (2, .int (a3 + (1 : Int32))), (4, .int v10), (0, .ref (n0 + 178)), (1, .int (bI b1))] dX12_keptWith_74 rfl rfl (Nat.le_of_ble_eq_true rfl) rfl ?_
              refine j_goto C 7 dX12_keptWith_77 (by decide) ?_
              refine j_sub [3, 4, 1, 0] rfl ?_
              exact ih _ _ hf
        · replace hf := ip c11 hf
          refine j_iload C 0 dX12_keptWith_30 rfl ?_
          refine j_bipush C (8 : Int32) rfl dX12_keptWith_32 ?_
          refine j_icmp_ne C 41 dX12_keptWith_34 (by decide) (fun c18 => ?_) (fun c18 => ?_)
          · replace hf := ine c18 hf
            refine j_iconst C (0 : Int32) rfl dX12_keptWith_41 ?_
            refine j_goto C 72 dX12_keptWith_42 (by decide) ?_
            refine j_iadd C dX12_keptWith_72 ?_
            refine j_istore_n C [(2, .int (a3 + (0 : Int32))), (4, .int v10), (0, .ref (n0 + 178)), (1, .int (bI b1)), (3, .int a4)] dX12_keptWith_73 rfl (Nat.le_of_ble_eq_true rfl) rfl ?_
            refine j_iinc C 4 (a4 + 1) [(3, .int (a4 + 1)), (2, .int (a3 + (0 : Int32))), (4, .int v10), (0, .ref (n0 + 178)), (1, .int (bI b1))] dX12_keptWith_74 rfl rfl (Nat.le_of_ble_eq_true rfl) rfl ?_
            refine j_goto C 7 dX12_keptWith_77 (by decide) ?_
            refine j_sub [3, 4, 1, 0] rfl ?_
            exact ih _ _ hf
          · replace hf := ip c18 hf
            refine j_iconst C (1 : Int32) rfl dX12_keptWith_37 ?_
            refine j_goto C 72 dX12_keptWith_38 (by decide) ?_
            refine j_iadd C dX12_keptWith_72 ?_
            refine j_istore_n C [(2, .int (a3 + (1 : Int32))), (4, .int v10), (0, .ref (n0 + 178)), (1, .int (bI b1)), (3, .int a4)] dX12_keptWith_73 rfl (Nat.le_of_ble_eq_true rfl) rfl ?_
            refine j_iinc C 4 (a4 + 1) [(3, .int (a4 + 1)), (2, .int (a3 + (1 : Int32))), (4, .int v10), (0, .ref (n0 + 178)), (1, .int (bI b1))] dX12_keptWith_74 rfl rfl (Nat.le_of_ble_eq_true rfl) rfl ?_
            refine j_goto C 7 dX12_keptWith_77 (by decide) ?_
            refine j_sub [3, 4, 1, 0] rfl ?_
            exact ih _ _ hf
  refine j_sub [2, 3, 1, 0] rfl ?_
  exact hl22 FUEL (0 : Int32) v2 e20
def fX12_tellWhole (x1 : Int32) (M : Mem) : Option Int32 :=
  if x1 = 0 then ((ald (M.1 179) 1601 (0 : Int32)).bind fun v1 =>
  some v1)
  else if x1 = 1 then ((ald (M.1 179) 1601 (3 : Int32)).bind fun v4 =>
  some v4)
  else if x1 = 2 then ((ald (M.1 179) 1601 (2 : Int32)).bind fun v7 =>
  some v7)
  else if x1 = 3 then ((ald (M.1 179) 1601 (7 : Int32)).bind fun v10 =>
  some v10)
  else if x1 = 4 then ((fX12_sum (1 : Int32) M).bind fun v14 =>
  some v14)
  else if x1 = 5 then ((fX12_sum (2 : Int32) M).bind fun v16 =>
  some v16)
  else if x1 = 6 then ((ald (M.1 179) 1601 (4 : Int32)).bind fun v17 =>
  some v17)
  else if x1 = 7 then ((ald (M.1 179) 1601 (5 : Int32)).bind fun v20 =>
  some v20)
  else if x1 = 8 then ((ald (M.1 179) 1601 (6 : Int32)).bind fun v23 =>
  some v23)
  else if x1 = 9 then ((ald (M.1 179) 1601 (5 : Int32)).bind fun v26 =>
  (fX12_firstKept M).bind fun v30 =>
  some (v26 - v30))
  else if x1 = 10 then ((fX12_keptWith true M).bind fun v32 =>
  some v32)
  else if x1 = 11 then ((fX12_keptWith false M).bind fun v34 =>
  some v34)
  else if x1 = 12 then ((ald (M.1 179) 1601 (8 : Int32)).bind fun v35 =>
  some v35)
  else ((ald (M.1 179) 1601 (1 : Int32)).bind fun v38 =>
  some v38)

def rX12_tellWhole : Room := { frames := 3, cells := 0, slots := 0, locals := 66 }
set_option maxRecDepth 100000 in
set_option maxHeartbeats 4000000 in
theorem c_X12_tellWhole (l : Launch) (G : Gx) (n0 : Nat) {x1 : Int32} {M : Mem} {r : Int32} (hf : fX12_tellWhole x1 M = some r) : Ct l yX12_tellWhole cX12_tellWhole 2 (some .int) rX12_tellWhole G n0 [.ref (n0 + 178), .int x1] M (some (.int r)) M := by
  refine ct_int (cc := cX12_tellWhole) (maxL := 2) rfl (Nat.le_of_ble_eq_true rfl) ?_
  intro K C hret
  have C : Ok K l rX12_tellWhole cX12_tellWhole RX12 G n0 2 := C
  show J K M 0 [(0, .ref (n0 + 178)), (1, .int x1)] []
  unfold fX12_tellWhole at hf
  refine j_iload_n C 1 dX12_tellWhole_0 rfl rfl ?_
  by_cases c41_0 : x1 = 0
  · replace hf := ip c41_0 hf
    refine j_tsw C 68 c41_0 dX12_tellWhole_1 (by decide) rfl (by decide) ?_
    refine j_aload_n C 0 dX12_tellWhole_68 rfl rfl ?_
    refine g_X12_now C tw5_182 lc178 179 rfl dX12_tellWhole_69 ?_
    refine j_iconst C (0 : Int32) rfl dX12_tellWhole_72 ?_
    obtain ⟨v1, e2, hf⟩ := bd hf
    obtain ⟨hx3, e2⟩ := ald_some e2
    refine j_iald C lc179 hx3 e2 dX12_tellWhole_73 ?_
    obtain rfl := Option.some.inj hf
    exact hret _ _ dX12_tellWhole_74
  · replace hf := ine c41_0 hf
    by_cases c41_1 : x1 = 1
    · replace hf := ip c41_1 hf
      refine j_tsw C 75 c41_1 dX12_tellWhole_1 (by decide) rfl (by decide) ?_
      refine j_aload_n C 0 dX12_tellWhole_75 rfl rfl ?_
      refine g_X12_now C tw5_182 lc178 179 rfl dX12_tellWhole_76 ?_
      refine j_iconst C (3 : Int32) rfl dX12_tellWhole_79 ?_
      obtain ⟨v4, e5, hf⟩ := bd hf
      obtain ⟨hx6, e5⟩ := ald_some e5
      refine j_iald C lc179 hx6 e5 dX12_tellWhole_80 ?_
      obtain rfl := Option.some.inj hf
      exact hret _ _ dX12_tellWhole_81
    · replace hf := ine c41_1 hf
      by_cases c41_2 : x1 = 2
      · replace hf := ip c41_2 hf
        refine j_tsw C 82 c41_2 dX12_tellWhole_1 (by decide) rfl (by decide) ?_
        refine j_aload_n C 0 dX12_tellWhole_82 rfl rfl ?_
        refine g_X12_now C tw5_182 lc178 179 rfl dX12_tellWhole_83 ?_
        refine j_iconst C (2 : Int32) rfl dX12_tellWhole_86 ?_
        obtain ⟨v7, e8, hf⟩ := bd hf
        obtain ⟨hx9, e8⟩ := ald_some e8
        refine j_iald C lc179 hx9 e8 dX12_tellWhole_87 ?_
        obtain rfl := Option.some.inj hf
        exact hret _ _ dX12_tellWhole_88
      · replace hf := ine c41_2 hf
        by_cases c41_3 : x1 = 3
        · replace hf := ip c41_3 hf
          refine j_tsw C 89 c41_3 dX12_tellWhole_1 (by decide) rfl (by decide) ?_
          refine j_aload_n C 0 dX12_tellWhole_89 rfl rfl ?_
          refine g_X12_now C tw5_182 lc178 179 rfl dX12_tellWhole_90 ?_
          refine j_bipush C (7 : Int32) rfl dX12_tellWhole_93 ?_
          obtain ⟨v10, e11, hf⟩ := bd hf
          obtain ⟨hx12, e11⟩ := ald_some e11
          refine j_iald C lc179 hx12 e11 dX12_tellWhole_95 ?_
          obtain rfl := Option.some.inj hf
          exact hret _ _ dX12_tellWhole_96
        · replace hf := ine c41_3 hf
          by_cases c41_4 : x1 = 4
          · replace hf := ip c41_4 hf
            refine j_tsw C 97 c41_4 dX12_tellWhole_1 (by decide) rfl (by decide) ?_
            refine j_aload_n C 0 dX12_tellWhole_97 rfl rfl ?_
            refine j_iconst C (1 : Int32) rfl dX12_tellWhole_98 ?_
            obtain ⟨v14, e13, hf⟩ := bd hf
            refine j_callV C 1 lc178 (ent_K _ _ _ _ _ _) rfl (c_X12_sum l G n0 e13) gv_RX12_76 ⟨rfl, rfl⟩ (by decide +kernel) ⟨Nat.le_of_ble_eq_true rfl, Nat.le_of_ble_eq_true rfl⟩ rfl rfl (Nat.le_of_ble_eq_true rfl) dX12_tellWhole_99 ?_
            obtain rfl := Option.some.inj hf
            exact hret _ _ dX12_tellWhole_102
          · replace hf := ine c41_4 hf
            by_cases c41_5 : x1 = 5
            · replace hf := ip c41_5 hf
              refine j_tsw C 103 c41_5 dX12_tellWhole_1 (by decide) rfl (by decide) ?_
              refine j_aload_n C 0 dX12_tellWhole_103 rfl rfl ?_
              refine j_iconst C (2 : Int32) rfl dX12_tellWhole_104 ?_
              obtain ⟨v16, e15, hf⟩ := bd hf
              refine j_callV C 1 lc178 (ent_K _ _ _ _ _ _) rfl (c_X12_sum l G n0 e15) gv_RX12_76 ⟨rfl, rfl⟩ (by decide +kernel) ⟨Nat.le_of_ble_eq_true rfl, Nat.le_of_ble_eq_true rfl⟩ rfl rfl (Nat.le_of_ble_eq_true rfl) dX12_tellWhole_105 ?_
              obtain rfl := Option.some.inj hf
              exact hret _ _ dX12_tellWhole_108
            · replace hf := ine c41_5 hf
              by_cases c41_6 : x1 = 6
              · replace hf := ip c41_6 hf
                refine j_tsw C 109 c41_6 dX12_tellWhole_1 (by decide) rfl (by decide) ?_
                refine j_aload_n C 0 dX12_tellWhole_109 rfl rfl ?_
                refine g_X12_now C tw5_182 lc178 179 rfl dX12_tellWhole_110 ?_
                refine j_iconst C (4 : Int32) rfl dX12_tellWhole_113 ?_
                obtain ⟨v17, e18, hf⟩ := bd hf
                obtain ⟨hx19, e18⟩ := ald_some e18
                refine j_iald C lc179 hx19 e18 dX12_tellWhole_114 ?_
                obtain rfl := Option.some.inj hf
                exact hret _ _ dX12_tellWhole_115
              · replace hf := ine c41_6 hf
                by_cases c41_7 : x1 = 7
                · replace hf := ip c41_7 hf
                  refine j_tsw C 116 c41_7 dX12_tellWhole_1 (by decide) rfl (by decide) ?_
                  refine j_aload_n C 0 dX12_tellWhole_116 rfl rfl ?_
                  refine g_X12_now C tw5_182 lc178 179 rfl dX12_tellWhole_117 ?_
                  refine j_iconst C (5 : Int32) rfl dX12_tellWhole_120 ?_
                  obtain ⟨v20, e21, hf⟩ := bd hf
                  obtain ⟨hx22, e21⟩ := ald_some e21
                  refine j_iald C lc179 hx22 e21 dX12_tellWhole_121 ?_
                  obtain rfl := Option.some.inj hf
                  exact hret _ _ dX12_tellWhole_122
                · replace hf := ine c41_7 hf
                  by_cases c41_8 : x1 = 8
                  · replace hf := ip c41_8 hf
                    refine j_tsw C 123 c41_8 dX12_tellWhole_1 (by decide) rfl (by decide) ?_
                    refine j_aload_n C 0 dX12_tellWhole_123 rfl rfl ?_
                    refine g_X12_now C tw5_182 lc178 179 rfl dX12_tellWhole_124 ?_
                    refine j_bipush C (6 : Int32) rfl dX12_tellWhole_127 ?_
                    obtain ⟨v23, e24, hf⟩ := bd hf
                    obtain ⟨hx25, e24⟩ := ald_some e24
                    refine j_iald C lc179 hx25 e24 dX12_tellWhole_129 ?_
                    obtain rfl := Option.some.inj hf
                    exact hret _ _ dX12_tellWhole_130
                  · replace hf := ine c41_8 hf
                    by_cases c41_9 : x1 = 9
                    · replace hf := ip c41_9 hf
                      refine j_tsw C 131 c41_9 dX12_tellWhole_1 (by decide) rfl (by decide) ?_
                      refine j_aload_n C 0 dX12_tellWhole_131 rfl rfl ?_
                      refine g_X12_now C tw5_182 lc178 179 rfl dX12_tellWhole_132 ?_
                      refine j_iconst C (5 : Int32) rfl dX12_tellWhole_135 ?_
                      obtain ⟨v26, e27, hf⟩ := bd hf
                      obtain ⟨hx28, e27⟩ := ald_some e27
                      refine j_iald C lc179 hx28 e27 dX12_tellWhole_136 ?_
                      refine j_aload_n C 0 dX12_tellWhole_137 rfl rfl ?_
                      obtain ⟨v30, e29, hf⟩ := bd hf
                      refine j_callV C 0 lc178 (ent_K _ _ _ _ _ _) rfl (c_X12_firstKept l G n0 e29) gv_RX12_110 ⟨rfl, rfl⟩ (by decide +kernel) ⟨Nat.le_of_ble_eq_true rfl, Nat.le_of_ble_eq_true rfl⟩ rfl rfl (Nat.le_of_ble_eq_true rfl) dX12_tellWhole_138 ?_
                      refine j_isub C dX12_tellWhole_141 ?_
                      obtain rfl := Option.some.inj hf
                      exact hret _ _ dX12_tellWhole_142
                    · replace hf := ine c41_9 hf
                      by_cases c41_10 : x1 = 10
                      · replace hf := ip c41_10 hf
                        refine j_tsw C 143 c41_10 dX12_tellWhole_1 (by decide) rfl (by decide) ?_
                        refine j_aload_n C 0 dX12_tellWhole_143 rfl rfl ?_
                        refine j_iconst C (1 : Int32) rfl dX12_tellWhole_144 ?_
                        obtain ⟨v32, e31, hf⟩ := bd hf
                        refine j_callV C 1 lc178 (ent_K _ _ _ _ _ _) rfl (c_X12_keptWith l G n0 e31) gv_RX12_194 ⟨rfl, rfl⟩ (by decide +kernel) ⟨Nat.le_of_ble_eq_true rfl, Nat.le_of_ble_eq_true rfl⟩ rfl rfl (Nat.le_of_ble_eq_true rfl) dX12_tellWhole_145 ?_
                        obtain rfl := Option.some.inj hf
                        exact hret _ _ dX12_tellWhole_148
                      · replace hf := ine c41_10 hf
                        by_cases c41_11 : x1 = 11
                        · replace hf := ip c41_11 hf
                          refine j_tsw C 149 c41_11 dX12_tellWhole_1 (by decide) rfl (by decide) ?_
                          refine j_aload_n C 0 dX12_tellWhole_149 rfl rfl ?_
                          refine j_iconst C (0 : Int32) rfl dX12_tellWhole_150 ?_
                          obtain ⟨v34, e33, hf⟩ := bd hf
                          refine j_callV C 1 lc178 (ent_K _ _ _ _ _ _) rfl (c_X12_keptWith l G n0 e33) gv_RX12_194 ⟨rfl, rfl⟩ (by decide +kernel) ⟨Nat.le_of_ble_eq_true rfl, Nat.le_of_ble_eq_true rfl⟩ rfl rfl (Nat.le_of_ble_eq_true rfl) dX12_tellWhole_151 ?_
                          obtain rfl := Option.some.inj hf
                          exact hret _ _ dX12_tellWhole_154
                        · replace hf := ine c41_11 hf
                          by_cases c41_12 : x1 = 12
                          · replace hf := ip c41_12 hf
                            refine j_tsw C 155 c41_12 dX12_tellWhole_1 (by decide) rfl (by decide) ?_
                            refine j_aload_n C 0 dX12_tellWhole_155 rfl rfl ?_
                            refine g_X12_now C tw5_182 lc178 179 rfl dX12_tellWhole_156 ?_
                            refine j_bipush C (8 : Int32) rfl dX12_tellWhole_159 ?_
                            obtain ⟨v35, e36, hf⟩ := bd hf
                            obtain ⟨hx37, e36⟩ := ald_some e36
                            refine j_iald C lc179 hx37 e36 dX12_tellWhole_161 ?_
                            obtain rfl := Option.some.inj hf
                            exact hret _ _ dX12_tellWhole_162
                          · replace hf := ine c41_12 hf
                            refine j_tswD C 163 (by have g0 := lv_neT c41_0 (show (0 : Int32).toInt = 0 by decide); have g1 := lv_neT c41_1 (show (1 : Int32).toInt = 1 by decide); have g2 := lv_neT c41_2 (show (2 : Int32).toInt = 2 by decide); have g3 := lv_neT c41_3 (show (3 : Int32).toInt = 3 by decide); have g4 := lv_neT c41_4 (show (4 : Int32).toInt = 4 by decide); have g5 := lv_neT c41_5 (show (5 : Int32).toInt = 5 by decide); have g6 := lv_neT c41_6 (show (6 : Int32).toInt = 6 by decide); have g7 := lv_neT c41_7 (show (7 : Int32).toInt = 7 by decide); have g8 := lv_neT c41_8 (show (8 : Int32).toInt = 8 by decide); have g9 := lv_neT c41_9 (show (9 : Int32).toInt = 9 by decide); have g10 := lv_neT c41_10 (show (10 : Int32).toInt = 10 by decide); have g11 := lv_neT c41_11 (show (11 : Int32).toInt = 11 by decide); have g12 := lv_neT c41_12 (show (12 : Int32).toInt = 12 by decide); omega) dX12_tellWhole_1 (by decide) ?_
                            refine j_aload_n C 0 dX12_tellWhole_163 rfl rfl ?_
                            refine g_X12_now C tw5_182 lc178 179 rfl dX12_tellWhole_164 ?_
                            refine j_iconst C (1 : Int32) rfl dX12_tellWhole_167 ?_
                            obtain ⟨v38, e39, hf⟩ := bd hf
                            obtain ⟨hx40, e39⟩ := ald_some e39
                            refine j_iald C lc179 hx40 e39 dX12_tellWhole_168 ?_
                            obtain rfl := Option.some.inj hf
                            exact hret _ _ dX12_tellWhole_169
def fX12_whole (x1 : Int32) (M : Mem) : Option (Int32 × Mem) :=
  (fX12_in x1 (0 : Int32) (13 : Int32)).bind fun b2 =>
  (if b2 = true then (some (0 : Int32))
  else (some (1 : Int32))).bind (fun z4 => (fX12_refused z4 M).bind (un2 fun b6 M7 =>
  if b6 = true then (some ((0 : Int32), M7))
  else ((fX12_tellWhole x1 M7).bind fun v10 =>
  some (v10, M7))))

def rX12_whole : Room := { frames := 4, cells := 0, slots := 0, locals := 87 }
set_option maxRecDepth 100000 in
set_option maxHeartbeats 4000000 in
theorem c_X12_whole (l : Launch) (G : Gx) (n0 : Nat) {x1 : Int32} {M : Mem} {r : Int32} {M' : Mem} (hf : fX12_whole x1 M = some (r, M')) : Ct l yX12_whole cX12_whole 2 (some .int) rX12_whole G n0 [.ref (n0 + 178), .int x1] M (some (.int r)) M' := by
  refine ct_int (cc := cX12_whole) (maxL := 2) rfl (Nat.le_of_ble_eq_true rfl) ?_
  intro K C hret
  have C : Ok K l rX12_whole cX12_whole RX12 G n0 2 := C
  show J K M 0 [(0, .ref (n0 + 178)), (1, .int x1)] []
  unfold fX12_whole at hf
  refine j_aload_n C 0 dX12_whole_0 rfl rfl ?_
  refine j_iload_n C 1 dX12_whole_1 rfl rfl ?_
  refine j_iconst C (0 : Int32) rfl dX12_whole_2 ?_
  refine j_bipush C (13 : Int32) rfl dX12_whole_3 ?_
  obtain ⟨b2, e1, hf⟩ := bd hf
  refine j_callS C 3 (c_X12_in l G n0 (M := M) e1) gs_RX12_39 ⟨rfl, rfl⟩ (by decide +kernel) ⟨Nat.le_of_ble_eq_true rfl, Nat.le_of_ble_eq_true rfl⟩ rfl rfl (Nat.le_of_ble_eq_true rfl) dX12_whole_5 ?_
  obtain ⟨z4, e11, hf⟩ := bd hf
  have hj12 : J K M 16 [(0, .ref (n0 + 178)), (1, .int x1)] [.int z4, .ref (n0 + 178)] := by
    obtain ⟨⟨b6, M7⟩, e5, hf⟩ := bd hf
    replace hf := un2e hf
    refine j_callV C 1 lc178 (ent_K _ _ _ _ _ _) rfl (c_X12_refused l G n0 e5) gv_RX12_35 ⟨rfl, rfl⟩ (by decide +kernel) ⟨Nat.le_of_ble_eq_true rfl, Nat.le_of_ble_eq_true rfl⟩ rfl rfl (Nat.le_of_ble_eq_true rfl) dX12_whole_16 ?_
    refine j_ifz_eq C 26 dX12_whole_19 (by decide) (fun c8 => ?_) (fun c8 => ?_)
    · replace hf := ine c8 hf
      refine j_aload_n C 0 dX12_whole_26 rfl rfl ?_
      refine j_iload_n C 1 dX12_whole_27 rfl rfl ?_
      obtain ⟨v10, e9, hf⟩ := bd hf
      refine j_callV C 1 lc178 (ent_K _ _ _ _ _ _) rfl (c_X12_tellWhole l G n0 e9) gv_RX12_198 ⟨rfl, rfl⟩ (by decide +kernel) ⟨Nat.le_of_ble_eq_true rfl, Nat.le_of_ble_eq_true rfl⟩ rfl rfl (Nat.le_of_ble_eq_true rfl) dX12_whole_28 ?_
      obtain ⟨rfl, rfl⟩ := Prod.mk.inj (Option.some.inj hf)
      exact hret _ _ dX12_whole_31
    · replace hf := ip c8 hf
      refine j_iconst C (0 : Int32) rfl dX12_whole_22 ?_
      refine j_goto C 31 dX12_whole_23 (by decide) ?_
      obtain ⟨rfl, rfl⟩ := Prod.mk.inj (Option.some.inj hf)
      exact hret _ _ dX12_whole_31
  clear hf
  have hf := e11
  refine j_ifz_eq C 15 dX12_whole_8 (by decide) (fun c3 => ?_) (fun c3 => ?_)
  · replace hf := ine c3 hf
    refine j_iconst C (1 : Int32) rfl dX12_whole_15 ?_
    cases hf
    refine j_sub [0, 1] rfl ?_
    exact hj12
  · replace hf := ip c3 hf
    refine j_iconst C (0 : Int32) rfl dX12_whole_11 ?_
    refine j_goto C 16 dX12_whole_12 (by decide) ?_
    cases hf
    refine j_sub [0, 1] rfl ?_
    exact hj12
def fX12_doughOf (x1 : Int32) (M : Mem) : Option (Int32 × Mem) :=
  (ald (M.1 179) 1601 (7 : Int32)).bind fun v1 =>
  if v1 = 0 then (some ((0 : Int32), M))
  else ((fX12_keeps M).bind fun M6 =>
  (fX12_dayWith x1 M6).bind (un2 fun v8 M9 =>
  (ald (M9.1 179) 1601 (4 : Int32)).bind fun v10 =>
  (fX12_takesBack M9).bind fun M14 =>
  (ald (M14.1 179) 1601 (4 : Int32)).bind fun v15 =>
  some ((v10 - v15), M14)))

def rX12_doughOf : Room := { frames := 5, cells := 0, slots := 0, locals := 114 }
set_option maxRecDepth 100000 in
set_option maxHeartbeats 4000000 in
theorem c_X12_doughOf (l : Launch) (G : Gx) (n0 : Nat) {x1 : Int32} {M : Mem} {r : Int32} {M' : Mem} (hf : fX12_doughOf x1 M = some (r, M')) : Ct l yX12_doughOf cX12_doughOf 4 (some .int) rX12_doughOf G n0 [.ref (n0 + 178), .int x1] M (some (.int r)) M' := by
  refine ct_int (cc := cX12_doughOf) (maxL := 4) rfl (Nat.le_of_ble_eq_true rfl) ?_
  intro K C hret
  have C : Ok K l rX12_doughOf cX12_doughOf RX12 G n0 4 := C
  show J K M 0 [(0, .ref (n0 + 178)), (1, .int x1)] []
  unfold fX12_doughOf at hf
  refine j_aload_n C 0 dX12_doughOf_0 rfl rfl ?_
  refine g_X12_now C tw5_182 lc178 179 rfl dX12_doughOf_1 ?_
  refine j_bipush C (7 : Int32) rfl dX12_doughOf_4 ?_
  obtain ⟨v1, e2, hf⟩ := bd hf
  obtain ⟨hx3, e2⟩ := ald_some e2
  refine j_iald C lc179 hx3 e2 dX12_doughOf_6 ?_
  refine j_if_ne C 12 dX12_doughOf_7 (by decide) (fun c4 => ?_) (fun c4 => ?_)
  · replace hf := ine c4 hf
    refine j_aload_n C 0 dX12_doughOf_12 rfl rfl ?_
    obtain ⟨M6, e5, hf⟩ := bd hf
    refine j_callV C 0 lc178 (ent_K _ _ _ _ _ _) rfl (c_X12_keeps l G n0 e5) gv_RX12_201 ⟨rfl, rfl⟩ (by decide +kernel) ⟨Nat.le_of_ble_eq_true rfl, Nat.le_of_ble_eq_true rfl⟩ rfl rfl (Nat.le_of_ble_eq_true rfl) dX12_doughOf_13 ?_
    refine j_aload_n C 0 dX12_doughOf_16 rfl rfl ?_
    refine j_iload_n C 1 dX12_doughOf_17 rfl rfl ?_
    obtain ⟨⟨v8, M9⟩, e7, hf⟩ := bd hf
    replace hf := un2e hf
    refine j_callV C 1 lc178 (ent_K _ _ _ _ _ _) rfl (c_X12_dayWith l G n0 e7) gv_RX12_166 ⟨rfl, rfl⟩ (by decide +kernel) ⟨Nat.le_of_ble_eq_true rfl, Nat.le_of_ble_eq_true rfl⟩ rfl rfl (Nat.le_of_ble_eq_true rfl) dX12_doughOf_18 ?_
    refine j_istore_n C [(2, .int v8), (0, .ref (n0 + 178)), (1, .int x1)] dX12_doughOf_21 rfl (Nat.le_of_ble_eq_true rfl) rfl ?_
    refine j_aload_n C 1 dX12_doughOf_22 rfl rfl ?_
    refine g_X12_now C tw5_182 lc178 179 rfl dX12_doughOf_23 ?_
    refine j_iconst C (4 : Int32) rfl dX12_doughOf_26 ?_
    obtain ⟨v10, e11, hf⟩ := bd hf
    obtain ⟨hx12, e11⟩ := ald_some e11
    refine j_iald C lc179 hx12 e11 dX12_doughOf_27 ?_
    refine j_istore_n C [(3, .int v10), (2, .int v8), (0, .ref (n0 + 178)), (1, .int x1)] dX12_doughOf_28 rfl (Nat.le_of_ble_eq_true rfl) rfl ?_
    refine j_aload_n C 2 dX12_doughOf_29 rfl rfl ?_
    obtain ⟨M14, e13, hf⟩ := bd hf
    refine j_callV C 0 lc178 (ent_K _ _ _ _ _ _) rfl (c_X12_takesBack l G n0 e13) gv_RX12_204 ⟨rfl, rfl⟩ (by decide +kernel) ⟨Nat.le_of_ble_eq_true rfl, Nat.le_of_ble_eq_true rfl⟩ rfl rfl (Nat.le_of_ble_eq_true rfl) dX12_doughOf_30 ?_
    refine j_iload_n C 0 dX12_doughOf_33 rfl rfl ?_
    refine j_aload_n C 2 dX12_doughOf_34 rfl rfl ?_
    refine g_X12_now C tw5_182 lc178 179 rfl dX12_doughOf_35 ?_
    refine j_iconst C (4 : Int32) rfl dX12_doughOf_38 ?_
    obtain ⟨v15, e16, hf⟩ := bd hf
    obtain ⟨hx17, e16⟩ := ald_some e16
    refine j_iald C lc179 hx17 e16 dX12_doughOf_39 ?_
    refine j_isub C dX12_doughOf_40 ?_
    obtain ⟨rfl, rfl⟩ := Prod.mk.inj (Option.some.inj hf)
    exact hret _ _ dX12_doughOf_41
  · replace hf := ip c4 hf
    refine j_iconst C (0 : Int32) rfl dX12_doughOf_10 ?_
    obtain ⟨rfl, rfl⟩ := Prod.mk.inj (Option.some.inj hf)
    exact hret _ _ dX12_doughOf_11
def fX12_doughWith (x1 : Int32) (M : Mem) : Option (Int32 × Mem) :=
  (fX12_isWood x1).bind fun b2 =>
  (if b2 = true then (some (0 : Int32))
  else (some (1 : Int32))).bind (fun z4 => (fX12_refused z4 M).bind (un2 fun b6 M7 =>
  if b6 = true then (some ((0 : Int32), M7))
  else ((fX12_doughOf x1 M7).bind (un2 fun v10 M11 =>
  some (v10, M11)))))

def rX12_doughWith : Room := { frames := 6, cells := 0, slots := 0, locals := 137 }
set_option maxRecDepth 100000 in
set_option maxHeartbeats 4000000 in
theorem c_X12_doughWith (l : Launch) (G : Gx) (n0 : Nat) {x1 : Int32} {M : Mem} {r : Int32} {M' : Mem} (hf : fX12_doughWith x1 M = some (r, M')) : Ct l yX12_doughWith cX12_doughWith 2 (some .int) rX12_doughWith G n0 [.ref (n0 + 178), .int x1] M (some (.int r)) M' := by
  refine ct_int (cc := cX12_doughWith) (maxL := 2) rfl (Nat.le_of_ble_eq_true rfl) ?_
  intro K C hret
  have C : Ok K l rX12_doughWith cX12_doughWith RX12 G n0 2 := C
  show J K M 0 [(0, .ref (n0 + 178)), (1, .int x1)] []
  unfold fX12_doughWith at hf
  refine j_aload_n C 0 dX12_doughWith_0 rfl rfl ?_
  refine j_iload_n C 1 dX12_doughWith_1 rfl rfl ?_
  obtain ⟨b2, e1, hf⟩ := bd hf
  refine j_callS C 1 (c_X12_isWood l G n0 (M := M) e1) gs_RX12_160 ⟨rfl, rfl⟩ (by decide +kernel) ⟨Nat.le_of_ble_eq_true rfl, Nat.le_of_ble_eq_true rfl⟩ rfl rfl (Nat.le_of_ble_eq_true rfl) dX12_doughWith_2 ?_
  obtain ⟨z4, e12, hf⟩ := bd hf
  have hj13 : J K M 13 [(0, .ref (n0 + 178)), (1, .int x1)] [.int z4, .ref (n0 + 178)] := by
    obtain ⟨⟨b6, M7⟩, e5, hf⟩ := bd hf
    replace hf := un2e hf
    refine j_callV C 1 lc178 (ent_K _ _ _ _ _ _) rfl (c_X12_refused l G n0 e5) gv_RX12_35 ⟨rfl, rfl⟩ (by decide +kernel) ⟨Nat.le_of_ble_eq_true rfl, Nat.le_of_ble_eq_true rfl⟩ rfl rfl (Nat.le_of_ble_eq_true rfl) dX12_doughWith_13 ?_
    refine j_ifz_eq C 23 dX12_doughWith_16 (by decide) (fun c8 => ?_) (fun c8 => ?_)
    · replace hf := ine c8 hf
      refine j_aload_n C 0 dX12_doughWith_23 rfl rfl ?_
      refine j_iload_n C 1 dX12_doughWith_24 rfl rfl ?_
      obtain ⟨⟨v10, M11⟩, e9, hf⟩ := bd hf
      replace hf := un2e hf
      refine j_callV C 1 lc178 (ent_K _ _ _ _ _ _) rfl (c_X12_doughOf l G n0 e9) gv_RX12_207 ⟨rfl, rfl⟩ (by decide +kernel) ⟨Nat.le_of_ble_eq_true rfl, Nat.le_of_ble_eq_true rfl⟩ rfl rfl (Nat.le_of_ble_eq_true rfl) dX12_doughWith_25 ?_
      obtain ⟨rfl, rfl⟩ := Prod.mk.inj (Option.some.inj hf)
      exact hret _ _ dX12_doughWith_28
    · replace hf := ip c8 hf
      refine j_iconst C (0 : Int32) rfl dX12_doughWith_19 ?_
      refine j_goto C 28 dX12_doughWith_20 (by decide) ?_
      obtain ⟨rfl, rfl⟩ := Prod.mk.inj (Option.some.inj hf)
      exact hret _ _ dX12_doughWith_28
  clear hf
  have hf := e12
  refine j_ifz_eq C 12 dX12_doughWith_5 (by decide) (fun c3 => ?_) (fun c3 => ?_)
  · replace hf := ine c3 hf
    refine j_iconst C (1 : Int32) rfl dX12_doughWith_12 ?_
    cases hf
    refine j_sub [0, 1] rfl ?_
    exact hj13
  · replace hf := ip c3 hf
    refine j_iconst C (0 : Int32) rfl dX12_doughWith_8 ?_
    refine j_goto C 13 dX12_doughWith_9 (by decide) ?_
    cases hf
    refine j_sub [0, 1] rfl ?_
    exact hj13
def lX12_bestWood_27  : Nat → Int32 → Int32 → Int32 → Mem → Option (Int32 × Mem)
  | 0, _, _, _, _ => none
  | n + 1, a10, a11, a12, M13 =>
  if (40 : Int32) < a12 then (some (a10, M13))
  else (if a11 ≤ 0 then (some (a10, M13))
  else ((fX12_doughOf a12 M13).bind (un2 fun v17 M18 =>
  (if a11 ≤ v17 then (some a10)
  else (some a12)).bind (fun z20 => if a11 ≤ v17 then (lX12_bestWood_27  n z20 a11 (a12 + 1) M18)
  else (lX12_bestWood_27  n z20 v17 (a12 + 1) M18)))))

def fX12_bestWood  (M : Mem) : Option (Int32 × Mem) :=
  (pf M 178 4 (0 : Int32)).bind fun M1 =>
  (ald (M1.1 179) 1601 (7 : Int32)).bind fun v3 =>
  if v3 = 0 then (some ((-1 : Int32), M1))
  else ((fX12_doughOf (1 : Int32) M1).bind (un2 fun v8 M9 =>
  (lX12_bestWood_27 FUEL (1 : Int32) v8 (2 : Int32) M9).bind (un2 fun a22 M23 => some (a22, M23))))

def rX12_bestWood : Room := { frames := 6, cells := 0, slots := 0, locals := 137 }
set_option maxRecDepth 100000 in
set_option maxHeartbeats 4000000 in
theorem c_X12_bestWood (l : Launch) (G : Gx) (n0 : Nat) {M : Mem} {r : Int32} {M' : Mem} (hf : fX12_bestWood M = some (r, M')) : Ct l yX12_bestWood cX12_bestWood 5 (some .int) rX12_bestWood G n0 [.ref (n0 + 178)] M (some (.int r)) M' := by
  refine ct_int (cc := cX12_bestWood) (maxL := 5) rfl (Nat.le_of_ble_eq_true rfl) ?_
  intro K C hret
  have C : Ok K l rX12_bestWood cX12_bestWood RX12 G n0 5 := C
  show J K M 0 [(0, .ref (n0 + 178))] []
  unfold fX12_bestWood at hf
  refine j_aload_n C 0 dX12_bestWood_0 rfl rfl ?_
  refine j_iconst C (0 : Int32) rfl dX12_bestWood_1 ?_
  obtain ⟨M1, e2, hf⟩ := bd hf
  refine p_X12_refusal C tw5_186 lc178 e2 dX12_bestWood_2 ?_
  refine j_aload_n C 0 dX12_bestWood_5 rfl rfl ?_
  refine g_X12_now C tw5_182 lc178 179 rfl dX12_bestWood_6 ?_
  refine j_bipush C (7 : Int32) rfl dX12_bestWood_9 ?_
  obtain ⟨v3, e4, hf⟩ := bd hf
  obtain ⟨hx5, e4⟩ := ald_some e4
  refine j_iald C lc179 hx5 e4 dX12_bestWood_11 ?_
  refine j_if_ne C 17 dX12_bestWood_12 (by decide) (fun c6 => ?_) (fun c6 => ?_)
  · replace hf := ine c6 hf
    refine j_iconst C (1 : Int32) rfl dX12_bestWood_17 ?_
    refine j_istore_n C [(1, .int (1 : Int32)), (0, .ref (n0 + 178))] dX12_bestWood_18 rfl (Nat.le_of_ble_eq_true rfl) rfl ?_
    refine j_aload_n C 1 dX12_bestWood_19 rfl rfl ?_
    refine j_iconst C (1 : Int32) rfl dX12_bestWood_20 ?_
    obtain ⟨⟨v8, M9⟩, e7, hf⟩ := bd hf
    replace hf := un2e hf
    refine j_callV C 1 lc178 (ent_K _ _ _ _ _ _) rfl (c_X12_doughOf l G n0 e7) gv_RX12_207 ⟨rfl, rfl⟩ (by decide +kernel) ⟨Nat.le_of_ble_eq_true rfl, Nat.le_of_ble_eq_true rfl⟩ rfl rfl (Nat.le_of_ble_eq_true rfl) dX12_bestWood_21 ?_
    refine j_istore_n C [(2, .int v8), (1, .int (1 : Int32)), (0, .ref (n0 + 178))] dX12_bestWood_24 rfl (Nat.le_of_ble_eq_true rfl) rfl ?_
    refine j_iconst C (2 : Int32) rfl dX12_bestWood_25 ?_
    refine j_istore_n C [(3, .int (2 : Int32)), (2, .int v8), (1, .int (1 : Int32)), (0, .ref (n0 + 178))] dX12_bestWood_26 rfl (Nat.le_of_ble_eq_true rfl) rfl ?_
    obtain ⟨⟨a22, M23⟩, e24, hf⟩ := bd hf
    replace hf := un2e hf
    have hx25 : J K M23 75 [(1, .int a22)] [] := by
      refine j_iload_n C 0 dX12_bestWood_75 rfl rfl ?_
      obtain ⟨rfl, rfl⟩ := Prod.mk.inj (Option.some.inj hf)
      exact hret _ _ dX12_bestWood_76
    clear hf
    have hl26 : ∀ (n : Nat) (a10 : Int32) (a11 : Int32) (a12 : Int32) (M13 : Mem), lX12_bestWood_27 n a10 a11 a12 M13 = some (a22, M23) → J K M13 27 [(0, .ref (n0 + 178)), (1, .int a10), (2, .int a11), (3, .int a12)] [] := by
      intro n
      induction n with
      | zero =>
        intro a10 a11 a12 M13 hf
        exact absurd hf (by rw [lX12_bestWood_27]; exact fun h => by cases h)
      | succ n ih =>
        intro a10 a11 a12 M13 hf
        rw [lX12_bestWood_27] at hf
        refine j_iload_n C 3 dX12_bestWood_27 rfl rfl ?_
        refine j_bipush C (40 : Int32) rfl dX12_bestWood_28 ?_
        refine j_icmp_gt C 75 dX12_bestWood_30 (by decide) (fun c14 => ?_) (fun c14 => ?_)
        · replace hf := ip c14 hf
          refine j_sub [1] rfl ?_
          cases hf
          exact hx25
        · replace hf := ine c14 hf
          refine j_iload_n C 2 dX12_bestWood_33 rfl rfl ?_
          refine j_if_le C 75 dX12_bestWood_34 (by decide) (fun c15 => ?_) (fun c15 => ?_)
          · replace hf := ip c15 hf
            refine j_sub [1] rfl ?_
            cases hf
            exact hx25
          · replace hf := ine c15 hf
            refine j_aload_n C 0 dX12_bestWood_37 rfl rfl ?_
            refine j_iload_n C 3 dX12_bestWood_38 rfl rfl ?_
            obtain ⟨⟨v17, M18⟩, e16, hf⟩ := bd hf
            replace hf := un2e hf
            refine j_callV C 1 lc178 (ent_K _ _ _ _ _ _) rfl (c_X12_doughOf l G n0 e16) gv_RX12_207 ⟨rfl, rfl⟩ (by decide +kernel) ⟨Nat.le_of_ble_eq_true rfl, Nat.le_of_ble_eq_true rfl⟩ rfl rfl (Nat.le_of_ble_eq_true rfl) dX12_bestWood_39 ?_
            refine j_istore C [(4, .int v17), (0, .ref (n0 + 178)), (1, .int a10), (2, .int a11), (3, .int a12)] dX12_bestWood_42 (Nat.le_of_ble_eq_true rfl) rfl ?_
            refine j_iload C 0 dX12_bestWood_44 rfl ?_
            refine j_iload_n C 3 dX12_bestWood_46 rfl rfl ?_
            obtain ⟨z20, e29, hf⟩ := bd hf
            have hj30 : J K M18 55 [(0, .ref (n0 + 178)), (2, .int a11), (3, .int a12), (4, .int v17)] [.int z20] := by
              refine j_istore_n C [(1, .int z20), (0, .ref (n0 + 178)), (2, .int a11), (3, .int a12), (4, .int v17)] dX12_bestWood_55 rfl (Nat.le_of_ble_eq_true rfl) rfl ?_
              refine j_iload C 4 dX12_bestWood_56 rfl ?_
              refine j_iload_n C 2 dX12_bestWood_58 rfl rfl ?_
              refine j_icmp_ge C 67 dX12_bestWood_59 (by decide) (fun c21 => ?_) (fun c21 => ?_)
              · replace hf := ip c21 hf
                refine j_iload_n C 2 dX12_bestWood_67 rfl rfl ?_
                refine j_istore_n C [(2, .int a11), (1, .int z20), (0, .ref (n0 + 178)), (3, .int a12), (4, .int v17)] dX12_bestWood_68 rfl (Nat.le_of_ble_eq_true rfl) rfl ?_
                refine j_iinc C 3 (a12 + 1) [(3, .int (a12 + 1)), (2, .int a11), (1, .int z20), (0, .ref (n0 + 178)), (4, .int v17)] dX12_bestWood_69 rfl rfl (Nat.le_of_ble_eq_true rfl) rfl ?_
                refine j_goto C 27 dX12_bestWood_72 (by decide) ?_
                refine j_sub [3, 2, 1, 0] rfl ?_
                exact ih _ _ _ _ hf
              · replace hf := ine c21 hf
                refine j_iload C 4 dX12_bestWood_62 rfl ?_
                refine j_goto C 68 dX12_bestWood_64 (by decide) ?_
                refine j_istore_n C [(2, .int v17), (1, .int z20), (0, .ref (n0 + 178)), (3, .int a12), (4, .int v17)] dX12_bestWood_68 rfl (Nat.le_of_ble_eq_true rfl) rfl ?_
                refine j_iinc C 3 (a12 + 1) [(3, .int (a12 + 1)), (2, .int v17), (1, .int z20), (0, .ref (n0 + 178)), (4, .int v17)] dX12_bestWood_69 rfl rfl (Nat.le_of_ble_eq_true rfl) rfl ?_
                refine j_goto C 27 dX12_bestWood_72 (by decide) ?_
                refine j_sub [3, 2, 1, 0] rfl ?_
                exact ih _ _ _ _ hf
            clear hf
            have hf := e29
            refine j_icmp_ge C 54 dX12_bestWood_47 (by decide) (fun c19 => ?_) (fun c19 => ?_)
            · replace hf := ip c19 hf
              refine j_iload_n C 2 dX12_bestWood_54 rfl rfl ?_
              cases hf
              refine j_sub [1, 3, 4, 0] rfl ?_
              exact hj30
            · replace hf := ine c19 hf
              refine j_iload_n C 4 dX12_bestWood_50 rfl rfl ?_
              refine j_goto C 55 dX12_bestWood_51 (by decide) ?_
              cases hf
              refine j_sub [1, 3, 4, 0] rfl ?_
              exact hj30
    refine j_sub [3, 2, 1, 0] rfl ?_
    exact hl26 FUEL (1 : Int32) v8 (2 : Int32) M9 e24
  · replace hf := ip c6 hf
    refine j_iconst C (-1 : Int32) rfl dX12_bestWood_15 ?_
    obtain ⟨rfl, rfl⟩ := Prod.mk.inj (Option.some.inj hf)
    exact hret _ _ dX12_bestWood_16
def fX12_isLike (x0 : Int32) (x1 : Int32) : Option Bool :=
  if (x0 &&& x1) = x0 then (some true)
  else (if (x0 &&& x1) = x1 then (some true)
  else (some false))

def rX12_isLike : Room := { frames := 0, cells := 0, slots := 0, locals := 0 }
set_option maxRecDepth 100000 in
set_option maxHeartbeats 4000000 in
theorem c_X12_isLike (l : Launch) (G : Gx) (n0 : Nat) {x0 : Int32} {x1 : Int32} {M : Mem} {r : Bool} (hf : fX12_isLike x0 x1 = some r) : Ct l yX12_isLike cX12_isLike 2 (some .boolean) rX12_isLike G n0 [.int x0, .int x1] M (some (.int (bI r))) M := by
  refine ct_bool (cc := cX12_isLike) (maxL := 2) rfl (Nat.le_of_ble_eq_true rfl) ?_
  intro K C hret
  have C : Ok K l rX12_isLike cX12_isLike RX12 G n0 2 := C
  show J K M 0 [(0, .int x0), (1, .int x1)] []
  unfold fX12_isLike at hf
  refine j_iload_n C 0 dX12_isLike_0 rfl rfl ?_
  refine j_iload_n C 1 dX12_isLike_1 rfl rfl ?_
  refine j_iand C dX12_isLike_2 ?_
  refine j_iload_n C 0 dX12_isLike_3 rfl rfl ?_
  refine j_icmp_eq C 14 dX12_isLike_4 (by decide) (fun c1 => ?_) (fun c1 => ?_)
  · replace hf := ip c1 hf
    refine j_iconst C (1 : Int32) rfl dX12_isLike_14 ?_
    refine j_goto C 19 dX12_isLike_15 (by decide) ?_
    obtain rfl := Option.some.inj hf
    exact hret _ _ dX12_isLike_19
  · replace hf := ine c1 hf
    refine j_iload_n C 0 dX12_isLike_7 rfl rfl ?_
    refine j_iload_n C 1 dX12_isLike_8 rfl rfl ?_
    refine j_iand C dX12_isLike_9 ?_
    refine j_iload_n C 1 dX12_isLike_10 rfl rfl ?_
    refine j_icmp_ne C 18 dX12_isLike_11 (by decide) (fun c2 => ?_) (fun c2 => ?_)
    · replace hf := ine c2 hf
      refine j_iconst C (0 : Int32) rfl dX12_isLike_18 ?_
      obtain rfl := Option.some.inj hf
      exact hret _ _ dX12_isLike_19
    · replace hf := ip c2 hf
      refine j_iconst C (1 : Int32) rfl dX12_isLike_14 ?_
      refine j_goto C 19 dX12_isLike_15 (by decide) ?_
      obtain rfl := Option.some.inj hf
      exact hret _ _ dX12_isLike_19
def lX12_likes_16 (M : Mem) (a2 : Int32) : Nat → Int32 → Int32 → Option Int32
  | 0, _, _ => none
  | n + 1, a7, a8 =>
  if a2 ≤ a8 then (some a7)
  else ((fX12_of a2 (0 : Int32) M).bind fun v11 =>
  (fX12_of a8 (0 : Int32) M).bind fun v13 =>
  (fX12_isLike v11 v13).bind fun b15 =>
  if b15 = true then (lX12_likes_16 M a2 n (a7 + (1 : Int32)) (a8 + 1))
  else (lX12_likes_16 M a2 n (a7 + (0 : Int32)) (a8 + 1)))

def lX12_likes_4 (M : Mem) : Nat → Int32 → Int32 → Option Int32
  | 0, _, _ => none
  | n + 1, a1, a2 =>
  (ald (M.1 179) 1601 (0 : Int32)).bind fun v3 =>
  if v3 ≤ a2 then (some a1)
  else ((lX12_likes_16 M a2 FUEL a1 (0 : Int32)).bind (fun a17 => lX12_likes_4 M n a17 (a2 + 1)))

def fX12_likes  (M : Mem) : Option Int32 :=
  (lX12_likes_4 M FUEL (0 : Int32) (0 : Int32)).bind (fun a18 => some a18)

def rX12_likes : Room := { frames := 1, cells := 0, slots := 0, locals := 22 }
set_option maxRecDepth 100000 in
set_option maxHeartbeats 4000000 in
theorem c_X12_likes (l : Launch) (G : Gx) (n0 : Nat) {M : Mem} {r : Int32} (hf : fX12_likes M = some r) : Ct l yX12_likes cX12_likes 4 (some .int) rX12_likes G n0 [.ref (n0 + 178)] M (some (.int r)) M := by
  refine ct_int (cc := cX12_likes) (maxL := 4) rfl (Nat.le_of_ble_eq_true rfl) ?_
  intro K C hret
  have C : Ok K l rX12_likes cX12_likes RX12 G n0 4 := C
  show J K M 0 [(0, .ref (n0 + 178))] []
  unfold fX12_likes at hf
  refine j_iconst C (0 : Int32) rfl dX12_likes_0 ?_
  refine j_istore_n C [(1, .int (0 : Int32)), (0, .ref (n0 + 178))] dX12_likes_1 rfl (Nat.le_of_ble_eq_true rfl) rfl ?_
  refine j_iconst C (0 : Int32) rfl dX12_likes_2 ?_
  refine j_istore_n C [(2, .int (0 : Int32)), (1, .int (0 : Int32)), (0, .ref (n0 + 178))] dX12_likes_3 rfl (Nat.le_of_ble_eq_true rfl) rfl ?_
  obtain ⟨a18, e19, hf⟩ := bd hf
  have hx20 : J K M 59 [(1, .int a18)] [] := by
    refine j_iload_n C 0 dX12_likes_59 rfl rfl ?_
    obtain rfl := Option.some.inj hf
    exact hret _ _ dX12_likes_60
  clear hf
  have hl21 : ∀ (n : Nat) (a1 : Int32) (a2 : Int32), lX12_likes_4 M n a1 a2 = some a18 → J K M 4 [(0, .ref (n0 + 178)), (1, .int a1), (2, .int a2)] [] := by
    intro n
    induction n with
    | zero =>
      intro a1 a2 hf
      exact absurd hf (by rw [lX12_likes_4]; exact fun h => by cases h)
    | succ n ih =>
      intro a1 a2 hf
      rw [lX12_likes_4] at hf
      refine j_iload_n C 2 dX12_likes_4 rfl rfl ?_
      refine j_aload_n C 0 dX12_likes_5 rfl rfl ?_
      refine g_X12_now C tw5_182 lc178 179 rfl dX12_likes_6 ?_
      refine j_iconst C (0 : Int32) rfl dX12_likes_9 ?_
      obtain ⟨v3, e4, hf⟩ := bd hf
      obtain ⟨hx5, e4⟩ := ald_some e4
      refine j_iald C lc179 hx5 e4 dX12_likes_10 ?_
      refine j_icmp_ge C 59 dX12_likes_11 (by decide) (fun c6 => ?_) (fun c6 => ?_)
      · replace hf := ip c6 hf
        refine j_sub [1] rfl ?_
        cases hf
        exact hx20
      · replace hf := ine c6 hf
        refine j_iconst C (0 : Int32) rfl dX12_likes_14 ?_
        refine j_istore_n C [(3, .int (0 : Int32)), (0, .ref (n0 + 178)), (1, .int a1), (2, .int a2)] dX12_likes_15 rfl (Nat.le_of_ble_eq_true rfl) rfl ?_
        obtain ⟨a17, e24, hf⟩ := bd hf
        have hx25 : J K M 53 [(0, .ref (n0 + 178)), (1, .int a17), (2, .int a2)] [] := by
          refine j_iinc C 2 (a2 + 1) [(2, .int (a2 + 1)), (0, .ref (n0 + 178)), (1, .int a17)] dX12_likes_53 rfl rfl (Nat.le_of_ble_eq_true rfl) rfl ?_
          refine j_goto C 4 dX12_likes_56 (by decide) ?_
          refine j_sub [1, 2, 0] rfl ?_
          exact ih _ _ hf
        clear hf
        have hl26 : ∀ (n : Nat) (a7 : Int32) (a8 : Int32), lX12_likes_16 M a2 n a7 a8 = some a17 → J K M 16 [(0, .ref (n0 + 178)), (1, .int a7), (2, .int a2), (3, .int a8)] [] := by
          intro n
          induction n with
          | zero =>
            intro a7 a8 hf
            exact absurd hf (by rw [lX12_likes_16]; exact fun h => by cases h)
          | succ n ih =>
            intro a7 a8 hf
            rw [lX12_likes_16] at hf
            refine j_iload_n C 3 dX12_likes_16 rfl rfl ?_
            refine j_iload_n C 2 dX12_likes_17 rfl rfl ?_
            refine j_icmp_ge C 53 dX12_likes_18 (by decide) (fun c9 => ?_) (fun c9 => ?_)
            · replace hf := ip c9 hf
              refine j_sub [0, 1, 2] rfl ?_
              cases hf
              exact hx25
            · replace hf := ine c9 hf
              refine j_iload_n C 1 dX12_likes_21 rfl rfl ?_
              refine j_aload_n C 0 dX12_likes_22 rfl rfl ?_
              refine j_iload_n C 2 dX12_likes_23 rfl rfl ?_
              refine j_iconst C (0 : Int32) rfl dX12_likes_24 ?_
              obtain ⟨v11, e10, hf⟩ := bd hf
              refine j_callV C 2 lc178 (ent_K _ _ _ _ _ _) rfl (c_X12_of l G n0 e10) gv_RX12_44 ⟨rfl, rfl⟩ (by decide +kernel) ⟨Nat.le_of_ble_eq_true rfl, Nat.le_of_ble_eq_true rfl⟩ rfl rfl (Nat.le_of_ble_eq_true rfl) dX12_likes_25 ?_
              refine j_aload_n C 0 dX12_likes_28 rfl rfl ?_
              refine j_iload_n C 3 dX12_likes_29 rfl rfl ?_
              refine j_iconst C (0 : Int32) rfl dX12_likes_30 ?_
              obtain ⟨v13, e12, hf⟩ := bd hf
              refine j_callV C 2 lc178 (ent_K _ _ _ _ _ _) rfl (c_X12_of l G n0 e12) gv_RX12_44 ⟨rfl, rfl⟩ (by decide +kernel) ⟨Nat.le_of_ble_eq_true rfl, Nat.le_of_ble_eq_true rfl⟩ rfl rfl (Nat.le_of_ble_eq_true rfl) dX12_likes_31 ?_
              obtain ⟨b15, e14, hf⟩ := bd hf
              refine j_callS C 2 (c_X12_isLike l G n0 (M := M) e14) gs_RX12_210 ⟨rfl, rfl⟩ (by decide +kernel) ⟨Nat.le_of_ble_eq_true rfl, Nat.le_of_ble_eq_true rfl⟩ rfl rfl (Nat.le_of_ble_eq_true rfl) dX12_likes_34 ?_
              refine j_ifz_eq C 44 dX12_likes_37 (by decide) (fun c16 => ?_) (fun c16 => ?_)
              · replace hf := ine c16 hf
                refine j_iconst C (0 : Int32) rfl dX12_likes_44 ?_
                refine j_iadd C dX12_likes_45 ?_
                refine j_istore_n C [(1, .int (a7 + (0 : Int32))), (0, .ref (n0 + 178)), (2, .int a2), (3, .int a8)] dX12_likes_46 rfl (Nat.le_of_ble_eq_true rfl) rfl ?_
                refine j_iinc C 3 (a8 + 1) [(3, .int (a8 + 1)), (1, .int (a7 + (0 : Int32))), (0, .ref (n0 + 178)), (2, .int a2)] dX12_likes_47 rfl rfl (Nat.le_of_ble_eq_true rfl) rfl ?_
                refine j_goto C 16 dX12_likes_50 (by decide) ?_
                refine j_sub [2, 1, 3, 0] rfl ?_
                exact ih _ _ hf
              · replace hf := ip c16 hf
                refine j_iconst C (1 : Int32) rfl dX12_likes_40 ?_
                refine j_goto C 45 dX12_likes_41 (by decide) ?_
                refine j_iadd C dX12_likes_45 ?_
                refine j_istore_n C [(1, .int (a7 + (1 : Int32))), (0, .ref (n0 + 178)), (2, .int a2), (3, .int a8)] dX12_likes_46 rfl (Nat.le_of_ble_eq_true rfl) rfl ?_
                refine j_iinc C 3 (a8 + 1) [(3, .int (a8 + 1)), (1, .int (a7 + (1 : Int32))), (0, .ref (n0 + 178)), (2, .int a2)] dX12_likes_47 rfl rfl (Nat.le_of_ble_eq_true rfl) rfl ?_
                refine j_goto C 16 dX12_likes_50 (by decide) ?_
                refine j_sub [2, 1, 3, 0] rfl ?_
                exact ih _ _ hf
        refine j_sub [1, 2, 3, 0] rfl ?_
        exact hl26 FUEL a1 (0 : Int32) e24
  refine j_sub [2, 1, 0] rfl ?_
  exact hl21 FUEL (0 : Int32) (0 : Int32) e19
def fX12_likeMarks  (M : Mem) : Option (Int32 × Mem) :=
  (pf M 178 4 (0 : Int32)).bind fun M1 =>
  (fX12_likes M1).bind fun v4 =>
  some (v4, M1)

def rX12_likeMarks : Room := { frames := 2, cells := 0, slots := 0, locals := 45 }
set_option maxRecDepth 100000 in
set_option maxHeartbeats 4000000 in
theorem c_X12_likeMarks (l : Launch) (G : Gx) (n0 : Nat) {M : Mem} {r : Int32} {M' : Mem} (hf : fX12_likeMarks M = some (r, M')) : Ct l yX12_likeMarks cX12_likeMarks 1 (some .int) rX12_likeMarks G n0 [.ref (n0 + 178)] M (some (.int r)) M' := by
  refine ct_int (cc := cX12_likeMarks) (maxL := 1) rfl (Nat.le_of_ble_eq_true rfl) ?_
  intro K C hret
  have C : Ok K l rX12_likeMarks cX12_likeMarks RX12 G n0 1 := C
  show J K M 0 [(0, .ref (n0 + 178))] []
  unfold fX12_likeMarks at hf
  refine j_aload_n C 0 dX12_likeMarks_0 rfl rfl ?_
  refine j_iconst C (0 : Int32) rfl dX12_likeMarks_1 ?_
  obtain ⟨M1, e2, hf⟩ := bd hf
  refine p_X12_refusal C tw5_186 lc178 e2 dX12_likeMarks_2 ?_
  refine j_aload_n C 0 dX12_likeMarks_5 rfl rfl ?_
  obtain ⟨v4, e3, hf⟩ := bd hf
  refine j_callV C 0 lc178 (ent_K _ _ _ _ _ _) rfl (c_X12_likes l G n0 e3) gv_RX12_213 ⟨rfl, rfl⟩ (by decide +kernel) ⟨Nat.le_of_ble_eq_true rfl, Nat.le_of_ble_eq_true rfl⟩ rfl rfl (Nat.le_of_ble_eq_true rfl) dX12_likeMarks_6 ?_
  obtain ⟨rfl, rfl⟩ := Prod.mk.inj (Option.some.inj hf)
  exact hret _ _ dX12_likeMarks_9
def lX12_freeMark_49 (M7 : Mem) (a9 : Int32) : Nat → Bool → Int32 → Option Bool
  | 0, _, _ => none
  | n + 1, a15, a16 =>
  (ald (M7.1 179) 1601 (0 : Int32)).bind fun v17 =>
  if v17 ≤ a16 then (some a15)
  else (if a15 = true then ((fX12_of a16 (0 : Int32) M7).bind fun v23 =>
  (fX12_isLike a9 v23).bind fun b25 =>
  if b25 = true then (lX12_freeMark_49 M7 a9 n false (a16 + 1))
  else (lX12_freeMark_49 M7 a9 n true (a16 + 1)))
  else (some a15))

def lX12_freeMark_26 (x1 : Int32) (M7 : Mem) : Nat → Int32 → Option ((Int32 × Mem) ⊕ Unit)
  | 0, _ => none
  | n + 1, a9 =>
  if (65535 : Int32) < a9 then (some (Sum.inr ()))
  else ((fX12_bits a9).bind fun v12 =>
  (if v12 = x1 then (some true)
  else (some false)).bind (fun z14 => (lX12_freeMark_49 M7 a9 FUEL z14 (0 : Int32)).bind (fun a27 => if a27 = true then (some (Sum.inl (a9, M7)))
  else (lX12_freeMark_26 x1 M7 n (a9 + 1)))))

def fX12_freeMark (x1 : Int32) (M : Mem) : Option (Int32 × Mem) :=
  (fX12_in x1 (1 : Int32) (16 : Int32)).bind fun b2 =>
  (if b2 = true then (some (0 : Int32))
  else (some (1 : Int32))).bind (fun z4 => (fX12_refused z4 M).bind (un2 fun b6 M7 =>
  if b6 = true then (some ((0 : Int32), M7))
  else ((lX12_freeMark_26 x1 M7 FUEL (1 : Int32)).bind fun o => s0 o (fun _ => some ((-1 : Int32), M7)))))

def rX12_freeMark : Room := { frames := 1, cells := 0, slots := 0, locals := 22 }
set_option maxRecDepth 100000 in
set_option maxHeartbeats 4000000 in
theorem c_X12_freeMark (l : Launch) (G : Gx) (n0 : Nat) {x1 : Int32} {M : Mem} {r : Int32} {M' : Mem} (hf : fX12_freeMark x1 M = some (r, M')) : Ct l yX12_freeMark cX12_freeMark 5 (some .int) rX12_freeMark G n0 [.ref (n0 + 178), .int x1] M (some (.int r)) M' := by
  refine ct_int (cc := cX12_freeMark) (maxL := 5) rfl (Nat.le_of_ble_eq_true rfl) ?_
  intro K C hret
  have C : Ok K l rX12_freeMark cX12_freeMark RX12 G n0 5 := C
  show J K M 0 [(0, .ref (n0 + 178)), (1, .int x1)] []
  unfold fX12_freeMark at hf
  refine j_aload_n C 0 dX12_freeMark_0 rfl rfl ?_
  refine j_iload_n C 1 dX12_freeMark_1 rfl rfl ?_
  refine j_iconst C (1 : Int32) rfl dX12_freeMark_2 ?_
  refine j_bipush C (16 : Int32) rfl dX12_freeMark_3 ?_
  obtain ⟨b2, e1, hf⟩ := bd hf
  refine j_callS C 3 (c_X12_in l G n0 (M := M) e1) gs_RX12_39 ⟨rfl, rfl⟩ (by decide +kernel) ⟨Nat.le_of_ble_eq_true rfl, Nat.le_of_ble_eq_true rfl⟩ rfl rfl (Nat.le_of_ble_eq_true rfl) dX12_freeMark_5 ?_
  obtain ⟨z4, e29, hf⟩ := bd hf
  have hj30 : J K M 16 [(0, .ref (n0 + 178)), (1, .int x1)] [.int z4, .ref (n0 + 178)] := by
    obtain ⟨⟨b6, M7⟩, e5, hf⟩ := bd hf
    replace hf := un2e hf
    refine j_callV C 1 lc178 (ent_K _ _ _ _ _ _) rfl (c_X12_refused l G n0 e5) gv_RX12_35 ⟨rfl, rfl⟩ (by decide +kernel) ⟨Nat.le_of_ble_eq_true rfl, Nat.le_of_ble_eq_true rfl⟩ rfl rfl (Nat.le_of_ble_eq_true rfl) dX12_freeMark_16 ?_
    refine j_ifz_eq C 24 dX12_freeMark_19 (by decide) (fun c8 => ?_) (fun c8 => ?_)
    · replace hf := ine c8 hf
      refine j_iconst C (1 : Int32) rfl dX12_freeMark_24 ?_
      refine j_istore_n C [(2, .int (1 : Int32)), (0, .ref (n0 + 178)), (1, .int x1)] dX12_freeMark_25 rfl (Nat.le_of_ble_eq_true rfl) rfl ?_
      obtain ⟨o35, e31, hg34⟩ := bd hf
      have hx32 : o35 = Sum.inr () → J K M7 102 [] [] := by
        intro ho
        rw [ho] at hg34
        replace hf := s0r hg34
        refine j_iconst C (-1 : Int32) rfl dX12_freeMark_102 ?_
        obtain ⟨rfl, rfl⟩ := Prod.mk.inj (Option.some.inj hf)
        exact hret _ _ dX12_freeMark_103
      have hl33 : ∀ (n : Nat) (a9 : Int32), lX12_freeMark_26 x1 M7 n a9 = some o35 → J K M7 26 [(0, .ref (n0 + 178)), (1, .int x1), (2, .int a9)] [] := by
        intro n
        induction n with
        | zero =>
          intro a9 hf
          exact absurd hf (by rw [lX12_freeMark_26]; exact fun h => by cases h)
        | succ n ih =>
          intro a9 hf
          rw [lX12_freeMark_26] at hf
          refine j_iload_n C 2 dX12_freeMark_26 rfl rfl ?_
          refine j_ldc C tw6_11 dX12_freeMark_27 ?_
          refine j_icmp_gt C 102 dX12_freeMark_29 (by decide) (fun c10 => ?_) (fun c10 => ?_)
          · replace hf := ip c10 hf
            refine j_sub [] rfl ?_
            exact hx32 (Option.some.inj hf).symm
          · replace hf := ine c10 hf
            refine j_iload_n C 2 dX12_freeMark_32 rfl rfl ?_
            obtain ⟨v12, e11, hf⟩ := bd hf
            refine j_callS C 1 (c_X12_bits l G n0 (M := M7) e11) gs_RX12_107 ⟨rfl, rfl⟩ (by decide +kernel) ⟨Nat.le_of_ble_eq_true rfl, Nat.le_of_ble_eq_true rfl⟩ rfl rfl (Nat.le_of_ble_eq_true rfl) dX12_freeMark_33 ?_
            refine j_iload_n C 1 dX12_freeMark_36 rfl rfl ?_
            obtain ⟨z14, e36, hf⟩ := bd hf
            have hj37 : J K M7 45 [(0, .ref (n0 + 178)), (1, .int x1), (2, .int a9)] [.int (bI z14)] := by
              refine j_istore_n C [(3, .int (bI z14)), (0, .ref (n0 + 178)), (1, .int x1), (2, .int a9)] dX12_freeMark_45 rfl (Nat.le_of_ble_eq_true rfl) rfl ?_
              refine j_iconst C (0 : Int32) rfl dX12_freeMark_46 ?_
              refine j_istore C [(4, .int (0 : Int32)), (3, .int (bI z14)), (0, .ref (n0 + 178)), (1, .int x1), (2, .int a9)] dX12_freeMark_47 (Nat.le_of_ble_eq_true rfl) rfl ?_
              obtain ⟨a27, e38, hf⟩ := bd hf
              have hx39 : J K M7 90 [(0, .ref (n0 + 178)), (1, .int x1), (2, .int a9), (3, .int (bI a27))] [] := by
                refine j_iload_n C 3 dX12_freeMark_90 rfl rfl ?_
                refine j_ifz_eq C 96 dX12_freeMark_91 (by decide) (fun c28 => ?_) (fun c28 => ?_)
                · replace hf := ine c28 hf
                  refine j_iinc C 2 (a9 + 1) [(2, .int (a9 + 1)), (0, .ref (n0 + 178)), (1, .int x1), (3, .int (bI a27))] dX12_freeMark_96 rfl rfl (Nat.le_of_ble_eq_true rfl) rfl ?_
                  refine j_goto C 26 dX12_freeMark_99 (by decide) ?_
                  refine j_sub [1, 2, 0] rfl ?_
                  exact ih _ hf
                · replace hf := ip c28 hf
                  refine j_iload_n C 2 dX12_freeMark_94 rfl rfl ?_
                  rw [← Option.some.inj hf] at hg34
                  have hf := hg34
                  replace hf : some _ = some _ := hf
                  obtain ⟨rfl, rfl⟩ := Prod.mk.inj (Option.some.inj hf)
                  exact hret _ _ dX12_freeMark_95
              clear hf
              have hl40 : ∀ (n : Nat) (a15 : Bool) (a16 : Int32), lX12_freeMark_49 M7 a9 n a15 a16 = some a27 → J K M7 49 [(0, .ref (n0 + 178)), (1, .int x1), (2, .int a9), (3, .int (bI a15)), (4, .int a16)] [] := by
                intro n
                induction n with
                | zero =>
                  intro a15 a16 hf
                  exact absurd hf (by rw [lX12_freeMark_49]; exact fun h => by cases h)
                | succ n ih =>
                  intro a15 a16 hf
                  rw [lX12_freeMark_49] at hf
                  refine j_iload C 4 dX12_freeMark_49 rfl ?_
                  refine j_aload_n C 0 dX12_freeMark_51 rfl rfl ?_
                  refine g_X12_now C tw5_182 lc178 179 rfl dX12_freeMark_52 ?_
                  refine j_iconst C (0 : Int32) rfl dX12_freeMark_55 ?_
                  obtain ⟨v17, e18, hf⟩ := bd hf
                  obtain ⟨hx19, e18⟩ := ald_some e18
                  refine j_iald C lc179 hx19 e18 dX12_freeMark_56 ?_
                  refine j_icmp_ge C 90 dX12_freeMark_57 (by decide) (fun c20 => ?_) (fun c20 => ?_)
                  · replace hf := ip c20 hf
                    refine j_sub [0, 1, 2, 3] rfl ?_
                    cases hf
                    exact hx39
                  · replace hf := ine c20 hf
                    refine j_iload_n C 3 dX12_freeMark_60 rfl rfl ?_
                    refine j_ifz_eq C 90 dX12_freeMark_61 (by decide) (fun c21 => ?_) (fun c21 => ?_)
                    · replace hf := ine c21 hf
                      refine j_sub [0, 1, 2, 3] rfl ?_
                      cases hf
                      exact hx39
                    · replace hf := ip c21 hf
                      refine j_iload_n C 2 dX12_freeMark_64 rfl rfl ?_
                      refine j_aload_n C 0 dX12_freeMark_65 rfl rfl ?_
                      refine j_iload C 4 dX12_freeMark_66 rfl ?_
                      refine j_iconst C (0 : Int32) rfl dX12_freeMark_68 ?_
                      obtain ⟨v23, e22, hf⟩ := bd hf
                      refine j_callV C 2 lc178 (ent_K _ _ _ _ _ _) rfl (c_X12_of l G n0 e22) gv_RX12_44 ⟨rfl, rfl⟩ (by decide +kernel) ⟨Nat.le_of_ble_eq_true rfl, Nat.le_of_ble_eq_true rfl⟩ rfl rfl (Nat.le_of_ble_eq_true rfl) dX12_freeMark_69 ?_
                      obtain ⟨b25, e24, hf⟩ := bd hf
                      refine j_callS C 2 (c_X12_isLike l G n0 (M := M7) e24) gs_RX12_210 ⟨rfl, rfl⟩ (by decide +kernel) ⟨Nat.le_of_ble_eq_true rfl, Nat.le_of_ble_eq_true rfl⟩ rfl rfl (Nat.le_of_ble_eq_true rfl) dX12_freeMark_72 ?_
                      refine j_ifz_ne C 82 dX12_freeMark_75 (by decide) (fun c26 => ?_) (fun c26 => ?_)
                      · replace hf := ip c26 hf
                        refine j_iconst C (0 : Int32) rfl dX12_freeMark_82 ?_
                        refine j_istore_n C [(3, .int (bI false)), (0, .ref (n0 + 178)), (1, .int x1), (2, .int a9), (4, .int a16)] dX12_freeMark_83 rfl (Nat.le_of_ble_eq_true rfl) rfl ?_
                        refine j_iinc C 4 (a16 + 1) [(4, .int (a16 + 1)), (3, .int (bI false)), (0, .ref (n0 + 178)), (1, .int x1), (2, .int a9)] dX12_freeMark_84 rfl rfl (Nat.le_of_ble_eq_true rfl) rfl ?_
                        refine j_goto C 49 dX12_freeMark_87 (by decide) ?_
                        refine j_sub [2, 3, 4, 1, 0] rfl ?_
                        exact ih _ _ hf
                      · replace hf := ine c26 hf
                        refine j_iconst C (1 : Int32) rfl dX12_freeMark_78 ?_
                        refine j_goto C 83 dX12_freeMark_79 (by decide) ?_
                        refine j_istore_n C [(3, .int (bI true)), (0, .ref (n0 + 178)), (1, .int x1), (2, .int a9), (4, .int a16)] dX12_freeMark_83 rfl (Nat.le_of_ble_eq_true rfl) rfl ?_
                        refine j_iinc C 4 (a16 + 1) [(4, .int (a16 + 1)), (3, .int (bI true)), (0, .ref (n0 + 178)), (1, .int x1), (2, .int a9)] dX12_freeMark_84 rfl rfl (Nat.le_of_ble_eq_true rfl) rfl ?_
                        refine j_goto C 49 dX12_freeMark_87 (by decide) ?_
                        refine j_sub [2, 3, 4, 1, 0] rfl ?_
                        exact ih _ _ hf
              refine j_sub [2, 3, 4, 1, 0] rfl ?_
              exact hl40 FUEL z14 (0 : Int32) e38
            clear hf
            have hf := e36
            refine j_icmp_ne C 44 dX12_freeMark_37 (by decide) (fun c13 => ?_) (fun c13 => ?_)
            · replace hf := ine c13 hf
              refine j_iconst C (0 : Int32) rfl dX12_freeMark_44 ?_
              cases hf
              refine j_sub [0, 1, 2] rfl ?_
              exact hj37
            · replace hf := ip c13 hf
              refine j_iconst C (1 : Int32) rfl dX12_freeMark_40 ?_
              refine j_goto C 45 dX12_freeMark_41 (by decide) ?_
              cases hf
              refine j_sub [0, 1, 2] rfl ?_
              exact hj37
      refine j_sub [1, 2, 0] rfl ?_
      exact hl33 FUEL (1 : Int32) e31
    · replace hf := ip c8 hf
      refine j_iconst C (0 : Int32) rfl dX12_freeMark_22 ?_
      obtain ⟨rfl, rfl⟩ := Prod.mk.inj (Option.some.inj hf)
      exact hret _ _ dX12_freeMark_23
  clear hf
  have hf := e29
  refine j_ifz_eq C 15 dX12_freeMark_8 (by decide) (fun c3 => ?_) (fun c3 => ?_)
  · replace hf := ine c3 hf
    refine j_iconst C (1 : Int32) rfl dX12_freeMark_15 ?_
    cases hf
    refine j_sub [0, 1] rfl ?_
    exact hj30
  · replace hf := ip c3 hf
    refine j_iconst C (0 : Int32) rfl dX12_freeMark_11 ?_
    refine j_goto C 16 dX12_freeMark_12 (by decide) ?_
    cases hf
    refine j_sub [0, 1] rfl ?_
    exact hj30
def fX12_type (x1 : Int32) (M : Mem) : Option (Int32 × Mem) :=
  (fX12_in x1 (0 : Int32) (127 : Int32)).bind fun b2 =>
  (if b2 = true then (if (M.1 178 6) = (150 : Int32) then (some (2 : Int32))
  else (some (0 : Int32)))
  else (some (1 : Int32))).bind (fun z5 => (fX12_refused z5 M).bind (un2 fun b7 M8 =>
  if b7 = true then (some ((0 : Int32), M8))
  else ((ast M8 182 150 (M8.1 178 6) x1).bind fun M10 =>
  (pf M10 178 6 ((M10.1 178 6) + (1 : Int32))).bind fun M13 =>
  some ((M13.1 178 6), M13))))

def rX12_type : Room := { frames := 1, cells := 0, slots := 0, locals := 22 }
set_option maxRecDepth 100000 in
set_option maxHeartbeats 4000000 in
theorem c_X12_type (l : Launch) (G : Gx) (n0 : Nat) {x1 : Int32} {M : Mem} {r : Int32} {M' : Mem} (hf : fX12_type x1 M = some (r, M')) : Ct l yX12_type cX12_type 2 (some .int) rX12_type G n0 [.ref (n0 + 178), .int x1] M (some (.int r)) M' := by
  refine ct_int (cc := cX12_type) (maxL := 2) rfl (Nat.le_of_ble_eq_true rfl) ?_
  intro K C hret
  have C : Ok K l rX12_type cX12_type RX12 G n0 2 := C
  show J K M 0 [(0, .ref (n0 + 178)), (1, .int x1)] []
  unfold fX12_type at hf
  refine j_aload_n C 0 dX12_type_0 rfl rfl ?_
  refine j_iload_n C 1 dX12_type_1 rfl rfl ?_
  refine j_iconst C (0 : Int32) rfl dX12_type_2 ?_
  refine j_bipush C (127 : Int32) rfl dX12_type_3 ?_
  obtain ⟨b2, e1, hf⟩ := bd hf
  refine j_callS C 3 (c_X12_in l G n0 (M := M) e1) gs_RX12_39 ⟨rfl, rfl⟩ (by decide +kernel) ⟨Nat.le_of_ble_eq_true rfl, Nat.le_of_ble_eq_true rfl⟩ rfl rfl (Nat.le_of_ble_eq_true rfl) dX12_type_5 ?_
  obtain ⟨z5, e15, hf⟩ := bd hf
  have hj16 : J K M 30 [(0, .ref (n0 + 178)), (1, .int x1)] [.int z5, .ref (n0 + 178)] := by
    obtain ⟨⟨b7, M8⟩, e6, hf⟩ := bd hf
    replace hf := un2e hf
    refine j_callV C 1 lc178 (ent_K _ _ _ _ _ _) rfl (c_X12_refused l G n0 e6) gv_RX12_35 ⟨rfl, rfl⟩ (by decide +kernel) ⟨Nat.le_of_ble_eq_true rfl, Nat.le_of_ble_eq_true rfl⟩ rfl rfl (Nat.le_of_ble_eq_true rfl) dX12_type_30 ?_
    refine j_ifz_eq C 38 dX12_type_33 (by decide) (fun c9 => ?_) (fun c9 => ?_)
    · replace hf := ine c9 hf
      refine j_aload_n C 0 dX12_type_38 rfl rfl ?_
      refine g_X12_commands C tw5_187 lc178 182 rfl dX12_type_39 ?_
      refine j_aload_n C 0 dX12_type_42 rfl rfl ?_
      refine g_X12_length C tw5_188 lc178 dX12_type_43 ?_
      refine j_iload_n C 1 dX12_type_46 rfl rfl ?_
      obtain ⟨M10, e11, hf⟩ := bd hf
      obtain ⟨hx12, e11⟩ := ast_some e11
      refine j_iast C lc182 hx12 e11 dX12_type_47 ?_
      refine j_aload_n C 0 dX12_type_48 rfl rfl ?_
      refine j_dup C rfl dX12_type_49 ?_
      refine g_X12_length C tw5_188 lc178 dX12_type_50 ?_
      refine j_iconst C (1 : Int32) rfl dX12_type_53 ?_
      refine j_iadd C dX12_type_54 ?_
      obtain ⟨M13, e14, hf⟩ := bd hf
      refine p_X12_length C tw5_188 lc178 e14 dX12_type_55 ?_
      refine j_aload_n C 0 dX12_type_58 rfl rfl ?_
      refine g_X12_length C tw5_188 lc178 dX12_type_59 ?_
      obtain ⟨rfl, rfl⟩ := Prod.mk.inj (Option.some.inj hf)
      exact hret _ _ dX12_type_62
    · replace hf := ip c9 hf
      refine j_iconst C (0 : Int32) rfl dX12_type_36 ?_
      obtain ⟨rfl, rfl⟩ := Prod.mk.inj (Option.some.inj hf)
      exact hret _ _ dX12_type_37
  clear hf
  have hf := e15
  refine j_ifz_ne C 15 dX12_type_8 (by decide) (fun c3 => ?_) (fun c3 => ?_)
  · replace hf := ip c3 hf
    refine j_aload_n C 0 dX12_type_15 rfl rfl ?_
    refine g_X12_length C tw5_188 lc178 dX12_type_16 ?_
    refine j_sipush C (150 : Int32) rfl dX12_type_19 ?_
    refine j_icmp_ne C 29 dX12_type_22 (by decide) (fun c4 => ?_) (fun c4 => ?_)
    · replace hf := ine c4 hf
      refine j_iconst C (0 : Int32) rfl dX12_type_29 ?_
      cases hf
      refine j_sub [0, 1] rfl ?_
      exact hj16
    · replace hf := ip c4 hf
      refine j_iconst C (2 : Int32) rfl dX12_type_25 ?_
      refine j_goto C 30 dX12_type_26 (by decide) ?_
      cases hf
      refine j_sub [0, 1] rfl ?_
      exact hj16
  · replace hf := ine c3 hf
    refine j_iconst C (1 : Int32) rfl dX12_type_11 ?_
    refine j_goto C 30 dX12_type_12 (by decide) ?_
    cases hf
    refine j_sub [0, 1] rfl ?_
    exact hj16
def fX12_clearCommands  (M : Mem) : Option (Int32 × Mem) :=
  (pf M 178 4 (0 : Int32)).bind fun M1 =>
  (pf M1 178 6 (0 : Int32)).bind fun M3 =>
  some ((M1.1 178 6), M3)

def rX12_clearCommands : Room := { frames := 0, cells := 0, slots := 0, locals := 0 }
set_option maxRecDepth 100000 in
set_option maxHeartbeats 4000000 in
theorem c_X12_clearCommands (l : Launch) (G : Gx) (n0 : Nat) {M : Mem} {r : Int32} {M' : Mem} (hf : fX12_clearCommands M = some (r, M')) : Ct l yX12_clearCommands cX12_clearCommands 2 (some .int) rX12_clearCommands G n0 [.ref (n0 + 178)] M (some (.int r)) M' := by
  refine ct_int (cc := cX12_clearCommands) (maxL := 2) rfl (Nat.le_of_ble_eq_true rfl) ?_
  intro K C hret
  have C : Ok K l rX12_clearCommands cX12_clearCommands RX12 G n0 2 := C
  show J K M 0 [(0, .ref (n0 + 178))] []
  unfold fX12_clearCommands at hf
  refine j_aload_n C 0 dX12_clearCommands_0 rfl rfl ?_
  refine j_iconst C (0 : Int32) rfl dX12_clearCommands_1 ?_
  obtain ⟨M1, e2, hf⟩ := bd hf
  refine p_X12_refusal C tw5_186 lc178 e2 dX12_clearCommands_2 ?_
  refine j_aload_n C 0 dX12_clearCommands_5 rfl rfl ?_
  refine g_X12_length C tw5_188 lc178 dX12_clearCommands_6 ?_
  refine j_istore_n C [(1, .int (M1.1 178 6)), (0, .ref (n0 + 178))] dX12_clearCommands_9 rfl (Nat.le_of_ble_eq_true rfl) rfl ?_
  refine j_aload_n C 1 dX12_clearCommands_10 rfl rfl ?_
  refine j_iconst C (0 : Int32) rfl dX12_clearCommands_11 ?_
  obtain ⟨M3, e4, hf⟩ := bd hf
  refine p_X12_length C tw5_188 lc178 e4 dX12_clearCommands_12 ?_
  refine j_iload_n C 0 dX12_clearCommands_15 rfl rfl ?_
  obtain ⟨rfl, rfl⟩ := Prod.mk.inj (Option.some.inj hf)
  exact hret _ _ dX12_clearCommands_16
def fX12_isAt (x1 : Int32) (x2 : Int32) (M : Mem) : Option Bool :=
  if (M.1 178 6) ≤ (M.1 178 11) then (some false)
  else ((ald (M.1 182) 150 (M.1 178 11)).bind fun v2 =>
  (fX12_in v2 x1 x2).bind fun b6 =>
  if b6 = true then (some true)
  else (some false))

def rX12_isAt : Room := { frames := 1, cells := 0, slots := 0, locals := 22 }
set_option maxRecDepth 100000 in
set_option maxHeartbeats 4000000 in
theorem c_X12_isAt (l : Launch) (G : Gx) (n0 : Nat) {x1 : Int32} {x2 : Int32} {M : Mem} {r : Bool} (hf : fX12_isAt x1 x2 M = some r) : Ct l yX12_isAt cX12_isAt 3 (some .boolean) rX12_isAt G n0 [.ref (n0 + 178), .int x1, .int x2] M (some (.int (bI r))) M := by
  refine ct_bool (cc := cX12_isAt) (maxL := 3) rfl (Nat.le_of_ble_eq_true rfl) ?_
  intro K C hret
  have C : Ok K l rX12_isAt cX12_isAt RX12 G n0 3 := C
  show J K M 0 [(0, .ref (n0 + 178)), (1, .int x1), (2, .int x2)] []
  unfold fX12_isAt at hf
  refine j_aload_n C 0 dX12_isAt_0 rfl rfl ?_
  refine g_X12_spot C tw5_193 lc178 dX12_isAt_1 ?_
  refine j_aload_n C 0 dX12_isAt_4 rfl rfl ?_
  refine g_X12_length C tw5_188 lc178 dX12_isAt_5 ?_
  refine j_icmp_ge C 32 dX12_isAt_8 (by decide) (fun c1 => ?_) (fun c1 => ?_)
  · replace hf := ip c1 hf
    refine j_iconst C (0 : Int32) rfl dX12_isAt_32 ?_
    obtain rfl := Option.some.inj hf
    exact hret _ _ dX12_isAt_33
  · replace hf := ine c1 hf
    refine j_aload_n C 0 dX12_isAt_11 rfl rfl ?_
    refine g_X12_commands C tw5_187 lc178 182 rfl dX12_isAt_12 ?_
    refine j_aload_n C 0 dX12_isAt_15 rfl rfl ?_
    refine g_X12_spot C tw5_193 lc178 dX12_isAt_16 ?_
    obtain ⟨v2, e3, hf⟩ := bd hf
    obtain ⟨hx4, e3⟩ := ald_some e3
    refine j_iald C lc182 hx4 e3 dX12_isAt_19 ?_
    refine j_iload_n C 1 dX12_isAt_20 rfl rfl ?_
    refine j_iload_n C 2 dX12_isAt_21 rfl rfl ?_
    obtain ⟨b6, e5, hf⟩ := bd hf
    refine j_callS C 3 (c_X12_in l G n0 (M := M) e5) gs_RX12_39 ⟨rfl, rfl⟩ (by decide +kernel) ⟨Nat.le_of_ble_eq_true rfl, Nat.le_of_ble_eq_true rfl⟩ rfl rfl (Nat.le_of_ble_eq_true rfl) dX12_isAt_22 ?_
    refine j_ifz_eq C 32 dX12_isAt_25 (by decide) (fun c7 => ?_) (fun c7 => ?_)
    · replace hf := ine c7 hf
      refine j_iconst C (0 : Int32) rfl dX12_isAt_32 ?_
      obtain rfl := Option.some.inj hf
      exact hret _ _ dX12_isAt_33
    · replace hf := ip c7 hf
      refine j_iconst C (1 : Int32) rfl dX12_isAt_28 ?_
      refine j_goto C 33 dX12_isAt_29 (by decide) ?_
      obtain rfl := Option.some.inj hf
      exact hret _ _ dX12_isAt_33
def lX12_skips_9  : Nat → Mem → Option Mem
  | 0, _ => none
  | n + 1, M3 =>
  (fX12_isAt (32 : Int32) (32 : Int32) M3).bind fun b5 =>
  if b5 = true then ((pf M3 178 11 ((M3.1 178 11) + (1 : Int32))).bind fun M7 =>
  lX12_skips_9  n M7)
  else (some M3)

def fX12_skips  (M : Mem) : Option (Bool × Mem) :=
  (fX12_isAt (32 : Int32) (32 : Int32) M).bind fun b2 =>
  (lX12_skips_9 FUEL M).bind (fun M9 => some (b2, M9))

def rX12_skips : Room := { frames := 2, cells := 0, slots := 0, locals := 44 }
set_option maxRecDepth 100000 in
set_option maxHeartbeats 4000000 in
theorem c_X12_skips (l : Launch) (G : Gx) (n0 : Nat) {M : Mem} {r : Bool} {M' : Mem} (hf : fX12_skips M = some (r, M')) : Ct l yX12_skips cX12_skips 2 (some .boolean) rX12_skips G n0 [.ref (n0 + 178)] M (some (.int (bI r))) M' := by
  refine ct_bool (cc := cX12_skips) (maxL := 2) rfl (Nat.le_of_ble_eq_true rfl) ?_
  intro K C hret
  have C : Ok K l rX12_skips cX12_skips RX12 G n0 2 := C
  show J K M 0 [(0, .ref (n0 + 178))] []
  unfold fX12_skips at hf
  refine j_aload_n C 0 dX12_skips_0 rfl rfl ?_
  refine j_bipush C (32 : Int32) rfl dX12_skips_1 ?_
  refine j_bipush C (32 : Int32) rfl dX12_skips_3 ?_
  obtain ⟨b2, e1, hf⟩ := bd hf
  refine j_callV C 2 lc178 (ent_K _ _ _ _ _ _) rfl (c_X12_isAt l G n0 e1) gv_RX12_222 ⟨rfl, rfl⟩ (by decide +kernel) ⟨Nat.le_of_ble_eq_true rfl, Nat.le_of_ble_eq_true rfl⟩ rfl rfl (Nat.le_of_ble_eq_true rfl) dX12_skips_5 ?_
  refine j_istore_n C [(1, .int (bI b2)), (0, .ref (n0 + 178))] dX12_skips_8 rfl (Nat.le_of_ble_eq_true rfl) rfl ?_
  obtain ⟨M9, e10, hf⟩ := bd hf
  have hx11 : J K M9 33 [(1, .int (bI b2))] [] := by
    refine j_iload_n C 0 dX12_skips_33 rfl rfl ?_
    obtain ⟨rfl, rfl⟩ := Prod.mk.inj (Option.some.inj hf)
    exact hret _ _ dX12_skips_34
  clear hf
  have hl12 : ∀ (n : Nat) (M3 : Mem), lX12_skips_9 n M3 = some M9 → J K M3 9 [(0, .ref (n0 + 178)), (1, .int (bI b2))] [] := by
    intro n
    induction n with
    | zero =>
      intro M3 hf
      exact absurd hf (by rw [lX12_skips_9]; exact fun h => by cases h)
    | succ n ih =>
      intro M3 hf
      rw [lX12_skips_9] at hf
      refine j_aload_n C 0 dX12_skips_9 rfl rfl ?_
      refine j_bipush C (32 : Int32) rfl dX12_skips_10 ?_
      refine j_bipush C (32 : Int32) rfl dX12_skips_12 ?_
      obtain ⟨b5, e4, hf⟩ := bd hf
      refine j_callV C 2 lc178 (ent_K _ _ _ _ _ _) rfl (c_X12_isAt l G n0 e4) gv_RX12_222 ⟨rfl, rfl⟩ (by decide +kernel) ⟨Nat.le_of_ble_eq_true rfl, Nat.le_of_ble_eq_true rfl⟩ rfl rfl (Nat.le_of_ble_eq_true rfl) dX12_skips_14 ?_
      refine j_ifz_eq C 33 dX12_skips_17 (by decide) (fun c6 => ?_) (fun c6 => ?_)
      · replace hf := ine c6 hf
        refine j_sub [1] rfl ?_
        cases hf
        exact hx11
      · replace hf := ip c6 hf
        refine j_aload_n C 0 dX12_skips_20 rfl rfl ?_
        refine j_dup C rfl dX12_skips_21 ?_
        refine g_X12_spot C tw5_193 lc178 dX12_skips_22 ?_
        refine j_iconst C (1 : Int32) rfl dX12_skips_25 ?_
        refine j_iadd C dX12_skips_26 ?_
        obtain ⟨M7, e8, hf⟩ := bd hf
        refine p_X12_spot C tw5_193 lc178 e8 dX12_skips_27 ?_
        refine j_goto C 9 dX12_skips_30 (by decide) ?_
        refine j_sub [0, 1] rfl ?_
        exact ih  _ hf
  refine j_sub [1, 0] rfl ?_
  exact hl12 FUEL M e10
def fX12_letterAt (x0 : Int32) (x1 : Int32) : Option Int32 :=
  if x0 = 0 then (if x1 = 0 then (some (106 : Int32))
  else (if x1 = (1 : Int32) then (some (111 : Int32))
  else (if x1 = (2 : Int32) then (some (105 : Int32))
  else (if x1 = (3 : Int32) then (some (110 : Int32))
  else (some (0 : Int32))))))
  else if x0 = 1 then (if x1 = 0 then (some (98 : Int32))
  else (if x1 = (1 : Int32) then (some (114 : Int32))
  else (if x1 = (2 : Int32) then (some (105 : Int32))
  else (if x1 = (3 : Int32) then (some (110 : Int32))
  else (if x1 = (4 : Int32) then (some (103 : Int32))
  else (some (0 : Int32)))))))
  else if x0 = 2 then (if x1 = 0 then (some (98 : Int32))
  else (if x1 = (1 : Int32) then (some (97 : Int32))
  else (if x1 = (2 : Int32) then (some (107 : Int32))
  else (if x1 = (3 : Int32) then (some (101 : Int32))
  else (some (0 : Int32))))))
  else if x0 = 3 then (if x1 = 0 then (some (99 : Int32))
  else (if x1 = (1 : Int32) then (some (108 : Int32))
  else (if x1 = (2 : Int32) then (some (97 : Int32))
  else (if x1 = (3 : Int32) then (some (105 : Int32))
  else (if x1 = (4 : Int32) then (some (109 : Int32))
  else (some (0 : Int32)))))))
  else if x0 = 4 then (if x1 = 0 then (some (114 : Int32))
  else (if x1 = (1 : Int32) then (some (101 : Int32))
  else (if x1 = (2 : Int32) then (some (116 : Int32))
  else (if x1 = (3 : Int32) then (some (117 : Int32))
  else (if x1 = (4 : Int32) then (some (114 : Int32))
  else (if x1 = (5 : Int32) then (some (110 : Int32))
  else (some (0 : Int32))))))))
  else if x0 = 5 then (if x1 = 0 then (some (101 : Int32))
  else (if x1 = (5 : Int32) then (some (101 : Int32))
  else (if x1 = (1 : Int32) then (some (120 : Int32))
  else (if x1 = (2 : Int32) then (some (99 : Int32))
  else (if x1 = (3 : Int32) then (some (117 : Int32))
  else (if x1 = (4 : Int32) then (some (115 : Int32))
  else (some (0 : Int32))))))))
  else (if x1 = 0 then (some (103 : Int32))
  else (if x1 = (1 : Int32) then (some (105 : Int32))
  else (if x1 = (2 : Int32) then (some (118 : Int32))
  else (if x1 = (3 : Int32) then (some (101 : Int32))
  else (some (0 : Int32))))))

def rX12_letterAt : Room := { frames := 0, cells := 0, slots := 0, locals := 0 }
set_option maxRecDepth 100000 in
set_option maxHeartbeats 4000000 in
theorem c_X12_letterAt (l : Launch) (G : Gx) (n0 : Nat) {x0 : Int32} {x1 : Int32} {M : Mem} {r : Int32} (hf : fX12_letterAt x0 x1 = some r) : Ct l yX12_letterAt cX12_letterAt 2 (some .int) rX12_letterAt G n0 [.int x0, .int x1] M (some (.int r)) M := by
  refine ct_int (cc := cX12_letterAt) (maxL := 2) rfl (Nat.le_of_ble_eq_true rfl) ?_
  intro K C hret
  have C : Ok K l rX12_letterAt cX12_letterAt RX12 G n0 2 := C
  show J K M 0 [(0, .int x0), (1, .int x1)] []
  unfold fX12_letterAt at hf
  refine j_iload_n C 0 dX12_letterAt_0 rfl rfl ?_
  by_cases c35_0 : x0 = 0
  · replace hf := ip c35_0 hf
    refine j_tsw C 40 c35_0 dX12_letterAt_1 (by decide) rfl (by decide) ?_
    refine j_iload_n C 1 dX12_letterAt_40 rfl rfl ?_
    refine j_if_ne C 49 dX12_letterAt_41 (by decide) (fun c1 => ?_) (fun c1 => ?_)
    · replace hf := ine c1 hf
      refine j_iload_n C 1 dX12_letterAt_49 rfl rfl ?_
      refine j_iconst C (1 : Int32) rfl dX12_letterAt_50 ?_
      refine j_icmp_ne C 59 dX12_letterAt_51 (by decide) (fun c2 => ?_) (fun c2 => ?_)
      · replace hf := ine c2 hf
        refine j_iload_n C 1 dX12_letterAt_59 rfl rfl ?_
        refine j_iconst C (2 : Int32) rfl dX12_letterAt_60 ?_
        refine j_icmp_ne C 69 dX12_letterAt_61 (by decide) (fun c3 => ?_) (fun c3 => ?_)
        · replace hf := ine c3 hf
          refine j_iload_n C 1 dX12_letterAt_69 rfl rfl ?_
          refine j_iconst C (3 : Int32) rfl dX12_letterAt_70 ?_
          refine j_icmp_ne C 79 dX12_letterAt_71 (by decide) (fun c4 => ?_) (fun c4 => ?_)
          · replace hf := ine c4 hf
            refine j_iconst C (0 : Int32) rfl dX12_letterAt_79 ?_
            obtain rfl := Option.some.inj hf
            exact hret _ _ dX12_letterAt_80
          · replace hf := ip c4 hf
            refine j_bipush C (110 : Int32) rfl dX12_letterAt_74 ?_
            refine j_goto C 80 dX12_letterAt_76 (by decide) ?_
            obtain rfl := Option.some.inj hf
            exact hret _ _ dX12_letterAt_80
        · replace hf := ip c3 hf
          refine j_bipush C (105 : Int32) rfl dX12_letterAt_64 ?_
          refine j_goto C 80 dX12_letterAt_66 (by decide) ?_
          obtain rfl := Option.some.inj hf
          exact hret _ _ dX12_letterAt_80
      · replace hf := ip c2 hf
        refine j_bipush C (111 : Int32) rfl dX12_letterAt_54 ?_
        refine j_goto C 80 dX12_letterAt_56 (by decide) ?_
        obtain rfl := Option.some.inj hf
        exact hret _ _ dX12_letterAt_80
    · replace hf := ip c1 hf
      refine j_bipush C (106 : Int32) rfl dX12_letterAt_44 ?_
      refine j_goto C 80 dX12_letterAt_46 (by decide) ?_
      obtain rfl := Option.some.inj hf
      exact hret _ _ dX12_letterAt_80
  · replace hf := ine c35_0 hf
    by_cases c35_1 : x0 = 1
    · replace hf := ip c35_1 hf
      refine j_tsw C 81 c35_1 dX12_letterAt_1 (by decide) rfl (by decide) ?_
      refine j_iload_n C 1 dX12_letterAt_81 rfl rfl ?_
      refine j_if_ne C 90 dX12_letterAt_82 (by decide) (fun c5 => ?_) (fun c5 => ?_)
      · replace hf := ine c5 hf
        refine j_iload_n C 1 dX12_letterAt_90 rfl rfl ?_
        refine j_iconst C (1 : Int32) rfl dX12_letterAt_91 ?_
        refine j_icmp_ne C 100 dX12_letterAt_92 (by decide) (fun c6 => ?_) (fun c6 => ?_)
        · replace hf := ine c6 hf
          refine j_iload_n C 1 dX12_letterAt_100 rfl rfl ?_
          refine j_iconst C (2 : Int32) rfl dX12_letterAt_101 ?_
          refine j_icmp_ne C 110 dX12_letterAt_102 (by decide) (fun c7 => ?_) (fun c7 => ?_)
          · replace hf := ine c7 hf
            refine j_iload_n C 1 dX12_letterAt_110 rfl rfl ?_
            refine j_iconst C (3 : Int32) rfl dX12_letterAt_111 ?_
            refine j_icmp_ne C 120 dX12_letterAt_112 (by decide) (fun c8 => ?_) (fun c8 => ?_)
            · replace hf := ine c8 hf
              refine j_iload_n C 1 dX12_letterAt_120 rfl rfl ?_
              refine j_iconst C (4 : Int32) rfl dX12_letterAt_121 ?_
              refine j_icmp_ne C 130 dX12_letterAt_122 (by decide) (fun c9 => ?_) (fun c9 => ?_)
              · replace hf := ine c9 hf
                refine j_iconst C (0 : Int32) rfl dX12_letterAt_130 ?_
                obtain rfl := Option.some.inj hf
                exact hret _ _ dX12_letterAt_131
              · replace hf := ip c9 hf
                refine j_bipush C (103 : Int32) rfl dX12_letterAt_125 ?_
                refine j_goto C 131 dX12_letterAt_127 (by decide) ?_
                obtain rfl := Option.some.inj hf
                exact hret _ _ dX12_letterAt_131
            · replace hf := ip c8 hf
              refine j_bipush C (110 : Int32) rfl dX12_letterAt_115 ?_
              refine j_goto C 131 dX12_letterAt_117 (by decide) ?_
              obtain rfl := Option.some.inj hf
              exact hret _ _ dX12_letterAt_131
          · replace hf := ip c7 hf
            refine j_bipush C (105 : Int32) rfl dX12_letterAt_105 ?_
            refine j_goto C 131 dX12_letterAt_107 (by decide) ?_
            obtain rfl := Option.some.inj hf
            exact hret _ _ dX12_letterAt_131
        · replace hf := ip c6 hf
          refine j_bipush C (114 : Int32) rfl dX12_letterAt_95 ?_
          refine j_goto C 131 dX12_letterAt_97 (by decide) ?_
          obtain rfl := Option.some.inj hf
          exact hret _ _ dX12_letterAt_131
      · replace hf := ip c5 hf
        refine j_bipush C (98 : Int32) rfl dX12_letterAt_85 ?_
        refine j_goto C 131 dX12_letterAt_87 (by decide) ?_
        obtain rfl := Option.some.inj hf
        exact hret _ _ dX12_letterAt_131
    · replace hf := ine c35_1 hf
      by_cases c35_2 : x0 = 2
      · replace hf := ip c35_2 hf
        refine j_tsw C 132 c35_2 dX12_letterAt_1 (by decide) rfl (by decide) ?_
        refine j_iload_n C 1 dX12_letterAt_132 rfl rfl ?_
        refine j_if_ne C 141 dX12_letterAt_133 (by decide) (fun c10 => ?_) (fun c10 => ?_)
        · replace hf := ine c10 hf
          refine j_iload_n C 1 dX12_letterAt_141 rfl rfl ?_
          refine j_iconst C (1 : Int32) rfl dX12_letterAt_142 ?_
          refine j_icmp_ne C 151 dX12_letterAt_143 (by decide) (fun c11 => ?_) (fun c11 => ?_)
          · replace hf := ine c11 hf
            refine j_iload_n C 1 dX12_letterAt_151 rfl rfl ?_
            refine j_iconst C (2 : Int32) rfl dX12_letterAt_152 ?_
            refine j_icmp_ne C 161 dX12_letterAt_153 (by decide) (fun c12 => ?_) (fun c12 => ?_)
            · replace hf := ine c12 hf
              refine j_iload_n C 1 dX12_letterAt_161 rfl rfl ?_
              refine j_iconst C (3 : Int32) rfl dX12_letterAt_162 ?_
              refine j_icmp_ne C 171 dX12_letterAt_163 (by decide) (fun c13 => ?_) (fun c13 => ?_)
              · replace hf := ine c13 hf
                refine j_iconst C (0 : Int32) rfl dX12_letterAt_171 ?_
                obtain rfl := Option.some.inj hf
                exact hret _ _ dX12_letterAt_172
              · replace hf := ip c13 hf
                refine j_bipush C (101 : Int32) rfl dX12_letterAt_166 ?_
                refine j_goto C 172 dX12_letterAt_168 (by decide) ?_
                obtain rfl := Option.some.inj hf
                exact hret _ _ dX12_letterAt_172
            · replace hf := ip c12 hf
              refine j_bipush C (107 : Int32) rfl dX12_letterAt_156 ?_
              refine j_goto C 172 dX12_letterAt_158 (by decide) ?_
              obtain rfl := Option.some.inj hf
              exact hret _ _ dX12_letterAt_172
          · replace hf := ip c11 hf
            refine j_bipush C (97 : Int32) rfl dX12_letterAt_146 ?_
            refine j_goto C 172 dX12_letterAt_148 (by decide) ?_
            obtain rfl := Option.some.inj hf
            exact hret _ _ dX12_letterAt_172
        · replace hf := ip c10 hf
          refine j_bipush C (98 : Int32) rfl dX12_letterAt_136 ?_
          refine j_goto C 172 dX12_letterAt_138 (by decide) ?_
          obtain rfl := Option.some.inj hf
          exact hret _ _ dX12_letterAt_172
      · replace hf := ine c35_2 hf
        by_cases c35_3 : x0 = 3
        · replace hf := ip c35_3 hf
          refine j_tsw C 173 c35_3 dX12_letterAt_1 (by decide) rfl (by decide) ?_
          refine j_iload_n C 1 dX12_letterAt_173 rfl rfl ?_
          refine j_if_ne C 182 dX12_letterAt_174 (by decide) (fun c14 => ?_) (fun c14 => ?_)
          · replace hf := ine c14 hf
            refine j_iload_n C 1 dX12_letterAt_182 rfl rfl ?_
            refine j_iconst C (1 : Int32) rfl dX12_letterAt_183 ?_
            refine j_icmp_ne C 192 dX12_letterAt_184 (by decide) (fun c15 => ?_) (fun c15 => ?_)
            · replace hf := ine c15 hf
              refine j_iload_n C 1 dX12_letterAt_192 rfl rfl ?_
              refine j_iconst C (2 : Int32) rfl dX12_letterAt_193 ?_
              refine j_icmp_ne C 202 dX12_letterAt_194 (by decide) (fun c16 => ?_) (fun c16 => ?_)
              · replace hf := ine c16 hf
                refine j_iload_n C 1 dX12_letterAt_202 rfl rfl ?_
                refine j_iconst C (3 : Int32) rfl dX12_letterAt_203 ?_
                refine j_icmp_ne C 212 dX12_letterAt_204 (by decide) (fun c17 => ?_) (fun c17 => ?_)
                · replace hf := ine c17 hf
                  refine j_iload_n C 1 dX12_letterAt_212 rfl rfl ?_
                  refine j_iconst C (4 : Int32) rfl dX12_letterAt_213 ?_
                  refine j_icmp_ne C 222 dX12_letterAt_214 (by decide) (fun c18 => ?_) (fun c18 => ?_)
                  · replace hf := ine c18 hf
                    refine j_iconst C (0 : Int32) rfl dX12_letterAt_222 ?_
                    obtain rfl := Option.some.inj hf
                    exact hret _ _ dX12_letterAt_223
                  · replace hf := ip c18 hf
                    refine j_bipush C (109 : Int32) rfl dX12_letterAt_217 ?_
                    refine j_goto C 223 dX12_letterAt_219 (by decide) ?_
                    obtain rfl := Option.some.inj hf
                    exact hret _ _ dX12_letterAt_223
                · replace hf := ip c17 hf
                  refine j_bipush C (105 : Int32) rfl dX12_letterAt_207 ?_
                  refine j_goto C 223 dX12_letterAt_209 (by decide) ?_
                  obtain rfl := Option.some.inj hf
                  exact hret _ _ dX12_letterAt_223
              · replace hf := ip c16 hf
                refine j_bipush C (97 : Int32) rfl dX12_letterAt_197 ?_
                refine j_goto C 223 dX12_letterAt_199 (by decide) ?_
                obtain rfl := Option.some.inj hf
                exact hret _ _ dX12_letterAt_223
            · replace hf := ip c15 hf
              refine j_bipush C (108 : Int32) rfl dX12_letterAt_187 ?_
              refine j_goto C 223 dX12_letterAt_189 (by decide) ?_
              obtain rfl := Option.some.inj hf
              exact hret _ _ dX12_letterAt_223
          · replace hf := ip c14 hf
            refine j_bipush C (99 : Int32) rfl dX12_letterAt_177 ?_
            refine j_goto C 223 dX12_letterAt_179 (by decide) ?_
            obtain rfl := Option.some.inj hf
            exact hret _ _ dX12_letterAt_223
        · replace hf := ine c35_3 hf
          by_cases c35_4 : x0 = 4
          · replace hf := ip c35_4 hf
            refine j_tsw C 224 c35_4 dX12_letterAt_1 (by decide) rfl (by decide) ?_
            refine j_iload_n C 1 dX12_letterAt_224 rfl rfl ?_
            refine j_if_ne C 233 dX12_letterAt_225 (by decide) (fun c19 => ?_) (fun c19 => ?_)
            · replace hf := ine c19 hf
              refine j_iload_n C 1 dX12_letterAt_233 rfl rfl ?_
              refine j_iconst C (1 : Int32) rfl dX12_letterAt_234 ?_
              refine j_icmp_ne C 243 dX12_letterAt_235 (by decide) (fun c20 => ?_) (fun c20 => ?_)
              · replace hf := ine c20 hf
                refine j_iload_n C 1 dX12_letterAt_243 rfl rfl ?_
                refine j_iconst C (2 : Int32) rfl dX12_letterAt_244 ?_
                refine j_icmp_ne C 253 dX12_letterAt_245 (by decide) (fun c21 => ?_) (fun c21 => ?_)
                · replace hf := ine c21 hf
                  refine j_iload_n C 1 dX12_letterAt_253 rfl rfl ?_
                  refine j_iconst C (3 : Int32) rfl dX12_letterAt_254 ?_
                  refine j_icmp_ne C 263 dX12_letterAt_255 (by decide) (fun c22 => ?_) (fun c22 => ?_)
                  · replace hf := ine c22 hf
                    refine j_iload_n C 1 dX12_letterAt_263 rfl rfl ?_
                    refine j_iconst C (4 : Int32) rfl dX12_letterAt_264 ?_
                    refine j_icmp_ne C 273 dX12_letterAt_265 (by decide) (fun c23 => ?_) (fun c23 => ?_)
                    · replace hf := ine c23 hf
                      refine j_iload_n C 1 dX12_letterAt_273 rfl rfl ?_
                      refine j_iconst C (5 : Int32) rfl dX12_letterAt_274 ?_
                      refine j_icmp_ne C 283 dX12_letterAt_275 (by decide) (fun c24 => ?_) (fun c24 => ?_)
                      · replace hf := ine c24 hf
                        refine j_iconst C (0 : Int32) rfl dX12_letterAt_283 ?_
                        obtain rfl := Option.some.inj hf
                        exact hret _ _ dX12_letterAt_284
                      · replace hf := ip c24 hf
                        refine j_bipush C (110 : Int32) rfl dX12_letterAt_278 ?_
                        refine j_goto C 284 dX12_letterAt_280 (by decide) ?_
                        obtain rfl := Option.some.inj hf
                        exact hret _ _ dX12_letterAt_284
                    · replace hf := ip c23 hf
                      refine j_bipush C (114 : Int32) rfl dX12_letterAt_268 ?_
                      refine j_goto C 284 dX12_letterAt_270 (by decide) ?_
                      obtain rfl := Option.some.inj hf
                      exact hret _ _ dX12_letterAt_284
                  · replace hf := ip c22 hf
                    refine j_bipush C (117 : Int32) rfl dX12_letterAt_258 ?_
                    refine j_goto C 284 dX12_letterAt_260 (by decide) ?_
                    obtain rfl := Option.some.inj hf
                    exact hret _ _ dX12_letterAt_284
                · replace hf := ip c21 hf
                  refine j_bipush C (116 : Int32) rfl dX12_letterAt_248 ?_
                  refine j_goto C 284 dX12_letterAt_250 (by decide) ?_
                  obtain rfl := Option.some.inj hf
                  exact hret _ _ dX12_letterAt_284
              · replace hf := ip c20 hf
                refine j_bipush C (101 : Int32) rfl dX12_letterAt_238 ?_
                refine j_goto C 284 dX12_letterAt_240 (by decide) ?_
                obtain rfl := Option.some.inj hf
                exact hret _ _ dX12_letterAt_284
            · replace hf := ip c19 hf
              refine j_bipush C (114 : Int32) rfl dX12_letterAt_228 ?_
              refine j_goto C 284 dX12_letterAt_230 (by decide) ?_
              obtain rfl := Option.some.inj hf
              exact hret _ _ dX12_letterAt_284
          · replace hf := ine c35_4 hf
            by_cases c35_5 : x0 = 5
            · replace hf := ip c35_5 hf
              refine j_tsw C 285 c35_5 dX12_letterAt_1 (by decide) rfl (by decide) ?_
              refine j_iload_n C 1 dX12_letterAt_285 rfl rfl ?_
              refine j_if_eq C 294 dX12_letterAt_286 (by decide) (fun c25 => ?_) (fun c25 => ?_)
              · replace hf := ip c25 hf
                refine j_bipush C (101 : Int32) rfl dX12_letterAt_294 ?_
                refine j_goto C 340 dX12_letterAt_296 (by decide) ?_
                obtain rfl := Option.some.inj hf
                exact hret _ _ dX12_letterAt_340
              · replace hf := ine c25 hf
                refine j_iload_n C 1 dX12_letterAt_289 rfl rfl ?_
                refine j_iconst C (5 : Int32) rfl dX12_letterAt_290 ?_
                refine j_icmp_ne C 299 dX12_letterAt_291 (by decide) (fun c26 => ?_) (fun c26 => ?_)
                · replace hf := ine c26 hf
                  refine j_iload_n C 1 dX12_letterAt_299 rfl rfl ?_
                  refine j_iconst C (1 : Int32) rfl dX12_letterAt_300 ?_
                  refine j_icmp_ne C 309 dX12_letterAt_301 (by decide) (fun c27 => ?_) (fun c27 => ?_)
                  · replace hf := ine c27 hf
                    refine j_iload_n C 1 dX12_letterAt_309 rfl rfl ?_
                    refine j_iconst C (2 : Int32) rfl dX12_letterAt_310 ?_
                    refine j_icmp_ne C 319 dX12_letterAt_311 (by decide) (fun c28 => ?_) (fun c28 => ?_)
                    · replace hf := ine c28 hf
                      refine j_iload_n C 1 dX12_letterAt_319 rfl rfl ?_
                      refine j_iconst C (3 : Int32) rfl dX12_letterAt_320 ?_
                      refine j_icmp_ne C 329 dX12_letterAt_321 (by decide) (fun c29 => ?_) (fun c29 => ?_)
                      · replace hf := ine c29 hf
                        refine j_iload_n C 1 dX12_letterAt_329 rfl rfl ?_
                        refine j_iconst C (4 : Int32) rfl dX12_letterAt_330 ?_
                        refine j_icmp_ne C 339 dX12_letterAt_331 (by decide) (fun c30 => ?_) (fun c30 => ?_)
                        · replace hf := ine c30 hf
                          refine j_iconst C (0 : Int32) rfl dX12_letterAt_339 ?_
                          obtain rfl := Option.some.inj hf
                          exact hret _ _ dX12_letterAt_340
                        · replace hf := ip c30 hf
                          refine j_bipush C (115 : Int32) rfl dX12_letterAt_334 ?_
                          refine j_goto C 340 dX12_letterAt_336 (by decide) ?_
                          obtain rfl := Option.some.inj hf
                          exact hret _ _ dX12_letterAt_340
                      · replace hf := ip c29 hf
                        refine j_bipush C (117 : Int32) rfl dX12_letterAt_324 ?_
                        refine j_goto C 340 dX12_letterAt_326 (by decide) ?_
                        obtain rfl := Option.some.inj hf
                        exact hret _ _ dX12_letterAt_340
                    · replace hf := ip c28 hf
                      refine j_bipush C (99 : Int32) rfl dX12_letterAt_314 ?_
                      refine j_goto C 340 dX12_letterAt_316 (by decide) ?_
                      obtain rfl := Option.some.inj hf
                      exact hret _ _ dX12_letterAt_340
                  · replace hf := ip c27 hf
                    refine j_bipush C (120 : Int32) rfl dX12_letterAt_304 ?_
                    refine j_goto C 340 dX12_letterAt_306 (by decide) ?_
                    obtain rfl := Option.some.inj hf
                    exact hret _ _ dX12_letterAt_340
                · replace hf := ip c26 hf
                  refine j_bipush C (101 : Int32) rfl dX12_letterAt_294 ?_
                  refine j_goto C 340 dX12_letterAt_296 (by decide) ?_
                  obtain rfl := Option.some.inj hf
                  exact hret _ _ dX12_letterAt_340
            · replace hf := ine c35_5 hf
              refine j_tswD C 341 (by have g0 := lv_neT c35_0 (show (0 : Int32).toInt = 0 by decide); have g1 := lv_neT c35_1 (show (1 : Int32).toInt = 1 by decide); have g2 := lv_neT c35_2 (show (2 : Int32).toInt = 2 by decide); have g3 := lv_neT c35_3 (show (3 : Int32).toInt = 3 by decide); have g4 := lv_neT c35_4 (show (4 : Int32).toInt = 4 by decide); have g5 := lv_neT c35_5 (show (5 : Int32).toInt = 5 by decide); omega) dX12_letterAt_1 (by decide) ?_
              refine j_iload_n C 1 dX12_letterAt_341 rfl rfl ?_
              refine j_if_ne C 350 dX12_letterAt_342 (by decide) (fun c31 => ?_) (fun c31 => ?_)
              · replace hf := ine c31 hf
                refine j_iload_n C 1 dX12_letterAt_350 rfl rfl ?_
                refine j_iconst C (1 : Int32) rfl dX12_letterAt_351 ?_
                refine j_icmp_ne C 360 dX12_letterAt_352 (by decide) (fun c32 => ?_) (fun c32 => ?_)
                · replace hf := ine c32 hf
                  refine j_iload_n C 1 dX12_letterAt_360 rfl rfl ?_
                  refine j_iconst C (2 : Int32) rfl dX12_letterAt_361 ?_
                  refine j_icmp_ne C 370 dX12_letterAt_362 (by decide) (fun c33 => ?_) (fun c33 => ?_)
                  · replace hf := ine c33 hf
                    refine j_iload_n C 1 dX12_letterAt_370 rfl rfl ?_
                    refine j_iconst C (3 : Int32) rfl dX12_letterAt_371 ?_
                    refine j_icmp_ne C 380 dX12_letterAt_372 (by decide) (fun c34 => ?_) (fun c34 => ?_)
                    · replace hf := ine c34 hf
                      refine j_iconst C (0 : Int32) rfl dX12_letterAt_380 ?_
                      obtain rfl := Option.some.inj hf
                      exact hret _ _ dX12_letterAt_381
                    · replace hf := ip c34 hf
                      refine j_bipush C (101 : Int32) rfl dX12_letterAt_375 ?_
                      refine j_goto C 381 dX12_letterAt_377 (by decide) ?_
                      obtain rfl := Option.some.inj hf
                      exact hret _ _ dX12_letterAt_381
                  · replace hf := ip c33 hf
                    refine j_bipush C (118 : Int32) rfl dX12_letterAt_365 ?_
                    refine j_goto C 381 dX12_letterAt_367 (by decide) ?_
                    obtain rfl := Option.some.inj hf
                    exact hret _ _ dX12_letterAt_381
                · replace hf := ip c32 hf
                  refine j_bipush C (105 : Int32) rfl dX12_letterAt_355 ?_
                  refine j_goto C 381 dX12_letterAt_357 (by decide) ?_
                  obtain rfl := Option.some.inj hf
                  exact hret _ _ dX12_letterAt_381
              · replace hf := ip c31 hf
                refine j_bipush C (103 : Int32) rfl dX12_letterAt_345 ?_
                refine j_goto C 381 dX12_letterAt_347 (by decide) ?_
                obtain rfl := Option.some.inj hf
                exact hret _ _ dX12_letterAt_381
def lX12_wordFrom_43 (x1 : Int32) (M : Mem) (a1 : Int32) : Nat → Bool → Int32 → Option Bool
  | 0, _, _ => none
  | n + 1, a9, a10 =>
  if ((M.1 178 11) - x1) ≤ a10 then (some a9)
  else (if a9 = true then ((fX12_letterAt a1 a10).bind fun v14 =>
  (ald (M.1 182) 150 (x1 + a10)).bind fun v15 =>
  if v14 = v15 then (lX12_wordFrom_43 x1 M a1 n true (a10 + 1))
  else (lX12_wordFrom_43 x1 M a1 n false (a10 + 1)))
  else (some a9))

def lX12_wordFrom_9 (x1 : Int32) (M : Mem) : Nat → Int32 → Option (Int32 ⊕ Unit)
  | 0, _ => none
  | n + 1, a1 =>
  if (7 : Int32) ≤ a1 then (some (Sum.inr ()))
  else ((if ((M.1 178 11) - x1) ≤ 0 then (some false)
  else (if (7 : Int32) ≤ ((M.1 178 11) - x1) then (some false)
  else ((fX12_letterAt a1 ((M.1 178 11) - x1)).bind fun v6 =>
  if v6 = 0 then (some true)
  else (some false)))).bind (fun z8 => (lX12_wordFrom_43 x1 M a1 FUEL z8 (0 : Int32)).bind (fun a19 => if a19 = true then (some (Sum.inl a1))
  else (lX12_wordFrom_9 x1 M n (a1 + 1)))))

def fX12_wordFrom (x1 : Int32) (M : Mem) : Option Int32 :=
  (lX12_wordFrom_9 x1 M FUEL (0 : Int32)).bind fun o => s0 o (fun _ => some (-1 : Int32))

def rX12_wordFrom : Room := { frames := 1, cells := 0, slots := 0, locals := 21 }
set_option maxRecDepth 100000 in
set_option maxHeartbeats 4000000 in
theorem c_X12_wordFrom (l : Launch) (G : Gx) (n0 : Nat) {x1 : Int32} {M : Mem} {r : Int32} (hf : fX12_wordFrom x1 M = some r) : Ct l yX12_wordFrom cX12_wordFrom 6 (some .int) rX12_wordFrom G n0 [.ref (n0 + 178), .int x1] M (some (.int r)) M := by
  refine ct_int (cc := cX12_wordFrom) (maxL := 6) rfl (Nat.le_of_ble_eq_true rfl) ?_
  intro K C hret
  have C : Ok K l rX12_wordFrom cX12_wordFrom RX12 G n0 6 := C
  show J K M 0 [(0, .ref (n0 + 178)), (1, .int x1)] []
  unfold fX12_wordFrom at hf
  refine j_aload_n C 0 dX12_wordFrom_0 rfl rfl ?_
  refine g_X12_spot C tw5_193 lc178 dX12_wordFrom_1 ?_
  refine j_iload_n C 1 dX12_wordFrom_4 rfl rfl ?_
  refine j_isub C dX12_wordFrom_5 ?_
  refine j_istore_n C [(2, .int ((M.1 178 11) - x1)), (0, .ref (n0 + 178)), (1, .int x1)] dX12_wordFrom_6 rfl (Nat.le_of_ble_eq_true rfl) rfl ?_
  refine j_iconst C (0 : Int32) rfl dX12_wordFrom_7 ?_
  refine j_istore_n C [(3, .int (0 : Int32)), (2, .int ((M.1 178 11) - x1)), (0, .ref (n0 + 178)), (1, .int x1)] dX12_wordFrom_8 rfl (Nat.le_of_ble_eq_true rfl) rfl ?_
  obtain ⟨o25, e21, hg24⟩ := bd hf
  have hx22 : o25 = Sum.inr () → J K M 98 [] [] := by
    intro ho
    rw [ho] at hg24
    replace hf := s0r hg24
    refine j_iconst C (-1 : Int32) rfl dX12_wordFrom_98 ?_
    obtain rfl := Option.some.inj hf
    exact hret _ _ dX12_wordFrom_99
  have hl23 : ∀ (n : Nat) (a1 : Int32), lX12_wordFrom_9 x1 M n a1 = some o25 → J K M 9 [(0, .ref (n0 + 178)), (1, .int x1), (2, .int ((M.1 178 11) - x1)), (3, .int a1)] [] := by
    intro n
    induction n with
    | zero =>
      intro a1 hf
      exact absurd hf (by rw [lX12_wordFrom_9]; exact fun h => by cases h)
    | succ n ih =>
      intro a1 hf
      rw [lX12_wordFrom_9] at hf
      refine j_iload_n C 3 dX12_wordFrom_9 rfl rfl ?_
      refine j_bipush C (7 : Int32) rfl dX12_wordFrom_10 ?_
      refine j_icmp_ge C 98 dX12_wordFrom_12 (by decide) (fun c2 => ?_) (fun c2 => ?_)
      · replace hf := ip c2 hf
        refine j_sub [] rfl ?_
        exact hx22 (Option.some.inj hf).symm
      · replace hf := ine c2 hf
        refine j_iload_n C 2 dX12_wordFrom_15 rfl rfl ?_
        obtain ⟨z8, e26, hf⟩ := bd hf
        have hj27 : J K M 38 [(0, .ref (n0 + 178)), (1, .int x1), (2, .int ((M.1 178 11) - x1)), (3, .int a1)] [.int (bI z8)] := by
          refine j_istore C [(4, .int (bI z8)), (0, .ref (n0 + 178)), (1, .int x1), (2, .int ((M.1 178 11) - x1)), (3, .int a1)] dX12_wordFrom_38 (Nat.le_of_ble_eq_true rfl) rfl ?_
          refine j_iconst C (0 : Int32) rfl dX12_wordFrom_40 ?_
          refine j_istore C [(5, .int (0 : Int32)), (4, .int (bI z8)), (0, .ref (n0 + 178)), (1, .int x1), (2, .int ((M.1 178 11) - x1)), (3, .int a1)] dX12_wordFrom_41 (Nat.le_of_ble_eq_true rfl) rfl ?_
          obtain ⟨a19, e28, hf⟩ := bd hf
          have hx29 : J K M 85 [(0, .ref (n0 + 178)), (1, .int x1), (2, .int ((M.1 178 11) - x1)), (3, .int a1), (4, .int (bI a19))] [] := by
            refine j_iload C 4 dX12_wordFrom_85 rfl ?_
            refine j_ifz_eq C 92 dX12_wordFrom_87 (by decide) (fun c20 => ?_) (fun c20 => ?_)
            · replace hf := ine c20 hf
              refine j_iinc C 3 (a1 + 1) [(3, .int (a1 + 1)), (0, .ref (n0 + 178)), (1, .int x1), (2, .int ((M.1 178 11) - x1)), (4, .int (bI a19))] dX12_wordFrom_92 rfl rfl (Nat.le_of_ble_eq_true rfl) rfl ?_
              refine j_goto C 9 dX12_wordFrom_95 (by decide) ?_
              refine j_sub [1, 2, 3, 0] rfl ?_
              exact ih _ hf
            · replace hf := ip c20 hf
              refine j_iload_n C 3 dX12_wordFrom_90 rfl rfl ?_
              rw [← Option.some.inj hf] at hg24
              have hf := hg24
              replace hf : some _ = some _ := hf
              obtain rfl := Option.some.inj hf
              exact hret _ _ dX12_wordFrom_91
          clear hf
          have hl30 : ∀ (n : Nat) (a9 : Bool) (a10 : Int32), lX12_wordFrom_43 x1 M a1 n a9 a10 = some a19 → J K M 43 [(0, .ref (n0 + 178)), (1, .int x1), (2, .int ((M.1 178 11) - x1)), (3, .int a1), (4, .int (bI a9)), (5, .int a10)] [] := by
            intro n
            induction n with
            | zero =>
              intro a9 a10 hf
              exact absurd hf (by rw [lX12_wordFrom_43]; exact fun h => by cases h)
            | succ n ih =>
              intro a9 a10 hf
              rw [lX12_wordFrom_43] at hf
              refine j_iload C 5 dX12_wordFrom_43 rfl ?_
              refine j_iload_n C 2 dX12_wordFrom_45 rfl rfl ?_
              refine j_icmp_ge C 85 dX12_wordFrom_46 (by decide) (fun c11 => ?_) (fun c11 => ?_)
              · replace hf := ip c11 hf
                refine j_sub [0, 1, 2, 3, 4] rfl ?_
                cases hf
                exact hx29
              · replace hf := ine c11 hf
                refine j_iload C 4 dX12_wordFrom_49 rfl ?_
                refine j_ifz_eq C 85 dX12_wordFrom_51 (by decide) (fun c12 => ?_) (fun c12 => ?_)
                · replace hf := ine c12 hf
                  refine j_sub [0, 1, 2, 3, 4] rfl ?_
                  cases hf
                  exact hx29
                · replace hf := ip c12 hf
                  refine j_iload_n C 3 dX12_wordFrom_54 rfl rfl ?_
                  refine j_iload C 5 dX12_wordFrom_55 rfl ?_
                  obtain ⟨v14, e13, hf⟩ := bd hf
                  refine j_callS C 2 (c_X12_letterAt l G n0 (M := M) e13) gs_RX12_225 ⟨rfl, rfl⟩ (by decide +kernel) ⟨Nat.le_of_ble_eq_true rfl, Nat.le_of_ble_eq_true rfl⟩ rfl rfl (Nat.le_of_ble_eq_true rfl) dX12_wordFrom_57 ?_
                  refine j_aload_n C 0 dX12_wordFrom_60 rfl rfl ?_
                  refine g_X12_commands C tw5_187 lc178 182 rfl dX12_wordFrom_61 ?_
                  refine j_iload_n C 1 dX12_wordFrom_64 rfl rfl ?_
                  refine j_iload C 5 dX12_wordFrom_65 rfl ?_
                  refine j_iadd C dX12_wordFrom_67 ?_
                  obtain ⟨v15, e16, hf⟩ := bd hf
                  obtain ⟨hx17, e16⟩ := ald_some e16
                  refine j_iald C lc182 hx17 e16 dX12_wordFrom_68 ?_
                  refine j_icmp_ne C 76 dX12_wordFrom_69 (by decide) (fun c18 => ?_) (fun c18 => ?_)
                  · replace hf := ine c18 hf
                    refine j_iconst C (0 : Int32) rfl dX12_wordFrom_76 ?_
                    refine j_istore C [(4, .int (bI false)), (0, .ref (n0 + 178)), (1, .int x1), (2, .int ((M.1 178 11) - x1)), (3, .int a1), (5, .int a10)] dX12_wordFrom_77 (Nat.le_of_ble_eq_true rfl) rfl ?_
                    refine j_iinc C 5 (a10 + 1) [(5, .int (a10 + 1)), (4, .int (bI false)), (0, .ref (n0 + 178)), (1, .int x1), (2, .int ((M.1 178 11) - x1)), (3, .int a1)] dX12_wordFrom_79 rfl rfl (Nat.le_of_ble_eq_true rfl) rfl ?_
                    refine j_goto C 43 dX12_wordFrom_82 (by decide) ?_
                    refine j_sub [2, 3, 4, 5, 1, 0] rfl ?_
                    exact ih _ _ hf
                  · replace hf := ip c18 hf
                    refine j_iconst C (1 : Int32) rfl dX12_wordFrom_72 ?_
                    refine j_goto C 77 dX12_wordFrom_73 (by decide) ?_
                    refine j_istore C [(4, .int (bI true)), (0, .ref (n0 + 178)), (1, .int x1), (2, .int ((M.1 178 11) - x1)), (3, .int a1), (5, .int a10)] dX12_wordFrom_77 (Nat.le_of_ble_eq_true rfl) rfl ?_
                    refine j_iinc C 5 (a10 + 1) [(5, .int (a10 + 1)), (4, .int (bI true)), (0, .ref (n0 + 178)), (1, .int x1), (2, .int ((M.1 178 11) - x1)), (3, .int a1)] dX12_wordFrom_79 rfl rfl (Nat.le_of_ble_eq_true rfl) rfl ?_
                    refine j_goto C 43 dX12_wordFrom_82 (by decide) ?_
                    refine j_sub [2, 3, 4, 5, 1, 0] rfl ?_
                    exact ih _ _ hf
          refine j_sub [2, 3, 4, 5, 1, 0] rfl ?_
          exact hl30 FUEL z8 (0 : Int32) e28
        clear hf
        have hf := e26
        refine j_if_le C 37 dX12_wordFrom_16 (by decide) (fun c3 => ?_) (fun c3 => ?_)
        · replace hf := ip c3 hf
          refine j_iconst C (0 : Int32) rfl dX12_wordFrom_37 ?_
          cases hf
          refine j_sub [0, 1, 2, 3] rfl ?_
          exact hj27
        · replace hf := ine c3 hf
          refine j_iload_n C 2 dX12_wordFrom_19 rfl rfl ?_
          refine j_bipush C (7 : Int32) rfl dX12_wordFrom_20 ?_
          refine j_icmp_ge C 37 dX12_wordFrom_22 (by decide) (fun c4 => ?_) (fun c4 => ?_)
          · replace hf := ip c4 hf
            refine j_iconst C (0 : Int32) rfl dX12_wordFrom_37 ?_
            cases hf
            refine j_sub [0, 1, 2, 3] rfl ?_
            exact hj27
          · replace hf := ine c4 hf
            refine j_iload_n C 3 dX12_wordFrom_25 rfl rfl ?_
            refine j_iload_n C 2 dX12_wordFrom_26 rfl rfl ?_
            obtain ⟨v6, e5, hf⟩ := bd hf
            refine j_callS C 2 (c_X12_letterAt l G n0 (M := M) e5) gs_RX12_225 ⟨rfl, rfl⟩ (by decide +kernel) ⟨Nat.le_of_ble_eq_true rfl, Nat.le_of_ble_eq_true rfl⟩ rfl rfl (Nat.le_of_ble_eq_true rfl) dX12_wordFrom_27 ?_
            refine j_if_ne C 37 dX12_wordFrom_30 (by decide) (fun c7 => ?_) (fun c7 => ?_)
            · replace hf := ine c7 hf
              refine j_iconst C (0 : Int32) rfl dX12_wordFrom_37 ?_
              cases hf
              refine j_sub [0, 1, 2, 3] rfl ?_
              exact hj27
            · replace hf := ip c7 hf
              refine j_iconst C (1 : Int32) rfl dX12_wordFrom_33 ?_
              refine j_goto C 38 dX12_wordFrom_34 (by decide) ?_
              cases hf
              refine j_sub [0, 1, 2, 3] rfl ?_
              exact hj27
  refine j_sub [2, 3, 1, 0] rfl ?_
  exact hl23 FUEL (0 : Int32) e21
def lX12_readsNumber_27 (M3 : Mem) : Nat → Int32 → Mem → Option (Int32 × Mem)
  | 0, _, _ => none
  | n + 1, a8, M9 =>
  (fX12_isAt (48 : Int32) (57 : Int32) M9).bind fun b11 =>
  if b11 = true then (if ((M3.1 178 11) + (5 : Int32)) ≤ (M9.1 178 11) then (some (a8, M9))
  else ((ald (M9.1 182) 150 (M9.1 178 11)).bind fun v14 =>
  (pf M9 178 11 ((M9.1 178 11) + (1 : Int32))).bind fun M17 =>
  lX12_readsNumber_27 M3 n ((((10 : Int32) * a8) + v14) - (48 : Int32)) M17))
  else (some (a8, M9))

def fX12_readsNumber  (M : Mem) : Option (Int32 × Mem) :=
  (fX12_skips M).bind (un2 fun b2 M3 =>
  if b2 = true then ((fX12_isAt (48 : Int32) (57 : Int32) M3).bind fun b6 =>
  if b6 = true then ((lX12_readsNumber_27 M3 FUEL (0 : Int32) M3).bind (un2 fun a19 M20 => some (a19, M20)))
  else (some ((-1 : Int32), M3)))
  else (some ((-1 : Int32), M3)))

def rX12_readsNumber : Room := { frames := 3, cells := 0, slots := 0, locals := 65 }
set_option maxRecDepth 100000 in
set_option maxHeartbeats 4000000 in
theorem c_X12_readsNumber (l : Launch) (G : Gx) (n0 : Nat) {M : Mem} {r : Int32} {M' : Mem} (hf : fX12_readsNumber M = some (r, M')) : Ct l yX12_readsNumber cX12_readsNumber 3 (some .int) rX12_readsNumber G n0 [.ref (n0 + 178)] M (some (.int r)) M' := by
  refine ct_int (cc := cX12_readsNumber) (maxL := 3) rfl (Nat.le_of_ble_eq_true rfl) ?_
  intro K C hret
  have C : Ok K l rX12_readsNumber cX12_readsNumber RX12 G n0 3 := C
  show J K M 0 [(0, .ref (n0 + 178))] []
  unfold fX12_readsNumber at hf
  refine j_aload_n C 0 dX12_readsNumber_0 rfl rfl ?_
  obtain ⟨⟨b2, M3⟩, e1, hf⟩ := bd hf
  replace hf := un2e hf
  refine j_callV C 0 lc178 (ent_K _ _ _ _ _ _) rfl (c_X12_skips l G n0 e1) gv_RX12_228 ⟨rfl, rfl⟩ (by decide +kernel) ⟨Nat.le_of_ble_eq_true rfl, Nat.le_of_ble_eq_true rfl⟩ rfl rfl (Nat.le_of_ble_eq_true rfl) dX12_readsNumber_1 ?_
  refine j_ifz_eq C 18 dX12_readsNumber_4 (by decide) (fun c4 => ?_) (fun c4 => ?_)
  · replace hf := ine c4 hf
    refine j_iconst C (-1 : Int32) rfl dX12_readsNumber_18 ?_
    obtain ⟨rfl, rfl⟩ := Prod.mk.inj (Option.some.inj hf)
    exact hret _ _ dX12_readsNumber_19
  · replace hf := ip c4 hf
    refine j_aload_n C 0 dX12_readsNumber_7 rfl rfl ?_
    refine j_bipush C (48 : Int32) rfl dX12_readsNumber_8 ?_
    refine j_bipush C (57 : Int32) rfl dX12_readsNumber_10 ?_
    obtain ⟨b6, e5, hf⟩ := bd hf
    refine j_callV C 2 lc178 (ent_K _ _ _ _ _ _) rfl (c_X12_isAt l G n0 e5) gv_RX12_222 ⟨rfl, rfl⟩ (by decide +kernel) ⟨Nat.le_of_ble_eq_true rfl, Nat.le_of_ble_eq_true rfl⟩ rfl rfl (Nat.le_of_ble_eq_true rfl) dX12_readsNumber_12 ?_
    refine j_ifz_ne C 20 dX12_readsNumber_15 (by decide) (fun c7 => ?_) (fun c7 => ?_)
    · replace hf := ip c7 hf
      refine j_iconst C (0 : Int32) rfl dX12_readsNumber_20 ?_
      refine j_istore_n C [(1, .int (0 : Int32)), (0, .ref (n0 + 178))] dX12_readsNumber_21 rfl (Nat.le_of_ble_eq_true rfl) rfl ?_
      refine j_aload_n C 1 dX12_readsNumber_22 rfl rfl ?_
      refine g_X12_spot C tw5_193 lc178 dX12_readsNumber_23 ?_
      refine j_istore_n C [(2, .int (M3.1 178 11)), (1, .int (0 : Int32)), (0, .ref (n0 + 178))] dX12_readsNumber_26 rfl (Nat.le_of_ble_eq_true rfl) rfl ?_
      obtain ⟨⟨a19, M20⟩, e21, hf⟩ := bd hf
      replace hf := un2e hf
      have hx22 : J K M20 79 [(1, .int a19)] [] := by
        refine j_iload_n C 0 dX12_readsNumber_79 rfl rfl ?_
        obtain ⟨rfl, rfl⟩ := Prod.mk.inj (Option.some.inj hf)
        exact hret _ _ dX12_readsNumber_80
      clear hf
      have hl23 : ∀ (n : Nat) (a8 : Int32) (M9 : Mem), lX12_readsNumber_27 M3 n a8 M9 = some (a19, M20) → J K M9 27 [(0, .ref (n0 + 178)), (1, .int a8), (2, .int (M3.1 178 11))] [] := by
        intro n
        induction n with
        | zero =>
          intro a8 M9 hf
          exact absurd hf (by rw [lX12_readsNumber_27]; exact fun h => by cases h)
        | succ n ih =>
          intro a8 M9 hf
          rw [lX12_readsNumber_27] at hf
          refine j_aload_n C 0 dX12_readsNumber_27 rfl rfl ?_
          refine j_bipush C (48 : Int32) rfl dX12_readsNumber_28 ?_
          refine j_bipush C (57 : Int32) rfl dX12_readsNumber_30 ?_
          obtain ⟨b11, e10, hf⟩ := bd hf
          refine j_callV C 2 lc178 (ent_K _ _ _ _ _ _) rfl (c_X12_isAt l G n0 e10) gv_RX12_222 ⟨rfl, rfl⟩ (by decide +kernel) ⟨Nat.le_of_ble_eq_true rfl, Nat.le_of_ble_eq_true rfl⟩ rfl rfl (Nat.le_of_ble_eq_true rfl) dX12_readsNumber_32 ?_
          refine j_ifz_eq C 79 dX12_readsNumber_35 (by decide) (fun c12 => ?_) (fun c12 => ?_)
          · replace hf := ine c12 hf
            refine j_sub [1] rfl ?_
            cases hf
            exact hx22
          · replace hf := ip c12 hf
            refine j_aload_n C 0 dX12_readsNumber_38 rfl rfl ?_
            refine g_X12_spot C tw5_193 lc178 dX12_readsNumber_39 ?_
            refine j_iload_n C 2 dX12_readsNumber_42 rfl rfl ?_
            refine j_iconst C (5 : Int32) rfl dX12_readsNumber_43 ?_
            refine j_iadd C dX12_readsNumber_44 ?_
            refine j_icmp_ge C 79 dX12_readsNumber_45 (by decide) (fun c13 => ?_) (fun c13 => ?_)
            · replace hf := ip c13 hf
              refine j_sub [1] rfl ?_
              cases hf
              exact hx22
            · replace hf := ine c13 hf
              refine j_bipush C (10 : Int32) rfl dX12_readsNumber_48 ?_
              refine j_iload_n C 1 dX12_readsNumber_50 rfl rfl ?_
              refine j_imul C dX12_readsNumber_51 ?_
              refine j_aload_n C 0 dX12_readsNumber_52 rfl rfl ?_
              refine g_X12_commands C tw5_187 lc178 182 rfl dX12_readsNumber_53 ?_
              refine j_aload_n C 0 dX12_readsNumber_56 rfl rfl ?_
              refine g_X12_spot C tw5_193 lc178 dX12_readsNumber_57 ?_
              obtain ⟨v14, e15, hf⟩ := bd hf
              obtain ⟨hx16, e15⟩ := ald_some e15
              refine j_iald C lc182 hx16 e15 dX12_readsNumber_60 ?_
              refine j_iadd C dX12_readsNumber_61 ?_
              refine j_bipush C (48 : Int32) rfl dX12_readsNumber_62 ?_
              refine j_isub C dX12_readsNumber_64 ?_
              refine j_istore_n C [(1, .int ((((10 : Int32) * a8) + v14) - (48 : Int32))), (0, .ref (n0 + 178)), (2, .int (M3.1 178 11))] dX12_readsNumber_65 rfl (Nat.le_of_ble_eq_true rfl) rfl ?_
              refine j_aload_n C 1 dX12_readsNumber_66 rfl rfl ?_
              refine j_dup C rfl dX12_readsNumber_67 ?_
              refine g_X12_spot C tw5_193 lc178 dX12_readsNumber_68 ?_
              refine j_iconst C (1 : Int32) rfl dX12_readsNumber_71 ?_
              refine j_iadd C dX12_readsNumber_72 ?_
              obtain ⟨M17, e18, hf⟩ := bd hf
              refine p_X12_spot C tw5_193 lc178 e18 dX12_readsNumber_73 ?_
              refine j_goto C 27 dX12_readsNumber_76 (by decide) ?_
              refine j_sub [1, 0, 2] rfl ?_
              exact ih _ _ hf
      refine j_sub [2, 1, 0] rfl ?_
      exact hl23 FUEL (0 : Int32) M3 e21
    · replace hf := ine c7 hf
      refine j_iconst C (-1 : Int32) rfl dX12_readsNumber_18 ?_
      obtain ⟨rfl, rfl⟩ := Prod.mk.inj (Option.some.inj hf)
      exact hret _ _ dX12_readsNumber_19
def lX12_reads_5  : Nat → Mem → Option Mem
  | 0, _ => none
  | n + 1, M1 =>
  (fX12_isAt (97 : Int32) (122 : Int32) M1).bind fun b3 =>
  if b3 = true then ((pf M1 178 11 ((M1.1 178 11) + (1 : Int32))).bind fun M5 =>
  lX12_reads_5  n M5)
  else (some M1)

def lX12_reads_82 (z15 : Int32) : Nat → Int32 → Mem → Option ((Bool × Mem) ⊕ Mem)
  | 0, _, _ => none
  | n + 1, a16, M17 =>
  if z15 ≤ a16 then (some (Sum.inr M17))
  else ((fX12_readsNumber M17).bind (un2 fun v20 M21 =>
  (ast M21 184 3 a16 v20).bind fun M22 =>
  (ald (M22.1 184) 3 a16).bind fun v25 =>
  if v25 = (-1 : Int32) then (some (Sum.inl (false, M22)))
  else (lX12_reads_82 z15 n (a16 + 1) M22)))

def fX12_reads  (M : Mem) : Option (Bool × Mem) :=
  (lX12_reads_5 FUEL M).bind (fun M7 => (fX12_wordFrom (M.1 178 11) M7).bind fun v9 =>
  (pf M7 178 12 v9).bind fun M10 =>
  if (M10.1 178 12) = (-1 : Int32) then ((pf M10 178 11 (M.1 178 11)).bind fun M40 =>
  some (false, M40))
  else ((if (M10.1 178 12) = (1 : Int32) then (some (3 : Int32))
  else (if (M10.1 178 12) = (6 : Int32) then (some (0 : Int32))
  else (some (1 : Int32)))).bind (fun z15 => (lX12_reads_82 z15 FUEL (0 : Int32) M10).bind fun o => s0 o (fun M29 => (fX12_skips M29).bind (un2 fun b31 M32 =>
  (fX12_isAt (59 : Int32) (59 : Int32) M32).bind fun b34 =>
  if b34 = true then ((pf M32 178 11 ((M32.1 178 11) + (1 : Int32))).bind fun M38 =>
  some (b34, M38))
  else ((pf M32 178 11 ((M32.1 178 11) + (0 : Int32))).bind fun M36 =>
  some (b34, M36)))))))

def rX12_reads : Room := { frames := 4, cells := 0, slots := 0, locals := 87 }
set_option maxRecDepth 100000 in
set_option maxHeartbeats 4000000 in
theorem c_X12_reads (l : Launch) (G : Gx) (n0 : Nat) {M : Mem} {r : Bool} {M' : Mem} (hf : fX12_reads M = some (r, M')) : Ct l yX12_reads cX12_reads 5 (some .boolean) rX12_reads G n0 [.ref (n0 + 178)] M (some (.int (bI r))) M' := by
  refine ct_bool (cc := cX12_reads) (maxL := 5) rfl (Nat.le_of_ble_eq_true rfl) ?_
  intro K C hret
  have C : Ok K l rX12_reads cX12_reads RX12 G n0 5 := C
  show J K M 0 [(0, .ref (n0 + 178))] []
  unfold fX12_reads at hf
  refine j_aload_n C 0 dX12_reads_0 rfl rfl ?_
  refine g_X12_spot C tw5_193 lc178 dX12_reads_1 ?_
  refine j_istore_n C [(1, .int (M.1 178 11)), (0, .ref (n0 + 178))] dX12_reads_4 rfl (Nat.le_of_ble_eq_true rfl) rfl ?_
  obtain ⟨M7, e42, hf⟩ := bd hf
  have hx43 : J K M7 29 [(0, .ref (n0 + 178)), (1, .int (M.1 178 11))] [] := by
    refine j_aload_n C 0 dX12_reads_29 rfl rfl ?_
    refine j_aload_n C 0 dX12_reads_30 rfl rfl ?_
    refine j_iload_n C 1 dX12_reads_31 rfl rfl ?_
    obtain ⟨v9, e8, hf⟩ := bd hf
    refine j_callV C 1 lc178 (ent_K _ _ _ _ _ _) rfl (c_X12_wordFrom l G n0 e8) gv_RX12_232 ⟨rfl, rfl⟩ (by decide +kernel) ⟨Nat.le_of_ble_eq_true rfl, Nat.le_of_ble_eq_true rfl⟩ rfl rfl (Nat.le_of_ble_eq_true rfl) dX12_reads_32 ?_
    obtain ⟨M10, e11, hf⟩ := bd hf
    refine p_X12_word C tw5_194 lc178 e11 dX12_reads_35 ?_
    refine j_aload_n C 0 dX12_reads_38 rfl rfl ?_
    refine g_X12_word C tw5_194 lc178 dX12_reads_39 ?_
    refine j_iconst C (-1 : Int32) rfl dX12_reads_42 ?_
    refine j_icmp_ne C 53 dX12_reads_43 (by decide) (fun c12 => ?_) (fun c12 => ?_)
    · replace hf := ine c12 hf
      refine j_aload_n C 0 dX12_reads_53 rfl rfl ?_
      refine g_X12_word C tw5_194 lc178 dX12_reads_54 ?_
      refine j_iconst C (1 : Int32) rfl dX12_reads_57 ?_
      obtain ⟨z15, e47, hf⟩ := bd hf
      have hj48 : J K M10 79 [(0, .ref (n0 + 178))] [.int z15] := by
        refine j_istore_n C [(2, .int z15), (0, .ref (n0 + 178))] dX12_reads_79 rfl (Nat.le_of_ble_eq_true rfl) rfl ?_
        refine j_iconst C (0 : Int32) rfl dX12_reads_80 ?_
        refine j_istore_n C [(3, .int (0 : Int32)), (2, .int z15), (0, .ref (n0 + 178))] dX12_reads_81 rfl (Nat.le_of_ble_eq_true rfl) rfl ?_
        obtain ⟨o53, e49, hg52⟩ := bd hf
        have hx50 : ∀ (M29 : Mem), o53 = Sum.inr M29 → J K M29 115 [(0, .ref (n0 + 178))] [] := by
          intro M29 ho
          rw [ho] at hg52
          replace hf := s0r hg52
          refine j_aload_n C 0 dX12_reads_115 rfl rfl ?_
          obtain ⟨⟨b31, M32⟩, e30, hf⟩ := bd hf
          replace hf := un2e hf
          refine j_callV C 0 lc178 (ent_K _ _ _ _ _ _) rfl (c_X12_skips l G n0 e30) gv_RX12_228 ⟨rfl, rfl⟩ (by decide +kernel) ⟨Nat.le_of_ble_eq_true rfl, Nat.le_of_ble_eq_true rfl⟩ rfl rfl (Nat.le_of_ble_eq_true rfl) dX12_reads_116 ?_
          refine j_istore_n C [(3, .int (bI b31)), (0, .ref (n0 + 178))] dX12_reads_119 rfl (Nat.le_of_ble_eq_true rfl) rfl ?_
          refine j_aload_n C 1 dX12_reads_120 rfl rfl ?_
          refine j_bipush C (59 : Int32) rfl dX12_reads_121 ?_
          refine j_bipush C (59 : Int32) rfl dX12_reads_123 ?_
          obtain ⟨b34, e33, hf⟩ := bd hf
          refine j_callV C 2 lc178 (ent_K _ _ _ _ _ _) rfl (c_X12_isAt l G n0 e33) gv_RX12_222 ⟨rfl, rfl⟩ (by decide +kernel) ⟨Nat.le_of_ble_eq_true rfl, Nat.le_of_ble_eq_true rfl⟩ rfl rfl (Nat.le_of_ble_eq_true rfl) dX12_reads_125 ?_
          refine j_istore C [(4, .int (bI b34)), (3, .int (bI b31)), (0, .ref (n0 + 178))] dX12_reads_128 (Nat.le_of_ble_eq_true rfl) rfl ?_
          refine j_aload_n C 2 dX12_reads_130 rfl rfl ?_
          refine j_dup C rfl dX12_reads_131 ?_
          refine g_X12_spot C tw5_193 lc178 dX12_reads_132 ?_
          refine j_iload C 0 dX12_reads_135 rfl ?_
          refine j_ifz_eq C 144 dX12_reads_137 (by decide) (fun c35 => ?_) (fun c35 => ?_)
          · replace hf := ine c35 hf
            refine j_iconst C (0 : Int32) rfl dX12_reads_144 ?_
            refine j_iadd C dX12_reads_145 ?_
            obtain ⟨M36, e37, hf⟩ := bd hf
            refine p_X12_spot C tw5_193 lc178 e37 dX12_reads_146 ?_
            refine j_iload C 0 dX12_reads_149 rfl ?_
            obtain ⟨rfl, rfl⟩ := Prod.mk.inj (Option.some.inj hf)
            exact hret _ _ dX12_reads_151
          · replace hf := ip c35 hf
            refine j_iconst C (1 : Int32) rfl dX12_reads_140 ?_
            refine j_goto C 145 dX12_reads_141 (by decide) ?_
            refine j_iadd C dX12_reads_145 ?_
            obtain ⟨M38, e39, hf⟩ := bd hf
            refine p_X12_spot C tw5_193 lc178 e39 dX12_reads_146 ?_
            refine j_iload C 0 dX12_reads_149 rfl ?_
            obtain ⟨rfl, rfl⟩ := Prod.mk.inj (Option.some.inj hf)
            exact hret _ _ dX12_reads_151
        have hl51 : ∀ (n : Nat) (a16 : Int32) (M17 : Mem), lX12_reads_82 z15 n a16 M17 = some o53 → J K M17 82 [(0, .ref (n0 + 178)), (2, .int z15), (3, .int a16)] [] := by
          intro n
          induction n with
          | zero =>
            intro a16 M17 hf
            exact absurd hf (by rw [lX12_reads_82]; exact fun h => by cases h)
          | succ n ih =>
            intro a16 M17 hf
            rw [lX12_reads_82] at hf
            refine j_iload_n C 2 dX12_reads_82 rfl rfl ?_
            refine j_iload_n C 1 dX12_reads_83 rfl rfl ?_
            refine j_icmp_ge C 115 dX12_reads_84 (by decide) (fun c18 => ?_) (fun c18 => ?_)
            · replace hf := ip c18 hf
              refine j_sub [0] rfl ?_
              exact hx50 _ (Option.some.inj hf).symm
            · replace hf := ine c18 hf
              refine j_aload_n C 0 dX12_reads_87 rfl rfl ?_
              refine g_X12_numbers C tw5_195 lc178 184 rfl dX12_reads_88 ?_
              refine j_iload_n C 2 dX12_reads_91 rfl rfl ?_
              refine j_aload_n C 0 dX12_reads_92 rfl rfl ?_
              obtain ⟨⟨v20, M21⟩, e19, hf⟩ := bd hf
              replace hf := un2e hf
              refine j_callV C 0 lc178 (ent_K _ _ _ _ _ _) rfl (c_X12_readsNumber l G n0 e19) gv_RX12_238 ⟨rfl, rfl⟩ (by decide +kernel) ⟨Nat.le_of_ble_eq_true rfl, Nat.le_of_ble_eq_true rfl⟩ rfl rfl (Nat.le_of_ble_eq_true rfl) dX12_reads_93 ?_
              obtain ⟨M22, e23, hf⟩ := bd hf
              obtain ⟨hx24, e23⟩ := ast_some e23
              refine j_iast C lc184 hx24 e23 dX12_reads_96 ?_
              refine j_aload_n C 0 dX12_reads_97 rfl rfl ?_
              refine g_X12_numbers C tw5_195 lc178 184 rfl dX12_reads_98 ?_
              refine j_iload_n C 2 dX12_reads_101 rfl rfl ?_
              obtain ⟨v25, e26, hf⟩ := bd hf
              obtain ⟨hx27, e26⟩ := ald_some e26
              refine j_iald C lc184 hx27 e26 dX12_reads_102 ?_
              refine j_iconst C (-1 : Int32) rfl dX12_reads_103 ?_
              refine j_icmp_ne C 109 dX12_reads_104 (by decide) (fun c28 => ?_) (fun c28 => ?_)
              · replace hf := ine c28 hf
                refine j_iinc C 2 (a16 + 1) [(3, .int (a16 + 1)), (0, .ref (n0 + 178)), (2, .int z15)] dX12_reads_109 rfl rfl (Nat.le_of_ble_eq_true rfl) rfl ?_
                refine j_goto C 82 dX12_reads_112 (by decide) ?_
                refine j_sub [1, 2, 0] rfl ?_
                exact ih _ _ hf
              · replace hf := ip c28 hf
                refine j_iconst C (0 : Int32) rfl dX12_reads_107 ?_
                rw [← Option.some.inj hf] at hg52
                have hf := hg52
                replace hf : some _ = some _ := hf
                obtain ⟨rfl, rfl⟩ := Prod.mk.inj (Option.some.inj hf)
                exact hret _ _ dX12_reads_108
        refine j_sub [2, 1, 0] rfl ?_
        exact hl51 FUEL (0 : Int32) M10 e49
      clear hf
      have hf := e47
      refine j_icmp_ne C 65 dX12_reads_58 (by decide) (fun c13 => ?_) (fun c13 => ?_)
      · replace hf := ine c13 hf
        refine j_aload_n C 0 dX12_reads_65 rfl rfl ?_
        refine g_X12_word C tw5_194 lc178 dX12_reads_66 ?_
        refine j_bipush C (6 : Int32) rfl dX12_reads_69 ?_
        refine j_icmp_ne C 78 dX12_reads_71 (by decide) (fun c14 => ?_) (fun c14 => ?_)
        · replace hf := ine c14 hf
          refine j_iconst C (1 : Int32) rfl dX12_reads_78 ?_
          cases hf
          refine j_sub [0] rfl ?_
          exact hj48
        · replace hf := ip c14 hf
          refine j_iconst C (0 : Int32) rfl dX12_reads_74 ?_
          refine j_goto C 79 dX12_reads_75 (by decide) ?_
          cases hf
          refine j_sub [0] rfl ?_
          exact hj48
      · replace hf := ip c13 hf
        refine j_iconst C (3 : Int32) rfl dX12_reads_61 ?_
        refine j_goto C 79 dX12_reads_62 (by decide) ?_
        cases hf
        refine j_sub [0] rfl ?_
        exact hj48
    · replace hf := ip c12 hf
      refine j_aload_n C 0 dX12_reads_46 rfl rfl ?_
      refine j_iload_n C 1 dX12_reads_47 rfl rfl ?_
      obtain ⟨M40, e41, hf⟩ := bd hf
      refine p_X12_spot C tw5_193 lc178 e41 dX12_reads_48 ?_
      refine j_iconst C (0 : Int32) rfl dX12_reads_51 ?_
      obtain ⟨rfl, rfl⟩ := Prod.mk.inj (Option.some.inj hf)
      exact hret _ _ dX12_reads_52
  clear hf
  have hl44 : ∀ (n : Nat) (M1 : Mem), lX12_reads_5 n M1 = some M7 → J K M1 5 [(0, .ref (n0 + 178)), (1, .int (M.1 178 11))] [] := by
    intro n
    induction n with
    | zero =>
      intro M1 hf
      exact absurd hf (by rw [lX12_reads_5]; exact fun h => by cases h)
    | succ n ih =>
      intro M1 hf
      rw [lX12_reads_5] at hf
      refine j_aload_n C 0 dX12_reads_5 rfl rfl ?_
      refine j_bipush C (97 : Int32) rfl dX12_reads_6 ?_
      refine j_bipush C (122 : Int32) rfl dX12_reads_8 ?_
      obtain ⟨b3, e2, hf⟩ := bd hf
      refine j_callV C 2 lc178 (ent_K _ _ _ _ _ _) rfl (c_X12_isAt l G n0 e2) gv_RX12_222 ⟨rfl, rfl⟩ (by decide +kernel) ⟨Nat.le_of_ble_eq_true rfl, Nat.le_of_ble_eq_true rfl⟩ rfl rfl (Nat.le_of_ble_eq_true rfl) dX12_reads_10 ?_
      refine j_ifz_eq C 29 dX12_reads_13 (by decide) (fun c4 => ?_) (fun c4 => ?_)
      · replace hf := ine c4 hf
        refine j_sub [0, 1] rfl ?_
        cases hf
        exact hx43
      · replace hf := ip c4 hf
        refine j_aload_n C 0 dX12_reads_16 rfl rfl ?_
        refine j_dup C rfl dX12_reads_17 ?_
        refine g_X12_spot C tw5_193 lc178 dX12_reads_18 ?_
        refine j_iconst C (1 : Int32) rfl dX12_reads_21 ?_
        refine j_iadd C dX12_reads_22 ?_
        obtain ⟨M5, e6, hf⟩ := bd hf
        refine p_X12_spot C tw5_193 lc178 e6 dX12_reads_23 ?_
        refine j_goto C 5 dX12_reads_26 (by decide) ?_
        refine j_sub [0, 1] rfl ?_
        exact ih  _ hf
  refine j_sub [1, 0] rfl ?_
  exact hl44 FUEL M e42
def fX12_does  (M : Mem) : Option (Int32 × Mem) :=
  (ald (M.1 184) 3 (0 : Int32)).bind fun v1 =>
  if (M.1 178 12) = 0 then ((fX12_badJoin v1 M).bind fun v5 =>
  (if v5 = 0 then ((fX12_joins v1 M).bind (un2 fun v8 M9 =>
  some (v8, M9)))
  else (some ((0 : Int32), M))).bind (un2 fun z10 M11 => if v5 = 0 then (some ((0 : Int32), M11))
  else (some ((v5 + (1 : Int32)), M11))))
  else if (M.1 178 12) = 1 then ((ald (M.1 184) 3 (1 : Int32)).bind fun v13 =>
  (ald (M.1 184) 3 (2 : Int32)).bind fun v16 =>
  (fX12_badBatch v1 v13 v16 M).bind fun v20 =>
  if v20 = 0 then ((ald (M.1 184) 3 (1 : Int32)).bind fun v22 =>
  (ald (M.1 184) 3 (2 : Int32)).bind fun v25 =>
  (fX12_brings v1 v22 v25 M).bind (un2 fun v29 M30 =>
  some (v20, M30)))
  else (some (v20, M)))
  else if (M.1 178 12) = 2 then ((fX12_badDay v1 M).bind fun v32 =>
  (if v32 = 0 then ((fX12_dayWith v1 M).bind (un2 fun v35 M36 =>
  some (v35, M36)))
  else (some ((0 : Int32), M))).bind (un2 fun z37 M38 => if v32 = 0 then (some ((0 : Int32), M38))
  else (some ((v32 + (1 : Int32)), M38))))
  else if (M.1 178 12) = 3 then ((fX12_isHouse v1 M).bind fun b41 =>
  if b41 = true then (if (M.1 178 12) = (3 : Int32) then ((fX12_claims v1 M).bind (un2 fun v51 M52 =>
  some ((0 : Int32), M52)))
  else (if (M.1 178 12) = (4 : Int32) then ((fX12_returns v1 M).bind (un2 fun v48 M49 =>
  some ((0 : Int32), M49)))
  else ((fX12_lays v1 (3 : Int32) (1 : Int32) M).bind fun M46 =>
  some ((0 : Int32), M46))))
  else (some ((1 : Int32), M)))
  else if (M.1 178 12) = 4 then ((fX12_isHouse v1 M).bind fun b54 =>
  if b54 = true then (if (M.1 178 12) = (3 : Int32) then ((fX12_claims v1 M).bind (un2 fun v64 M65 =>
  some ((0 : Int32), M65)))
  else (if (M.1 178 12) = (4 : Int32) then ((fX12_returns v1 M).bind (un2 fun v61 M62 =>
  some ((0 : Int32), M62)))
  else ((fX12_lays v1 (3 : Int32) (1 : Int32) M).bind fun M59 =>
  some ((0 : Int32), M59))))
  else (some ((1 : Int32), M)))
  else if (M.1 178 12) = 5 then ((fX12_isHouse v1 M).bind fun b67 =>
  if b67 = true then (if (M.1 178 12) = (3 : Int32) then ((fX12_claims v1 M).bind (un2 fun v77 M78 =>
  some ((0 : Int32), M78)))
  else (if (M.1 178 12) = (4 : Int32) then ((fX12_returns v1 M).bind (un2 fun v74 M75 =>
  some ((0 : Int32), M75)))
  else ((fX12_lays v1 (3 : Int32) (1 : Int32) M).bind fun M72 =>
  some ((0 : Int32), M72))))
  else (some ((1 : Int32), M)))
  else if (M.1 178 12) = 6 then ((fX12_gives M).bind (un2 fun v80 M81 =>
  some ((0 : Int32), M81)))
  else ((fX12_isHouse v1 M).bind fun b83 =>
  if b83 = true then (if (M.1 178 12) = (3 : Int32) then ((fX12_claims v1 M).bind (un2 fun v93 M94 =>
  some ((0 : Int32), M94)))
  else (if (M.1 178 12) = (4 : Int32) then ((fX12_returns v1 M).bind (un2 fun v90 M91 =>
  some ((0 : Int32), M91)))
  else ((fX12_lays v1 (3 : Int32) (1 : Int32) M).bind fun M88 =>
  some ((0 : Int32), M88))))
  else (some ((1 : Int32), M)))

def rX12_does : Room := { frames := 5, cells := 0, slots := 0, locals := 114 }
set_option maxRecDepth 100000 in
set_option maxHeartbeats 4000000 in
theorem c_X12_does (l : Launch) (G : Gx) (n0 : Nat) {M : Mem} {r : Int32} {M' : Mem} (hf : fX12_does M = some (r, M')) : Ct l yX12_does cX12_does 4 (some .int) rX12_does G n0 [.ref (n0 + 178)] M (some (.int r)) M' := by
  refine ct_int (cc := cX12_does) (maxL := 4) rfl (Nat.le_of_ble_eq_true rfl) ?_
  intro K C hret
  have C : Ok K l rX12_does cX12_does RX12 G n0 4 := C
  show J K M 0 [(0, .ref (n0 + 178))] []
  unfold fX12_does at hf
  refine j_aload_n C 0 dX12_does_0 rfl rfl ?_
  refine g_X12_numbers C tw5_195 lc178 184 rfl dX12_does_1 ?_
  refine j_iconst C (0 : Int32) rfl dX12_does_4 ?_
  obtain ⟨v1, e2, hf⟩ := bd hf
  obtain ⟨hx3, e2⟩ := ald_some e2
  refine j_iald C lc184 hx3 e2 dX12_does_5 ?_
  refine j_istore_n C [(1, .int v1), (0, .ref (n0 + 178))] dX12_does_6 rfl (Nat.le_of_ble_eq_true rfl) rfl ?_
  refine j_iconst C (0 : Int32) rfl dX12_does_7 ?_
  refine j_istore_n C [(3, .int (0 : Int32)), (1, .int v1), (0, .ref (n0 + 178))] dX12_does_8 rfl (Nat.le_of_ble_eq_true rfl) rfl ?_
  refine j_aload_n C 2 dX12_does_9 rfl rfl ?_
  refine g_X12_word C tw5_194 lc178 dX12_does_10 ?_
  by_cases c95_0 : (M.1 178 12) = 0
  · replace hf := ip c95_0 hf
    refine j_tsw C 56 c95_0 dX12_does_13 (by decide) rfl (by decide) ?_
    refine j_aload_n C 2 dX12_does_56 rfl rfl ?_
    refine j_iload_n C 1 dX12_does_57 rfl rfl ?_
    obtain ⟨v5, e4, hf⟩ := bd hf
    refine j_callV C 1 lc178 (ent_K _ _ _ _ _ _) rfl (c_X12_badJoin l G n0 e4) gv_RX12_59 ⟨rfl, rfl⟩ (by decide +kernel) ⟨Nat.le_of_ble_eq_true rfl, Nat.le_of_ble_eq_true rfl⟩ rfl rfl (Nat.le_of_ble_eq_true rfl) dX12_does_58 ?_
    refine j_istore_n C [(2, .int v5), (3, .int (0 : Int32)), (1, .int v1), (0, .ref (n0 + 178))] dX12_does_61 rfl (Nat.le_of_ble_eq_true rfl) rfl ?_
    refine j_iload_n C 0 dX12_does_62 rfl rfl ?_
    obtain ⟨⟨z10, M11⟩, e96, hf⟩ := bd hf
    replace hf := un2e hf
    have hj97 : J K M11 75 [(2, .int v5)] [.int z10] := by
      refine j_istore_n C [(3, .int z10), (2, .int v5)] dX12_does_75 rfl (Nat.le_of_ble_eq_true rfl) rfl ?_
      refine j_iload_n C 1 dX12_does_76 rfl rfl ?_
      refine j_if_ne C 84 dX12_does_77 (by decide) (fun c12 => ?_) (fun c12 => ?_)
      · replace hf := ine c12 hf
        refine j_iload_n C 1 dX12_does_84 rfl rfl ?_
        refine j_iconst C (1 : Int32) rfl dX12_does_85 ?_
        refine j_iadd C dX12_does_86 ?_
        obtain ⟨rfl, rfl⟩ := Prod.mk.inj (Option.some.inj hf)
        exact hret _ _ dX12_does_87
      · replace hf := ip c12 hf
        refine j_iconst C (0 : Int32) rfl dX12_does_80 ?_
        refine j_goto C 87 dX12_does_81 (by decide) ?_
        obtain ⟨rfl, rfl⟩ := Prod.mk.inj (Option.some.inj hf)
        exact hret _ _ dX12_does_87
    clear hf
    have hf := e96
    refine j_if_ne C 74 dX12_does_63 (by decide) (fun c6 => ?_) (fun c6 => ?_)
    · replace hf := ine c6 hf
      refine j_iconst C (0 : Int32) rfl dX12_does_74 ?_
      cases hf
      refine j_sub [0] rfl ?_
      exact hj97
    · replace hf := ip c6 hf
      refine j_aload_n C 3 dX12_does_66 rfl rfl ?_
      refine j_iload_n C 2 dX12_does_67 rfl rfl ?_
      obtain ⟨⟨v8, M9⟩, e7, hf⟩ := bd hf
      replace hf := un2e hf
      refine j_callV C 1 lc178 (ent_K _ _ _ _ _ _) rfl (c_X12_joins l G n0 e7) gv_RX12_66 ⟨rfl, rfl⟩ (by decide +kernel) ⟨Nat.le_of_ble_eq_true rfl, Nat.le_of_ble_eq_true rfl⟩ rfl rfl (Nat.le_of_ble_eq_true rfl) dX12_does_68 ?_
      refine j_goto C 75 dX12_does_71 (by decide) ?_
      cases hf
      refine j_sub [0] rfl ?_
      exact hj97
  · replace hf := ine c95_0 hf
    by_cases c95_1 : (M.1 178 12) = 1
    · replace hf := ip c95_1 hf
      refine j_tsw C 88 c95_1 dX12_does_13 (by decide) rfl (by decide) ?_
      refine j_aload_n C 2 dX12_does_88 rfl rfl ?_
      refine j_iload_n C 1 dX12_does_89 rfl rfl ?_
      refine j_aload_n C 2 dX12_does_90 rfl rfl ?_
      refine g_X12_numbers C tw5_195 lc178 184 rfl dX12_does_91 ?_
      refine j_iconst C (1 : Int32) rfl dX12_does_94 ?_
      obtain ⟨v13, e14, hf⟩ := bd hf
      obtain ⟨hx15, e14⟩ := ald_some e14
      refine j_iald C lc184 hx15 e14 dX12_does_95 ?_
      refine j_aload_n C 2 dX12_does_96 rfl rfl ?_
      refine g_X12_numbers C tw5_195 lc178 184 rfl dX12_does_97 ?_
      refine j_iconst C (2 : Int32) rfl dX12_does_100 ?_
      obtain ⟨v16, e17, hf⟩ := bd hf
      obtain ⟨hx18, e17⟩ := ald_some e17
      refine j_iald C lc184 hx18 e17 dX12_does_101 ?_
      obtain ⟨v20, e19, hf⟩ := bd hf
      refine j_callV C 3 lc178 (ent_K _ _ _ _ _ _) rfl (c_X12_badBatch l G n0 e19) gv_RX12_83 ⟨rfl, rfl⟩ (by decide +kernel) ⟨Nat.le_of_ble_eq_true rfl, Nat.le_of_ble_eq_true rfl⟩ rfl rfl (Nat.le_of_ble_eq_true rfl) dX12_does_102 ?_
      refine j_istore_n C [(2, .int v20), (3, .int (0 : Int32)), (1, .int v1), (0, .ref (n0 + 178))] dX12_does_105 rfl (Nat.le_of_ble_eq_true rfl) rfl ?_
      refine j_iload_n C 0 dX12_does_106 rfl rfl ?_
      refine j_if_ne C 130 dX12_does_107 (by decide) (fun c21 => ?_) (fun c21 => ?_)
      · replace hf := ine c21 hf
        refine j_iconst C (0 : Int32) rfl dX12_does_130 ?_
        refine j_istore_n C [(3, .int (0 : Int32)), (2, .int v20), (1, .int v1), (0, .ref (n0 + 178))] dX12_does_131 rfl (Nat.le_of_ble_eq_true rfl) rfl ?_
        refine j_iload_n C 1 dX12_does_132 rfl rfl ?_
        obtain ⟨rfl, rfl⟩ := Prod.mk.inj (Option.some.inj hf)
        exact hret _ _ dX12_does_133
      · replace hf := ip c21 hf
        refine j_aload_n C 3 dX12_does_110 rfl rfl ?_
        refine j_iload_n C 2 dX12_does_111 rfl rfl ?_
        refine j_aload_n C 3 dX12_does_112 rfl rfl ?_
        refine g_X12_numbers C tw5_195 lc178 184 rfl dX12_does_113 ?_
        refine j_iconst C (1 : Int32) rfl dX12_does_116 ?_
        obtain ⟨v22, e23, hf⟩ := bd hf
        obtain ⟨hx24, e23⟩ := ald_some e23
        refine j_iald C lc184 hx24 e23 dX12_does_117 ?_
        refine j_aload_n C 3 dX12_does_118 rfl rfl ?_
        refine g_X12_numbers C tw5_195 lc178 184 rfl dX12_does_119 ?_
        refine j_iconst C (2 : Int32) rfl dX12_does_122 ?_
        obtain ⟨v25, e26, hf⟩ := bd hf
        obtain ⟨hx27, e26⟩ := ald_some e26
        refine j_iald C lc184 hx27 e26 dX12_does_123 ?_
        obtain ⟨⟨v29, M30⟩, e28, hf⟩ := bd hf
        replace hf := un2e hf
        refine j_callV C 3 lc178 (ent_K _ _ _ _ _ _) rfl (c_X12_brings l G n0 e28) gv_RX12_87 ⟨rfl, rfl⟩ (by decide +kernel) ⟨Nat.le_of_ble_eq_true rfl, Nat.le_of_ble_eq_true rfl⟩ rfl rfl (Nat.le_of_ble_eq_true rfl) dX12_does_124 ?_
        refine j_goto C 131 dX12_does_127 (by decide) ?_
        refine j_istore_n C [(3, .int v29), (2, .int v20), (1, .int v1), (0, .ref (n0 + 178))] dX12_does_131 rfl (Nat.le_of_ble_eq_true rfl) rfl ?_
        refine j_iload_n C 1 dX12_does_132 rfl rfl ?_
        obtain ⟨rfl, rfl⟩ := Prod.mk.inj (Option.some.inj hf)
        exact hret _ _ dX12_does_133
    · replace hf := ine c95_1 hf
      by_cases c95_2 : (M.1 178 12) = 2
      · replace hf := ip c95_2 hf
        refine j_tsw C 134 c95_2 dX12_does_13 (by decide) rfl (by decide) ?_
        refine j_aload_n C 2 dX12_does_134 rfl rfl ?_
        refine j_iload_n C 1 dX12_does_135 rfl rfl ?_
        obtain ⟨v32, e31, hf⟩ := bd hf
        refine j_callV C 1 lc178 (ent_K _ _ _ _ _ _) rfl (c_X12_badDay l G n0 e31) gv_RX12_163 ⟨rfl, rfl⟩ (by decide +kernel) ⟨Nat.le_of_ble_eq_true rfl, Nat.le_of_ble_eq_true rfl⟩ rfl rfl (Nat.le_of_ble_eq_true rfl) dX12_does_136 ?_
        refine j_istore_n C [(2, .int v32), (3, .int (0 : Int32)), (1, .int v1), (0, .ref (n0 + 178))] dX12_does_139 rfl (Nat.le_of_ble_eq_true rfl) rfl ?_
        refine j_iload_n C 0 dX12_does_140 rfl rfl ?_
        obtain ⟨⟨z37, M38⟩, e98, hf⟩ := bd hf
        replace hf := un2e hf
        have hj99 : J K M38 153 [(2, .int v32)] [.int z37] := by
          refine j_istore_n C [(3, .int z37), (2, .int v32)] dX12_does_153 rfl (Nat.le_of_ble_eq_true rfl) rfl ?_
          refine j_iload_n C 1 dX12_does_154 rfl rfl ?_
          refine j_if_ne C 162 dX12_does_155 (by decide) (fun c39 => ?_) (fun c39 => ?_)
          · replace hf := ine c39 hf
            refine j_iload_n C 1 dX12_does_162 rfl rfl ?_
            refine j_iconst C (1 : Int32) rfl dX12_does_163 ?_
            refine j_iadd C dX12_does_164 ?_
            obtain ⟨rfl, rfl⟩ := Prod.mk.inj (Option.some.inj hf)
            exact hret _ _ dX12_does_165
          · replace hf := ip c39 hf
            refine j_iconst C (0 : Int32) rfl dX12_does_158 ?_
            refine j_goto C 165 dX12_does_159 (by decide) ?_
            obtain ⟨rfl, rfl⟩ := Prod.mk.inj (Option.some.inj hf)
            exact hret _ _ dX12_does_165
        clear hf
        have hf := e98
        refine j_if_ne C 152 dX12_does_141 (by decide) (fun c33 => ?_) (fun c33 => ?_)
        · replace hf := ine c33 hf
          refine j_iconst C (0 : Int32) rfl dX12_does_152 ?_
          cases hf
          refine j_sub [0] rfl ?_
          exact hj99
        · replace hf := ip c33 hf
          refine j_aload_n C 3 dX12_does_144 rfl rfl ?_
          refine j_iload_n C 2 dX12_does_145 rfl rfl ?_
          obtain ⟨⟨v35, M36⟩, e34, hf⟩ := bd hf
          replace hf := un2e hf
          refine j_callV C 1 lc178 (ent_K _ _ _ _ _ _) rfl (c_X12_dayWith l G n0 e34) gv_RX12_166 ⟨rfl, rfl⟩ (by decide +kernel) ⟨Nat.le_of_ble_eq_true rfl, Nat.le_of_ble_eq_true rfl⟩ rfl rfl (Nat.le_of_ble_eq_true rfl) dX12_does_146 ?_
          refine j_goto C 153 dX12_does_149 (by decide) ?_
          cases hf
          refine j_sub [0] rfl ?_
          exact hj99
      · replace hf := ine c95_2 hf
        by_cases c95_3 : (M.1 178 12) = 3
        · replace hf := ip c95_3 hf
          refine j_tsw C 173 c95_3 dX12_does_13 (by decide) rfl (by decide) ?_
          refine j_aload_n C 2 dX12_does_173 rfl rfl ?_
          refine j_iload_n C 1 dX12_does_174 rfl rfl ?_
          obtain ⟨b41, e40, hf⟩ := bd hf
          refine j_callV C 1 lc178 (ent_K _ _ _ _ _ _) rfl (c_X12_isHouse l G n0 e40) gv_RX12_69 ⟨rfl, rfl⟩ (by decide +kernel) ⟨Nat.le_of_ble_eq_true rfl, Nat.le_of_ble_eq_true rfl⟩ rfl rfl (Nat.le_of_ble_eq_true rfl) dX12_does_175 ?_
          refine j_ifz_ne C 183 dX12_does_178 (by decide) (fun c42 => ?_) (fun c42 => ?_)
          · replace hf := ip c42 hf
            refine j_aload_n C 2 dX12_does_183 rfl rfl ?_
            refine g_X12_word C tw5_194 lc178 dX12_does_184 ?_
            refine j_iconst C (3 : Int32) rfl dX12_does_187 ?_
            refine j_icmp_ne C 200 dX12_does_188 (by decide) (fun c43 => ?_) (fun c43 => ?_)
            · replace hf := ine c43 hf
              refine j_aload_n C 2 dX12_does_200 rfl rfl ?_
              refine g_X12_word C tw5_194 lc178 dX12_does_201 ?_
              refine j_iconst C (4 : Int32) rfl dX12_does_204 ?_
              refine j_icmp_ne C 217 dX12_does_205 (by decide) (fun c44 => ?_) (fun c44 => ?_)
              · replace hf := ine c44 hf
                refine j_aload_n C 2 dX12_does_217 rfl rfl ?_
                refine j_iload_n C 1 dX12_does_218 rfl rfl ?_
                refine j_iconst C (3 : Int32) rfl dX12_does_219 ?_
                refine j_iconst C (1 : Int32) rfl dX12_does_220 ?_
                obtain ⟨M46, e45, hf⟩ := bd hf
                refine j_callV C 3 lc178 (ent_K _ _ _ _ _ _) rfl (c_X12_lays l G n0 e45) gv_RX12_55 ⟨rfl, rfl⟩ (by decide +kernel) ⟨Nat.le_of_ble_eq_true rfl, Nat.le_of_ble_eq_true rfl⟩ rfl rfl (Nat.le_of_ble_eq_true rfl) dX12_does_221 ?_
                refine j_iconst C (0 : Int32) rfl dX12_does_224 ?_
                obtain ⟨rfl, rfl⟩ := Prod.mk.inj (Option.some.inj hf)
                exact hret _ _ dX12_does_225
              · replace hf := ip c44 hf
                refine j_aload_n C 2 dX12_does_208 rfl rfl ?_
                refine j_iload_n C 1 dX12_does_209 rfl rfl ?_
                obtain ⟨⟨v48, M49⟩, e47, hf⟩ := bd hf
                replace hf := un2e hf
                refine j_callV C 1 lc178 (ent_K _ _ _ _ _ _) rfl (c_X12_returns l G n0 e47) gv_RX12_175 ⟨rfl, rfl⟩ (by decide +kernel) ⟨Nat.le_of_ble_eq_true rfl, Nat.le_of_ble_eq_true rfl⟩ rfl rfl (Nat.le_of_ble_eq_true rfl) dX12_does_210 ?_
                refine j_istore_n C [(3, .int v48), (1, .int v1), (0, .ref (n0 + 178))] dX12_does_213 rfl (Nat.le_of_ble_eq_true rfl) rfl ?_
                refine j_goto C 224 dX12_does_214 (by decide) ?_
                refine j_iconst C (0 : Int32) rfl dX12_does_224 ?_
                obtain ⟨rfl, rfl⟩ := Prod.mk.inj (Option.some.inj hf)
                exact hret _ _ dX12_does_225
            · replace hf := ip c43 hf
              refine j_aload_n C 2 dX12_does_191 rfl rfl ?_
              refine j_iload_n C 1 dX12_does_192 rfl rfl ?_
              obtain ⟨⟨v51, M52⟩, e50, hf⟩ := bd hf
              replace hf := un2e hf
              refine j_callV C 1 lc178 (ent_K _ _ _ _ _ _) rfl (c_X12_claims l G n0 e50) gv_RX12_172 ⟨rfl, rfl⟩ (by decide +kernel) ⟨Nat.le_of_ble_eq_true rfl, Nat.le_of_ble_eq_true rfl⟩ rfl rfl (Nat.le_of_ble_eq_true rfl) dX12_does_193 ?_
              refine j_istore_n C [(3, .int v51), (1, .int v1), (0, .ref (n0 + 178))] dX12_does_196 rfl (Nat.le_of_ble_eq_true rfl) rfl ?_
              refine j_goto C 224 dX12_does_197 (by decide) ?_
              refine j_iconst C (0 : Int32) rfl dX12_does_224 ?_
              obtain ⟨rfl, rfl⟩ := Prod.mk.inj (Option.some.inj hf)
              exact hret _ _ dX12_does_225
          · replace hf := ine c42 hf
            refine j_iconst C (1 : Int32) rfl dX12_does_181 ?_
            obtain ⟨rfl, rfl⟩ := Prod.mk.inj (Option.some.inj hf)
            exact hret _ _ dX12_does_182
        · replace hf := ine c95_3 hf
          by_cases c95_4 : (M.1 178 12) = 4
          · replace hf := ip c95_4 hf
            refine j_tsw C 173 c95_4 dX12_does_13 (by decide) rfl (by decide) ?_
            refine j_aload_n C 2 dX12_does_173 rfl rfl ?_
            refine j_iload_n C 1 dX12_does_174 rfl rfl ?_
            obtain ⟨b54, e53, hf⟩ := bd hf
            refine j_callV C 1 lc178 (ent_K _ _ _ _ _ _) rfl (c_X12_isHouse l G n0 e53) gv_RX12_69 ⟨rfl, rfl⟩ (by decide +kernel) ⟨Nat.le_of_ble_eq_true rfl, Nat.le_of_ble_eq_true rfl⟩ rfl rfl (Nat.le_of_ble_eq_true rfl) dX12_does_175 ?_
            refine j_ifz_ne C 183 dX12_does_178 (by decide) (fun c55 => ?_) (fun c55 => ?_)
            · replace hf := ip c55 hf
              refine j_aload_n C 2 dX12_does_183 rfl rfl ?_
              refine g_X12_word C tw5_194 lc178 dX12_does_184 ?_
              refine j_iconst C (3 : Int32) rfl dX12_does_187 ?_
              refine j_icmp_ne C 200 dX12_does_188 (by decide) (fun c56 => ?_) (fun c56 => ?_)
              · replace hf := ine c56 hf
                refine j_aload_n C 2 dX12_does_200 rfl rfl ?_
                refine g_X12_word C tw5_194 lc178 dX12_does_201 ?_
                refine j_iconst C (4 : Int32) rfl dX12_does_204 ?_
                refine j_icmp_ne C 217 dX12_does_205 (by decide) (fun c57 => ?_) (fun c57 => ?_)
                · replace hf := ine c57 hf
                  refine j_aload_n C 2 dX12_does_217 rfl rfl ?_
                  refine j_iload_n C 1 dX12_does_218 rfl rfl ?_
                  refine j_iconst C (3 : Int32) rfl dX12_does_219 ?_
                  refine j_iconst C (1 : Int32) rfl dX12_does_220 ?_
                  obtain ⟨M59, e58, hf⟩ := bd hf
                  refine j_callV C 3 lc178 (ent_K _ _ _ _ _ _) rfl (c_X12_lays l G n0 e58) gv_RX12_55 ⟨rfl, rfl⟩ (by decide +kernel) ⟨Nat.le_of_ble_eq_true rfl, Nat.le_of_ble_eq_true rfl⟩ rfl rfl (Nat.le_of_ble_eq_true rfl) dX12_does_221 ?_
                  refine j_iconst C (0 : Int32) rfl dX12_does_224 ?_
                  obtain ⟨rfl, rfl⟩ := Prod.mk.inj (Option.some.inj hf)
                  exact hret _ _ dX12_does_225
                · replace hf := ip c57 hf
                  refine j_aload_n C 2 dX12_does_208 rfl rfl ?_
                  refine j_iload_n C 1 dX12_does_209 rfl rfl ?_
                  obtain ⟨⟨v61, M62⟩, e60, hf⟩ := bd hf
                  replace hf := un2e hf
                  refine j_callV C 1 lc178 (ent_K _ _ _ _ _ _) rfl (c_X12_returns l G n0 e60) gv_RX12_175 ⟨rfl, rfl⟩ (by decide +kernel) ⟨Nat.le_of_ble_eq_true rfl, Nat.le_of_ble_eq_true rfl⟩ rfl rfl (Nat.le_of_ble_eq_true rfl) dX12_does_210 ?_
                  refine j_istore_n C [(3, .int v61), (1, .int v1), (0, .ref (n0 + 178))] dX12_does_213 rfl (Nat.le_of_ble_eq_true rfl) rfl ?_
                  refine j_goto C 224 dX12_does_214 (by decide) ?_
                  refine j_iconst C (0 : Int32) rfl dX12_does_224 ?_
                  obtain ⟨rfl, rfl⟩ := Prod.mk.inj (Option.some.inj hf)
                  exact hret _ _ dX12_does_225
              · replace hf := ip c56 hf
                refine j_aload_n C 2 dX12_does_191 rfl rfl ?_
                refine j_iload_n C 1 dX12_does_192 rfl rfl ?_
                obtain ⟨⟨v64, M65⟩, e63, hf⟩ := bd hf
                replace hf := un2e hf
                refine j_callV C 1 lc178 (ent_K _ _ _ _ _ _) rfl (c_X12_claims l G n0 e63) gv_RX12_172 ⟨rfl, rfl⟩ (by decide +kernel) ⟨Nat.le_of_ble_eq_true rfl, Nat.le_of_ble_eq_true rfl⟩ rfl rfl (Nat.le_of_ble_eq_true rfl) dX12_does_193 ?_
                refine j_istore_n C [(3, .int v64), (1, .int v1), (0, .ref (n0 + 178))] dX12_does_196 rfl (Nat.le_of_ble_eq_true rfl) rfl ?_
                refine j_goto C 224 dX12_does_197 (by decide) ?_
                refine j_iconst C (0 : Int32) rfl dX12_does_224 ?_
                obtain ⟨rfl, rfl⟩ := Prod.mk.inj (Option.some.inj hf)
                exact hret _ _ dX12_does_225
            · replace hf := ine c55 hf
              refine j_iconst C (1 : Int32) rfl dX12_does_181 ?_
              obtain ⟨rfl, rfl⟩ := Prod.mk.inj (Option.some.inj hf)
              exact hret _ _ dX12_does_182
          · replace hf := ine c95_4 hf
            by_cases c95_5 : (M.1 178 12) = 5
            · replace hf := ip c95_5 hf
              refine j_tsw C 173 c95_5 dX12_does_13 (by decide) rfl (by decide) ?_
              refine j_aload_n C 2 dX12_does_173 rfl rfl ?_
              refine j_iload_n C 1 dX12_does_174 rfl rfl ?_
              obtain ⟨b67, e66, hf⟩ := bd hf
              refine j_callV C 1 lc178 (ent_K _ _ _ _ _ _) rfl (c_X12_isHouse l G n0 e66) gv_RX12_69 ⟨rfl, rfl⟩ (by decide +kernel) ⟨Nat.le_of_ble_eq_true rfl, Nat.le_of_ble_eq_true rfl⟩ rfl rfl (Nat.le_of_ble_eq_true rfl) dX12_does_175 ?_
              refine j_ifz_ne C 183 dX12_does_178 (by decide) (fun c68 => ?_) (fun c68 => ?_)
              · replace hf := ip c68 hf
                refine j_aload_n C 2 dX12_does_183 rfl rfl ?_
                refine g_X12_word C tw5_194 lc178 dX12_does_184 ?_
                refine j_iconst C (3 : Int32) rfl dX12_does_187 ?_
                refine j_icmp_ne C 200 dX12_does_188 (by decide) (fun c69 => ?_) (fun c69 => ?_)
                · replace hf := ine c69 hf
                  refine j_aload_n C 2 dX12_does_200 rfl rfl ?_
                  refine g_X12_word C tw5_194 lc178 dX12_does_201 ?_
                  refine j_iconst C (4 : Int32) rfl dX12_does_204 ?_
                  refine j_icmp_ne C 217 dX12_does_205 (by decide) (fun c70 => ?_) (fun c70 => ?_)
                  · replace hf := ine c70 hf
                    refine j_aload_n C 2 dX12_does_217 rfl rfl ?_
                    refine j_iload_n C 1 dX12_does_218 rfl rfl ?_
                    refine j_iconst C (3 : Int32) rfl dX12_does_219 ?_
                    refine j_iconst C (1 : Int32) rfl dX12_does_220 ?_
                    obtain ⟨M72, e71, hf⟩ := bd hf
                    refine j_callV C 3 lc178 (ent_K _ _ _ _ _ _) rfl (c_X12_lays l G n0 e71) gv_RX12_55 ⟨rfl, rfl⟩ (by decide +kernel) ⟨Nat.le_of_ble_eq_true rfl, Nat.le_of_ble_eq_true rfl⟩ rfl rfl (Nat.le_of_ble_eq_true rfl) dX12_does_221 ?_
                    refine j_iconst C (0 : Int32) rfl dX12_does_224 ?_
                    obtain ⟨rfl, rfl⟩ := Prod.mk.inj (Option.some.inj hf)
                    exact hret _ _ dX12_does_225
                  · replace hf := ip c70 hf
                    refine j_aload_n C 2 dX12_does_208 rfl rfl ?_
                    refine j_iload_n C 1 dX12_does_209 rfl rfl ?_
                    obtain ⟨⟨v74, M75⟩, e73, hf⟩ := bd hf
                    replace hf := un2e hf
                    refine j_callV C 1 lc178 (ent_K _ _ _ _ _ _) rfl (c_X12_returns l G n0 e73) gv_RX12_175 ⟨rfl, rfl⟩ (by decide +kernel) ⟨Nat.le_of_ble_eq_true rfl, Nat.le_of_ble_eq_true rfl⟩ rfl rfl (Nat.le_of_ble_eq_true rfl) dX12_does_210 ?_
                    refine j_istore_n C [(3, .int v74), (1, .int v1), (0, .ref (n0 + 178))] dX12_does_213 rfl (Nat.le_of_ble_eq_true rfl) rfl ?_
                    refine j_goto C 224 dX12_does_214 (by decide) ?_
                    refine j_iconst C (0 : Int32) rfl dX12_does_224 ?_
                    obtain ⟨rfl, rfl⟩ := Prod.mk.inj (Option.some.inj hf)
                    exact hret _ _ dX12_does_225
                · replace hf := ip c69 hf
                  refine j_aload_n C 2 dX12_does_191 rfl rfl ?_
                  refine j_iload_n C 1 dX12_does_192 rfl rfl ?_
                  obtain ⟨⟨v77, M78⟩, e76, hf⟩ := bd hf
                  replace hf := un2e hf
                  refine j_callV C 1 lc178 (ent_K _ _ _ _ _ _) rfl (c_X12_claims l G n0 e76) gv_RX12_172 ⟨rfl, rfl⟩ (by decide +kernel) ⟨Nat.le_of_ble_eq_true rfl, Nat.le_of_ble_eq_true rfl⟩ rfl rfl (Nat.le_of_ble_eq_true rfl) dX12_does_193 ?_
                  refine j_istore_n C [(3, .int v77), (1, .int v1), (0, .ref (n0 + 178))] dX12_does_196 rfl (Nat.le_of_ble_eq_true rfl) rfl ?_
                  refine j_goto C 224 dX12_does_197 (by decide) ?_
                  refine j_iconst C (0 : Int32) rfl dX12_does_224 ?_
                  obtain ⟨rfl, rfl⟩ := Prod.mk.inj (Option.some.inj hf)
                  exact hret _ _ dX12_does_225
              · replace hf := ine c68 hf
                refine j_iconst C (1 : Int32) rfl dX12_does_181 ?_
                obtain ⟨rfl, rfl⟩ := Prod.mk.inj (Option.some.inj hf)
                exact hret _ _ dX12_does_182
            · replace hf := ine c95_5 hf
              by_cases c95_6 : (M.1 178 12) = 6
              · replace hf := ip c95_6 hf
                refine j_tsw C 166 c95_6 dX12_does_13 (by decide) rfl (by decide) ?_
                refine j_aload_n C 2 dX12_does_166 rfl rfl ?_
                obtain ⟨⟨v80, M81⟩, e79, hf⟩ := bd hf
                replace hf := un2e hf
                refine j_callV C 0 lc178 (ent_K _ _ _ _ _ _) rfl (c_X12_gives l G n0 e79) gv_RX12_178 ⟨rfl, rfl⟩ (by decide +kernel) ⟨Nat.le_of_ble_eq_true rfl, Nat.le_of_ble_eq_true rfl⟩ rfl rfl (Nat.le_of_ble_eq_true rfl) dX12_does_167 ?_
                refine j_istore_n C [(3, .int v80), (1, .int v1), (0, .ref (n0 + 178))] dX12_does_170 rfl (Nat.le_of_ble_eq_true rfl) rfl ?_
                refine j_iconst C (0 : Int32) rfl dX12_does_171 ?_
                obtain ⟨rfl, rfl⟩ := Prod.mk.inj (Option.some.inj hf)
                exact hret _ _ dX12_does_172
              · replace hf := ine c95_6 hf
                refine j_tswD C 173 (by have g0 := lv_neT c95_0 (show (0 : Int32).toInt = 0 by decide); have g1 := lv_neT c95_1 (show (1 : Int32).toInt = 1 by decide); have g2 := lv_neT c95_2 (show (2 : Int32).toInt = 2 by decide); have g3 := lv_neT c95_3 (show (3 : Int32).toInt = 3 by decide); have g4 := lv_neT c95_4 (show (4 : Int32).toInt = 4 by decide); have g5 := lv_neT c95_5 (show (5 : Int32).toInt = 5 by decide); have g6 := lv_neT c95_6 (show (6 : Int32).toInt = 6 by decide); omega) dX12_does_13 (by decide) ?_
                refine j_aload_n C 2 dX12_does_173 rfl rfl ?_
                refine j_iload_n C 1 dX12_does_174 rfl rfl ?_
                obtain ⟨b83, e82, hf⟩ := bd hf
                refine j_callV C 1 lc178 (ent_K _ _ _ _ _ _) rfl (c_X12_isHouse l G n0 e82) gv_RX12_69 ⟨rfl, rfl⟩ (by decide +kernel) ⟨Nat.le_of_ble_eq_true rfl, Nat.le_of_ble_eq_true rfl⟩ rfl rfl (Nat.le_of_ble_eq_true rfl) dX12_does_175 ?_
                refine j_ifz_ne C 183 dX12_does_178 (by decide) (fun c84 => ?_) (fun c84 => ?_)
                · replace hf := ip c84 hf
                  refine j_aload_n C 2 dX12_does_183 rfl rfl ?_
                  refine g_X12_word C tw5_194 lc178 dX12_does_184 ?_
                  refine j_iconst C (3 : Int32) rfl dX12_does_187 ?_
                  refine j_icmp_ne C 200 dX12_does_188 (by decide) (fun c85 => ?_) (fun c85 => ?_)
                  · replace hf := ine c85 hf
                    refine j_aload_n C 2 dX12_does_200 rfl rfl ?_
                    refine g_X12_word C tw5_194 lc178 dX12_does_201 ?_
                    refine j_iconst C (4 : Int32) rfl dX12_does_204 ?_
                    refine j_icmp_ne C 217 dX12_does_205 (by decide) (fun c86 => ?_) (fun c86 => ?_)
                    · replace hf := ine c86 hf
                      refine j_aload_n C 2 dX12_does_217 rfl rfl ?_
                      refine j_iload_n C 1 dX12_does_218 rfl rfl ?_
                      refine j_iconst C (3 : Int32) rfl dX12_does_219 ?_
                      refine j_iconst C (1 : Int32) rfl dX12_does_220 ?_
                      obtain ⟨M88, e87, hf⟩ := bd hf
                      refine j_callV C 3 lc178 (ent_K _ _ _ _ _ _) rfl (c_X12_lays l G n0 e87) gv_RX12_55 ⟨rfl, rfl⟩ (by decide +kernel) ⟨Nat.le_of_ble_eq_true rfl, Nat.le_of_ble_eq_true rfl⟩ rfl rfl (Nat.le_of_ble_eq_true rfl) dX12_does_221 ?_
                      refine j_iconst C (0 : Int32) rfl dX12_does_224 ?_
                      obtain ⟨rfl, rfl⟩ := Prod.mk.inj (Option.some.inj hf)
                      exact hret _ _ dX12_does_225
                    · replace hf := ip c86 hf
                      refine j_aload_n C 2 dX12_does_208 rfl rfl ?_
                      refine j_iload_n C 1 dX12_does_209 rfl rfl ?_
                      obtain ⟨⟨v90, M91⟩, e89, hf⟩ := bd hf
                      replace hf := un2e hf
                      refine j_callV C 1 lc178 (ent_K _ _ _ _ _ _) rfl (c_X12_returns l G n0 e89) gv_RX12_175 ⟨rfl, rfl⟩ (by decide +kernel) ⟨Nat.le_of_ble_eq_true rfl, Nat.le_of_ble_eq_true rfl⟩ rfl rfl (Nat.le_of_ble_eq_true rfl) dX12_does_210 ?_
                      refine j_istore_n C [(3, .int v90), (1, .int v1), (0, .ref (n0 + 178))] dX12_does_213 rfl (Nat.le_of_ble_eq_true rfl) rfl ?_
                      refine j_goto C 224 dX12_does_214 (by decide) ?_
                      refine j_iconst C (0 : Int32) rfl dX12_does_224 ?_
                      obtain ⟨rfl, rfl⟩ := Prod.mk.inj (Option.some.inj hf)
                      exact hret _ _ dX12_does_225
                  · replace hf := ip c85 hf
                    refine j_aload_n C 2 dX12_does_191 rfl rfl ?_
                    refine j_iload_n C 1 dX12_does_192 rfl rfl ?_
                    obtain ⟨⟨v93, M94⟩, e92, hf⟩ := bd hf
                    replace hf := un2e hf
                    refine j_callV C 1 lc178 (ent_K _ _ _ _ _ _) rfl (c_X12_claims l G n0 e92) gv_RX12_172 ⟨rfl, rfl⟩ (by decide +kernel) ⟨Nat.le_of_ble_eq_true rfl, Nat.le_of_ble_eq_true rfl⟩ rfl rfl (Nat.le_of_ble_eq_true rfl) dX12_does_193 ?_
                    refine j_istore_n C [(3, .int v93), (1, .int v1), (0, .ref (n0 + 178))] dX12_does_196 rfl (Nat.le_of_ble_eq_true rfl) rfl ?_
                    refine j_goto C 224 dX12_does_197 (by decide) ?_
                    refine j_iconst C (0 : Int32) rfl dX12_does_224 ?_
                    obtain ⟨rfl, rfl⟩ := Prod.mk.inj (Option.some.inj hf)
                    exact hret _ _ dX12_does_225
                · replace hf := ine c84 hf
                  refine j_iconst C (1 : Int32) rfl dX12_does_181 ?_
                  obtain ⟨rfl, rfl⟩ := Prod.mk.inj (Option.some.inj hf)
                  exact hret _ _ dX12_does_182
def lX12_runCommands_15  : Nat → Mem → Option ((Int32 × Mem) ⊕ Mem)
  | 0, _ => none
  | n + 1, M8 =>
  if (M8.1 178 6) ≤ (M8.1 178 11) then (some (Sum.inr M8))
  else ((fX12_reads M8).bind (un2 fun b11 M12 =>
  if b11 = true then ((fX12_skips M12).bind (un2 fun b15 M16 =>
  lX12_runCommands_15  n M16))
  else (some (Sum.inl (((-10 : Int32) - (M12.1 178 11)), M12)))))

def lX12_runCommands_70  : Nat → Int32 → Mem → Option (Int32 × Mem)
  | 0, _, _ => none
  | n + 1, a27, M28 =>
  if (M28.1 178 6) ≤ (M28.1 178 11) then (some (a27, M28))
  else (if (M28.1 178 7) = 0 then ((fX12_reads M28).bind (un2 fun b32 M33 =>
  (fX12_does M33).bind (un2 fun v35 M36 =>
  (pf M36 178 7 v35).bind fun M37 =>
  if (M37.1 178 7) = 0 then ((fX12_skips M37).bind (un2 fun b44 M45 =>
  lX12_runCommands_70  n (a27 + (1 : Int32)) M45))
  else ((fX12_skips M37).bind (un2 fun b41 M42 =>
  lX12_runCommands_70  n (a27 + (0 : Int32)) M42)))))
  else (some (a27, M28)))

def fX12_runCommands  (M : Mem) : Option (Int32 × Mem) :=
  (pf M 178 4 (0 : Int32)).bind fun M1 =>
  (pf M1 178 11 (0 : Int32)).bind fun M3 =>
  (fX12_skips M3).bind (un2 fun b6 M7 =>
  (lX12_runCommands_15 FUEL M7).bind fun o => s0 o (fun M17 => (fX12_saves M17).bind fun M19 =>
  (pf M19 178 11 (0 : Int32)).bind fun M20 =>
  (pf M20 178 7 (0 : Int32)).bind fun M22 =>
  (fX12_skips M22).bind (un2 fun b25 M26 =>
  (lX12_runCommands_70 FUEL (0 : Int32) M26).bind (un2 fun a46 M47 => some (a46, M47)))))

def rX12_runCommands : Room := { frames := 6, cells := 0, slots := 0, locals := 137 }
set_option maxRecDepth 100000 in
set_option maxHeartbeats 4000000 in
theorem c_X12_runCommands (l : Launch) (G : Gx) (n0 : Nat) {M : Mem} {r : Int32} {M' : Mem} (hf : fX12_runCommands M = some (r, M')) : Ct l yX12_runCommands cX12_runCommands 4 (some .int) rX12_runCommands G n0 [.ref (n0 + 178)] M (some (.int r)) M' := by
  refine ct_int (cc := cX12_runCommands) (maxL := 4) rfl (Nat.le_of_ble_eq_true rfl) ?_
  intro K C hret
  have C : Ok K l rX12_runCommands cX12_runCommands RX12 G n0 4 := C
  show J K M 0 [(0, .ref (n0 + 178))] []
  unfold fX12_runCommands at hf
  refine j_aload_n C 0 dX12_runCommands_0 rfl rfl ?_
  refine j_iconst C (0 : Int32) rfl dX12_runCommands_1 ?_
  obtain ⟨M1, e2, hf⟩ := bd hf
  refine p_X12_refusal C tw5_186 lc178 e2 dX12_runCommands_2 ?_
  refine j_aload_n C 0 dX12_runCommands_5 rfl rfl ?_
  refine j_iconst C (0 : Int32) rfl dX12_runCommands_6 ?_
  obtain ⟨M3, e4, hf⟩ := bd hf
  refine p_X12_spot C tw5_193 lc178 e4 dX12_runCommands_7 ?_
  refine j_aload_n C 0 dX12_runCommands_10 rfl rfl ?_
  obtain ⟨⟨b6, M7⟩, e5, hf⟩ := bd hf
  replace hf := un2e hf
  refine j_callV C 0 lc178 (ent_K _ _ _ _ _ _) rfl (c_X12_skips l G n0 e5) gv_RX12_228 ⟨rfl, rfl⟩ (by decide +kernel) ⟨Nat.le_of_ble_eq_true rfl, Nat.le_of_ble_eq_true rfl⟩ rfl rfl (Nat.le_of_ble_eq_true rfl) dX12_runCommands_11 ?_
  refine j_istore_n C [(1, .int (bI b6)), (0, .ref (n0 + 178))] dX12_runCommands_14 rfl (Nat.le_of_ble_eq_true rfl) rfl ?_
  obtain ⟨o52, e48, hg51⟩ := bd hf
  have hx49 : ∀ (M17 : Mem), o52 = Sum.inr M17 → J K M17 49 [(0, .ref (n0 + 178))] [] := by
    intro M17 ho
    rw [ho] at hg51
    replace hf := s0r hg51
    refine j_aload_n C 0 dX12_runCommands_49 rfl rfl ?_
    obtain ⟨M19, e18, hf⟩ := bd hf
    refine j_callV C 0 lc178 (ent_K _ _ _ _ _ _) rfl (c_X12_saves l G n0 e18) gv_RX12_63 ⟨rfl, rfl⟩ (by decide +kernel) ⟨Nat.le_of_ble_eq_true rfl, Nat.le_of_ble_eq_true rfl⟩ rfl rfl (Nat.le_of_ble_eq_true rfl) dX12_runCommands_50 ?_
    refine j_aload_n C 0 dX12_runCommands_53 rfl rfl ?_
    refine j_iconst C (0 : Int32) rfl dX12_runCommands_54 ?_
    obtain ⟨M20, e21, hf⟩ := bd hf
    refine p_X12_spot C tw5_193 lc178 e21 dX12_runCommands_55 ?_
    refine j_aload_n C 0 dX12_runCommands_58 rfl rfl ?_
    refine j_iconst C (0 : Int32) rfl dX12_runCommands_59 ?_
    obtain ⟨M22, e23, hf⟩ := bd hf
    refine p_X12_stopped C tw5_189 lc178 e23 dX12_runCommands_60 ?_
    refine j_iconst C (0 : Int32) rfl dX12_runCommands_63 ?_
    refine j_istore_n C [(2, .int (0 : Int32)), (0, .ref (n0 + 178))] dX12_runCommands_64 rfl (Nat.le_of_ble_eq_true rfl) rfl ?_
    refine j_aload_n C 1 dX12_runCommands_65 rfl rfl ?_
    obtain ⟨⟨b25, M26⟩, e24, hf⟩ := bd hf
    replace hf := un2e hf
    refine j_callV C 0 lc178 (ent_K _ _ _ _ _ _) rfl (c_X12_skips l G n0 e24) gv_RX12_228 ⟨rfl, rfl⟩ (by decide +kernel) ⟨Nat.le_of_ble_eq_true rfl, Nat.le_of_ble_eq_true rfl⟩ rfl rfl (Nat.le_of_ble_eq_true rfl) dX12_runCommands_66 ?_
    refine j_istore_n C [(1, .int (bI b25)), (2, .int (0 : Int32)), (0, .ref (n0 + 178))] dX12_runCommands_69 rfl (Nat.le_of_ble_eq_true rfl) rfl ?_
    obtain ⟨⟨a46, M47⟩, e53, hf⟩ := bd hf
    replace hf := un2e hf
    have hx54 : J K M47 124 [(2, .int a46)] [] := by
      refine j_iload_n C 0 dX12_runCommands_124 rfl rfl ?_
      obtain ⟨rfl, rfl⟩ := Prod.mk.inj (Option.some.inj hf)
      exact hret _ _ dX12_runCommands_125
    clear hf
    have hl55 : ∀ (n : Nat) (a27 : Int32) (M28 : Mem), lX12_runCommands_70 n a27 M28 = some (a46, M47) → J K M28 70 [(0, .ref (n0 + 178)), (2, .int a27)] [] := by
      intro n
      induction n with
      | zero =>
        intro a27 M28 hf
        exact absurd hf (by rw [lX12_runCommands_70]; exact fun h => by cases h)
      | succ n ih =>
        intro a27 M28 hf
        rw [lX12_runCommands_70] at hf
        refine j_aload_n C 0 dX12_runCommands_70 rfl rfl ?_
        refine g_X12_spot C tw5_193 lc178 dX12_runCommands_71 ?_
        refine j_aload_n C 0 dX12_runCommands_74 rfl rfl ?_
        refine g_X12_length C tw5_188 lc178 dX12_runCommands_75 ?_
        refine j_icmp_ge C 124 dX12_runCommands_78 (by decide) (fun c29 => ?_) (fun c29 => ?_)
        · replace hf := ip c29 hf
          refine j_sub [1] rfl ?_
          cases hf
          exact hx54
        · replace hf := ine c29 hf
          refine j_aload_n C 0 dX12_runCommands_81 rfl rfl ?_
          refine g_X12_stopped C tw5_189 lc178 dX12_runCommands_82 ?_
          refine j_if_ne C 124 dX12_runCommands_85 (by decide) (fun c30 => ?_) (fun c30 => ?_)
          · replace hf := ine c30 hf
            refine j_sub [1] rfl ?_
            cases hf
            exact hx54
          · replace hf := ip c30 hf
            refine j_aload_n C 0 dX12_runCommands_88 rfl rfl ?_
            obtain ⟨⟨b32, M33⟩, e31, hf⟩ := bd hf
            replace hf := un2e hf
            refine j_callV C 0 lc178 (ent_K _ _ _ _ _ _) rfl (c_X12_reads l G n0 e31) gv_RX12_241 ⟨rfl, rfl⟩ (by decide +kernel) ⟨Nat.le_of_ble_eq_true rfl, Nat.le_of_ble_eq_true rfl⟩ rfl rfl (Nat.le_of_ble_eq_true rfl) dX12_runCommands_89 ?_
            refine j_istore_n C [(3, .int (bI b32)), (0, .ref (n0 + 178)), (2, .int a27)] dX12_runCommands_92 rfl (Nat.le_of_ble_eq_true rfl) rfl ?_
            refine j_aload_n C 1 dX12_runCommands_93 rfl rfl ?_
            refine j_aload_n C 1 dX12_runCommands_94 rfl rfl ?_
            obtain ⟨⟨v35, M36⟩, e34, hf⟩ := bd hf
            replace hf := un2e hf
            refine j_callV C 0 lc178 (ent_K _ _ _ _ _ _) rfl (c_X12_does l G n0 e34) gv_RX12_247 ⟨rfl, rfl⟩ (by decide +kernel) ⟨Nat.le_of_ble_eq_true rfl, Nat.le_of_ble_eq_true rfl⟩ rfl rfl (Nat.le_of_ble_eq_true rfl) dX12_runCommands_95 ?_
            obtain ⟨M37, e38, hf⟩ := bd hf
            refine p_X12_stopped C tw5_189 lc178 e38 dX12_runCommands_98 ?_
            refine j_iload_n C 2 dX12_runCommands_101 rfl rfl ?_
            refine j_aload_n C 1 dX12_runCommands_102 rfl rfl ?_
            refine g_X12_stopped C tw5_189 lc178 dX12_runCommands_103 ?_
            refine j_if_ne C 113 dX12_runCommands_106 (by decide) (fun c39 => ?_) (fun c39 => ?_)
            · replace hf := ine c39 hf
              refine j_iconst C (0 : Int32) rfl dX12_runCommands_113 ?_
              refine j_iadd C dX12_runCommands_114 ?_
              refine j_istore_n C [(2, .int (a27 + (0 : Int32))), (3, .int (bI b32)), (0, .ref (n0 + 178))] dX12_runCommands_115 rfl (Nat.le_of_ble_eq_true rfl) rfl ?_
              refine j_aload_n C 2 dX12_runCommands_116 rfl rfl ?_
              obtain ⟨⟨b41, M42⟩, e40, hf⟩ := bd hf
              replace hf := un2e hf
              refine j_callV C 0 lc178 (ent_K _ _ _ _ _ _) rfl (c_X12_skips l G n0 e40) gv_RX12_228 ⟨rfl, rfl⟩ (by decide +kernel) ⟨Nat.le_of_ble_eq_true rfl, Nat.le_of_ble_eq_true rfl⟩ rfl rfl (Nat.le_of_ble_eq_true rfl) dX12_runCommands_117 ?_
              refine j_istore_n C [(1, .int (bI b41)), (2, .int (a27 + (0 : Int32))), (3, .int (bI b32)), (0, .ref (n0 + 178))] dX12_runCommands_120 rfl (Nat.le_of_ble_eq_true rfl) rfl ?_
              refine j_goto C 70 dX12_runCommands_121 (by decide) ?_
              refine j_sub [3, 1] rfl ?_
              exact ih _ _ hf
            · replace hf := ip c39 hf
              refine j_iconst C (1 : Int32) rfl dX12_runCommands_109 ?_
              refine j_goto C 114 dX12_runCommands_110 (by decide) ?_
              refine j_iadd C dX12_runCommands_114 ?_
              refine j_istore_n C [(2, .int (a27 + (1 : Int32))), (3, .int (bI b32)), (0, .ref (n0 + 178))] dX12_runCommands_115 rfl (Nat.le_of_ble_eq_true rfl) rfl ?_
              refine j_aload_n C 2 dX12_runCommands_116 rfl rfl ?_
              obtain ⟨⟨b44, M45⟩, e43, hf⟩ := bd hf
              replace hf := un2e hf
              refine j_callV C 0 lc178 (ent_K _ _ _ _ _ _) rfl (c_X12_skips l G n0 e43) gv_RX12_228 ⟨rfl, rfl⟩ (by decide +kernel) ⟨Nat.le_of_ble_eq_true rfl, Nat.le_of_ble_eq_true rfl⟩ rfl rfl (Nat.le_of_ble_eq_true rfl) dX12_runCommands_117 ?_
              refine j_istore_n C [(1, .int (bI b44)), (2, .int (a27 + (1 : Int32))), (3, .int (bI b32)), (0, .ref (n0 + 178))] dX12_runCommands_120 rfl (Nat.le_of_ble_eq_true rfl) rfl ?_
              refine j_goto C 70 dX12_runCommands_121 (by decide) ?_
              refine j_sub [3, 1] rfl ?_
              exact ih _ _ hf
    refine j_sub [2, 1] rfl ?_
    exact hl55 FUEL (0 : Int32) M26 e53
  have hl50 : ∀ (n : Nat) (M8 : Mem), lX12_runCommands_15 n M8 = some o52 → J K M8 15 [(0, .ref (n0 + 178))] [] := by
    intro n
    induction n with
    | zero =>
      intro M8 hf
      exact absurd hf (by rw [lX12_runCommands_15]; exact fun h => by cases h)
    | succ n ih =>
      intro M8 hf
      rw [lX12_runCommands_15] at hf
      refine j_aload_n C 0 dX12_runCommands_15 rfl rfl ?_
      refine g_X12_spot C tw5_193 lc178 dX12_runCommands_16 ?_
      refine j_aload_n C 0 dX12_runCommands_19 rfl rfl ?_
      refine g_X12_length C tw5_188 lc178 dX12_runCommands_20 ?_
      refine j_icmp_ge C 49 dX12_runCommands_23 (by decide) (fun c9 => ?_) (fun c9 => ?_)
      · replace hf := ip c9 hf
        refine j_sub [0] rfl ?_
        exact hx49 _ (Option.some.inj hf).symm
      · replace hf := ine c9 hf
        refine j_aload_n C 0 dX12_runCommands_26 rfl rfl ?_
        obtain ⟨⟨b11, M12⟩, e10, hf⟩ := bd hf
        replace hf := un2e hf
        refine j_callV C 0 lc178 (ent_K _ _ _ _ _ _) rfl (c_X12_reads l G n0 e10) gv_RX12_241 ⟨rfl, rfl⟩ (by decide +kernel) ⟨Nat.le_of_ble_eq_true rfl, Nat.le_of_ble_eq_true rfl⟩ rfl rfl (Nat.le_of_ble_eq_true rfl) dX12_runCommands_27 ?_
        refine j_ifz_ne C 41 dX12_runCommands_30 (by decide) (fun c13 => ?_) (fun c13 => ?_)
        · replace hf := ip c13 hf
          refine j_aload_n C 0 dX12_runCommands_41 rfl rfl ?_
          obtain ⟨⟨b15, M16⟩, e14, hf⟩ := bd hf
          replace hf := un2e hf
          refine j_callV C 0 lc178 (ent_K _ _ _ _ _ _) rfl (c_X12_skips l G n0 e14) gv_RX12_228 ⟨rfl, rfl⟩ (by decide +kernel) ⟨Nat.le_of_ble_eq_true rfl, Nat.le_of_ble_eq_true rfl⟩ rfl rfl (Nat.le_of_ble_eq_true rfl) dX12_runCommands_42 ?_
          refine j_istore_n C [(1, .int (bI b15)), (0, .ref (n0 + 178))] dX12_runCommands_45 rfl (Nat.le_of_ble_eq_true rfl) rfl ?_
          refine j_goto C 15 dX12_runCommands_46 (by decide) ?_
          refine j_sub [1] rfl ?_
          exact ih  _ hf
        · replace hf := ine c13 hf
          refine j_bipush C (-10 : Int32) rfl dX12_runCommands_33 ?_
          refine j_aload_n C 0 dX12_runCommands_35 rfl rfl ?_
          refine g_X12_spot C tw5_193 lc178 dX12_runCommands_36 ?_
          refine j_isub C dX12_runCommands_39 ?_
          rw [← Option.some.inj hf] at hg51
          have hf := hg51
          replace hf : some _ = some _ := hf
          obtain ⟨rfl, rfl⟩ := Prod.mk.inj (Option.some.inj hf)
          exact hret _ _ dX12_runCommands_40
  refine j_sub [1] rfl ?_
  exact hl50 FUEL M7 e48
def fX12_stop  (M : Mem) : Option (Int32 × Mem) :=
  (pf M 178 4 (0 : Int32)).bind fun M1 =>
  some ((M1.1 178 7), M1)

def rX12_stop : Room := { frames := 0, cells := 0, slots := 0, locals := 0 }
set_option maxRecDepth 100000 in
set_option maxHeartbeats 4000000 in
theorem c_X12_stop (l : Launch) (G : Gx) (n0 : Nat) {M : Mem} {r : Int32} {M' : Mem} (hf : fX12_stop M = some (r, M')) : Ct l yX12_stop cX12_stop 1 (some .int) rX12_stop G n0 [.ref (n0 + 178)] M (some (.int r)) M' := by
  refine ct_int (cc := cX12_stop) (maxL := 1) rfl (Nat.le_of_ble_eq_true rfl) ?_
  intro K C hret
  have C : Ok K l rX12_stop cX12_stop RX12 G n0 1 := C
  show J K M 0 [(0, .ref (n0 + 178))] []
  unfold fX12_stop at hf
  refine j_aload_n C 0 dX12_stop_0 rfl rfl ?_
  refine j_iconst C (0 : Int32) rfl dX12_stop_1 ?_
  obtain ⟨M1, e2, hf⟩ := bd hf
  refine p_X12_refusal C tw5_186 lc178 e2 dX12_stop_2 ?_
  refine j_aload_n C 0 dX12_stop_5 rfl rfl ?_
  refine g_X12_stopped C tw5_189 lc178 dX12_stop_6 ?_
  obtain ⟨rfl, rfl⟩ := Prod.mk.inj (Option.some.inj hf)
  exact hret _ _ dX12_stop_9
def fX12_mix (y1 : Int64) (M : Mem) : Option Mem :=
  (pfL M 178 14 (((31 : Int64) * (M.2 178 14)) + y1)).bind fun M1 =>
  some M1

def rX12_mix : Room := { frames := 0, cells := 0, slots := 0, locals := 0 }
set_option maxRecDepth 100000 in
set_option maxHeartbeats 4000000 in
theorem c_X12_mix (l : Launch) (G : Gx) (n0 : Nat) {y1 : Int64} {M : Mem} {M' : Mem} (hf : fX12_mix y1 M = some M') : Ct l yX12_mix cX12_mix 3 none rX12_mix G n0 [.ref (n0 + 178), .long y1] M none M' := by
  refine ct_void (cc := cX12_mix) (maxL := 3) rfl (Nat.le_of_ble_eq_true rfl) ?_
  intro K C hret
  have C : Ok K l rX12_mix cX12_mix RX12 G n0 3 := C
  show J K M 0 [(0, .ref (n0 + 178)), (1, .long y1)] []
  unfold fX12_mix at hf
  refine j_aload_n C 0 dX12_mix_0 rfl rfl ?_
  refine j_ldc2 C tw7_96 dX12_mix_1 ?_
  refine j_aload_n C 0 dX12_mix_4 rfl rfl ?_
  refine g_X12_hash C tw5_196 lc178 dX12_mix_5 ?_
  refine j_lmul C dX12_mix_8 ?_
  refine j_lload_n C 1 dX12_mix_9 rfl rfl ?_
  refine j_ladd C dX12_mix_10 ?_
  obtain ⟨M1, e2, hf⟩ := bd hf
  refine p_X12_hash C tw5_196 lc178 e2 dX12_mix_11 ?_
  obtain rfl := Option.some.inj hf
  exact hret _ _ dX12_mix_14
def lX12_digest_41  : Nat → Int32 → Mem → Option Mem
  | 0, _, _ => none
  | n + 1, a11, M12 =>
  if (14 : Int32) ≤ a11 then (some M12)
  else ((fX12_tellWhole a11 M12).bind fun v15 =>
  (fX12_mix v15.toInt64 M12).bind fun M17 =>
  lX12_digest_41  n (a11 + 1) M17)

def lX12_digest_77 (a19 : Int32) : Nat → Int32 → Mem → Option Mem
  | 0, _, _ => none
  | n + 1, a25, M26 =>
  if (8 : Int32) ≤ a25 then (some M26)
  else ((fX12_tellHouse a19 a25 M26).bind fun v29 =>
  (fX12_mix v29.toInt64 M26).bind fun M31 =>
  lX12_digest_77 a19 n (a25 + 1) M31)

def lX12_digest_111 (a19 : Int32) : Nat → Int32 → Mem → Option Mem
  | 0, _, _ => none
  | n + 1, a37, M38 =>
  if (3 : Int32) ≤ a37 then (some M38)
  else ((fX12_balanceOf a19 a37 M38).bind fun v41 =>
  (fX12_mix v41.toInt64 M38).bind fun M43 =>
  lX12_digest_111 a19 n (a37 + 1) M43)

def lX12_digest_65  : Nat → Int32 → Mem → Option Mem
  | 0, _, _ => none
  | n + 1, a19, M20 =>
  (ald (M20.1 179) 1601 (0 : Int32)).bind fun v21 =>
  if v21 ≤ a19 then (some M20)
  else ((lX12_digest_77 a19 FUEL (0 : Int32) M20).bind (fun M32 => (fX12_dueOf a19 M32).bind fun v34 =>
  (fX12_mix v34 M32).bind fun M36 =>
  (lX12_digest_111 a19 FUEL (0 : Int32) M36).bind (fun M44 => lX12_digest_65  n (a19 + 1) M44)))

def lX12_digest_163 (a50 : Int32) : Nat → Int32 → Mem → Option Mem
  | 0, _, _ => none
  | n + 1, a56, M57 =>
  if (3 : Int32) ≤ a56 then (some M57)
  else ((ald (M57.1 179) 1601 (((41 : Int32) + ((3 : Int32) * a50)) + a56)).bind fun v59 =>
  (fX12_mix v59.toInt64 M57).bind fun M63 =>
  lX12_digest_163 a50 n (a56 + 1) M63)

def lX12_digest_150  : Nat → Int32 → Mem → Option Mem
  | 0, _, _ => none
  | n + 1, a50, M51 =>
  (ald (M51.1 179) 1601 (7 : Int32)).bind fun v52 =>
  if v52 ≤ a50 then (some M51)
  else ((lX12_digest_163 a50 FUEL (0 : Int32) M51).bind (fun M64 => (fX12_placeOf a50 M64).bind fun v66 =>
  (fX12_mix v66.toInt64 M64).bind fun M68 =>
  lX12_digest_150  n (a50 + 1) M68))

def lX12_digest_231 (a72 : Int32) : Nat → Int32 → Mem → Option Mem
  | 0, _, _ => none
  | n + 1, a80, M81 =>
  if (7 : Int32) ≤ a80 then (some M81)
  else ((fX12_loafOf a72 a80 M81).bind fun v84 =>
  (fX12_mix v84.toInt64 M81).bind fun M86 =>
  lX12_digest_231 a72 n (a80 + 1) M86)

def lX12_digest_213  : Nat → Int32 → Mem → Option Mem
  | 0, _, _ => none
  | n + 1, a72, M73 =>
  (ald (M73.1 179) 1601 (5 : Int32)).bind fun v74 =>
  if v74 ≤ a72 then (some M73)
  else ((fX12_mix a72.toInt64 M73).bind fun M79 =>
  (lX12_digest_231 a72 FUEL (0 : Int32) M79).bind (fun M87 => lX12_digest_213  n (a72 + 1) M87))

def lX12_digest_262  : Nat → Int32 → Mem → Option Mem
  | 0, _, _ => none
  | n + 1, a89, M90 =>
  (ald (M90.1 179) 1601 (8 : Int32)).bind fun v91 =>
  if ((5 : Int32) * v91) ≤ a89 then (some M90)
  else ((ald (M90.1 179) 1601 ((101 : Int32) + a89)).bind fun v95 =>
  (fX12_mix v95.toInt64 M90).bind fun M99 =>
  lX12_digest_262  n (a89 + 1) M99)

def fX12_digest  (M : Mem) : Option (Int64 × Mem) :=
  (pf M 178 4 (0 : Int32)).bind fun M1 =>
  (pfL M1 178 14 (43087 : Int64)).bind fun M3 =>
  (fX12_mix (M3.1 178 3).toInt64 M3).bind fun M6 =>
  (fX12_mix (M6.1 178 6).toInt64 M6).bind fun M8 =>
  (fX12_mix (M8.1 178 7).toInt64 M8).bind fun M10 =>
  (lX12_digest_41 FUEL (0 : Int32) M10).bind (fun M18 => (lX12_digest_65 FUEL (0 : Int32) M18).bind (fun M45 => (fX12_next M45).bind fun v47 =>
  (fX12_mix v47.toInt64 M45).bind fun M49 =>
  (lX12_digest_150 FUEL (0 : Int32) M49).bind (fun M69 => (fX12_firstKept M69).bind fun v71 =>
  (lX12_digest_213 FUEL v71 M69).bind (fun M88 => (lX12_digest_262 FUEL (0 : Int32) M88).bind (fun M100 => (fX12_likes M100).bind fun v102 =>
  (fX12_mix v102.toInt64 M100).bind fun M104 =>
  some ((M104.2 178 14), M104))))))

def rX12_digest : Room := { frames := 6, cells := 0, slots := 0, locals := 135 }
set_option maxRecDepth 100000 in
set_option maxHeartbeats 4000000 in
theorem c_X12_digest (l : Launch) (G : Gx) (n0 : Nat) {M : Mem} {r : Int64} {M' : Mem} (hf : fX12_digest M = some (r, M')) : Ct l yX12_digest cX12_digest 3 (some .long) rX12_digest G n0 [.ref (n0 + 178)] M (some (.long r)) M' := by
  refine ct_long (cc := cX12_digest) (maxL := 3) rfl (Nat.le_of_ble_eq_true rfl) ?_
  intro K C hret
  have C : Ok K l rX12_digest cX12_digest RX12 G n0 3 := C
  show J K M 0 [(0, .ref (n0 + 178))] []
  unfold fX12_digest at hf
  refine j_aload_n C 0 dX12_digest_0 rfl rfl ?_
  refine j_iconst C (0 : Int32) rfl dX12_digest_1 ?_
  obtain ⟨M1, e2, hf⟩ := bd hf
  refine p_X12_refusal C tw5_186 lc178 e2 dX12_digest_2 ?_
  refine j_aload_n C 0 dX12_digest_5 rfl rfl ?_
  refine j_ldc2 C tw7_91 dX12_digest_6 ?_
  obtain ⟨M3, e4, hf⟩ := bd hf
  refine p_X12_hash C tw5_196 lc178 e4 dX12_digest_9 ?_
  refine j_aload_n C 0 dX12_digest_12 rfl rfl ?_
  refine j_aload_n C 0 dX12_digest_13 rfl rfl ?_
  refine g_X12_saved C tw5_185 lc178 dX12_digest_14 ?_
  refine j_i2l C dX12_digest_17 ?_
  obtain ⟨M6, e5, hf⟩ := bd hf
  refine j_callV C 1 lc178 (ent_K _ _ _ _ _ _) rfl (c_X12_mix l G n0 e5) gv_RX12_258 ⟨rfl, rfl⟩ (by decide +kernel) ⟨Nat.le_of_ble_eq_true rfl, Nat.le_of_ble_eq_true rfl⟩ rfl rfl (Nat.le_of_ble_eq_true rfl) dX12_digest_18 ?_
  refine j_aload_n C 0 dX12_digest_21 rfl rfl ?_
  refine j_aload_n C 0 dX12_digest_22 rfl rfl ?_
  refine g_X12_length C tw5_188 lc178 dX12_digest_23 ?_
  refine j_i2l C dX12_digest_26 ?_
  obtain ⟨M8, e7, hf⟩ := bd hf
  refine j_callV C 1 lc178 (ent_K _ _ _ _ _ _) rfl (c_X12_mix l G n0 e7) gv_RX12_258 ⟨rfl, rfl⟩ (by decide +kernel) ⟨Nat.le_of_ble_eq_true rfl, Nat.le_of_ble_eq_true rfl⟩ rfl rfl (Nat.le_of_ble_eq_true rfl) dX12_digest_27 ?_
  refine j_aload_n C 0 dX12_digest_30 rfl rfl ?_
  refine j_aload_n C 0 dX12_digest_31 rfl rfl ?_
  refine g_X12_stopped C tw5_189 lc178 dX12_digest_32 ?_
  refine j_i2l C dX12_digest_35 ?_
  obtain ⟨M10, e9, hf⟩ := bd hf
  refine j_callV C 1 lc178 (ent_K _ _ _ _ _ _) rfl (c_X12_mix l G n0 e9) gv_RX12_258 ⟨rfl, rfl⟩ (by decide +kernel) ⟨Nat.le_of_ble_eq_true rfl, Nat.le_of_ble_eq_true rfl⟩ rfl rfl (Nat.le_of_ble_eq_true rfl) dX12_digest_36 ?_
  refine j_iconst C (0 : Int32) rfl dX12_digest_39 ?_
  refine j_istore_n C [(1, .int (0 : Int32)), (0, .ref (n0 + 178))] dX12_digest_40 rfl (Nat.le_of_ble_eq_true rfl) rfl ?_
  obtain ⟨M18, e105, hf⟩ := bd hf
  have hx106 : J K M18 63 [(0, .ref (n0 + 178))] [] := by
    refine j_iconst C (0 : Int32) rfl dX12_digest_63 ?_
    refine j_istore_n C [(1, .int (0 : Int32)), (0, .ref (n0 + 178))] dX12_digest_64 rfl (Nat.le_of_ble_eq_true rfl) rfl ?_
    obtain ⟨M45, e110, hf⟩ := bd hf
    have hx111 : J K M45 139 [(0, .ref (n0 + 178))] [] := by
      refine j_aload_n C 0 dX12_digest_139 rfl rfl ?_
      refine j_aload_n C 0 dX12_digest_140 rfl rfl ?_
      obtain ⟨v47, e46, hf⟩ := bd hf
      refine j_callV C 0 lc178 (ent_K _ _ _ _ _ _) rfl (c_X12_next l G n0 e46) gv_RX12_147 ⟨rfl, rfl⟩ (by decide +kernel) ⟨Nat.le_of_ble_eq_true rfl, Nat.le_of_ble_eq_true rfl⟩ rfl rfl (Nat.le_of_ble_eq_true rfl) dX12_digest_141 ?_
      refine j_i2l C dX12_digest_144 ?_
      obtain ⟨M49, e48, hf⟩ := bd hf
      refine j_callV C 1 lc178 (ent_K _ _ _ _ _ _) rfl (c_X12_mix l G n0 e48) gv_RX12_258 ⟨rfl, rfl⟩ (by decide +kernel) ⟨Nat.le_of_ble_eq_true rfl, Nat.le_of_ble_eq_true rfl⟩ rfl rfl (Nat.le_of_ble_eq_true rfl) dX12_digest_145 ?_
      refine j_iconst C (0 : Int32) rfl dX12_digest_148 ?_
      refine j_istore_n C [(1, .int (0 : Int32)), (0, .ref (n0 + 178))] dX12_digest_149 rfl (Nat.le_of_ble_eq_true rfl) rfl ?_
      obtain ⟨M69, e115, hf⟩ := bd hf
      have hx116 : J K M69 208 [(0, .ref (n0 + 178))] [] := by
        refine j_aload_n C 0 dX12_digest_208 rfl rfl ?_
        obtain ⟨v71, e70, hf⟩ := bd hf
        refine j_callV C 0 lc178 (ent_K _ _ _ _ _ _) rfl (c_X12_firstKept l G n0 e70) gv_RX12_110 ⟨rfl, rfl⟩ (by decide +kernel) ⟨Nat.le_of_ble_eq_true rfl, Nat.le_of_ble_eq_true rfl⟩ rfl rfl (Nat.le_of_ble_eq_true rfl) dX12_digest_209 ?_
        refine j_istore_n C [(1, .int v71), (0, .ref (n0 + 178))] dX12_digest_212 rfl (Nat.le_of_ble_eq_true rfl) rfl ?_
        obtain ⟨M88, e120, hf⟩ := bd hf
        have hx121 : J K M88 260 [(0, .ref (n0 + 178))] [] := by
          refine j_iconst C (0 : Int32) rfl dX12_digest_260 ?_
          refine j_istore_n C [(1, .int (0 : Int32)), (0, .ref (n0 + 178))] dX12_digest_261 rfl (Nat.le_of_ble_eq_true rfl) rfl ?_
          obtain ⟨M100, e125, hf⟩ := bd hf
          have hx126 : J K M100 295 [(0, .ref (n0 + 178))] [] := by
            refine j_aload_n C 0 dX12_digest_295 rfl rfl ?_
            refine j_aload_n C 0 dX12_digest_296 rfl rfl ?_
            obtain ⟨v102, e101, hf⟩ := bd hf
            refine j_callV C 0 lc178 (ent_K _ _ _ _ _ _) rfl (c_X12_likes l G n0 e101) gv_RX12_213 ⟨rfl, rfl⟩ (by decide +kernel) ⟨Nat.le_of_ble_eq_true rfl, Nat.le_of_ble_eq_true rfl⟩ rfl rfl (Nat.le_of_ble_eq_true rfl) dX12_digest_297 ?_
            refine j_i2l C dX12_digest_300 ?_
            obtain ⟨M104, e103, hf⟩ := bd hf
            refine j_callV C 1 lc178 (ent_K _ _ _ _ _ _) rfl (c_X12_mix l G n0 e103) gv_RX12_258 ⟨rfl, rfl⟩ (by decide +kernel) ⟨Nat.le_of_ble_eq_true rfl, Nat.le_of_ble_eq_true rfl⟩ rfl rfl (Nat.le_of_ble_eq_true rfl) dX12_digest_301 ?_
            refine j_aload_n C 0 dX12_digest_304 rfl rfl ?_
            refine g_X12_hash C tw5_196 lc178 dX12_digest_305 ?_
            obtain ⟨rfl, rfl⟩ := Prod.mk.inj (Option.some.inj hf)
            exact hret _ _ dX12_digest_308
          clear hf
          have hl127 : ∀ (n : Nat) (a89 : Int32) (M90 : Mem), lX12_digest_262 n a89 M90 = some M100 → J K M90 262 [(0, .ref (n0 + 178)), (1, .int a89)] [] := by
            intro n
            induction n with
            | zero =>
              intro a89 M90 hf
              exact absurd hf (by rw [lX12_digest_262]; exact fun h => by cases h)
            | succ n ih =>
              intro a89 M90 hf
              rw [lX12_digest_262] at hf
              refine j_iload_n C 1 dX12_digest_262 rfl rfl ?_
              refine j_iconst C (5 : Int32) rfl dX12_digest_263 ?_
              refine j_aload_n C 0 dX12_digest_264 rfl rfl ?_
              refine g_X12_now C tw5_182 lc178 179 rfl dX12_digest_265 ?_
              refine j_bipush C (8 : Int32) rfl dX12_digest_268 ?_
              obtain ⟨v91, e92, hf⟩ := bd hf
              obtain ⟨hx93, e92⟩ := ald_some e92
              refine j_iald C lc179 hx93 e92 dX12_digest_270 ?_
              refine j_imul C dX12_digest_271 ?_
              refine j_icmp_ge C 295 dX12_digest_272 (by decide) (fun c94 => ?_) (fun c94 => ?_)
              · replace hf := ip c94 hf
                refine j_sub [0] rfl ?_
                cases hf
                exact hx126
              · replace hf := ine c94 hf
                refine j_aload_n C 0 dX12_digest_275 rfl rfl ?_
                refine j_aload_n C 0 dX12_digest_276 rfl rfl ?_
                refine g_X12_now C tw5_182 lc178 179 rfl dX12_digest_277 ?_
                refine j_bipush C (101 : Int32) rfl dX12_digest_280 ?_
                refine j_iload_n C 1 dX12_digest_282 rfl rfl ?_
                refine j_iadd C dX12_digest_283 ?_
                obtain ⟨v95, e96, hf⟩ := bd hf
                obtain ⟨hx97, e96⟩ := ald_some e96
                refine j_iald C lc179 hx97 e96 dX12_digest_284 ?_
                refine j_i2l C dX12_digest_285 ?_
                obtain ⟨M99, e98, hf⟩ := bd hf
                refine j_callV C 1 lc178 (ent_K _ _ _ _ _ _) rfl (c_X12_mix l G n0 e98) gv_RX12_258 ⟨rfl, rfl⟩ (by decide +kernel) ⟨Nat.le_of_ble_eq_true rfl, Nat.le_of_ble_eq_true rfl⟩ rfl rfl (Nat.le_of_ble_eq_true rfl) dX12_digest_286 ?_
                refine j_iinc C 1 (a89 + 1) [(1, .int (a89 + 1)), (0, .ref (n0 + 178))] dX12_digest_289 rfl rfl (Nat.le_of_ble_eq_true rfl) rfl ?_
                refine j_goto C 262 dX12_digest_292 (by decide) ?_
                refine j_sub [1, 0] rfl ?_
                exact ih _ _ hf
          refine j_sub [1, 0] rfl ?_
          exact hl127 FUEL (0 : Int32) M88 e125
        clear hf
        have hl122 : ∀ (n : Nat) (a72 : Int32) (M73 : Mem), lX12_digest_213 n a72 M73 = some M88 → J K M73 213 [(0, .ref (n0 + 178)), (1, .int a72)] [] := by
          intro n
          induction n with
          | zero =>
            intro a72 M73 hf
            exact absurd hf (by rw [lX12_digest_213]; exact fun h => by cases h)
          | succ n ih =>
            intro a72 M73 hf
            rw [lX12_digest_213] at hf
            refine j_iload_n C 1 dX12_digest_213 rfl rfl ?_
            refine j_aload_n C 0 dX12_digest_214 rfl rfl ?_
            refine g_X12_now C tw5_182 lc178 179 rfl dX12_digest_215 ?_
            refine j_iconst C (5 : Int32) rfl dX12_digest_218 ?_
            obtain ⟨v74, e75, hf⟩ := bd hf
            obtain ⟨hx76, e75⟩ := ald_some e75
            refine j_iald C lc179 hx76 e75 dX12_digest_219 ?_
            refine j_icmp_ge C 260 dX12_digest_220 (by decide) (fun c77 => ?_) (fun c77 => ?_)
            · replace hf := ip c77 hf
              refine j_sub [0] rfl ?_
              cases hf
              exact hx121
            · replace hf := ine c77 hf
              refine j_aload_n C 0 dX12_digest_223 rfl rfl ?_
              refine j_iload_n C 1 dX12_digest_224 rfl rfl ?_
              refine j_i2l C dX12_digest_225 ?_
              obtain ⟨M79, e78, hf⟩ := bd hf
              refine j_callV C 1 lc178 (ent_K _ _ _ _ _ _) rfl (c_X12_mix l G n0 e78) gv_RX12_258 ⟨rfl, rfl⟩ (by decide +kernel) ⟨Nat.le_of_ble_eq_true rfl, Nat.le_of_ble_eq_true rfl⟩ rfl rfl (Nat.le_of_ble_eq_true rfl) dX12_digest_226 ?_
              refine j_iconst C (0 : Int32) rfl dX12_digest_229 ?_
              refine j_istore_n C [(2, .int (0 : Int32)), (0, .ref (n0 + 178)), (1, .int a72)] dX12_digest_230 rfl (Nat.le_of_ble_eq_true rfl) rfl ?_
              obtain ⟨M87, e130, hf⟩ := bd hf
              have hx131 : J K M87 254 [(0, .ref (n0 + 178)), (1, .int a72)] [] := by
                refine j_iinc C 1 (a72 + 1) [(1, .int (a72 + 1)), (0, .ref (n0 + 178))] dX12_digest_254 rfl rfl (Nat.le_of_ble_eq_true rfl) rfl ?_
                refine j_goto C 213 dX12_digest_257 (by decide) ?_
                refine j_sub [1, 0] rfl ?_
                exact ih _ _ hf
              clear hf
              have hl132 : ∀ (n : Nat) (a80 : Int32) (M81 : Mem), lX12_digest_231 a72 n a80 M81 = some M87 → J K M81 231 [(0, .ref (n0 + 178)), (1, .int a72), (2, .int a80)] [] := by
                intro n
                induction n with
                | zero =>
                  intro a80 M81 hf
                  exact absurd hf (by rw [lX12_digest_231]; exact fun h => by cases h)
                | succ n ih =>
                  intro a80 M81 hf
                  rw [lX12_digest_231] at hf
                  refine j_iload_n C 2 dX12_digest_231 rfl rfl ?_
                  refine j_bipush C (7 : Int32) rfl dX12_digest_232 ?_
                  refine j_icmp_ge C 254 dX12_digest_234 (by decide) (fun c82 => ?_) (fun c82 => ?_)
                  · replace hf := ip c82 hf
                    refine j_sub [0, 1] rfl ?_
                    cases hf
                    exact hx131
                  · replace hf := ine c82 hf
                    refine j_aload_n C 0 dX12_digest_237 rfl rfl ?_
                    refine j_aload_n C 0 dX12_digest_238 rfl rfl ?_
                    refine j_iload_n C 1 dX12_digest_239 rfl rfl ?_
                    refine j_iload_n C 2 dX12_digest_240 rfl rfl ?_
                    obtain ⟨v84, e83, hf⟩ := bd hf
                    refine j_callV C 2 lc178 (ent_K _ _ _ _ _ _) rfl (c_X12_loafOf l G n0 e83) gv_RX12_113 ⟨rfl, rfl⟩ (by decide +kernel) ⟨Nat.le_of_ble_eq_true rfl, Nat.le_of_ble_eq_true rfl⟩ rfl rfl (Nat.le_of_ble_eq_true rfl) dX12_digest_241 ?_
                    refine j_i2l C dX12_digest_244 ?_
                    obtain ⟨M86, e85, hf⟩ := bd hf
                    refine j_callV C 1 lc178 (ent_K _ _ _ _ _ _) rfl (c_X12_mix l G n0 e85) gv_RX12_258 ⟨rfl, rfl⟩ (by decide +kernel) ⟨Nat.le_of_ble_eq_true rfl, Nat.le_of_ble_eq_true rfl⟩ rfl rfl (Nat.le_of_ble_eq_true rfl) dX12_digest_245 ?_
                    refine j_iinc C 2 (a80 + 1) [(2, .int (a80 + 1)), (0, .ref (n0 + 178)), (1, .int a72)] dX12_digest_248 rfl rfl (Nat.le_of_ble_eq_true rfl) rfl ?_
                    refine j_goto C 231 dX12_digest_251 (by decide) ?_
                    refine j_sub [1, 2, 0] rfl ?_
                    exact ih _ _ hf
              refine j_sub [1, 2, 0] rfl ?_
              exact hl132 FUEL (0 : Int32) M79 e130
        refine j_sub [1, 0] rfl ?_
        exact hl122 FUEL v71 M69 e120
      clear hf
      have hl117 : ∀ (n : Nat) (a50 : Int32) (M51 : Mem), lX12_digest_150 n a50 M51 = some M69 → J K M51 150 [(0, .ref (n0 + 178)), (1, .int a50)] [] := by
        intro n
        induction n with
        | zero =>
          intro a50 M51 hf
          exact absurd hf (by rw [lX12_digest_150]; exact fun h => by cases h)
        | succ n ih =>
          intro a50 M51 hf
          rw [lX12_digest_150] at hf
          refine j_iload_n C 1 dX12_digest_150 rfl rfl ?_
          refine j_aload_n C 0 dX12_digest_151 rfl rfl ?_
          refine g_X12_now C tw5_182 lc178 179 rfl dX12_digest_152 ?_
          refine j_bipush C (7 : Int32) rfl dX12_digest_155 ?_
          obtain ⟨v52, e53, hf⟩ := bd hf
          obtain ⟨hx54, e53⟩ := ald_some e53
          refine j_iald C lc179 hx54 e53 dX12_digest_157 ?_
          refine j_icmp_ge C 208 dX12_digest_158 (by decide) (fun c55 => ?_) (fun c55 => ?_)
          · replace hf := ip c55 hf
            refine j_sub [0] rfl ?_
            cases hf
            exact hx116
          · replace hf := ine c55 hf
            refine j_iconst C (0 : Int32) rfl dX12_digest_161 ?_
            refine j_istore_n C [(2, .int (0 : Int32)), (0, .ref (n0 + 178)), (1, .int a50)] dX12_digest_162 rfl (Nat.le_of_ble_eq_true rfl) rfl ?_
            obtain ⟨M64, e135, hf⟩ := bd hf
            have hx136 : J K M64 192 [(0, .ref (n0 + 178)), (1, .int a50)] [] := by
              refine j_aload_n C 0 dX12_digest_192 rfl rfl ?_
              refine j_aload_n C 0 dX12_digest_193 rfl rfl ?_
              refine j_iload_n C 1 dX12_digest_194 rfl rfl ?_
              obtain ⟨v66, e65, hf⟩ := bd hf
              refine j_callV C 1 lc178 (ent_K _ _ _ _ _ _) rfl (c_X12_placeOf l G n0 e65) gv_RX12_191 ⟨rfl, rfl⟩ (by decide +kernel) ⟨Nat.le_of_ble_eq_true rfl, Nat.le_of_ble_eq_true rfl⟩ rfl rfl (Nat.le_of_ble_eq_true rfl) dX12_digest_195 ?_
              refine j_i2l C dX12_digest_198 ?_
              obtain ⟨M68, e67, hf⟩ := bd hf
              refine j_callV C 1 lc178 (ent_K _ _ _ _ _ _) rfl (c_X12_mix l G n0 e67) gv_RX12_258 ⟨rfl, rfl⟩ (by decide +kernel) ⟨Nat.le_of_ble_eq_true rfl, Nat.le_of_ble_eq_true rfl⟩ rfl rfl (Nat.le_of_ble_eq_true rfl) dX12_digest_199 ?_
              refine j_iinc C 1 (a50 + 1) [(1, .int (a50 + 1)), (0, .ref (n0 + 178))] dX12_digest_202 rfl rfl (Nat.le_of_ble_eq_true rfl) rfl ?_
              refine j_goto C 150 dX12_digest_205 (by decide) ?_
              refine j_sub [1, 0] rfl ?_
              exact ih _ _ hf
            clear hf
            have hl137 : ∀ (n : Nat) (a56 : Int32) (M57 : Mem), lX12_digest_163 a50 n a56 M57 = some M64 → J K M57 163 [(0, .ref (n0 + 178)), (1, .int a50), (2, .int a56)] [] := by
              intro n
              induction n with
              | zero =>
                intro a56 M57 hf
                exact absurd hf (by rw [lX12_digest_163]; exact fun h => by cases h)
              | succ n ih =>
                intro a56 M57 hf
                rw [lX12_digest_163] at hf
                refine j_iload_n C 2 dX12_digest_163 rfl rfl ?_
                refine j_iconst C (3 : Int32) rfl dX12_digest_164 ?_
                refine j_icmp_ge C 192 dX12_digest_165 (by decide) (fun c58 => ?_) (fun c58 => ?_)
                · replace hf := ip c58 hf
                  refine j_sub [0, 1] rfl ?_
                  cases hf
                  exact hx136
                · replace hf := ine c58 hf
                  refine j_aload_n C 0 dX12_digest_168 rfl rfl ?_
                  refine j_aload_n C 0 dX12_digest_169 rfl rfl ?_
                  refine g_X12_now C tw5_182 lc178 179 rfl dX12_digest_170 ?_
                  refine j_bipush C (41 : Int32) rfl dX12_digest_173 ?_
                  refine j_iconst C (3 : Int32) rfl dX12_digest_175 ?_
                  refine j_iload_n C 1 dX12_digest_176 rfl rfl ?_
                  refine j_imul C dX12_digest_177 ?_
                  refine j_iadd C dX12_digest_178 ?_
                  refine j_iload_n C 2 dX12_digest_179 rfl rfl ?_
                  refine j_iadd C dX12_digest_180 ?_
                  obtain ⟨v59, e60, hf⟩ := bd hf
                  obtain ⟨hx61, e60⟩ := ald_some e60
                  refine j_iald C lc179 hx61 e60 dX12_digest_181 ?_
                  refine j_i2l C dX12_digest_182 ?_
                  obtain ⟨M63, e62, hf⟩ := bd hf
                  refine j_callV C 1 lc178 (ent_K _ _ _ _ _ _) rfl (c_X12_mix l G n0 e62) gv_RX12_258 ⟨rfl, rfl⟩ (by decide +kernel) ⟨Nat.le_of_ble_eq_true rfl, Nat.le_of_ble_eq_true rfl⟩ rfl rfl (Nat.le_of_ble_eq_true rfl) dX12_digest_183 ?_
                  refine j_iinc C 2 (a56 + 1) [(2, .int (a56 + 1)), (0, .ref (n0 + 178)), (1, .int a50)] dX12_digest_186 rfl rfl (Nat.le_of_ble_eq_true rfl) rfl ?_
                  refine j_goto C 163 dX12_digest_189 (by decide) ?_
                  refine j_sub [1, 2, 0] rfl ?_
                  exact ih _ _ hf
            refine j_sub [1, 2, 0] rfl ?_
            exact hl137 FUEL (0 : Int32) M51 e135
      refine j_sub [1, 0] rfl ?_
      exact hl117 FUEL (0 : Int32) M49 e115
    clear hf
    have hl112 : ∀ (n : Nat) (a19 : Int32) (M20 : Mem), lX12_digest_65 n a19 M20 = some M45 → J K M20 65 [(0, .ref (n0 + 178)), (1, .int a19)] [] := by
      intro n
      induction n with
      | zero =>
        intro a19 M20 hf
        exact absurd hf (by rw [lX12_digest_65]; exact fun h => by cases h)
      | succ n ih =>
        intro a19 M20 hf
        rw [lX12_digest_65] at hf
        refine j_iload_n C 1 dX12_digest_65 rfl rfl ?_
        refine j_aload_n C 0 dX12_digest_66 rfl rfl ?_
        refine g_X12_now C tw5_182 lc178 179 rfl dX12_digest_67 ?_
        refine j_iconst C (0 : Int32) rfl dX12_digest_70 ?_
        obtain ⟨v21, e22, hf⟩ := bd hf
        obtain ⟨hx23, e22⟩ := ald_some e22
        refine j_iald C lc179 hx23 e22 dX12_digest_71 ?_
        refine j_icmp_ge C 139 dX12_digest_72 (by decide) (fun c24 => ?_) (fun c24 => ?_)
        · replace hf := ip c24 hf
          refine j_sub [0] rfl ?_
          cases hf
          exact hx111
        · replace hf := ine c24 hf
          refine j_iconst C (0 : Int32) rfl dX12_digest_75 ?_
          refine j_istore_n C [(2, .int (0 : Int32)), (0, .ref (n0 + 178)), (1, .int a19)] dX12_digest_76 rfl (Nat.le_of_ble_eq_true rfl) rfl ?_
          obtain ⟨M32, e140, hf⟩ := bd hf
          have hx141 : J K M32 100 [(0, .ref (n0 + 178)), (1, .int a19)] [] := by
            refine j_aload_n C 0 dX12_digest_100 rfl rfl ?_
            refine j_aload_n C 0 dX12_digest_101 rfl rfl ?_
            refine j_iload_n C 1 dX12_digest_102 rfl rfl ?_
            obtain ⟨v34, e33, hf⟩ := bd hf
            refine j_callV C 1 lc178 (ent_K _ _ _ _ _ _) rfl (c_X12_dueOf l G n0 e33) gv_RX12_79 ⟨rfl, rfl⟩ (by decide +kernel) ⟨Nat.le_of_ble_eq_true rfl, Nat.le_of_ble_eq_true rfl⟩ rfl rfl (Nat.le_of_ble_eq_true rfl) dX12_digest_103 ?_
            obtain ⟨M36, e35, hf⟩ := bd hf
            refine j_callV C 1 lc178 (ent_K _ _ _ _ _ _) rfl (c_X12_mix l G n0 e35) gv_RX12_258 ⟨rfl, rfl⟩ (by decide +kernel) ⟨Nat.le_of_ble_eq_true rfl, Nat.le_of_ble_eq_true rfl⟩ rfl rfl (Nat.le_of_ble_eq_true rfl) dX12_digest_106 ?_
            refine j_iconst C (0 : Int32) rfl dX12_digest_109 ?_
            refine j_istore_n C [(2, .int (0 : Int32)), (0, .ref (n0 + 178)), (1, .int a19)] dX12_digest_110 rfl (Nat.le_of_ble_eq_true rfl) rfl ?_
            obtain ⟨M44, e145, hf⟩ := bd hf
            have hx146 : J K M44 133 [(0, .ref (n0 + 178)), (1, .int a19)] [] := by
              refine j_iinc C 1 (a19 + 1) [(1, .int (a19 + 1)), (0, .ref (n0 + 178))] dX12_digest_133 rfl rfl (Nat.le_of_ble_eq_true rfl) rfl ?_
              refine j_goto C 65 dX12_digest_136 (by decide) ?_
              refine j_sub [1, 0] rfl ?_
              exact ih _ _ hf
            clear hf
            have hl147 : ∀ (n : Nat) (a37 : Int32) (M38 : Mem), lX12_digest_111 a19 n a37 M38 = some M44 → J K M38 111 [(0, .ref (n0 + 178)), (1, .int a19), (2, .int a37)] [] := by
              intro n
              induction n with
              | zero =>
                intro a37 M38 hf
                exact absurd hf (by rw [lX12_digest_111]; exact fun h => by cases h)
              | succ n ih =>
                intro a37 M38 hf
                rw [lX12_digest_111] at hf
                refine j_iload_n C 2 dX12_digest_111 rfl rfl ?_
                refine j_iconst C (3 : Int32) rfl dX12_digest_112 ?_
                refine j_icmp_ge C 133 dX12_digest_113 (by decide) (fun c39 => ?_) (fun c39 => ?_)
                · replace hf := ip c39 hf
                  refine j_sub [0, 1] rfl ?_
                  cases hf
                  exact hx146
                · replace hf := ine c39 hf
                  refine j_aload_n C 0 dX12_digest_116 rfl rfl ?_
                  refine j_aload_n C 0 dX12_digest_117 rfl rfl ?_
                  refine j_iload_n C 1 dX12_digest_118 rfl rfl ?_
                  refine j_iload_n C 2 dX12_digest_119 rfl rfl ?_
                  obtain ⟨v41, e40, hf⟩ := bd hf
                  refine j_callV C 2 lc178 (ent_K _ _ _ _ _ _) rfl (c_X12_balanceOf l G n0 e40) gv_RX12_169 ⟨rfl, rfl⟩ (by decide +kernel) ⟨Nat.le_of_ble_eq_true rfl, Nat.le_of_ble_eq_true rfl⟩ rfl rfl (Nat.le_of_ble_eq_true rfl) dX12_digest_120 ?_
                  refine j_i2l C dX12_digest_123 ?_
                  obtain ⟨M43, e42, hf⟩ := bd hf
                  refine j_callV C 1 lc178 (ent_K _ _ _ _ _ _) rfl (c_X12_mix l G n0 e42) gv_RX12_258 ⟨rfl, rfl⟩ (by decide +kernel) ⟨Nat.le_of_ble_eq_true rfl, Nat.le_of_ble_eq_true rfl⟩ rfl rfl (Nat.le_of_ble_eq_true rfl) dX12_digest_124 ?_
                  refine j_iinc C 2 (a37 + 1) [(2, .int (a37 + 1)), (0, .ref (n0 + 178)), (1, .int a19)] dX12_digest_127 rfl rfl (Nat.le_of_ble_eq_true rfl) rfl ?_
                  refine j_goto C 111 dX12_digest_130 (by decide) ?_
                  refine j_sub [1, 2, 0] rfl ?_
                  exact ih _ _ hf
            refine j_sub [1, 2, 0] rfl ?_
            exact hl147 FUEL (0 : Int32) M36 e145
          clear hf
          have hl142 : ∀ (n : Nat) (a25 : Int32) (M26 : Mem), lX12_digest_77 a19 n a25 M26 = some M32 → J K M26 77 [(0, .ref (n0 + 178)), (1, .int a19), (2, .int a25)] [] := by
            intro n
            induction n with
            | zero =>
              intro a25 M26 hf
              exact absurd hf (by rw [lX12_digest_77]; exact fun h => by cases h)
            | succ n ih =>
              intro a25 M26 hf
              rw [lX12_digest_77] at hf
              refine j_iload_n C 2 dX12_digest_77 rfl rfl ?_
              refine j_bipush C (8 : Int32) rfl dX12_digest_78 ?_
              refine j_icmp_ge C 100 dX12_digest_80 (by decide) (fun c27 => ?_) (fun c27 => ?_)
              · replace hf := ip c27 hf
                refine j_sub [0, 1] rfl ?_
                cases hf
                exact hx141
              · replace hf := ine c27 hf
                refine j_aload_n C 0 dX12_digest_83 rfl rfl ?_
                refine j_aload_n C 0 dX12_digest_84 rfl rfl ?_
                refine j_iload_n C 1 dX12_digest_85 rfl rfl ?_
                refine j_iload_n C 2 dX12_digest_86 rfl rfl ?_
                obtain ⟨v29, e28, hf⟩ := bd hf
                refine j_callV C 2 lc178 (ent_K _ _ _ _ _ _) rfl (c_X12_tellHouse l G n0 e28) gv_RX12_185 ⟨rfl, rfl⟩ (by decide +kernel) ⟨Nat.le_of_ble_eq_true rfl, Nat.le_of_ble_eq_true rfl⟩ rfl rfl (Nat.le_of_ble_eq_true rfl) dX12_digest_87 ?_
                refine j_i2l C dX12_digest_90 ?_
                obtain ⟨M31, e30, hf⟩ := bd hf
                refine j_callV C 1 lc178 (ent_K _ _ _ _ _ _) rfl (c_X12_mix l G n0 e30) gv_RX12_258 ⟨rfl, rfl⟩ (by decide +kernel) ⟨Nat.le_of_ble_eq_true rfl, Nat.le_of_ble_eq_true rfl⟩ rfl rfl (Nat.le_of_ble_eq_true rfl) dX12_digest_91 ?_
                refine j_iinc C 2 (a25 + 1) [(2, .int (a25 + 1)), (0, .ref (n0 + 178)), (1, .int a19)] dX12_digest_94 rfl rfl (Nat.le_of_ble_eq_true rfl) rfl ?_
                refine j_goto C 77 dX12_digest_97 (by decide) ?_
                refine j_sub [1, 2, 0] rfl ?_
                exact ih _ _ hf
          refine j_sub [1, 2, 0] rfl ?_
          exact hl142 FUEL (0 : Int32) M20 e140
    refine j_sub [1, 0] rfl ?_
    exact hl112 FUEL (0 : Int32) M18 e110
  clear hf
  have hl107 : ∀ (n : Nat) (a11 : Int32) (M12 : Mem), lX12_digest_41 n a11 M12 = some M18 → J K M12 41 [(0, .ref (n0 + 178)), (1, .int a11)] [] := by
    intro n
    induction n with
    | zero =>
      intro a11 M12 hf
      exact absurd hf (by rw [lX12_digest_41]; exact fun h => by cases h)
    | succ n ih =>
      intro a11 M12 hf
      rw [lX12_digest_41] at hf
      refine j_iload_n C 1 dX12_digest_41 rfl rfl ?_
      refine j_bipush C (14 : Int32) rfl dX12_digest_42 ?_
      refine j_icmp_ge C 63 dX12_digest_44 (by decide) (fun c13 => ?_) (fun c13 => ?_)
      · replace hf := ip c13 hf
        refine j_sub [0] rfl ?_
        cases hf
        exact hx106
      · replace hf := ine c13 hf
        refine j_aload_n C 0 dX12_digest_47 rfl rfl ?_
        refine j_aload_n C 0 dX12_digest_48 rfl rfl ?_
        refine j_iload_n C 1 dX12_digest_49 rfl rfl ?_
        obtain ⟨v15, e14, hf⟩ := bd hf
        refine j_callV C 1 lc178 (ent_K _ _ _ _ _ _) rfl (c_X12_tellWhole l G n0 e14) gv_RX12_198 ⟨rfl, rfl⟩ (by decide +kernel) ⟨Nat.le_of_ble_eq_true rfl, Nat.le_of_ble_eq_true rfl⟩ rfl rfl (Nat.le_of_ble_eq_true rfl) dX12_digest_50 ?_
        refine j_i2l C dX12_digest_53 ?_
        obtain ⟨M17, e16, hf⟩ := bd hf
        refine j_callV C 1 lc178 (ent_K _ _ _ _ _ _) rfl (c_X12_mix l G n0 e16) gv_RX12_258 ⟨rfl, rfl⟩ (by decide +kernel) ⟨Nat.le_of_ble_eq_true rfl, Nat.le_of_ble_eq_true rfl⟩ rfl rfl (Nat.le_of_ble_eq_true rfl) dX12_digest_54 ?_
        refine j_iinc C 1 (a11 + 1) [(1, .int (a11 + 1)), (0, .ref (n0 + 178))] dX12_digest_57 rfl rfl (Nat.le_of_ble_eq_true rfl) rfl ?_
        refine j_goto C 41 dX12_digest_60 (by decide) ?_
        refine j_sub [1, 0] rfl ?_
        exact ih _ _ hf
  refine j_sub [1, 0] rfl ?_
  exact hl107 FUEL (0 : Int32) M10 e105
