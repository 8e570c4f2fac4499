def fX12_thrown  (M : Mem) : Option Int32 :=
  some (M.1 178 4)

def rX12_thrown : Room := { frames := 0, cells := 0, slots := 0, locals := 0 }
set_option maxRecDepth 100000 in
set_option maxHeartbeats 4000000 in
theorem c_X12_thrown (l : Launch) (G : Gx) (n0 : Nat) {M : Mem} {r : Int32} (hf : fX12_thrown M = some r) : Ct l yX12_thrown cX12_thrown 1 (some .int) rX12_thrown G n0 [.ref (n0 + 178)] M (some (.int r)) M := by
  refine ct_int (cc := cX12_thrown) (maxL := 1) rfl (Nat.le_of_ble_eq_true rfl) ?_
  intro K C hret
  have C : Ok K l rX12_thrown cX12_thrown RX12 G n0 1 := C
  show J K M 0 [(0, .ref (n0 + 178))] []
  unfold fX12_thrown at hf
  refine j_aload_n C 0 dX12_thrown_0 rfl rfl ?_
  refine g_X12_refusal C tw5_186 lc178 dX12_thrown_1 ?_
  obtain rfl := Option.some.inj hf
  exact hret _ _ dX12_thrown_4
def fX12_refused (x1 : Int32) (M : Mem) : Option (Bool × Mem) :=
  (pf M 178 4 x1).bind fun M1 =>
  if x1 ≤ 0 then (some (false, M1))
  else (some (true, M1))

def rX12_refused : Room := { frames := 0, cells := 0, slots := 0, locals := 0 }
set_option maxRecDepth 100000 in
set_option maxHeartbeats 4000000 in
theorem c_X12_refused (l : Launch) (G : Gx) (n0 : Nat) {x1 : Int32} {M : Mem} {r : Bool} {M' : Mem} (hf : fX12_refused x1 M = some (r, M')) : Ct l yX12_refused cX12_refused 2 (some .boolean) rX12_refused G n0 [.ref (n0 + 178), .int x1] M (some (.int (bI r))) M' := by
  refine ct_bool (cc := cX12_refused) (maxL := 2) rfl (Nat.le_of_ble_eq_true rfl) ?_
  intro K C hret
  have C : Ok K l rX12_refused cX12_refused RX12 G n0 2 := C
  show J K M 0 [(0, .ref (n0 + 178)), (1, .int x1)] []
  unfold fX12_refused at hf
  refine j_aload_n C 0 dX12_refused_0 rfl rfl ?_
  refine j_iload_n C 1 dX12_refused_1 rfl rfl ?_
  obtain ⟨M1, e2, hf⟩ := bd hf
  refine p_X12_refusal C tw5_186 lc178 e2 dX12_refused_2 ?_
  refine j_iload_n C 1 dX12_refused_5 rfl rfl ?_
  refine j_if_le C 13 dX12_refused_6 (by decide) (fun c3 => ?_) (fun c3 => ?_)
  · replace hf := ip c3 hf
    refine j_iconst C (0 : Int32) rfl dX12_refused_13 ?_
    obtain ⟨rfl, rfl⟩ := Prod.mk.inj (Option.some.inj hf)
    exact hret _ _ dX12_refused_14
  · replace hf := ine c3 hf
    refine j_iconst C (1 : Int32) rfl dX12_refused_9 ?_
    refine j_goto C 14 dX12_refused_10 (by decide) ?_
    obtain ⟨rfl, rfl⟩ := Prod.mk.inj (Option.some.inj hf)
    exact hret _ _ dX12_refused_14
def fX12_in (x0 : Int32) (x1 : Int32) (x2 : Int32) : Option Bool :=
  if x0 < x1 then (some false)
  else (if x2 < x0 then (some false)
  else (some true))

def rX12_in : Room := { frames := 0, cells := 0, slots := 0, locals := 0 }
set_option maxRecDepth 100000 in
set_option maxHeartbeats 4000000 in
theorem c_X12_in (l : Launch) (G : Gx) (n0 : Nat) {x0 : Int32} {x1 : Int32} {x2 : Int32} {M : Mem} {r : Bool} (hf : fX12_in x0 x1 x2 = some r) : Ct l yX12_in cX12_in 3 (some .boolean) rX12_in G n0 [.int x0, .int x1, .int x2] M (some (.int (bI r))) M := by
  refine ct_bool (cc := cX12_in) (maxL := 3) rfl (Nat.le_of_ble_eq_true rfl) ?_
  intro K C hret
  have C : Ok K l rX12_in cX12_in RX12 G n0 3 := C
  show J K M 0 [(0, .int x0), (1, .int x1), (2, .int x2)] []
  unfold fX12_in at hf
  refine j_iload_n C 0 dX12_in_0 rfl rfl ?_
  refine j_iload_n C 1 dX12_in_1 rfl rfl ?_
  refine j_icmp_lt C 14 dX12_in_2 (by decide) (fun c1 => ?_) (fun c1 => ?_)
  · replace hf := ip c1 hf
    refine j_iconst C (0 : Int32) rfl dX12_in_14 ?_
    obtain rfl := Option.some.inj hf
    exact hret _ _ dX12_in_15
  · replace hf := ine c1 hf
    refine j_iload_n C 0 dX12_in_5 rfl rfl ?_
    refine j_iload_n C 2 dX12_in_6 rfl rfl ?_
    refine j_icmp_gt C 14 dX12_in_7 (by decide) (fun c2 => ?_) (fun c2 => ?_)
    · replace hf := ip c2 hf
      refine j_iconst C (0 : Int32) rfl dX12_in_14 ?_
      obtain rfl := Option.some.inj hf
      exact hret _ _ dX12_in_15
    · replace hf := ine c2 hf
      refine j_iconst C (1 : Int32) rfl dX12_in_10 ?_
      refine j_goto C 15 dX12_in_11 (by decide) ?_
      obtain rfl := Option.some.inj hf
      exact hret _ _ dX12_in_15
def lX12_bits_4  : Nat → Int32 → Int32 → Option Int32
  | 0, _, _ => none
  | n + 1, a1, a2 =>
  if a2 ≤ 0 then (some a1)
  else (lX12_bits_4  n (a1 + (a2 &&& (1 : Int32))) (a2 >>> ((1 : Int32) &&& 31)))

def fX12_bits (x0 : Int32) : Option Int32 :=
  (lX12_bits_4 FUEL (0 : Int32) x0).bind (fun a4 => some a4)

def rX12_bits : Room := { frames := 0, cells := 0, slots := 0, locals := 0 }
set_option maxRecDepth 100000 in
set_option maxHeartbeats 4000000 in
theorem c_X12_bits (l : Launch) (G : Gx) (n0 : Nat) {x0 : Int32} {M : Mem} {r : Int32} (hf : fX12_bits x0 = some r) : Ct l yX12_bits cX12_bits 3 (some .int) rX12_bits G n0 [.int x0] M (some (.int r)) M := by
  refine ct_int (cc := cX12_bits) (maxL := 3) rfl (Nat.le_of_ble_eq_true rfl) ?_
  intro K C hret
  have C : Ok K l rX12_bits cX12_bits RX12 G n0 3 := C
  show J K M 0 [(0, .int x0)] []
  unfold fX12_bits at hf
  refine j_iconst C (0 : Int32) rfl dX12_bits_0 ?_
  refine j_istore_n C [(1, .int (0 : Int32)), (0, .int x0)] dX12_bits_1 rfl (Nat.le_of_ble_eq_true rfl) rfl ?_
  refine j_iload_n C 1 dX12_bits_2 rfl rfl ?_
  refine j_istore_n C [(2, .int x0), (1, .int (0 : Int32)), (0, .int x0)] dX12_bits_3 rfl (Nat.le_of_ble_eq_true rfl) rfl ?_
  obtain ⟨a4, e5, hf⟩ := bd hf
  have hx6 : J K M 21 [(1, .int a4)] [] := by
    refine j_iload_n C 0 dX12_bits_21 rfl rfl ?_
    obtain rfl := Option.some.inj hf
    exact hret _ _ dX12_bits_22
  clear hf
  have hl7 : ∀ (n : Nat) (a1 : Int32) (a2 : Int32), lX12_bits_4 n a1 a2 = some a4 → J K M 4 [(1, .int a1), (2, .int a2)] [] := by
    intro n
    induction n with
    | zero =>
      intro a1 a2 hf
      exact absurd hf (by rw [lX12_bits_4]; exact fun h => by cases h)
    | succ n ih =>
      intro a1 a2 hf
      rw [lX12_bits_4] at hf
      refine j_iload_n C 1 dX12_bits_4 rfl rfl ?_
      refine j_if_le C 21 dX12_bits_5 (by decide) (fun c3 => ?_) (fun c3 => ?_)
      · replace hf := ip c3 hf
        refine j_sub [0] rfl ?_
        cases hf
        exact hx6
      · replace hf := ine c3 hf
        refine j_iload_n C 0 dX12_bits_8 rfl rfl ?_
        refine j_iload_n C 1 dX12_bits_9 rfl rfl ?_
        refine j_iconst C (1 : Int32) rfl dX12_bits_10 ?_
        refine j_iand C dX12_bits_11 ?_
        refine j_iadd C dX12_bits_12 ?_
        refine j_istore_n C [(1, .int (a1 + (a2 &&& (1 : Int32)))), (2, .int a2)] dX12_bits_13 rfl (Nat.le_of_ble_eq_true rfl) rfl ?_
        refine j_iload_n C 1 dX12_bits_14 rfl rfl ?_
        refine j_iconst C (1 : Int32) rfl dX12_bits_15 ?_
        refine j_ishr C dX12_bits_16 ?_
        refine j_istore_n C [(2, .int (a2 >>> ((1 : Int32) &&& 31))), (1, .int (a1 + (a2 &&& (1 : Int32))))] dX12_bits_17 rfl (Nat.le_of_ble_eq_true rfl) rfl ?_
        refine j_goto C 4 dX12_bits_18 (by decide) ?_
        refine j_sub [1, 0] rfl ?_
        exact ih _ _ hf
  refine j_sub [1, 0] rfl ?_
  exact hl7 FUEL (0 : Int32) x0 e5
def lX12_saves_10  : Nat → Int32 → Mem → Option Mem
  | 0, _, _ => none
  | n + 1, a2, M3 =>
  if (4803 : Int32) ≤ a2 then (some M3)
  else ((ald (M3.1 180) 6404 (a2 + (1601 : Int32))).bind fun v5 =>
  (ast M3 180 6404 a2 v5).bind fun M8 =>
  lX12_saves_10  n (a2 + 1) M8)

def lX12_saves_51  : Nat → Int32 → Mem → Option Mem
  | 0, _, _ => none
  | n + 1, a15, M16 =>
  if (1601 : Int32) ≤ a15 then (some M16)
  else ((ald (M16.1 179) 1601 a15).bind fun v18 =>
  (ast M16 180 6404 (((1601 : Int32) * (M16.1 178 3)) + a15) v18).bind fun M21 =>
  lX12_saves_51  n (a15 + 1) M21)

def fX12_saves  (M : Mem) : Option Mem :=
  (if (M.1 178 3) = (4 : Int32) then ((lX12_saves_10 FUEL (0 : Int32) M).bind (fun M11 => (pf M11 178 3 ((M11.1 178 3) - (1 : Int32))).bind fun M12 =>
  some M12))
  else (some M)).bind (fun M14 => (lX12_saves_51 FUEL (0 : Int32) M14).bind (fun M24 => (pf M24 178 3 ((M24.1 178 3) + (1 : Int32))).bind fun M25 =>
  some M25))

def rX12_saves : Room := { frames := 0, cells := 0, slots := 0, locals := 0 }
set_option maxRecDepth 100000 in
set_option maxHeartbeats 4000000 in
theorem c_X12_saves (l : Launch) (G : Gx) (n0 : Nat) {M : Mem} {M' : Mem} (hf : fX12_saves M = some M') : Ct l yX12_saves cX12_saves 2 none rX12_saves G n0 [.ref (n0 + 178)] M none M' := by
  refine ct_void (cc := cX12_saves) (maxL := 2) rfl (Nat.le_of_ble_eq_true rfl) ?_
  intro K C hret
  have C : Ok K l rX12_saves cX12_saves RX12 G n0 2 := C
  show J K M 0 [(0, .ref (n0 + 178))] []
  unfold fX12_saves at hf
  refine j_aload_n C 0 dX12_saves_0 rfl rfl ?_
  refine g_X12_saved C tw5_185 lc178 dX12_saves_1 ?_
  refine j_iconst C (4 : Int32) rfl dX12_saves_4 ?_
  obtain ⟨M14, e27, hf⟩ := bd hf
  have hj28 : J K M14 49 [(0, .ref (n0 + 178))] [] := by
    refine j_iconst C (0 : Int32) rfl dX12_saves_49 ?_
    refine j_istore_n C [(1, .int (0 : Int32)), (0, .ref (n0 + 178))] dX12_saves_50 rfl (Nat.le_of_ble_eq_true rfl) rfl ?_
    obtain ⟨M24, e29, hf⟩ := bd hf
    have hx30 : J K M24 85 [(0, .ref (n0 + 178))] [] := by
      refine j_aload_n C 0 dX12_saves_85 rfl rfl ?_
      refine j_dup C rfl dX12_saves_86 ?_
      refine g_X12_saved C tw5_185 lc178 dX12_saves_87 ?_
      refine j_iconst C (1 : Int32) rfl dX12_saves_90 ?_
      refine j_iadd C dX12_saves_91 ?_
      obtain ⟨M25, e26, hf⟩ := bd hf
      refine p_X12_saved C tw5_185 lc178 e26 dX12_saves_92 ?_
      obtain rfl := Option.some.inj hf
      exact hret _ _ dX12_saves_95
    clear hf
    have hl31 : ∀ (n : Nat) (a15 : Int32) (M16 : Mem), lX12_saves_51 n a15 M16 = some M24 → J K M16 51 [(0, .ref (n0 + 178)), (1, .int a15)] [] := by
      intro n
      induction n with
      | zero =>
        intro a15 M16 hf
        exact absurd hf (by rw [lX12_saves_51]; exact fun h => by cases h)
      | succ n ih =>
        intro a15 M16 hf
        rw [lX12_saves_51] at hf
        refine j_iload_n C 1 dX12_saves_51 rfl rfl ?_
        refine j_sipush C (1601 : Int32) rfl dX12_saves_52 ?_
        refine j_icmp_ge C 85 dX12_saves_55 (by decide) (fun c17 => ?_) (fun c17 => ?_)
        · replace hf := ip c17 hf
          refine j_sub [0] rfl ?_
          cases hf
          exact hx30
        · replace hf := ine c17 hf
          refine j_aload_n C 0 dX12_saves_58 rfl rfl ?_
          refine g_X12_past C tw5_183 lc178 180 rfl dX12_saves_59 ?_
          refine j_sipush C (1601 : Int32) rfl dX12_saves_62 ?_
          refine j_aload_n C 0 dX12_saves_65 rfl rfl ?_
          refine g_X12_saved C tw5_185 lc178 dX12_saves_66 ?_
          refine j_imul C dX12_saves_69 ?_
          refine j_iload_n C 1 dX12_saves_70 rfl rfl ?_
          refine j_iadd C dX12_saves_71 ?_
          refine j_aload_n C 0 dX12_saves_72 rfl rfl ?_
          refine g_X12_now C tw5_182 lc178 179 rfl dX12_saves_73 ?_
          refine j_iload_n C 1 dX12_saves_76 rfl rfl ?_
          obtain ⟨v18, e19, hf⟩ := bd hf
          obtain ⟨hx20, e19⟩ := ald_some e19
          refine j_iald C lc179 hx20 e19 dX12_saves_77 ?_
          obtain ⟨M21, e22, hf⟩ := bd hf
          obtain ⟨hx23, e22⟩ := ast_some e22
          refine j_iast C lc180 hx23 e22 dX12_saves_78 ?_
          refine j_iinc C 1 (a15 + 1) [(1, .int (a15 + 1)), (0, .ref (n0 + 178))] dX12_saves_79 rfl rfl (Nat.le_of_ble_eq_true rfl) rfl ?_
          refine j_goto C 51 dX12_saves_82 (by decide) ?_
          refine j_sub [1, 0] rfl ?_
          exact ih _ _ hf
    refine j_sub [1, 0] rfl ?_
    exact hl31 FUEL (0 : Int32) M14 e29
  clear hf
  have hf := e27
  refine j_icmp_ne C 49 dX12_saves_5 (by decide) (fun c1 => ?_) (fun c1 => ?_)
  · replace hf := ine c1 hf
    cases hf
    refine j_sub [0] rfl ?_
    exact hj28
  · replace hf := ip c1 hf
    refine j_iconst C (0 : Int32) rfl dX12_saves_8 ?_
    refine j_istore_n C [(1, .int (0 : Int32)), (0, .ref (n0 + 178))] dX12_saves_9 rfl (Nat.le_of_ble_eq_true rfl) rfl ?_
    obtain ⟨M11, e34, hf⟩ := bd hf
    have hx35 : J K M11 39 [(0, .ref (n0 + 178))] [] := by
      refine j_aload_n C 0 dX12_saves_39 rfl rfl ?_
      refine j_dup C rfl dX12_saves_40 ?_
      refine g_X12_saved C tw5_185 lc178 dX12_saves_41 ?_
      refine j_iconst C (1 : Int32) rfl dX12_saves_44 ?_
      refine j_isub C dX12_saves_45 ?_
      obtain ⟨M12, e13, hf⟩ := bd hf
      refine p_X12_saved C tw5_185 lc178 e13 dX12_saves_46 ?_
      cases hf
      refine j_sub [0] rfl ?_
      exact hj28
    clear hf
    have hl36 : ∀ (n : Nat) (a2 : Int32) (M3 : Mem), lX12_saves_10 n a2 M3 = some M11 → J K M3 10 [(0, .ref (n0 + 178)), (1, .int a2)] [] := by
      intro n
      induction n with
      | zero =>
        intro a2 M3 hf
        exact absurd hf (by rw [lX12_saves_10]; exact fun h => by cases h)
      | succ n ih =>
        intro a2 M3 hf
        rw [lX12_saves_10] at hf
        refine j_iload_n C 1 dX12_saves_10 rfl rfl ?_
        refine j_sipush C (4803 : Int32) rfl dX12_saves_11 ?_
        refine j_icmp_ge C 39 dX12_saves_14 (by decide) (fun c4 => ?_) (fun c4 => ?_)
        · replace hf := ip c4 hf
          refine j_sub [0] rfl ?_
          cases hf
          exact hx35
        · replace hf := ine c4 hf
          refine j_aload_n C 0 dX12_saves_17 rfl rfl ?_
          refine g_X12_past C tw5_183 lc178 180 rfl dX12_saves_18 ?_
          refine j_iload_n C 1 dX12_saves_21 rfl rfl ?_
          refine j_aload_n C 0 dX12_saves_22 rfl rfl ?_
          refine g_X12_past C tw5_183 lc178 180 rfl dX12_saves_23 ?_
          refine j_iload_n C 1 dX12_saves_26 rfl rfl ?_
          refine j_sipush C (1601 : Int32) rfl dX12_saves_27 ?_
          refine j_iadd C dX12_saves_30 ?_
          obtain ⟨v5, e6, hf⟩ := bd hf
          obtain ⟨hx7, e6⟩ := ald_some e6
          refine j_iald C lc180 hx7 e6 dX12_saves_31 ?_
          obtain ⟨M8, e9, hf⟩ := bd hf
          obtain ⟨hx10, e9⟩ := ast_some e9
          refine j_iast C lc180 hx10 e9 dX12_saves_32 ?_
          refine j_iinc C 1 (a2 + 1) [(1, .int (a2 + 1)), (0, .ref (n0 + 178))] dX12_saves_33 rfl rfl (Nat.le_of_ble_eq_true rfl) rfl ?_
          refine j_goto C 10 dX12_saves_36 (by decide) ?_
          refine j_sub [1, 0] rfl ?_
          exact ih _ _ hf
    refine j_sub [1, 0] rfl ?_
    exact hl36 FUEL (0 : Int32) M e34
def lX12_undo_33  : Nat → Int32 → Mem → Option Mem
  | 0, _, _ => none
  | n + 1, a9, M10 =>
  if (1601 : Int32) ≤ a9 then (some M10)
  else ((ald (M10.1 180) 6404 (((1601 : Int32) * (M10.1 178 3)) + a9)).bind fun v12 =>
  (ast M10 179 1601 a9 v12).bind fun M15 =>
  lX12_undo_33  n (a9 + 1) M15)

def fX12_undo  (M : Mem) : Option (Int32 × Mem) :=
  (if (M.1 178 3) = 0 then (some (1 : Int32))
  else (some (0 : Int32))).bind (fun z2 => (fX12_refused z2 M).bind (un2 fun b4 M5 =>
  if b4 = true then (some ((0 : Int32), M5))
  else ((pf M5 178 3 ((M5.1 178 3) - (1 : Int32))).bind fun M7 =>
  (lX12_undo_33 FUEL (0 : Int32) M7).bind (fun M18 => some ((M18.1 178 3), M18)))))

def rX12_undo : Room := { frames := 1, cells := 0, slots := 0, locals := 21 }
set_option maxRecDepth 100000 in
set_option maxHeartbeats 4000000 in
theorem c_X12_undo (l : Launch) (G : Gx) (n0 : Nat) {M : Mem} {r : Int32} {M' : Mem} (hf : fX12_undo M = some (r, M')) : Ct l yX12_undo cX12_undo 2 (some .int) rX12_undo G n0 [.ref (n0 + 178)] M (some (.int r)) M' := by
  refine ct_int (cc := cX12_undo) (maxL := 2) rfl (Nat.le_of_ble_eq_true rfl) ?_
  intro K C hret
  have C : Ok K l rX12_undo cX12_undo RX12 G n0 2 := C
  show J K M 0 [(0, .ref (n0 + 178))] []
  unfold fX12_undo at hf
  refine j_aload_n C 0 dX12_undo_0 rfl rfl ?_
  refine j_aload_n C 0 dX12_undo_1 rfl rfl ?_
  refine g_X12_saved C tw5_185 lc178 dX12_undo_2 ?_
  obtain ⟨z2, e19, hf⟩ := bd hf
  have hj20 : J K M 13 [(0, .ref (n0 + 178))] [.int z2, .ref (n0 + 178)] := by
    obtain ⟨⟨b4, M5⟩, e3, hf⟩ := bd hf
    replace hf := un2e hf
    refine j_callV C 1 lc178 (ent_K _ _ _ _ _ _) rfl (c_X12_refused l G n0 e3) gv_RX12_35 ⟨rfl, rfl⟩ (by decide +kernel) ⟨Nat.le_of_ble_eq_true rfl, Nat.le_of_ble_eq_true rfl⟩ rfl rfl (Nat.le_of_ble_eq_true rfl) dX12_undo_13 ?_
    refine j_ifz_eq C 21 dX12_undo_16 (by decide) (fun c6 => ?_) (fun c6 => ?_)
    · replace hf := ine c6 hf
      refine j_aload_n C 0 dX12_undo_21 rfl rfl ?_
      refine j_dup C rfl dX12_undo_22 ?_
      refine g_X12_saved C tw5_185 lc178 dX12_undo_23 ?_
      refine j_iconst C (1 : Int32) rfl dX12_undo_26 ?_
      refine j_isub C dX12_undo_27 ?_
      obtain ⟨M7, e8, hf⟩ := bd hf
      refine p_X12_saved C tw5_185 lc178 e8 dX12_undo_28 ?_
      refine j_iconst C (0 : Int32) rfl dX12_undo_31 ?_
      refine j_istore_n C [(1, .int (0 : Int32)), (0, .ref (n0 + 178))] dX12_undo_32 rfl (Nat.le_of_ble_eq_true rfl) rfl ?_
      obtain ⟨M18, e21, hf⟩ := bd hf
      have hx22 : J K M18 67 [(0, .ref (n0 + 178))] [] := by
        refine j_aload_n C 0 dX12_undo_67 rfl rfl ?_
        refine g_X12_saved C tw5_185 lc178 dX12_undo_68 ?_
        obtain ⟨rfl, rfl⟩ := Prod.mk.inj (Option.some.inj hf)
        exact hret _ _ dX12_undo_71
      clear hf
      have hl23 : ∀ (n : Nat) (a9 : Int32) (M10 : Mem), lX12_undo_33 n a9 M10 = some M18 → J K M10 33 [(0, .ref (n0 + 178)), (1, .int a9)] [] := by
        intro n
        induction n with
        | zero =>
          intro a9 M10 hf
          exact absurd hf (by rw [lX12_undo_33]; exact fun h => by cases h)
        | succ n ih =>
          intro a9 M10 hf
          rw [lX12_undo_33] at hf
          refine j_iload_n C 1 dX12_undo_33 rfl rfl ?_
          refine j_sipush C (1601 : Int32) rfl dX12_undo_34 ?_
          refine j_icmp_ge C 67 dX12_undo_37 (by decide) (fun c11 => ?_) (fun c11 => ?_)
          · replace hf := ip c11 hf
            refine j_sub [0] rfl ?_
            cases hf
            exact hx22
          · replace hf := ine c11 hf
            refine j_aload_n C 0 dX12_undo_40 rfl rfl ?_
            refine g_X12_now C tw5_182 lc178 179 rfl dX12_undo_41 ?_
            refine j_iload_n C 1 dX12_undo_44 rfl rfl ?_
            refine j_aload_n C 0 dX12_undo_45 rfl rfl ?_
            refine g_X12_past C tw5_183 lc178 180 rfl dX12_undo_46 ?_
            refine j_sipush C (1601 : Int32) rfl dX12_undo_49 ?_
            refine j_aload_n C 0 dX12_undo_52 rfl rfl ?_
            refine g_X12_saved C tw5_185 lc178 dX12_undo_53 ?_
            refine j_imul C dX12_undo_56 ?_
            refine j_iload_n C 1 dX12_undo_57 rfl rfl ?_
            refine j_iadd C dX12_undo_58 ?_
            obtain ⟨v12, e13, hf⟩ := bd hf
            obtain ⟨hx14, e13⟩ := ald_some e13
            refine j_iald C lc180 hx14 e13 dX12_undo_59 ?_
            obtain ⟨M15, e16, hf⟩ := bd hf
            obtain ⟨hx17, e16⟩ := ast_some e16
            refine j_iast C lc179 hx17 e16 dX12_undo_60 ?_
            refine j_iinc C 1 (a9 + 1) [(1, .int (a9 + 1)), (0, .ref (n0 + 178))] dX12_undo_61 rfl rfl (Nat.le_of_ble_eq_true rfl) rfl ?_
            refine j_goto C 33 dX12_undo_64 (by decide) ?_
            refine j_sub [1, 0] rfl ?_
            exact ih _ _ hf
      refine j_sub [1, 0] rfl ?_
      exact hl23 FUEL (0 : Int32) M7 e21
    · replace hf := ip c6 hf
      refine j_iconst C (0 : Int32) rfl dX12_undo_19 ?_
      obtain ⟨rfl, rfl⟩ := Prod.mk.inj (Option.some.inj hf)
      exact hret _ _ dX12_undo_20
  clear hf
  have hf := e19
  refine j_if_ne C 12 dX12_undo_5 (by decide) (fun c1 => ?_) (fun c1 => ?_)
  · replace hf := ine c1 hf
    refine j_iconst C (0 : Int32) rfl dX12_undo_12 ?_
    cases hf
    refine j_sub [0] rfl ?_
    exact hj20
  · replace hf := ip c1 hf
    refine j_iconst C (1 : Int32) rfl dX12_undo_8 ?_
    refine j_goto C 13 dX12_undo_9 (by decide) ?_
    cases hf
    refine j_sub [0] rfl ?_
    exact hj20
def lX12_keeps_2  : Nat → Int32 → Mem → Option Mem
  | 0, _, _ => none
  | n + 1, a1, M2 =>
  if (1601 : Int32) ≤ a1 then (some M2)
  else ((ald (M2.1 179) 1601 a1).bind fun v4 =>
  (ast M2 181 1601 a1 v4).bind fun M7 =>
  lX12_keeps_2  n (a1 + 1) M7)

def fX12_keeps  (M : Mem) : Option Mem :=
  (lX12_keeps_2 FUEL (0 : Int32) M).bind (fun M10 => some M10)

def rX12_keeps : Room := { frames := 0, cells := 0, slots := 0, locals := 0 }
set_option maxRecDepth 100000 in
set_option maxHeartbeats 4000000 in
theorem c_X12_keeps (l : Launch) (G : Gx) (n0 : Nat) {M : Mem} {M' : Mem} (hf : fX12_keeps M = some M') : Ct l yX12_keeps cX12_keeps 2 none rX12_keeps G n0 [.ref (n0 + 178)] M none M' := by
  refine ct_void (cc := cX12_keeps) (maxL := 2) rfl (Nat.le_of_ble_eq_true rfl) ?_
  intro K C hret
  have C : Ok K l rX12_keeps cX12_keeps RX12 G n0 2 := C
  show J K M 0 [(0, .ref (n0 + 178))] []
  unfold fX12_keeps at hf
  refine j_iconst C (0 : Int32) rfl dX12_keeps_0 ?_
  refine j_istore_n C [(1, .int (0 : Int32)), (0, .ref (n0 + 178))] dX12_keeps_1 rfl (Nat.le_of_ble_eq_true rfl) rfl ?_
  obtain ⟨M10, e11, hf⟩ := bd hf
  have hx12 : J K M10 27 [] [] := by
    obtain rfl := Option.some.inj hf
    exact hret _ _ dX12_keeps_27
  clear hf
  have hl13 : ∀ (n : Nat) (a1 : Int32) (M2 : Mem), lX12_keeps_2 n a1 M2 = some M10 → J K M2 2 [(0, .ref (n0 + 178)), (1, .int a1)] [] := by
    intro n
    induction n with
    | zero =>
      intro a1 M2 hf
      exact absurd hf (by rw [lX12_keeps_2]; exact fun h => by cases h)
    | succ n ih =>
      intro a1 M2 hf
      rw [lX12_keeps_2] at hf
      refine j_iload_n C 1 dX12_keeps_2 rfl rfl ?_
      refine j_sipush C (1601 : Int32) rfl dX12_keeps_3 ?_
      refine j_icmp_ge C 27 dX12_keeps_6 (by decide) (fun c3 => ?_) (fun c3 => ?_)
      · replace hf := ip c3 hf
        refine j_sub [] rfl ?_
        cases hf
        exact hx12
      · replace hf := ine c3 hf
        refine j_aload_n C 0 dX12_keeps_9 rfl rfl ?_
        refine g_X12_aside C tw5_184 lc178 181 rfl dX12_keeps_10 ?_
        refine j_iload_n C 1 dX12_keeps_13 rfl rfl ?_
        refine j_aload_n C 0 dX12_keeps_14 rfl rfl ?_
        refine g_X12_now C tw5_182 lc178 179 rfl dX12_keeps_15 ?_
        refine j_iload_n C 1 dX12_keeps_18 rfl rfl ?_
        obtain ⟨v4, e5, hf⟩ := bd hf
        obtain ⟨hx6, e5⟩ := ald_some e5
        refine j_iald C lc179 hx6 e5 dX12_keeps_19 ?_
        obtain ⟨M7, e8, hf⟩ := bd hf
        obtain ⟨hx9, e8⟩ := ast_some e8
        refine j_iast C lc181 hx9 e8 dX12_keeps_20 ?_
        refine j_iinc C 1 (a1 + 1) [(1, .int (a1 + 1)), (0, .ref (n0 + 178))] dX12_keeps_21 rfl rfl (Nat.le_of_ble_eq_true rfl) rfl ?_
        refine j_goto C 2 dX12_keeps_24 (by decide) ?_
        refine j_sub [1, 0] rfl ?_
        exact ih _ _ hf
  refine j_sub [1, 0] rfl ?_
  exact hl13 FUEL (0 : Int32) M e11
def lX12_takesBack_2  : Nat → Int32 → Mem → Option Mem
  | 0, _, _ => none
  | n + 1, a1, M2 =>
  if (1601 : Int32) ≤ a1 then (some M2)
  else ((ald (M2.1 181) 1601 a1).bind fun v4 =>
  (ast M2 179 1601 a1 v4).bind fun M7 =>
  lX12_takesBack_2  n (a1 + 1) M7)

def fX12_takesBack  (M : Mem) : Option Mem :=
  (lX12_takesBack_2 FUEL (0 : Int32) M).bind (fun M10 => some M10)

def rX12_takesBack : Room := { frames := 0, cells := 0, slots := 0, locals := 0 }
set_option maxRecDepth 100000 in
set_option maxHeartbeats 4000000 in
theorem c_X12_takesBack (l : Launch) (G : Gx) (n0 : Nat) {M : Mem} {M' : Mem} (hf : fX12_takesBack M = some M') : Ct l yX12_takesBack cX12_takesBack 2 none rX12_takesBack G n0 [.ref (n0 + 178)] M none M' := by
  refine ct_void (cc := cX12_takesBack) (maxL := 2) rfl (Nat.le_of_ble_eq_true rfl) ?_
  intro K C hret
  have C : Ok K l rX12_takesBack cX12_takesBack RX12 G n0 2 := C
  show J K M 0 [(0, .ref (n0 + 178))] []
  unfold fX12_takesBack at hf
  refine j_iconst C (0 : Int32) rfl dX12_takesBack_0 ?_
  refine j_istore_n C [(1, .int (0 : Int32)), (0, .ref (n0 + 178))] dX12_takesBack_1 rfl (Nat.le_of_ble_eq_true rfl) rfl ?_
  obtain ⟨M10, e11, hf⟩ := bd hf
  have hx12 : J K M10 27 [] [] := by
    obtain rfl := Option.some.inj hf
    exact hret _ _ dX12_takesBack_27
  clear hf
  have hl13 : ∀ (n : Nat) (a1 : Int32) (M2 : Mem), lX12_takesBack_2 n a1 M2 = some M10 → J K M2 2 [(0, .ref (n0 + 178)), (1, .int a1)] [] := by
    intro n
    induction n with
    | zero =>
      intro a1 M2 hf
      exact absurd hf (by rw [lX12_takesBack_2]; exact fun h => by cases h)
    | succ n ih =>
      intro a1 M2 hf
      rw [lX12_takesBack_2] at hf
      refine j_iload_n C 1 dX12_takesBack_2 rfl rfl ?_
      refine j_sipush C (1601 : Int32) rfl dX12_takesBack_3 ?_
      refine j_icmp_ge C 27 dX12_takesBack_6 (by decide) (fun c3 => ?_) (fun c3 => ?_)
      · replace hf := ip c3 hf
        refine j_sub [] rfl ?_
        cases hf
        exact hx12
      · replace hf := ine c3 hf
        refine j_aload_n C 0 dX12_takesBack_9 rfl rfl ?_
        refine g_X12_now C tw5_182 lc178 179 rfl dX12_takesBack_10 ?_
        refine j_iload_n C 1 dX12_takesBack_13 rfl rfl ?_
        refine j_aload_n C 0 dX12_takesBack_14 rfl rfl ?_
        refine g_X12_aside C tw5_184 lc178 181 rfl dX12_takesBack_15 ?_
        refine j_iload_n C 1 dX12_takesBack_18 rfl rfl ?_
        obtain ⟨v4, e5, hf⟩ := bd hf
        obtain ⟨hx6, e5⟩ := ald_some e5
        refine j_iald C lc181 hx6 e5 dX12_takesBack_19 ?_
        obtain ⟨M7, e8, hf⟩ := bd hf
        obtain ⟨hx9, e8⟩ := ast_some e8
        refine j_iast C lc179 hx9 e8 dX12_takesBack_20 ?_
        refine j_iinc C 1 (a1 + 1) [(1, .int (a1 + 1)), (0, .ref (n0 + 178))] dX12_takesBack_21 rfl rfl (Nat.le_of_ble_eq_true rfl) rfl ?_
        refine j_goto C 2 dX12_takesBack_24 (by decide) ?_
        refine j_sub [1, 0] rfl ?_
        exact ih _ _ hf
  refine j_sub [1, 0] rfl ?_
  exact hl13 FUEL (0 : Int32) M e11
def fX12_isHouse (x1 : Int32) (M : Mem) : Option Bool :=
  (ald (M.1 179) 1601 (0 : Int32)).bind fun v1 =>
  (fX12_in x1 (0 : Int32) (v1 - (1 : Int32))).bind fun b5 =>
  some b5

def rX12_isHouse : Room := { frames := 1, cells := 0, slots := 0, locals := 22 }
set_option maxRecDepth 100000 in
set_option maxHeartbeats 4000000 in
theorem c_X12_isHouse (l : Launch) (G : Gx) (n0 : Nat) {x1 : Int32} {M : Mem} {r : Bool} (hf : fX12_isHouse x1 M = some r) : Ct l yX12_isHouse cX12_isHouse 2 (some .boolean) rX12_isHouse G n0 [.ref (n0 + 178), .int x1] M (some (.int (bI r))) M := by
  refine ct_bool (cc := cX12_isHouse) (maxL := 2) rfl (Nat.le_of_ble_eq_true rfl) ?_
  intro K C hret
  have C : Ok K l rX12_isHouse cX12_isHouse RX12 G n0 2 := C
  show J K M 0 [(0, .ref (n0 + 178)), (1, .int x1)] []
  unfold fX12_isHouse at hf
  refine j_iload_n C 1 dX12_isHouse_0 rfl rfl ?_
  refine j_iconst C (0 : Int32) rfl dX12_isHouse_1 ?_
  refine j_aload_n C 0 dX12_isHouse_2 rfl rfl ?_
  refine g_X12_now C tw5_182 lc178 179 rfl dX12_isHouse_3 ?_
  refine j_iconst C (0 : Int32) rfl dX12_isHouse_6 ?_
  obtain ⟨v1, e2, hf⟩ := bd hf
  obtain ⟨hx3, e2⟩ := ald_some e2
  refine j_iald C lc179 hx3 e2 dX12_isHouse_7 ?_
  refine j_iconst C (1 : Int32) rfl dX12_isHouse_8 ?_
  refine j_isub C dX12_isHouse_9 ?_
  obtain ⟨b5, e4, hf⟩ := bd hf
  refine j_callS C 3 (c_X12_in l G n0 (M := M) e4) gs_RX12_39 ⟨rfl, rfl⟩ (by decide +kernel) ⟨Nat.le_of_ble_eq_true rfl, Nat.le_of_ble_eq_true rfl⟩ rfl rfl (Nat.le_of_ble_eq_true rfl) dX12_isHouse_10 ?_
  obtain rfl := Option.some.inj hf
  exact hret _ _ dX12_isHouse_13
def fX12_of (x1 : Int32) (x2 : Int32) (M : Mem) : Option Int32 :=
  (ald (M.1 179) 1601 (((9 : Int32) + ((4 : Int32) * x1)) + x2)).bind fun v1 =>
  some v1

def rX12_of : Room := { frames := 0, cells := 0, slots := 0, locals := 0 }
set_option maxRecDepth 100000 in
set_option maxHeartbeats 4000000 in
theorem c_X12_of (l : Launch) (G : Gx) (n0 : Nat) {x1 : Int32} {x2 : Int32} {M : Mem} {r : Int32} (hf : fX12_of x1 x2 M = some r) : Ct l yX12_of cX12_of 3 (some .int) rX12_of G n0 [.ref (n0 + 178), .int x1, .int x2] M (some (.int r)) M := by
  refine ct_int (cc := cX12_of) (maxL := 3) rfl (Nat.le_of_ble_eq_true rfl) ?_
  intro K C hret
  have C : Ok K l rX12_of cX12_of RX12 G n0 3 := C
  show J K M 0 [(0, .ref (n0 + 178)), (1, .int x1), (2, .int x2)] []
  unfold fX12_of at hf
  refine j_aload_n C 0 dX12_of_0 rfl rfl ?_
  refine g_X12_now C tw5_182 lc178 179 rfl dX12_of_1 ?_
  refine j_bipush C (9 : Int32) rfl dX12_of_4 ?_
  refine j_iconst C (4 : Int32) rfl dX12_of_6 ?_
  refine j_iload_n C 1 dX12_of_7 rfl rfl ?_
  refine j_imul C dX12_of_8 ?_
  refine j_iadd C dX12_of_9 ?_
  refine j_iload_n C 2 dX12_of_10 rfl rfl ?_
  refine j_iadd C dX12_of_11 ?_
  obtain ⟨v1, e2, hf⟩ := bd hf
  obtain ⟨hx3, e2⟩ := ald_some e2
  refine j_iald C lc179 hx3 e2 dX12_of_12 ?_
  obtain rfl := Option.some.inj hf
  exact hret _ _ dX12_of_13
def fX12_lays (x1 : Int32) (x2 : Int32) (x3 : Int32) (M : Mem) : Option Mem :=
  (ast M 179 1601 (((9 : Int32) + ((4 : Int32) * x1)) + x2) x3).bind fun M1 =>
  some M1

def rX12_lays : Room := { frames := 0, cells := 0, slots := 0, locals := 0 }
set_option maxRecDepth 100000 in
set_option maxHeartbeats 4000000 in
theorem c_X12_lays (l : Launch) (G : Gx) (n0 : Nat) {x1 : Int32} {x2 : Int32} {x3 : Int32} {M : Mem} {M' : Mem} (hf : fX12_lays x1 x2 x3 M = some M') : Ct l yX12_lays cX12_lays 4 none rX12_lays G n0 [.ref (n0 + 178), .int x1, .int x2, .int x3] M none M' := by
  refine ct_void (cc := cX12_lays) (maxL := 4) rfl (Nat.le_of_ble_eq_true rfl) ?_
  intro K C hret
  have C : Ok K l rX12_lays cX12_lays RX12 G n0 4 := C
  show J K M 0 [(0, .ref (n0 + 178)), (1, .int x1), (2, .int x2), (3, .int x3)] []
  unfold fX12_lays at hf
  refine j_aload_n C 0 dX12_lays_0 rfl rfl ?_
  refine g_X12_now C tw5_182 lc178 179 rfl dX12_lays_1 ?_
  refine j_bipush C (9 : Int32) rfl dX12_lays_4 ?_
  refine j_iconst C (4 : Int32) rfl dX12_lays_6 ?_
  refine j_iload_n C 1 dX12_lays_7 rfl rfl ?_
  refine j_imul C dX12_lays_8 ?_
  refine j_iadd C dX12_lays_9 ?_
  refine j_iload_n C 2 dX12_lays_10 rfl rfl ?_
  refine j_iadd C dX12_lays_11 ?_
  refine j_iload_n C 3 dX12_lays_12 rfl rfl ?_
  obtain ⟨M1, e2, hf⟩ := bd hf
  obtain ⟨hx3, e2⟩ := ast_some e2
  refine j_iast C lc179 hx3 e2 dX12_lays_13 ?_
  obtain rfl := Option.some.inj hf
  exact hret _ _ dX12_lays_14
def fX12_isMark (x0 : Int32) : Option Bool :=
  (fX12_in x0 (1 : Int32) (65535 : Int32)).bind fun b2 =>
  some b2

def rX12_isMark : Room := { frames := 1, cells := 0, slots := 0, locals := 22 }
set_option maxRecDepth 100000 in
set_option maxHeartbeats 4000000 in
theorem c_X12_isMark (l : Launch) (G : Gx) (n0 : Nat) {x0 : Int32} {M : Mem} {r : Bool} (hf : fX12_isMark x0 = some r) : Ct l yX12_isMark cX12_isMark 1 (some .boolean) rX12_isMark G n0 [.int x0] M (some (.int (bI r))) M := by
  refine ct_bool (cc := cX12_isMark) (maxL := 1) rfl (Nat.le_of_ble_eq_true rfl) ?_
  intro K C hret
  have C : Ok K l rX12_isMark cX12_isMark RX12 G n0 1 := C
  show J K M 0 [(0, .int x0)] []
  unfold fX12_isMark at hf
  refine j_iload_n C 0 dX12_isMark_0 rfl rfl ?_
  refine j_iconst C (1 : Int32) rfl dX12_isMark_1 ?_
  refine j_ldc C tw6_11 dX12_isMark_2 ?_
  obtain ⟨b2, e1, hf⟩ := bd hf
  refine j_callS C 3 (c_X12_in l G n0 (M := M) e1) gs_RX12_39 ⟨rfl, rfl⟩ (by decide +kernel) ⟨Nat.le_of_ble_eq_true rfl, Nat.le_of_ble_eq_true rfl⟩ rfl rfl (Nat.le_of_ble_eq_true rfl) dX12_isMark_4 ?_
  obtain rfl := Option.some.inj hf
  exact hret _ _ dX12_isMark_7
def lX12_isTaken_5 (x1 : Int32) (x2 : Int32) (M : Mem) : Nat → Bool → Int32 → Option Bool
  | 0, _, _ => none
  | n + 1, a1, a2 =>
  (ald (M.1 179) 1601 (0 : Int32)).bind fun v3 =>
  if v3 ≤ a2 then (some a1)
  else (if a1 = true then (lX12_isTaken_5 x1 x2 M n true (a2 + 1))
  else (if a2 = x2 then (lX12_isTaken_5 x1 x2 M n false (a2 + 1))
  else ((fX12_of a2 (0 : Int32) M).bind fun v10 =>
  if v10 = x1 then (lX12_isTaken_5 x1 x2 M n true (a2 + 1))
  else (lX12_isTaken_5 x1 x2 M n false (a2 + 1)))))

def fX12_isTaken (x1 : Int32) (x2 : Int32) (M : Mem) : Option Bool :=
  (lX12_isTaken_5 x1 x2 M FUEL false (0 : Int32)).bind (fun a12 => some a12)

def rX12_isTaken : Room := { frames := 1, cells := 0, slots := 0, locals := 22 }
set_option maxRecDepth 100000 in
set_option maxHeartbeats 4000000 in
theorem c_X12_isTaken (l : Launch) (G : Gx) (n0 : Nat) {x1 : Int32} {x2 : Int32} {M : Mem} {r : Bool} (hf : fX12_isTaken x1 x2 M = some r) : Ct l yX12_isTaken cX12_isTaken 5 (some .boolean) rX12_isTaken G n0 [.ref (n0 + 178), .int x1, .int x2] M (some (.int (bI r))) M := by
  refine ct_bool (cc := cX12_isTaken) (maxL := 5) rfl (Nat.le_of_ble_eq_true rfl) ?_
  intro K C hret
  have C : Ok K l rX12_isTaken cX12_isTaken RX12 G n0 5 := C
  show J K M 0 [(0, .ref (n0 + 178)), (1, .int x1), (2, .int x2)] []
  unfold fX12_isTaken at hf
  refine j_iconst C (0 : Int32) rfl dX12_isTaken_0 ?_
  refine j_istore_n C [(3, .int (bI false)), (0, .ref (n0 + 178)), (1, .int x1), (2, .int x2)] dX12_isTaken_1 rfl (Nat.le_of_ble_eq_true rfl) rfl ?_
  refine j_iconst C (0 : Int32) rfl dX12_isTaken_2 ?_
  refine j_istore C [(4, .int (0 : Int32)), (3, .int (bI false)), (0, .ref (n0 + 178)), (1, .int x1), (2, .int x2)] dX12_isTaken_3 (Nat.le_of_ble_eq_true rfl) rfl ?_
  obtain ⟨a12, e13, hf⟩ := bd hf
  have hx14 : J K M 49 [(3, .int (bI a12))] [] := by
    refine j_iload_n C 0 dX12_isTaken_49 rfl rfl ?_
    obtain rfl := Option.some.inj hf
    exact hret _ _ dX12_isTaken_50
  clear hf
  have hl15 : ∀ (n : Nat) (a1 : Bool) (a2 : Int32), lX12_isTaken_5 x1 x2 M n a1 a2 = some a12 → J K M 5 [(0, .ref (n0 + 178)), (1, .int x1), (2, .int x2), (3, .int (bI a1)), (4, .int a2)] [] := by
    intro n
    induction n with
    | zero =>
      intro a1 a2 hf
      exact absurd hf (by rw [lX12_isTaken_5]; exact fun h => by cases h)
    | succ n ih =>
      intro a1 a2 hf
      rw [lX12_isTaken_5] at hf
      refine j_iload C 4 dX12_isTaken_5 rfl ?_
      refine j_aload_n C 0 dX12_isTaken_7 rfl rfl ?_
      refine g_X12_now C tw5_182 lc178 179 rfl dX12_isTaken_8 ?_
      refine j_iconst C (0 : Int32) rfl dX12_isTaken_11 ?_
      obtain ⟨v3, e4, hf⟩ := bd hf
      obtain ⟨hx5, e4⟩ := ald_some e4
      refine j_iald C lc179 hx5 e4 dX12_isTaken_12 ?_
      refine j_icmp_ge C 49 dX12_isTaken_13 (by decide) (fun c6 => ?_) (fun c6 => ?_)
      · replace hf := ip c6 hf
        refine j_sub [3] rfl ?_
        cases hf
        exact hx14
      · replace hf := ine c6 hf
        refine j_iload_n C 3 dX12_isTaken_16 rfl rfl ?_
        refine j_ifz_ne C 37 dX12_isTaken_17 (by decide) (fun c7 => ?_) (fun c7 => ?_)
        · replace hf := ip c7 hf
          refine j_iconst C (1 : Int32) rfl dX12_isTaken_37 ?_
          refine j_goto C 42 dX12_isTaken_38 (by decide) ?_
          refine j_istore_n C [(3, .int (bI true)), (0, .ref (n0 + 178)), (1, .int x1), (2, .int x2), (4, .int a2)] dX12_isTaken_42 rfl (Nat.le_of_ble_eq_true rfl) rfl ?_
          refine j_iinc C 4 (a2 + 1) [(4, .int (a2 + 1)), (3, .int (bI true)), (0, .ref (n0 + 178)), (1, .int x1), (2, .int x2)] dX12_isTaken_43 rfl rfl (Nat.le_of_ble_eq_true rfl) rfl ?_
          refine j_goto C 5 dX12_isTaken_46 (by decide) ?_
          refine j_sub [2, 3, 4, 1, 0] rfl ?_
          exact ih _ _ hf
        · replace hf := ine c7 hf
          refine j_iload C 4 dX12_isTaken_20 rfl ?_
          refine j_iload_n C 2 dX12_isTaken_22 rfl rfl ?_
          refine j_icmp_eq C 41 dX12_isTaken_23 (by decide) (fun c8 => ?_) (fun c8 => ?_)
          · replace hf := ip c8 hf
            refine j_iconst C (0 : Int32) rfl dX12_isTaken_41 ?_
            refine j_istore_n C [(3, .int (bI false)), (0, .ref (n0 + 178)), (1, .int x1), (2, .int x2), (4, .int a2)] dX12_isTaken_42 rfl (Nat.le_of_ble_eq_true rfl) rfl ?_
            refine j_iinc C 4 (a2 + 1) [(4, .int (a2 + 1)), (3, .int (bI false)), (0, .ref (n0 + 178)), (1, .int x1), (2, .int x2)] dX12_isTaken_43 rfl rfl (Nat.le_of_ble_eq_true rfl) rfl ?_
            refine j_goto C 5 dX12_isTaken_46 (by decide) ?_
            refine j_sub [2, 3, 4, 1, 0] rfl ?_
            exact ih _ _ hf
          · replace hf := ine c8 hf
            refine j_aload_n C 0 dX12_isTaken_26 rfl rfl ?_
            refine j_iload C 4 dX12_isTaken_27 rfl ?_
            refine j_iconst C (0 : Int32) rfl dX12_isTaken_29 ?_
            obtain ⟨v10, e9, hf⟩ := bd hf
            refine j_callV C 2 lc178 (ent_K _ _ _ _ _ _) rfl (c_X12_of l G n0 e9) gv_RX12_44 ⟨rfl, rfl⟩ (by decide +kernel) ⟨Nat.le_of_ble_eq_true rfl, Nat.le_of_ble_eq_true rfl⟩ rfl rfl (Nat.le_of_ble_eq_true rfl) dX12_isTaken_30 ?_
            refine j_iload_n C 1 dX12_isTaken_33 rfl rfl ?_
            refine j_icmp_ne C 41 dX12_isTaken_34 (by decide) (fun c11 => ?_) (fun c11 => ?_)
            · replace hf := ine c11 hf
              refine j_iconst C (0 : Int32) rfl dX12_isTaken_41 ?_
              refine j_istore_n C [(3, .int (bI false)), (0, .ref (n0 + 178)), (1, .int x1), (2, .int x2), (4, .int a2)] dX12_isTaken_42 rfl (Nat.le_of_ble_eq_true rfl) rfl ?_
              refine j_iinc C 4 (a2 + 1) [(4, .int (a2 + 1)), (3, .int (bI false)), (0, .ref (n0 + 178)), (1, .int x1), (2, .int x2)] dX12_isTaken_43 rfl rfl (Nat.le_of_ble_eq_true rfl) rfl ?_
              refine j_goto C 5 dX12_isTaken_46 (by decide) ?_
              refine j_sub [2, 3, 4, 1, 0] rfl ?_
              exact ih _ _ hf
            · replace hf := ip c11 hf
              refine j_iconst C (1 : Int32) rfl dX12_isTaken_37 ?_
              refine j_goto C 42 dX12_isTaken_38 (by decide) ?_
              refine j_istore_n C [(3, .int (bI true)), (0, .ref (n0 + 178)), (1, .int x1), (2, .int x2), (4, .int a2)] dX12_isTaken_42 rfl (Nat.le_of_ble_eq_true rfl) rfl ?_
              refine j_iinc C 4 (a2 + 1) [(4, .int (a2 + 1)), (3, .int (bI true)), (0, .ref (n0 + 178)), (1, .int x1), (2, .int x2)] dX12_isTaken_43 rfl rfl (Nat.le_of_ble_eq_true rfl) rfl ?_
              refine j_goto C 5 dX12_isTaken_46 (by decide) ?_
              refine j_sub [2, 3, 4, 1, 0] rfl ?_
              exact ih _ _ hf
  refine j_sub [2, 3, 4, 1, 0] rfl ?_
  exact hl15 FUEL false (0 : Int32) e13
def fX12_badJoin (x1 : Int32) (M : Mem) : Option Int32 :=
  (fX12_isMark x1).bind fun b2 =>
  if b2 = true then ((ald (M.1 179) 1601 (0 : Int32)).bind fun v4 =>
  if v4 = (8 : Int32) then (some (2 : Int32))
  else ((fX12_isTaken x1 (-1 : Int32) M).bind fun b9 =>
  if b9 = true then (some (2 : Int32))
  else (some (0 : Int32))))
  else (some (1 : Int32))

def rX12_badJoin : Room := { frames := 2, cells := 0, slots := 0, locals := 46 }
set_option maxRecDepth 100000 in
set_option maxHeartbeats 4000000 in
theorem c_X12_badJoin (l : Launch) (G : Gx) (n0 : Nat) {x1 : Int32} {M : Mem} {r : Int32} (hf : fX12_badJoin x1 M = some r) : Ct l yX12_badJoin cX12_badJoin 2 (some .int) rX12_badJoin G n0 [.ref (n0 + 178), .int x1] M (some (.int r)) M := by
  refine ct_int (cc := cX12_badJoin) (maxL := 2) rfl (Nat.le_of_ble_eq_true rfl) ?_
  intro K C hret
  have C : Ok K l rX12_badJoin cX12_badJoin RX12 G n0 2 := C
  show J K M 0 [(0, .ref (n0 + 178)), (1, .int x1)] []
  unfold fX12_badJoin at hf
  refine j_iload_n C 1 dX12_badJoin_0 rfl rfl ?_
  obtain ⟨b2, e1, hf⟩ := bd hf
  refine j_callS C 1 (c_X12_isMark l G n0 (M := M) e1) gs_RX12_48 ⟨rfl, rfl⟩ (by decide +kernel) ⟨Nat.le_of_ble_eq_true rfl, Nat.le_of_ble_eq_true rfl⟩ rfl rfl (Nat.le_of_ble_eq_true rfl) dX12_badJoin_1 ?_
  refine j_ifz_ne C 11 dX12_badJoin_4 (by decide) (fun c3 => ?_) (fun c3 => ?_)
  · replace hf := ip c3 hf
    refine j_aload_n C 0 dX12_badJoin_11 rfl rfl ?_
    refine g_X12_now C tw5_182 lc178 179 rfl dX12_badJoin_12 ?_
    refine j_iconst C (0 : Int32) rfl dX12_badJoin_15 ?_
    obtain ⟨v4, e5, hf⟩ := bd hf
    obtain ⟨hx6, e5⟩ := ald_some e5
    refine j_iald C lc179 hx6 e5 dX12_badJoin_16 ?_
    refine j_bipush C (8 : Int32) rfl dX12_badJoin_17 ?_
    refine j_icmp_eq C 31 dX12_badJoin_19 (by decide) (fun c7 => ?_) (fun c7 => ?_)
    · replace hf := ip c7 hf
      refine j_iconst C (2 : Int32) rfl dX12_badJoin_31 ?_
      refine j_goto C 36 dX12_badJoin_32 (by decide) ?_
      obtain rfl := Option.some.inj hf
      exact hret _ _ dX12_badJoin_36
    · replace hf := ine c7 hf
      refine j_aload_n C 0 dX12_badJoin_22 rfl rfl ?_
      refine j_iload_n C 1 dX12_badJoin_23 rfl rfl ?_
      refine j_iconst C (-1 : Int32) rfl dX12_badJoin_24 ?_
      obtain ⟨b9, e8, hf⟩ := bd hf
      refine j_callV C 2 lc178 (ent_K _ _ _ _ _ _) rfl (c_X12_isTaken l G n0 e8) gv_RX12_51 ⟨rfl, rfl⟩ (by decide +kernel) ⟨Nat.le_of_ble_eq_true rfl, Nat.le_of_ble_eq_true rfl⟩ rfl rfl (Nat.le_of_ble_eq_true rfl) dX12_badJoin_25 ?_
      refine j_ifz_eq C 35 dX12_badJoin_28 (by decide) (fun c10 => ?_) (fun c10 => ?_)
      · replace hf := ine c10 hf
        refine j_iconst C (0 : Int32) rfl dX12_badJoin_35 ?_
        obtain rfl := Option.some.inj hf
        exact hret _ _ dX12_badJoin_36
      · replace hf := ip c10 hf
        refine j_iconst C (2 : Int32) rfl dX12_badJoin_31 ?_
        refine j_goto C 36 dX12_badJoin_32 (by decide) ?_
        obtain rfl := Option.some.inj hf
        exact hret _ _ dX12_badJoin_36
  · replace hf := ine c3 hf
    refine j_iconst C (1 : Int32) rfl dX12_badJoin_7 ?_
    refine j_goto C 36 dX12_badJoin_8 (by decide) ?_
    obtain rfl := Option.some.inj hf
    exact hret _ _ dX12_badJoin_36
def fX12_joins (x1 : Int32) (M : Mem) : Option (Int32 × Mem) :=
  (ald (M.1 179) 1601 (0 : Int32)).bind fun v1 =>
  (fX12_lays v1 (0 : Int32) x1 M).bind fun M5 =>
  (fX12_lays v1 (1 : Int32) (0 : Int32) M5).bind fun M7 =>
  (fX12_lays v1 (2 : Int32) (0 : Int32) M7).bind fun M9 =>
  (fX12_lays v1 (3 : Int32) (0 : Int32) M9).bind fun M11 =>
  (ald (M11.1 179) 1601 (0 : Int32)).bind fun v12 =>
  (ast M11 179 1601 (0 : Int32) (v12 + (1 : Int32))).bind fun M15 =>
  some (v1, M15)

def rX12_joins : Room := { frames := 1, cells := 0, slots := 0, locals := 23 }
set_option maxRecDepth 100000 in
set_option maxHeartbeats 4000000 in
theorem c_X12_joins (l : Launch) (G : Gx) (n0 : Nat) {x1 : Int32} {M : Mem} {r : Int32} {M' : Mem} (hf : fX12_joins x1 M = some (r, M')) : Ct l yX12_joins cX12_joins 3 (some .int) rX12_joins G n0 [.ref (n0 + 178), .int x1] M (some (.int r)) M' := by
  refine ct_int (cc := cX12_joins) (maxL := 3) rfl (Nat.le_of_ble_eq_true rfl) ?_
  intro K C hret
  have C : Ok K l rX12_joins cX12_joins RX12 G n0 3 := C
  show J K M 0 [(0, .ref (n0 + 178)), (1, .int x1)] []
  unfold fX12_joins at hf
  refine j_aload_n C 0 dX12_joins_0 rfl rfl ?_
  refine g_X12_now C tw5_182 lc178 179 rfl dX12_joins_1 ?_
  refine j_iconst C (0 : Int32) rfl dX12_joins_4 ?_
  obtain ⟨v1, e2, hf⟩ := bd hf
  obtain ⟨hx3, e2⟩ := ald_some e2
  refine j_iald C lc179 hx3 e2 dX12_joins_5 ?_
  refine j_istore_n C [(2, .int v1), (0, .ref (n0 + 178)), (1, .int x1)] dX12_joins_6 rfl (Nat.le_of_ble_eq_true rfl) rfl ?_
  refine j_aload_n C 1 dX12_joins_7 rfl rfl ?_
  refine j_iload_n C 0 dX12_joins_8 rfl rfl ?_
  refine j_iconst C (0 : Int32) rfl dX12_joins_9 ?_
  refine j_iload_n C 2 dX12_joins_10 rfl rfl ?_
  obtain ⟨M5, e4, hf⟩ := bd hf
  refine j_callV C 3 lc178 (ent_K _ _ _ _ _ _) rfl (c_X12_lays l G n0 e4) gv_RX12_55 ⟨rfl, rfl⟩ (by decide +kernel) ⟨Nat.le_of_ble_eq_true rfl, Nat.le_of_ble_eq_true rfl⟩ rfl rfl (Nat.le_of_ble_eq_true rfl) dX12_joins_11 ?_
  refine j_aload_n C 1 dX12_joins_14 rfl rfl ?_
  refine j_iload_n C 0 dX12_joins_15 rfl rfl ?_
  refine j_iconst C (1 : Int32) rfl dX12_joins_16 ?_
  refine j_iconst C (0 : Int32) rfl dX12_joins_17 ?_
  obtain ⟨M7, e6, hf⟩ := bd hf
  refine j_callV C 3 lc178 (ent_K _ _ _ _ _ _) rfl (c_X12_lays l G n0 e6) gv_RX12_55 ⟨rfl, rfl⟩ (by decide +kernel) ⟨Nat.le_of_ble_eq_true rfl, Nat.le_of_ble_eq_true rfl⟩ rfl rfl (Nat.le_of_ble_eq_true rfl) dX12_joins_18 ?_
  refine j_aload_n C 1 dX12_joins_21 rfl rfl ?_
  refine j_iload_n C 0 dX12_joins_22 rfl rfl ?_
  refine j_iconst C (2 : Int32) rfl dX12_joins_23 ?_
  refine j_iconst C (0 : Int32) rfl dX12_joins_24 ?_
  obtain ⟨M9, e8, hf⟩ := bd hf
  refine j_callV C 3 lc178 (ent_K _ _ _ _ _ _) rfl (c_X12_lays l G n0 e8) gv_RX12_55 ⟨rfl, rfl⟩ (by decide +kernel) ⟨Nat.le_of_ble_eq_true rfl, Nat.le_of_ble_eq_true rfl⟩ rfl rfl (Nat.le_of_ble_eq_true rfl) dX12_joins_25 ?_
  refine j_aload_n C 1 dX12_joins_28 rfl rfl ?_
  refine j_iload_n C 0 dX12_joins_29 rfl rfl ?_
  refine j_iconst C (3 : Int32) rfl dX12_joins_30 ?_
  refine j_iconst C (0 : Int32) rfl dX12_joins_31 ?_
  obtain ⟨M11, e10, hf⟩ := bd hf
  refine j_callV C 3 lc178 (ent_K _ _ _ _ _ _) rfl (c_X12_lays l G n0 e10) gv_RX12_55 ⟨rfl, rfl⟩ (by decide +kernel) ⟨Nat.le_of_ble_eq_true rfl, Nat.le_of_ble_eq_true rfl⟩ rfl rfl (Nat.le_of_ble_eq_true rfl) dX12_joins_32 ?_
  refine j_aload_n C 1 dX12_joins_35 rfl rfl ?_
  refine g_X12_now C tw5_182 lc178 179 rfl dX12_joins_36 ?_
  refine j_iconst C (0 : Int32) rfl dX12_joins_39 ?_
  refine j_dup2_11 C rfl rfl dX12_joins_40 ?_
  obtain ⟨v12, e13, hf⟩ := bd hf
  obtain ⟨hx14, e13⟩ := ald_some e13
  refine j_iald C lc179 hx14 e13 dX12_joins_41 ?_
  refine j_iconst C (1 : Int32) rfl dX12_joins_42 ?_
  refine j_iadd C dX12_joins_43 ?_
  obtain ⟨M15, e16, hf⟩ := bd hf
  obtain ⟨hx17, e16⟩ := ast_some e16
  refine j_iast C lc179 hx17 e16 dX12_joins_44 ?_
  refine j_iload_n C 0 dX12_joins_45 rfl rfl ?_
  obtain ⟨rfl, rfl⟩ := Prod.mk.inj (Option.some.inj hf)
  exact hret _ _ dX12_joins_46
def fX12_join (x1 : Int32) (M : Mem) : Option (Int32 × Mem) :=
  (fX12_badJoin x1 M).bind fun v2 =>
  (fX12_refused v2 M).bind (un2 fun b4 M5 =>
  if b4 = true then (some ((0 : Int32), M5))
  else ((fX12_saves M5).bind fun M8 =>
  (fX12_joins x1 M8).bind (un2 fun v10 M11 =>
  some (v10, M11))))

def rX12_join : Room := { frames := 3, cells := 0, slots := 0, locals := 67 }
set_option maxRecDepth 100000 in
set_option maxHeartbeats 4000000 in
theorem c_X12_join (l : Launch) (G : Gx) (n0 : Nat) {x1 : Int32} {M : Mem} {r : Int32} {M' : Mem} (hf : fX12_join x1 M = some (r, M')) : Ct l yX12_join cX12_join 2 (some .int) rX12_join G n0 [.ref (n0 + 178), .int x1] M (some (.int r)) M' := by
  refine ct_int (cc := cX12_join) (maxL := 2) rfl (Nat.le_of_ble_eq_true rfl) ?_
  intro K C hret
  have C : Ok K l rX12_join cX12_join RX12 G n0 2 := C
  show J K M 0 [(0, .ref (n0 + 178)), (1, .int x1)] []
  unfold fX12_join at hf
  refine j_aload_n C 0 dX12_join_0 rfl rfl ?_
  refine j_aload_n C 0 dX12_join_1 rfl rfl ?_
  refine j_iload_n C 1 dX12_join_2 rfl rfl ?_
  obtain ⟨v2, e1, hf⟩ := bd hf
  refine j_callV C 1 lc178 (ent_K _ _ _ _ _ _) rfl (c_X12_badJoin l G n0 e1) gv_RX12_59 ⟨rfl, rfl⟩ (by decide +kernel) ⟨Nat.le_of_ble_eq_true rfl, Nat.le_of_ble_eq_true rfl⟩ rfl rfl (Nat.le_of_ble_eq_true rfl) dX12_join_3 ?_
  obtain ⟨⟨b4, M5⟩, e3, hf⟩ := bd hf
  replace hf := un2e hf
  refine j_callV C 1 lc178 (ent_K _ _ _ _ _ _) rfl (c_X12_refused l G n0 e3) gv_RX12_35 ⟨rfl, rfl⟩ (by decide +kernel) ⟨Nat.le_of_ble_eq_true rfl, Nat.le_of_ble_eq_true rfl⟩ rfl rfl (Nat.le_of_ble_eq_true rfl) dX12_join_6 ?_
  refine j_ifz_eq C 14 dX12_join_9 (by decide) (fun c6 => ?_) (fun c6 => ?_)
  · replace hf := ine c6 hf
    refine j_aload_n C 0 dX12_join_14 rfl rfl ?_
    obtain ⟨M8, e7, hf⟩ := bd hf
    refine j_callV C 0 lc178 (ent_K _ _ _ _ _ _) rfl (c_X12_saves l G n0 e7) gv_RX12_63 ⟨rfl, rfl⟩ (by decide +kernel) ⟨Nat.le_of_ble_eq_true rfl, Nat.le_of_ble_eq_true rfl⟩ rfl rfl (Nat.le_of_ble_eq_true rfl) dX12_join_15 ?_
    refine j_aload_n C 0 dX12_join_18 rfl rfl ?_
    refine j_iload_n C 1 dX12_join_19 rfl rfl ?_
    obtain ⟨⟨v10, M11⟩, e9, hf⟩ := bd hf
    replace hf := un2e hf
    refine j_callV C 1 lc178 (ent_K _ _ _ _ _ _) rfl (c_X12_joins l G n0 e9) gv_RX12_66 ⟨rfl, rfl⟩ (by decide +kernel) ⟨Nat.le_of_ble_eq_true rfl, Nat.le_of_ble_eq_true rfl⟩ rfl rfl (Nat.le_of_ble_eq_true rfl) dX12_join_20 ?_
    obtain ⟨rfl, rfl⟩ := Prod.mk.inj (Option.some.inj hf)
    exact hret _ _ dX12_join_23
  · replace hf := ip c6 hf
    refine j_iconst C (0 : Int32) rfl dX12_join_12 ?_
    obtain ⟨rfl, rfl⟩ := Prod.mk.inj (Option.some.inj hf)
    exact hret _ _ dX12_join_13
def fX12_remark (x1 : Int32) (x2 : Int32) (M : Mem) : Option (Int32 × Mem) :=
  (fX12_isHouse x1 M).bind fun b2 =>
  (if b2 = true then ((fX12_isMark x2).bind fun b5 =>
  if b5 = true then ((fX12_isTaken x2 x1 M).bind fun b8 =>
  if b8 = true then (some (3 : Int32))
  else (some (0 : Int32)))
  else (some (2 : Int32)))
  else (some (1 : Int32))).bind (fun z10 => (fX12_refused z10 M).bind (un2 fun b12 M13 =>
  if b12 = true then (some ((0 : Int32), M13))
  else ((fX12_saves M13).bind fun M16 =>
  (fX12_of x1 (0 : Int32) M16).bind fun v18 =>
  (fX12_lays x1 (0 : Int32) x2 M16).bind fun M20 =>
  some (v18, M20))))

def rX12_remark : Room := { frames := 2, cells := 0, slots := 0, locals := 46 }
set_option maxRecDepth 100000 in
set_option maxHeartbeats 4000000 in
theorem c_X12_remark (l : Launch) (G : Gx) (n0 : Nat) {x1 : Int32} {x2 : Int32} {M : Mem} {r : Int32} {M' : Mem} (hf : fX12_remark x1 x2 M = some (r, M')) : Ct l yX12_remark cX12_remark 4 (some .int) rX12_remark G n0 [.ref (n0 + 178), .int x1, .int x2] M (some (.int r)) M' := by
  refine ct_int (cc := cX12_remark) (maxL := 4) rfl (Nat.le_of_ble_eq_true rfl) ?_
  intro K C hret
  have C : Ok K l rX12_remark cX12_remark RX12 G n0 4 := C
  show J K M 0 [(0, .ref (n0 + 178)), (1, .int x1), (2, .int x2)] []
  unfold fX12_remark at hf
  refine j_aload_n C 0 dX12_remark_0 rfl rfl ?_
  refine j_aload_n C 0 dX12_remark_1 rfl rfl ?_
  refine j_iload_n C 1 dX12_remark_2 rfl rfl ?_
  obtain ⟨b2, e1, hf⟩ := bd hf
  refine j_callV C 1 lc178 (ent_K _ _ _ _ _ _) rfl (c_X12_isHouse l G n0 e1) gv_RX12_69 ⟨rfl, rfl⟩ (by decide +kernel) ⟨Nat.le_of_ble_eq_true rfl, Nat.le_of_ble_eq_true rfl⟩ rfl rfl (Nat.le_of_ble_eq_true rfl) dX12_remark_3 ?_
  obtain ⟨z10, e21, hf⟩ := bd hf
  have hj22 : J K M 38 [(0, .ref (n0 + 178)), (1, .int x1), (2, .int x2)] [.int z10, .ref (n0 + 178)] := by
    obtain ⟨⟨b12, M13⟩, e11, hf⟩ := bd hf
    replace hf := un2e hf
    refine j_callV C 1 lc178 (ent_K _ _ _ _ _ _) rfl (c_X12_refused l G n0 e11) gv_RX12_35 ⟨rfl, rfl⟩ (by decide +kernel) ⟨Nat.le_of_ble_eq_true rfl, Nat.le_of_ble_eq_true rfl⟩ rfl rfl (Nat.le_of_ble_eq_true rfl) dX12_remark_38 ?_
    refine j_ifz_eq C 46 dX12_remark_41 (by decide) (fun c14 => ?_) (fun c14 => ?_)
    · replace hf := ine c14 hf
      refine j_aload_n C 0 dX12_remark_46 rfl rfl ?_
      obtain ⟨M16, e15, hf⟩ := bd hf
      refine j_callV C 0 lc178 (ent_K _ _ _ _ _ _) rfl (c_X12_saves l G n0 e15) gv_RX12_63 ⟨rfl, rfl⟩ (by decide +kernel) ⟨Nat.le_of_ble_eq_true rfl, Nat.le_of_ble_eq_true rfl⟩ rfl rfl (Nat.le_of_ble_eq_true rfl) dX12_remark_47 ?_
      refine j_aload_n C 0 dX12_remark_50 rfl rfl ?_
      refine j_iload_n C 1 dX12_remark_51 rfl rfl ?_
      refine j_iconst C (0 : Int32) rfl dX12_remark_52 ?_
      obtain ⟨v18, e17, hf⟩ := bd hf
      refine j_callV C 2 lc178 (ent_K _ _ _ _ _ _) rfl (c_X12_of l G n0 e17) gv_RX12_44 ⟨rfl, rfl⟩ (by decide +kernel) ⟨Nat.le_of_ble_eq_true rfl, Nat.le_of_ble_eq_true rfl⟩ rfl rfl (Nat.le_of_ble_eq_true rfl) dX12_remark_53 ?_
      refine j_istore_n C [(3, .int v18), (0, .ref (n0 + 178)), (1, .int x1), (2, .int x2)] dX12_remark_56 rfl (Nat.le_of_ble_eq_true rfl) rfl ?_
      refine j_aload_n C 1 dX12_remark_57 rfl rfl ?_
      refine j_iload_n C 2 dX12_remark_58 rfl rfl ?_
      refine j_iconst C (0 : Int32) rfl dX12_remark_59 ?_
      refine j_iload_n C 3 dX12_remark_60 rfl rfl ?_
      obtain ⟨M20, e19, hf⟩ := bd hf
      refine j_callV C 3 lc178 (ent_K _ _ _ _ _ _) rfl (c_X12_lays l G n0 e19) gv_RX12_55 ⟨rfl, rfl⟩ (by decide +kernel) ⟨Nat.le_of_ble_eq_true rfl, Nat.le_of_ble_eq_true rfl⟩ rfl rfl (Nat.le_of_ble_eq_true rfl) dX12_remark_61 ?_
      refine j_iload_n C 0 dX12_remark_64 rfl rfl ?_
      obtain ⟨rfl, rfl⟩ := Prod.mk.inj (Option.some.inj hf)
      exact hret _ _ dX12_remark_65
    · replace hf := ip c14 hf
      refine j_iconst C (0 : Int32) rfl dX12_remark_44 ?_
      obtain ⟨rfl, rfl⟩ := Prod.mk.inj (Option.some.inj hf)
      exact hret _ _ dX12_remark_45
  clear hf
  have hf := e21
  refine j_ifz_ne C 13 dX12_remark_6 (by decide) (fun c3 => ?_) (fun c3 => ?_)
  · replace hf := ip c3 hf
    refine j_iload_n C 2 dX12_remark_13 rfl rfl ?_
    obtain ⟨b5, e4, hf⟩ := bd hf
    refine j_callS C 1 (c_X12_isMark l G n0 (M := M) e4) gs_RX12_48 ⟨rfl, rfl⟩ (by decide +kernel) ⟨Nat.le_of_ble_eq_true rfl, Nat.le_of_ble_eq_true rfl⟩ rfl rfl (Nat.le_of_ble_eq_true rfl) dX12_remark_14 ?_
    refine j_ifz_ne C 24 dX12_remark_17 (by decide) (fun c6 => ?_) (fun c6 => ?_)
    · replace hf := ip c6 hf
      refine j_aload_n C 0 dX12_remark_24 rfl rfl ?_
      refine j_iload_n C 2 dX12_remark_25 rfl rfl ?_
      refine j_iload_n C 1 dX12_remark_26 rfl rfl ?_
      obtain ⟨b8, e7, hf⟩ := bd hf
      refine j_callV C 2 lc178 (ent_K _ _ _ _ _ _) rfl (c_X12_isTaken l G n0 e7) gv_RX12_51 ⟨rfl, rfl⟩ (by decide +kernel) ⟨Nat.le_of_ble_eq_true rfl, Nat.le_of_ble_eq_true rfl⟩ rfl rfl (Nat.le_of_ble_eq_true rfl) dX12_remark_27 ?_
      refine j_ifz_eq C 37 dX12_remark_30 (by decide) (fun c9 => ?_) (fun c9 => ?_)
      · replace hf := ine c9 hf
        refine j_iconst C (0 : Int32) rfl dX12_remark_37 ?_
        cases hf
        refine j_sub [0, 1, 2] rfl ?_
        exact hj22
      · replace hf := ip c9 hf
        refine j_iconst C (3 : Int32) rfl dX12_remark_33 ?_
        refine j_goto C 38 dX12_remark_34 (by decide) ?_
        cases hf
        refine j_sub [0, 1, 2] rfl ?_
        exact hj22
    · replace hf := ine c6 hf
      refine j_iconst C (2 : Int32) rfl dX12_remark_20 ?_
      refine j_goto C 38 dX12_remark_21 (by decide) ?_
      cases hf
      refine j_sub [0, 1, 2] rfl ?_
      exact hj22
  · replace hf := ine c3 hf
    refine j_iconst C (1 : Int32) rfl dX12_remark_9 ?_
    refine j_goto C 38 dX12_remark_10 (by decide) ?_
    cases hf
    refine j_sub [0, 1, 2] rfl ?_
    exact hj22
def lX12_excused_4 (M : Mem) : Nat → Int32 → Int32 → Option Int32
  | 0, _, _ => none
  | n + 1, a1, a2 =>
  (ald (M.1 179) 1601 (0 : Int32)).bind fun v3 =>
  if v3 ≤ a2 then (some a1)
  else ((fX12_of a2 (3 : Int32) M).bind fun v8 =>
  lX12_excused_4 M n (a1 + v8) (a2 + 1))

def fX12_excused  (M : Mem) : Option Int32 :=
  (lX12_excused_4 M FUEL (0 : Int32) (0 : Int32)).bind (fun a9 => some a9)

def rX12_excused : Room := { frames := 1, cells := 0, slots := 0, locals := 22 }
set_option maxRecDepth 100000 in
set_option maxHeartbeats 4000000 in
theorem c_X12_excused (l : Launch) (G : Gx) (n0 : Nat) {M : Mem} {r : Int32} (hf : fX12_excused M = some r) : Ct l yX12_excused cX12_excused 3 (some .int) rX12_excused G n0 [.ref (n0 + 178)] M (some (.int r)) M := by
  refine ct_int (cc := cX12_excused) (maxL := 3) rfl (Nat.le_of_ble_eq_true rfl) ?_
  intro K C hret
  have C : Ok K l rX12_excused cX12_excused RX12 G n0 3 := C
  show J K M 0 [(0, .ref (n0 + 178))] []
  unfold fX12_excused at hf
  refine j_iconst C (0 : Int32) rfl dX12_excused_0 ?_
  refine j_istore_n C [(1, .int (0 : Int32)), (0, .ref (n0 + 178))] dX12_excused_1 rfl (Nat.le_of_ble_eq_true rfl) rfl ?_
  refine j_iconst C (0 : Int32) rfl dX12_excused_2 ?_
  refine j_istore_n C [(2, .int (0 : Int32)), (1, .int (0 : Int32)), (0, .ref (n0 + 178))] dX12_excused_3 rfl (Nat.le_of_ble_eq_true rfl) rfl ?_
  obtain ⟨a9, e10, hf⟩ := bd hf
  have hx11 : J K M 29 [(1, .int a9)] [] := by
    refine j_iload_n C 0 dX12_excused_29 rfl rfl ?_
    obtain rfl := Option.some.inj hf
    exact hret _ _ dX12_excused_30
  clear hf
  have hl12 : ∀ (n : Nat) (a1 : Int32) (a2 : Int32), lX12_excused_4 M n a1 a2 = some a9 → J K M 4 [(0, .ref (n0 + 178)), (1, .int a1), (2, .int a2)] [] := by
    intro n
    induction n with
    | zero =>
      intro a1 a2 hf
      exact absurd hf (by rw [lX12_excused_4]; exact fun h => by cases h)
    | succ n ih =>
      intro a1 a2 hf
      rw [lX12_excused_4] at hf
      refine j_iload_n C 2 dX12_excused_4 rfl rfl ?_
      refine j_aload_n C 0 dX12_excused_5 rfl rfl ?_
      refine g_X12_now C tw5_182 lc178 179 rfl dX12_excused_6 ?_
      refine j_iconst C (0 : Int32) rfl dX12_excused_9 ?_
      obtain ⟨v3, e4, hf⟩ := bd hf
      obtain ⟨hx5, e4⟩ := ald_some e4
      refine j_iald C lc179 hx5 e4 dX12_excused_10 ?_
      refine j_icmp_ge C 29 dX12_excused_11 (by decide) (fun c6 => ?_) (fun c6 => ?_)
      · replace hf := ip c6 hf
        refine j_sub [1] rfl ?_
        cases hf
        exact hx11
      · replace hf := ine c6 hf
        refine j_iload_n C 1 dX12_excused_14 rfl rfl ?_
        refine j_aload_n C 0 dX12_excused_15 rfl rfl ?_
        refine j_iload_n C 2 dX12_excused_16 rfl rfl ?_
        refine j_iconst C (3 : Int32) rfl dX12_excused_17 ?_
        obtain ⟨v8, e7, hf⟩ := bd hf
        refine j_callV C 2 lc178 (ent_K _ _ _ _ _ _) rfl (c_X12_of l G n0 e7) gv_RX12_44 ⟨rfl, rfl⟩ (by decide +kernel) ⟨Nat.le_of_ble_eq_true rfl, Nat.le_of_ble_eq_true rfl⟩ rfl rfl (Nat.le_of_ble_eq_true rfl) dX12_excused_18 ?_
        refine j_iadd C dX12_excused_21 ?_
        refine j_istore_n C [(1, .int (a1 + v8)), (0, .ref (n0 + 178)), (2, .int a2)] dX12_excused_22 rfl (Nat.le_of_ble_eq_true rfl) rfl ?_
        refine j_iinc C 2 (a2 + 1) [(2, .int (a2 + 1)), (1, .int (a1 + v8)), (0, .ref (n0 + 178))] dX12_excused_23 rfl rfl (Nat.le_of_ble_eq_true rfl) rfl ?_
        refine j_goto C 4 dX12_excused_26 (by decide) ?_
        refine j_sub [2, 1, 0] rfl ?_
        exact ih _ _ hf
  refine j_sub [2, 1, 0] rfl ?_
  exact hl12 FUEL (0 : Int32) (0 : Int32) e10
def fX12_excuse (x1 : Int32) (M : Mem) : Option (Int32 × Mem) :=
  (fX12_isHouse x1 M).bind fun b2 =>
  (if b2 = true then (some (0 : Int32))
  else (some (1 : Int32))).bind (fun z4 => (fX12_refused z4 M).bind (un2 fun b6 M7 =>
  if b6 = true then (some ((0 : Int32), M7))
  else ((fX12_saves M7).bind fun M10 =>
  (fX12_lays x1 (3 : Int32) (1 : Int32) M10).bind fun M12 =>
  (fX12_excused M12).bind fun v14 =>
  some (v14, M12))))

def rX12_excuse : Room := { frames := 2, cells := 0, slots := 0, locals := 44 }
set_option maxRecDepth 100000 in
set_option maxHeartbeats 4000000 in
theorem c_X12_excuse (l : Launch) (G : Gx) (n0 : Nat) {x1 : Int32} {M : Mem} {r : Int32} {M' : Mem} (hf : fX12_excuse x1 M = some (r, M')) : Ct l yX12_excuse cX12_excuse 2 (some .int) rX12_excuse G n0 [.ref (n0 + 178), .int x1] M (some (.int r)) M' := by
  refine ct_int (cc := cX12_excuse) (maxL := 2) rfl (Nat.le_of_ble_eq_true rfl) ?_
  intro K C hret
  have C : Ok K l rX12_excuse cX12_excuse RX12 G n0 2 := C
  show J K M 0 [(0, .ref (n0 + 178)), (1, .int x1)] []
  unfold fX12_excuse at hf
  refine j_aload_n C 0 dX12_excuse_0 rfl rfl ?_
  refine j_aload_n C 0 dX12_excuse_1 rfl rfl ?_
  refine j_iload_n C 1 dX12_excuse_2 rfl rfl ?_
  obtain ⟨b2, e1, hf⟩ := bd hf
  refine j_callV C 1 lc178 (ent_K _ _ _ _ _ _) rfl (c_X12_isHouse l G n0 e1) gv_RX12_69 ⟨rfl, rfl⟩ (by decide +kernel) ⟨Nat.le_of_ble_eq_true rfl, Nat.le_of_ble_eq_true rfl⟩ rfl rfl (Nat.le_of_ble_eq_true rfl) dX12_excuse_3 ?_
  obtain ⟨z4, e15, hf⟩ := bd hf
  have hj16 : J K M 14 [(0, .ref (n0 + 178)), (1, .int x1)] [.int z4, .ref (n0 + 178)] := by
    obtain ⟨⟨b6, M7⟩, e5, hf⟩ := bd hf
    replace hf := un2e hf
    refine j_callV C 1 lc178 (ent_K _ _ _ _ _ _) rfl (c_X12_refused l G n0 e5) gv_RX12_35 ⟨rfl, rfl⟩ (by decide +kernel) ⟨Nat.le_of_ble_eq_true rfl, Nat.le_of_ble_eq_true rfl⟩ rfl rfl (Nat.le_of_ble_eq_true rfl) dX12_excuse_14 ?_
    refine j_ifz_eq C 22 dX12_excuse_17 (by decide) (fun c8 => ?_) (fun c8 => ?_)
    · replace hf := ine c8 hf
      refine j_aload_n C 0 dX12_excuse_22 rfl rfl ?_
      obtain ⟨M10, e9, hf⟩ := bd hf
      refine j_callV C 0 lc178 (ent_K _ _ _ _ _ _) rfl (c_X12_saves l G n0 e9) gv_RX12_63 ⟨rfl, rfl⟩ (by decide +kernel) ⟨Nat.le_of_ble_eq_true rfl, Nat.le_of_ble_eq_true rfl⟩ rfl rfl (Nat.le_of_ble_eq_true rfl) dX12_excuse_23 ?_
      refine j_aload_n C 0 dX12_excuse_26 rfl rfl ?_
      refine j_iload_n C 1 dX12_excuse_27 rfl rfl ?_
      refine j_iconst C (3 : Int32) rfl dX12_excuse_28 ?_
      refine j_iconst C (1 : Int32) rfl dX12_excuse_29 ?_
      obtain ⟨M12, e11, hf⟩ := bd hf
      refine j_callV C 3 lc178 (ent_K _ _ _ _ _ _) rfl (c_X12_lays l G n0 e11) gv_RX12_55 ⟨rfl, rfl⟩ (by decide +kernel) ⟨Nat.le_of_ble_eq_true rfl, Nat.le_of_ble_eq_true rfl⟩ rfl rfl (Nat.le_of_ble_eq_true rfl) dX12_excuse_30 ?_
      refine j_aload_n C 0 dX12_excuse_33 rfl rfl ?_
      obtain ⟨v14, e13, hf⟩ := bd hf
      refine j_callV C 0 lc178 (ent_K _ _ _ _ _ _) rfl (c_X12_excused l G n0 e13) gv_RX12_72 ⟨rfl, rfl⟩ (by decide +kernel) ⟨Nat.le_of_ble_eq_true rfl, Nat.le_of_ble_eq_true rfl⟩ rfl rfl (Nat.le_of_ble_eq_true rfl) dX12_excuse_34 ?_
      obtain ⟨rfl, rfl⟩ := Prod.mk.inj (Option.some.inj hf)
      exact hret _ _ dX12_excuse_37
    · replace hf := ip c8 hf
      refine j_iconst C (0 : Int32) rfl dX12_excuse_20 ?_
      obtain ⟨rfl, rfl⟩ := Prod.mk.inj (Option.some.inj hf)
      exact hret _ _ dX12_excuse_21
  clear hf
  have hf := e15
  refine j_ifz_eq C 13 dX12_excuse_6 (by decide) (fun c3 => ?_) (fun c3 => ?_)
  · replace hf := ine c3 hf
    refine j_iconst C (1 : Int32) rfl dX12_excuse_13 ?_
    cases hf
    refine j_sub [0, 1] rfl ?_
    exact hj16
  · replace hf := ip c3 hf
    refine j_iconst C (0 : Int32) rfl dX12_excuse_9 ?_
    refine j_goto C 14 dX12_excuse_10 (by decide) ?_
    cases hf
    refine j_sub [0, 1] rfl ?_
    exact hj16
def lX12_sum_4 (x1 : Int32) (M : Mem) : Nat → Int32 → Int32 → Option Int32
  | 0, _, _ => none
  | n + 1, a1, a2 =>
  (ald (M.1 179) 1601 (0 : Int32)).bind fun v3 =>
  if v3 ≤ a2 then (some a1)
  else ((fX12_of a2 x1 M).bind fun v8 =>
  lX12_sum_4 x1 M n (a1 + v8) (a2 + 1))

def fX12_sum (x1 : Int32) (M : Mem) : Option Int32 :=
  (lX12_sum_4 x1 M FUEL (0 : Int32) (0 : Int32)).bind (fun a9 => some a9)

def rX12_sum : Room := { frames := 1, cells := 0, slots := 0, locals := 22 }
set_option maxRecDepth 100000 in
set_option maxHeartbeats 4000000 in
theorem c_X12_sum (l : Launch) (G : Gx) (n0 : Nat) {x1 : Int32} {M : Mem} {r : Int32} (hf : fX12_sum x1 M = some r) : Ct l yX12_sum cX12_sum 4 (some .int) rX12_sum G n0 [.ref (n0 + 178), .int x1] M (some (.int r)) M := by
  refine ct_int (cc := cX12_sum) (maxL := 4) rfl (Nat.le_of_ble_eq_true rfl) ?_
  intro K C hret
  have C : Ok K l rX12_sum cX12_sum RX12 G n0 4 := C
  show J K M 0 [(0, .ref (n0 + 178)), (1, .int x1)] []
  unfold fX12_sum at hf
  refine j_iconst C (0 : Int32) rfl dX12_sum_0 ?_
  refine j_istore_n C [(2, .int (0 : Int32)), (0, .ref (n0 + 178)), (1, .int x1)] dX12_sum_1 rfl (Nat.le_of_ble_eq_true rfl) rfl ?_
  refine j_iconst C (0 : Int32) rfl dX12_sum_2 ?_
  refine j_istore_n C [(3, .int (0 : Int32)), (2, .int (0 : Int32)), (0, .ref (n0 + 178)), (1, .int x1)] dX12_sum_3 rfl (Nat.le_of_ble_eq_true rfl) rfl ?_
  obtain ⟨a9, e10, hf⟩ := bd hf
  have hx11 : J K M 29 [(2, .int a9)] [] := by
    refine j_iload_n C 0 dX12_sum_29 rfl rfl ?_
    obtain rfl := Option.some.inj hf
    exact hret _ _ dX12_sum_30
  clear hf
  have hl12 : ∀ (n : Nat) (a1 : Int32) (a2 : Int32), lX12_sum_4 x1 M n a1 a2 = some a9 → J K M 4 [(0, .ref (n0 + 178)), (1, .int x1), (2, .int a1), (3, .int a2)] [] := by
    intro n
    induction n with
    | zero =>
      intro a1 a2 hf
      exact absurd hf (by rw [lX12_sum_4]; exact fun h => by cases h)
    | succ n ih =>
      intro a1 a2 hf
      rw [lX12_sum_4] at hf
      refine j_iload_n C 3 dX12_sum_4 rfl rfl ?_
      refine j_aload_n C 0 dX12_sum_5 rfl rfl ?_
      refine g_X12_now C tw5_182 lc178 179 rfl dX12_sum_6 ?_
      refine j_iconst C (0 : Int32) rfl dX12_sum_9 ?_
      obtain ⟨v3, e4, hf⟩ := bd hf
      obtain ⟨hx5, e4⟩ := ald_some e4
      refine j_iald C lc179 hx5 e4 dX12_sum_10 ?_
      refine j_icmp_ge C 29 dX12_sum_11 (by decide) (fun c6 => ?_) (fun c6 => ?_)
      · replace hf := ip c6 hf
        refine j_sub [2] rfl ?_
        cases hf
        exact hx11
      · replace hf := ine c6 hf
        refine j_iload_n C 2 dX12_sum_14 rfl rfl ?_
        refine j_aload_n C 0 dX12_sum_15 rfl rfl ?_
        refine j_iload_n C 3 dX12_sum_16 rfl rfl ?_
        refine j_iload_n C 1 dX12_sum_17 rfl rfl ?_
        obtain ⟨v8, e7, hf⟩ := bd hf
        refine j_callV C 2 lc178 (ent_K _ _ _ _ _ _) rfl (c_X12_of l G n0 e7) gv_RX12_44 ⟨rfl, rfl⟩ (by decide +kernel) ⟨Nat.le_of_ble_eq_true rfl, Nat.le_of_ble_eq_true rfl⟩ rfl rfl (Nat.le_of_ble_eq_true rfl) dX12_sum_18 ?_
        refine j_iadd C dX12_sum_21 ?_
        refine j_istore_n C [(2, .int (a1 + v8)), (0, .ref (n0 + 178)), (1, .int x1), (3, .int a2)] dX12_sum_22 rfl (Nat.le_of_ble_eq_true rfl) rfl ?_
        refine j_iinc C 3 (a2 + 1) [(3, .int (a2 + 1)), (2, .int (a1 + v8)), (0, .ref (n0 + 178)), (1, .int x1)] dX12_sum_23 rfl rfl (Nat.le_of_ble_eq_true rfl) rfl ?_
        refine j_goto C 4 dX12_sum_26 (by decide) ?_
        refine j_sub [2, 3, 1, 0] rfl ?_
        exact ih _ _ hf
  refine j_sub [2, 3, 1, 0] rfl ?_
  exact hl12 FUEL (0 : Int32) (0 : Int32) e10
def fX12_dueOf (x1 : Int32) (M : Mem) : Option Int64 :=
  (fX12_sum (1 : Int32) M).bind fun v2 =>
  (fX12_of x1 (2 : Int32) M).bind fun v4 =>
  (fX12_sum (2 : Int32) M).bind fun v6 =>
  (fX12_of x1 (1 : Int32) M).bind fun v8 =>
  some ((v2.toInt64 * v4.toInt64) - (v6.toInt64 * v8.toInt64))

def rX12_dueOf : Room := { frames := 2, cells := 0, slots := 0, locals := 45 }
set_option maxRecDepth 100000 in
set_option maxHeartbeats 4000000 in
theorem c_X12_dueOf (l : Launch) (G : Gx) (n0 : Nat) {x1 : Int32} {M : Mem} {r : Int64} (hf : fX12_dueOf x1 M = some r) : Ct l yX12_dueOf cX12_dueOf 2 (some .long) rX12_dueOf G n0 [.ref (n0 + 178), .int x1] M (some (.long r)) M := by
  refine ct_long (cc := cX12_dueOf) (maxL := 2) rfl (Nat.le_of_ble_eq_true rfl) ?_
  intro K C hret
  have C : Ok K l rX12_dueOf cX12_dueOf RX12 G n0 2 := C
  show J K M 0 [(0, .ref (n0 + 178)), (1, .int x1)] []
  unfold fX12_dueOf at hf
  refine j_aload_n C 0 dX12_dueOf_0 rfl rfl ?_
  refine j_iconst C (1 : Int32) rfl dX12_dueOf_1 ?_
  obtain ⟨v2, e1, hf⟩ := bd hf
  refine j_callV C 1 lc178 (ent_K _ _ _ _ _ _) rfl (c_X12_sum l G n0 e1) gv_RX12_76 ⟨rfl, rfl⟩ (by decide +kernel) ⟨Nat.le_of_ble_eq_true rfl, Nat.le_of_ble_eq_true rfl⟩ rfl rfl (Nat.le_of_ble_eq_true rfl) dX12_dueOf_2 ?_
  refine j_i2l C dX12_dueOf_5 ?_
  refine j_aload_n C 0 dX12_dueOf_6 rfl rfl ?_
  refine j_iload_n C 1 dX12_dueOf_7 rfl rfl ?_
  refine j_iconst C (2 : Int32) rfl dX12_dueOf_8 ?_
  obtain ⟨v4, e3, hf⟩ := bd hf
  refine j_callV C 2 lc178 (ent_K _ _ _ _ _ _) rfl (c_X12_of l G n0 e3) gv_RX12_44 ⟨rfl, rfl⟩ (by decide +kernel) ⟨Nat.le_of_ble_eq_true rfl, Nat.le_of_ble_eq_true rfl⟩ rfl rfl (Nat.le_of_ble_eq_true rfl) dX12_dueOf_9 ?_
  refine j_i2l C dX12_dueOf_12 ?_
  refine j_lmul C dX12_dueOf_13 ?_
  refine j_aload_n C 0 dX12_dueOf_14 rfl rfl ?_
  refine j_iconst C (2 : Int32) rfl dX12_dueOf_15 ?_
  obtain ⟨v6, e5, hf⟩ := bd hf
  refine j_callV C 1 lc178 (ent_K _ _ _ _ _ _) rfl (c_X12_sum l G n0 e5) gv_RX12_76 ⟨rfl, rfl⟩ (by decide +kernel) ⟨Nat.le_of_ble_eq_true rfl, Nat.le_of_ble_eq_true rfl⟩ rfl rfl (Nat.le_of_ble_eq_true rfl) dX12_dueOf_16 ?_
  refine j_i2l C dX12_dueOf_19 ?_
  refine j_aload_n C 0 dX12_dueOf_20 rfl rfl ?_
  refine j_iload_n C 1 dX12_dueOf_21 rfl rfl ?_
  refine j_iconst C (1 : Int32) rfl dX12_dueOf_22 ?_
  obtain ⟨v8, e7, hf⟩ := bd hf
  refine j_callV C 2 lc178 (ent_K _ _ _ _ _ _) rfl (c_X12_of l G n0 e7) gv_RX12_44 ⟨rfl, rfl⟩ (by decide +kernel) ⟨Nat.le_of_ble_eq_true rfl, Nat.le_of_ble_eq_true rfl⟩ rfl rfl (Nat.le_of_ble_eq_true rfl) dX12_dueOf_23 ?_
  refine j_i2l C dX12_dueOf_26 ?_
  refine j_lmul C dX12_dueOf_27 ?_
  refine j_lsub C dX12_dueOf_28 ?_
  obtain rfl := Option.some.inj hf
  exact hret _ _ dX12_dueOf_29
def lX12_next_23 (M : Mem) (z7 : Bool) : Nat → Int32 → Int32 → Option Int32
  | 0, _, _ => none
  | n + 1, a8, a9 =>
  (ald (M.1 179) 1601 (0 : Int32)).bind fun v10 =>
  if v10 ≤ a9 then (some a8)
  else (if z7 = true then (if a8 = (-1 : Int32) then (lX12_next_23 M z7 n a9 (a9 + 1))
  else ((fX12_dueOf a9 M).bind fun v17 =>
  (fX12_dueOf a8 M).bind fun v19 =>
  if v17 ≤ v19 then (lX12_next_23 M z7 n a8 (a9 + 1))
  else (lX12_next_23 M z7 n a9 (a9 + 1))))
  else ((fX12_of a9 (3 : Int32) M).bind fun v22 =>
  if v22 = 0 then (if a8 = (-1 : Int32) then (lX12_next_23 M z7 n a9 (a9 + 1))
  else ((fX12_dueOf a9 M).bind fun v26 =>
  (fX12_dueOf a8 M).bind fun v28 =>
  if v26 ≤ v28 then (lX12_next_23 M z7 n a8 (a9 + 1))
  else (lX12_next_23 M z7 n a9 (a9 + 1))))
  else (lX12_next_23 M z7 n a8 (a9 + 1))))

def fX12_next  (M : Mem) : Option Int32 :=
  (fX12_excused M).bind fun v2 =>
  (ald (M.1 179) 1601 (0 : Int32)).bind fun v3 =>
  (if v2 = v3 then (some true)
  else (some false)).bind (fun z7 => (lX12_next_23 M z7 FUEL (-1 : Int32) (0 : Int32)).bind (fun a30 => some a30))

def rX12_next : Room := { frames := 3, cells := 0, slots := 0, locals := 66 }
set_option maxRecDepth 100000 in
set_option maxHeartbeats 4000000 in
theorem c_X12_next (l : Launch) (G : Gx) (n0 : Nat) {M : Mem} {r : Int32} (hf : fX12_next M = some r) : Ct l yX12_next cX12_next 4 (some .int) rX12_next G n0 [.ref (n0 + 178)] M (some (.int r)) M := by
  refine ct_int (cc := cX12_next) (maxL := 4) rfl (Nat.le_of_ble_eq_true rfl) ?_
  intro K C hret
  have C : Ok K l rX12_next cX12_next RX12 G n0 4 := C
  show J K M 0 [(0, .ref (n0 + 178))] []
  unfold fX12_next at hf
  refine j_aload_n C 0 dX12_next_0 rfl rfl ?_
  obtain ⟨v2, e1, hf⟩ := bd hf
  refine j_callV C 0 lc178 (ent_K _ _ _ _ _ _) rfl (c_X12_excused l G n0 e1) gv_RX12_72 ⟨rfl, rfl⟩ (by decide +kernel) ⟨Nat.le_of_ble_eq_true rfl, Nat.le_of_ble_eq_true rfl⟩ rfl rfl (Nat.le_of_ble_eq_true rfl) dX12_next_1 ?_
  refine j_aload_n C 0 dX12_next_4 rfl rfl ?_
  refine g_X12_now C tw5_182 lc178 179 rfl dX12_next_5 ?_
  refine j_iconst C (0 : Int32) rfl dX12_next_8 ?_
  obtain ⟨v3, e4, hf⟩ := bd hf
  obtain ⟨hx5, e4⟩ := ald_some e4
  refine j_iald C lc179 hx5 e4 dX12_next_9 ?_
  obtain ⟨z7, e31, hf⟩ := bd hf
  have hj32 : J K M 18 [(0, .ref (n0 + 178))] [.int (bI z7)] := by
    refine j_istore_n C [(1, .int (bI z7)), (0, .ref (n0 + 178))] dX12_next_18 rfl (Nat.le_of_ble_eq_true rfl) rfl ?_
    refine j_iconst C (-1 : Int32) rfl dX12_next_19 ?_
    refine j_istore_n C [(2, .int (-1 : Int32)), (1, .int (bI z7)), (0, .ref (n0 + 178))] dX12_next_20 rfl (Nat.le_of_ble_eq_true rfl) rfl ?_
    refine j_iconst C (0 : Int32) rfl dX12_next_21 ?_
    refine j_istore_n C [(3, .int (0 : Int32)), (2, .int (-1 : Int32)), (1, .int (bI z7)), (0, .ref (n0 + 178))] dX12_next_22 rfl (Nat.le_of_ble_eq_true rfl) rfl ?_
    obtain ⟨a30, e33, hf⟩ := bd hf
    have hx34 : J K M 73 [(2, .int a30)] [] := by
      refine j_iload_n C 0 dX12_next_73 rfl rfl ?_
      obtain rfl := Option.some.inj hf
      exact hret _ _ dX12_next_74
    clear hf
    have hl35 : ∀ (n : Nat) (a8 : Int32) (a9 : Int32), lX12_next_23 M z7 n a8 a9 = some a30 → J K M 23 [(0, .ref (n0 + 178)), (1, .int (bI z7)), (2, .int a8), (3, .int a9)] [] := by
      intro n
      induction n with
      | zero =>
        intro a8 a9 hf
        exact absurd hf (by rw [lX12_next_23]; exact fun h => by cases h)
      | succ n ih =>
        intro a8 a9 hf
        rw [lX12_next_23] at hf
        refine j_iload_n C 3 dX12_next_23 rfl rfl ?_
        refine j_aload_n C 0 dX12_next_24 rfl rfl ?_
        refine g_X12_now C tw5_182 lc178 179 rfl dX12_next_25 ?_
        refine j_iconst C (0 : Int32) rfl dX12_next_28 ?_
        obtain ⟨v10, e11, hf⟩ := bd hf
        obtain ⟨hx12, e11⟩ := ald_some e11
        refine j_iald C lc179 hx12 e11 dX12_next_29 ?_
        refine j_icmp_ge C 73 dX12_next_30 (by decide) (fun c13 => ?_) (fun c13 => ?_)
        · replace hf := ip c13 hf
          refine j_sub [2] rfl ?_
          cases hf
          exact hx34
        · replace hf := ine c13 hf
          refine j_iload_n C 1 dX12_next_33 rfl rfl ?_
          refine j_ifz_ne C 46 dX12_next_34 (by decide) (fun c14 => ?_) (fun c14 => ?_)
          · replace hf := ip c14 hf
            refine j_iload_n C 2 dX12_next_46 rfl rfl ?_
            refine j_iconst C (-1 : Int32) rfl dX12_next_47 ?_
            refine j_icmp_eq C 65 dX12_next_48 (by decide) (fun c15 => ?_) (fun c15 => ?_)
            · replace hf := ip c15 hf
              refine j_iload_n C 3 dX12_next_65 rfl rfl ?_
              refine j_istore_n C [(2, .int a9), (0, .ref (n0 + 178)), (1, .int (bI z7)), (3, .int a9)] dX12_next_66 rfl (Nat.le_of_ble_eq_true rfl) rfl ?_
              refine j_iinc C 3 (a9 + 1) [(3, .int (a9 + 1)), (2, .int a9), (0, .ref (n0 + 178)), (1, .int (bI z7))] dX12_next_67 rfl rfl (Nat.le_of_ble_eq_true rfl) rfl ?_
              refine j_goto C 23 dX12_next_70 (by decide) ?_
              refine j_sub [2, 3, 1, 0] rfl ?_
              exact ih _ _ hf
            · replace hf := ine c15 hf
              refine j_aload_n C 0 dX12_next_51 rfl rfl ?_
              refine j_iload_n C 3 dX12_next_52 rfl rfl ?_
              obtain ⟨v17, e16, hf⟩ := bd hf
              refine j_callV C 1 lc178 (ent_K _ _ _ _ _ _) rfl (c_X12_dueOf l G n0 e16) gv_RX12_79 ⟨rfl, rfl⟩ (by decide +kernel) ⟨Nat.le_of_ble_eq_true rfl, Nat.le_of_ble_eq_true rfl⟩ rfl rfl (Nat.le_of_ble_eq_true rfl) dX12_next_53 ?_
              refine j_aload_n C 0 dX12_next_56 rfl rfl ?_
              refine j_iload_n C 2 dX12_next_57 rfl rfl ?_
              obtain ⟨v19, e18, hf⟩ := bd hf
              refine j_callV C 1 lc178 (ent_K _ _ _ _ _ _) rfl (c_X12_dueOf l G n0 e18) gv_RX12_79 ⟨rfl, rfl⟩ (by decide +kernel) ⟨Nat.le_of_ble_eq_true rfl, Nat.le_of_ble_eq_true rfl⟩ rfl rfl (Nat.le_of_ble_eq_true rfl) dX12_next_58 ?_
              refine j_lcmp C dX12_next_61 ?_
              refine j_iflc_le C 67 dX12_next_62 (by decide) (fun c20 => ?_) (fun c20 => ?_)
              · replace hf := ip c20 hf
                refine j_iinc C 3 (a9 + 1) [(3, .int (a9 + 1)), (0, .ref (n0 + 178)), (1, .int (bI z7)), (2, .int a8)] dX12_next_67 rfl rfl (Nat.le_of_ble_eq_true rfl) rfl ?_
                refine j_goto C 23 dX12_next_70 (by decide) ?_
                refine j_sub [1, 2, 3, 0] rfl ?_
                exact ih _ _ hf
              · replace hf := ine c20 hf
                refine j_iload_n C 3 dX12_next_65 rfl rfl ?_
                refine j_istore_n C [(2, .int a9), (0, .ref (n0 + 178)), (1, .int (bI z7)), (3, .int a9)] dX12_next_66 rfl (Nat.le_of_ble_eq_true rfl) rfl ?_
                refine j_iinc C 3 (a9 + 1) [(3, .int (a9 + 1)), (2, .int a9), (0, .ref (n0 + 178)), (1, .int (bI z7))] dX12_next_67 rfl rfl (Nat.le_of_ble_eq_true rfl) rfl ?_
                refine j_goto C 23 dX12_next_70 (by decide) ?_
                refine j_sub [2, 3, 1, 0] rfl ?_
                exact ih _ _ hf
          · replace hf := ine c14 hf
            refine j_aload_n C 0 dX12_next_37 rfl rfl ?_
            refine j_iload_n C 3 dX12_next_38 rfl rfl ?_
            refine j_iconst C (3 : Int32) rfl dX12_next_39 ?_
            obtain ⟨v22, e21, hf⟩ := bd hf
            refine j_callV C 2 lc178 (ent_K _ _ _ _ _ _) rfl (c_X12_of l G n0 e21) gv_RX12_44 ⟨rfl, rfl⟩ (by decide +kernel) ⟨Nat.le_of_ble_eq_true rfl, Nat.le_of_ble_eq_true rfl⟩ rfl rfl (Nat.le_of_ble_eq_true rfl) dX12_next_40 ?_
            refine j_if_ne C 67 dX12_next_43 (by decide) (fun c23 => ?_) (fun c23 => ?_)
            · replace hf := ine c23 hf
              refine j_iinc C 3 (a9 + 1) [(3, .int (a9 + 1)), (0, .ref (n0 + 178)), (1, .int (bI z7)), (2, .int a8)] dX12_next_67 rfl rfl (Nat.le_of_ble_eq_true rfl) rfl ?_
              refine j_goto C 23 dX12_next_70 (by decide) ?_
              refine j_sub [1, 2, 3, 0] rfl ?_
              exact ih _ _ hf
            · replace hf := ip c23 hf
              refine j_iload_n C 2 dX12_next_46 rfl rfl ?_
              refine j_iconst C (-1 : Int32) rfl dX12_next_47 ?_
              refine j_icmp_eq C 65 dX12_next_48 (by decide) (fun c24 => ?_) (fun c24 => ?_)
              · replace hf := ip c24 hf
                refine j_iload_n C 3 dX12_next_65 rfl rfl ?_
                refine j_istore_n C [(2, .int a9), (0, .ref (n0 + 178)), (1, .int (bI z7)), (3, .int a9)] dX12_next_66 rfl (Nat.le_of_ble_eq_true rfl) rfl ?_
                refine j_iinc C 3 (a9 + 1) [(3, .int (a9 + 1)), (2, .int a9), (0, .ref (n0 + 178)), (1, .int (bI z7))] dX12_next_67 rfl rfl (Nat.le_of_ble_eq_true rfl) rfl ?_
                refine j_goto C 23 dX12_next_70 (by decide) ?_
                refine j_sub [2, 3, 1, 0] rfl ?_
                exact ih _ _ hf
              · replace hf := ine c24 hf
                refine j_aload_n C 0 dX12_next_51 rfl rfl ?_
                refine j_iload_n C 3 dX12_next_52 rfl rfl ?_
                obtain ⟨v26, e25, hf⟩ := bd hf
                refine j_callV C 1 lc178 (ent_K _ _ _ _ _ _) rfl (c_X12_dueOf l G n0 e25) gv_RX12_79 ⟨rfl, rfl⟩ (by decide +kernel) ⟨Nat.le_of_ble_eq_true rfl, Nat.le_of_ble_eq_true rfl⟩ rfl rfl (Nat.le_of_ble_eq_true rfl) dX12_next_53 ?_
                refine j_aload_n C 0 dX12_next_56 rfl rfl ?_
                refine j_iload_n C 2 dX12_next_57 rfl rfl ?_
                obtain ⟨v28, e27, hf⟩ := bd hf
                refine j_callV C 1 lc178 (ent_K _ _ _ _ _ _) rfl (c_X12_dueOf l G n0 e27) gv_RX12_79 ⟨rfl, rfl⟩ (by decide +kernel) ⟨Nat.le_of_ble_eq_true rfl, Nat.le_of_ble_eq_true rfl⟩ rfl rfl (Nat.le_of_ble_eq_true rfl) dX12_next_58 ?_
                refine j_lcmp C dX12_next_61 ?_
                refine j_iflc_le C 67 dX12_next_62 (by decide) (fun c29 => ?_) (fun c29 => ?_)
                · replace hf := ip c29 hf
                  refine j_iinc C 3 (a9 + 1) [(3, .int (a9 + 1)), (0, .ref (n0 + 178)), (1, .int (bI z7)), (2, .int a8)] dX12_next_67 rfl rfl (Nat.le_of_ble_eq_true rfl) rfl ?_
                  refine j_goto C 23 dX12_next_70 (by decide) ?_
                  refine j_sub [1, 2, 3, 0] rfl ?_
                  exact ih _ _ hf
                · replace hf := ine c29 hf
                  refine j_iload_n C 3 dX12_next_65 rfl rfl ?_
                  refine j_istore_n C [(2, .int a9), (0, .ref (n0 + 178)), (1, .int (bI z7)), (3, .int a9)] dX12_next_66 rfl (Nat.le_of_ble_eq_true rfl) rfl ?_
                  refine j_iinc C 3 (a9 + 1) [(3, .int (a9 + 1)), (2, .int a9), (0, .ref (n0 + 178)), (1, .int (bI z7))] dX12_next_67 rfl rfl (Nat.le_of_ble_eq_true rfl) rfl ?_
                  refine j_goto C 23 dX12_next_70 (by decide) ?_
                  refine j_sub [2, 3, 1, 0] rfl ?_
                  exact ih _ _ hf
    refine j_sub [3, 2, 1, 0] rfl ?_
    exact hl35 FUEL (-1 : Int32) (0 : Int32) e33
  clear hf
  have hf := e31
  refine j_icmp_ne C 17 dX12_next_10 (by decide) (fun c6 => ?_) (fun c6 => ?_)
  · replace hf := ine c6 hf
    refine j_iconst C (0 : Int32) rfl dX12_next_17 ?_
    cases hf
    refine j_sub [0] rfl ?_
    exact hj32
  · replace hf := ip c6 hf
    refine j_iconst C (1 : Int32) rfl dX12_next_13 ?_
    refine j_goto C 18 dX12_next_14 (by decide) ?_
    cases hf
    refine j_sub [0] rfl ?_
    exact hj32
def fX12_badBatch (x1 : Int32) (x2 : Int32) (x3 : Int32) (M : Mem) : Option Int32 :=
  (fX12_isHouse x1 M).bind fun b2 =>
  if b2 = true then ((fX12_in x2 (0 : Int32) (2 : Int32)).bind fun b5 =>
  if b5 = true then ((fX12_in x3 (1 : Int32) (12 : Int32)).bind fun b8 =>
  if b8 = true then ((ald (M.1 179) 1601 (7 : Int32)).bind fun v10 =>
  if v10 = (20 : Int32) then (some (3 : Int32))
  else (some (0 : Int32)))
  else (some (2 : Int32)))
  else (some (2 : Int32)))
  else (some (1 : Int32))

def rX12_badBatch : Room := { frames := 2, cells := 0, slots := 0, locals := 43 }
set_option maxRecDepth 100000 in
set_option maxHeartbeats 4000000 in
theorem c_X12_badBatch (l : Launch) (G : Gx) (n0 : Nat) {x1 : Int32} {x2 : Int32} {x3 : Int32} {M : Mem} {r : Int32} (hf : fX12_badBatch x1 x2 x3 M = some r) : Ct l yX12_badBatch cX12_badBatch 4 (some .int) rX12_badBatch G n0 [.ref (n0 + 178), .int x1, .int x2, .int x3] M (some (.int r)) M := by
  refine ct_int (cc := cX12_badBatch) (maxL := 4) rfl (Nat.le_of_ble_eq_true rfl) ?_
  intro K C hret
  have C : Ok K l rX12_badBatch cX12_badBatch RX12 G n0 4 := C
  show J K M 0 [(0, .ref (n0 + 178)), (1, .int x1), (2, .int x2), (3, .int x3)] []
  unfold fX12_badBatch at hf
  refine j_aload_n C 0 dX12_badBatch_0 rfl rfl ?_
  refine j_iload_n C 1 dX12_badBatch_1 rfl rfl ?_
  obtain ⟨b2, e1, hf⟩ := bd hf
  refine j_callV C 1 lc178 (ent_K _ _ _ _ _ _) rfl (c_X12_isHouse l G n0 e1) gv_RX12_69 ⟨rfl, rfl⟩ (by decide +kernel) ⟨Nat.le_of_ble_eq_true rfl, Nat.le_of_ble_eq_true rfl⟩ rfl rfl (Nat.le_of_ble_eq_true rfl) dX12_badBatch_2 ?_
  refine j_ifz_ne C 12 dX12_badBatch_5 (by decide) (fun c3 => ?_) (fun c3 => ?_)
  · replace hf := ip c3 hf
    refine j_iload_n C 2 dX12_badBatch_12 rfl rfl ?_
    refine j_iconst C (0 : Int32) rfl dX12_badBatch_13 ?_
    refine j_iconst C (2 : Int32) rfl dX12_badBatch_14 ?_
    obtain ⟨b5, e4, hf⟩ := bd hf
    refine j_callS C 3 (c_X12_in l G n0 (M := M) e4) gs_RX12_39 ⟨rfl, rfl⟩ (by decide +kernel) ⟨Nat.le_of_ble_eq_true rfl, Nat.le_of_ble_eq_true rfl⟩ rfl rfl (Nat.le_of_ble_eq_true rfl) dX12_badBatch_15 ?_
    refine j_ifz_eq C 31 dX12_badBatch_18 (by decide) (fun c6 => ?_) (fun c6 => ?_)
    · replace hf := ine c6 hf
      refine j_iconst C (2 : Int32) rfl dX12_badBatch_31 ?_
      refine j_goto C 52 dX12_badBatch_32 (by decide) ?_
      obtain rfl := Option.some.inj hf
      exact hret _ _ dX12_badBatch_52
    · replace hf := ip c6 hf
      refine j_iload_n C 3 dX12_badBatch_21 rfl rfl ?_
      refine j_iconst C (1 : Int32) rfl dX12_badBatch_22 ?_
      refine j_bipush C (12 : Int32) rfl dX12_badBatch_23 ?_
      obtain ⟨b8, e7, hf⟩ := bd hf
      refine j_callS C 3 (c_X12_in l G n0 (M := M) e7) gs_RX12_39 ⟨rfl, rfl⟩ (by decide +kernel) ⟨Nat.le_of_ble_eq_true rfl, Nat.le_of_ble_eq_true rfl⟩ rfl rfl (Nat.le_of_ble_eq_true rfl) dX12_badBatch_25 ?_
      refine j_ifz_ne C 35 dX12_badBatch_28 (by decide) (fun c9 => ?_) (fun c9 => ?_)
      · replace hf := ip c9 hf
        refine j_aload_n C 0 dX12_badBatch_35 rfl rfl ?_
        refine g_X12_now C tw5_182 lc178 179 rfl dX12_badBatch_36 ?_
        refine j_bipush C (7 : Int32) rfl dX12_badBatch_39 ?_
        obtain ⟨v10, e11, hf⟩ := bd hf
        obtain ⟨hx12, e11⟩ := ald_some e11
        refine j_iald C lc179 hx12 e11 dX12_badBatch_41 ?_
        refine j_bipush C (20 : Int32) rfl dX12_badBatch_42 ?_
        refine j_icmp_ne C 51 dX12_badBatch_44 (by decide) (fun c13 => ?_) (fun c13 => ?_)
        · replace hf := ine c13 hf
          refine j_iconst C (0 : Int32) rfl dX12_badBatch_51 ?_
          obtain rfl := Option.some.inj hf
          exact hret _ _ dX12_badBatch_52
        · replace hf := ip c13 hf
          refine j_iconst C (3 : Int32) rfl dX12_badBatch_47 ?_
          refine j_goto C 52 dX12_badBatch_48 (by decide) ?_
          obtain rfl := Option.some.inj hf
          exact hret _ _ dX12_badBatch_52
      · replace hf := ine c9 hf
        refine j_iconst C (2 : Int32) rfl dX12_badBatch_31 ?_
        refine j_goto C 52 dX12_badBatch_32 (by decide) ?_
        obtain rfl := Option.some.inj hf
        exact hret _ _ dX12_badBatch_52
  · replace hf := ine c3 hf
    refine j_iconst C (1 : Int32) rfl dX12_badBatch_8 ?_
    refine j_goto C 52 dX12_badBatch_9 (by decide) ?_
    obtain rfl := Option.some.inj hf
    exact hret _ _ dX12_badBatch_52
def fX12_brings (x1 : Int32) (x2 : Int32) (x3 : Int32) (M : Mem) : Option (Int32 × Mem) :=
  (ald (M.1 179) 1601 (7 : Int32)).bind fun v1 =>
  (ast M 179 1601 ((41 : Int32) + ((3 : Int32) * v1)) x1).bind fun M4 =>
  (ast M4 179 1601 (((41 : Int32) + ((3 : Int32) * v1)) + (1 : Int32)) x2).bind fun M7 =>
  (ast M7 179 1601 (((41 : Int32) + ((3 : Int32) * v1)) + (2 : Int32)) x3).bind fun M10 =>
  (ald (M10.1 179) 1601 (7 : Int32)).bind fun v13 =>
  (ast M10 179 1601 (7 : Int32) (v13 + (1 : Int32))).bind fun M16 =>
  (ald (M16.1 179) 1601 (7 : Int32)).bind fun v19 =>
  some ((v19 - (1 : Int32)), M16)

def rX12_brings : Room := { frames := 0, cells := 0, slots := 0, locals := 0 }
set_option maxRecDepth 100000 in
set_option maxHeartbeats 4000000 in
theorem c_X12_brings (l : Launch) (G : Gx) (n0 : Nat) {x1 : Int32} {x2 : Int32} {x3 : Int32} {M : Mem} {r : Int32} {M' : Mem} (hf : fX12_brings x1 x2 x3 M = some (r, M')) : Ct l yX12_brings cX12_brings 5 (some .int) rX12_brings G n0 [.ref (n0 + 178), .int x1, .int x2, .int x3] M (some (.int r)) M' := by
  refine ct_int (cc := cX12_brings) (maxL := 5) rfl (Nat.le_of_ble_eq_true rfl) ?_
  intro K C hret
  have C : Ok K l rX12_brings cX12_brings RX12 G n0 5 := C
  show J K M 0 [(0, .ref (n0 + 178)), (1, .int x1), (2, .int x2), (3, .int x3)] []
  unfold fX12_brings at hf
  refine j_bipush C (41 : Int32) rfl dX12_brings_0 ?_
  refine j_iconst C (3 : Int32) rfl dX12_brings_2 ?_
  refine j_aload_n C 0 dX12_brings_3 rfl rfl ?_
  refine g_X12_now C tw5_182 lc178 179 rfl dX12_brings_4 ?_
  refine j_bipush C (7 : Int32) rfl dX12_brings_7 ?_
  obtain ⟨v1, e2, hf⟩ := bd hf
  obtain ⟨hx3, e2⟩ := ald_some e2
  refine j_iald C lc179 hx3 e2 dX12_brings_9 ?_
  refine j_imul C dX12_brings_10 ?_
  refine j_iadd C dX12_brings_11 ?_
  refine j_istore C [(4, .int ((41 : Int32) + ((3 : Int32) * v1))), (0, .ref (n0 + 178)), (1, .int x1), (2, .int x2), (3, .int x3)] dX12_brings_12 (Nat.le_of_ble_eq_true rfl) rfl ?_
  refine j_aload_n C 1 dX12_brings_14 rfl rfl ?_
  refine g_X12_now C tw5_182 lc178 179 rfl dX12_brings_15 ?_
  refine j_iload C 0 dX12_brings_18 rfl ?_
  refine j_iload_n C 2 dX12_brings_20 rfl rfl ?_
  obtain ⟨M4, e5, hf⟩ := bd hf
  obtain ⟨hx6, e5⟩ := ast_some e5
  refine j_iast C lc179 hx6 e5 dX12_brings_21 ?_
  refine j_aload_n C 1 dX12_brings_22 rfl rfl ?_
  refine g_X12_now C tw5_182 lc178 179 rfl dX12_brings_23 ?_
  refine j_iload C 0 dX12_brings_26 rfl ?_
  refine j_iconst C (1 : Int32) rfl dX12_brings_28 ?_
  refine j_iadd C dX12_brings_29 ?_
  refine j_iload_n C 3 dX12_brings_30 rfl rfl ?_
  obtain ⟨M7, e8, hf⟩ := bd hf
  obtain ⟨hx9, e8⟩ := ast_some e8
  refine j_iast C lc179 hx9 e8 dX12_brings_31 ?_
  refine j_aload_n C 1 dX12_brings_32 rfl rfl ?_
  refine g_X12_now C tw5_182 lc178 179 rfl dX12_brings_33 ?_
  refine j_iload C 0 dX12_brings_36 rfl ?_
  refine j_iconst C (2 : Int32) rfl dX12_brings_38 ?_
  refine j_iadd C dX12_brings_39 ?_
  refine j_iload_n C 4 dX12_brings_40 rfl rfl ?_
  obtain ⟨M10, e11, hf⟩ := bd hf
  obtain ⟨hx12, e11⟩ := ast_some e11
  refine j_iast C lc179 hx12 e11 dX12_brings_41 ?_
  refine j_aload_n C 1 dX12_brings_42 rfl rfl ?_
  refine g_X12_now C tw5_182 lc178 179 rfl dX12_brings_43 ?_
  refine j_bipush C (7 : Int32) rfl dX12_brings_46 ?_
  refine j_dup2_11 C rfl rfl dX12_brings_48 ?_
  obtain ⟨v13, e14, hf⟩ := bd hf
  obtain ⟨hx15, e14⟩ := ald_some e14
  refine j_iald C lc179 hx15 e14 dX12_brings_49 ?_
  refine j_iconst C (1 : Int32) rfl dX12_brings_50 ?_
  refine j_iadd C dX12_brings_51 ?_
  obtain ⟨M16, e17, hf⟩ := bd hf
  obtain ⟨hx18, e17⟩ := ast_some e17
  refine j_iast C lc179 hx18 e17 dX12_brings_52 ?_
  refine j_aload_n C 1 dX12_brings_53 rfl rfl ?_
  refine g_X12_now C tw5_182 lc178 179 rfl dX12_brings_54 ?_
  refine j_bipush C (7 : Int32) rfl dX12_brings_57 ?_
  obtain ⟨v19, e20, hf⟩ := bd hf
  obtain ⟨hx21, e20⟩ := ald_some e20
  refine j_iald C lc179 hx21 e20 dX12_brings_59 ?_
  refine j_iconst C (1 : Int32) rfl dX12_brings_60 ?_
  refine j_isub C dX12_brings_61 ?_
  obtain ⟨rfl, rfl⟩ := Prod.mk.inj (Option.some.inj hf)
  exact hret _ _ dX12_brings_62
def fX12_bring (x1 : Int32) (x2 : Int32) (x3 : Int32) (M : Mem) : Option (Int32 × Mem) :=
  (fX12_badBatch x1 x2 x3 M).bind fun v2 =>
  (fX12_refused v2 M).bind (un2 fun b4 M5 =>
  if b4 = true then (some ((0 : Int32), M5))
  else ((fX12_saves M5).bind fun M8 =>
  (fX12_brings x1 x2 x3 M8).bind (un2 fun v10 M11 =>
  some (v10, M11))))

def rX12_bring : Room := { frames := 3, cells := 0, slots := 0, locals := 66 }
set_option maxRecDepth 100000 in
set_option maxHeartbeats 4000000 in
theorem c_X12_bring (l : Launch) (G : Gx) (n0 : Nat) {x1 : Int32} {x2 : Int32} {x3 : Int32} {M : Mem} {r : Int32} {M' : Mem} (hf : fX12_bring x1 x2 x3 M = some (r, M')) : Ct l yX12_bring cX12_bring 4 (some .int) rX12_bring G n0 [.ref (n0 + 178), .int x1, .int x2, .int x3] M (some (.int r)) M' := by
  refine ct_int (cc := cX12_bring) (maxL := 4) rfl (Nat.le_of_ble_eq_true rfl) ?_
  intro K C hret
  have C : Ok K l rX12_bring cX12_bring RX12 G n0 4 := C
  show J K M 0 [(0, .ref (n0 + 178)), (1, .int x1), (2, .int x2), (3, .int x3)] []
  unfold fX12_bring at hf
  refine j_aload_n C 0 dX12_bring_0 rfl rfl ?_
  refine j_aload_n C 0 dX12_bring_1 rfl rfl ?_
  refine j_iload_n C 1 dX12_bring_2 rfl rfl ?_
  refine j_iload_n C 2 dX12_bring_3 rfl rfl ?_
  refine j_iload_n C 3 dX12_bring_4 rfl rfl ?_
  obtain ⟨v2, e1, hf⟩ := bd hf
  refine j_callV C 3 lc178 (ent_K _ _ _ _ _ _) rfl (c_X12_badBatch l G n0 e1) gv_RX12_83 ⟨rfl, rfl⟩ (by decide +kernel) ⟨Nat.le_of_ble_eq_true rfl, Nat.le_of_ble_eq_true rfl⟩ rfl rfl (Nat.le_of_ble_eq_true rfl) dX12_bring_5 ?_
  obtain ⟨⟨b4, M5⟩, e3, hf⟩ := bd hf
  replace hf := un2e hf
  refine j_callV C 1 lc178 (ent_K _ _ _ _ _ _) rfl (c_X12_refused l G n0 e3) gv_RX12_35 ⟨rfl, rfl⟩ (by decide +kernel) ⟨Nat.le_of_ble_eq_true rfl, Nat.le_of_ble_eq_true rfl⟩ rfl rfl (Nat.le_of_ble_eq_true rfl) dX12_bring_8 ?_
  refine j_ifz_eq C 16 dX12_bring_11 (by decide) (fun c6 => ?_) (fun c6 => ?_)
  · replace hf := ine c6 hf
    refine j_aload_n C 0 dX12_bring_16 rfl rfl ?_
    obtain ⟨M8, e7, hf⟩ := bd hf
    refine j_callV C 0 lc178 (ent_K _ _ _ _ _ _) rfl (c_X12_saves l G n0 e7) gv_RX12_63 ⟨rfl, rfl⟩ (by decide +kernel) ⟨Nat.le_of_ble_eq_true rfl, Nat.le_of_ble_eq_true rfl⟩ rfl rfl (Nat.le_of_ble_eq_true rfl) dX12_bring_17 ?_
    refine j_aload_n C 0 dX12_bring_20 rfl rfl ?_
    refine j_iload_n C 1 dX12_bring_21 rfl rfl ?_
    refine j_iload_n C 2 dX12_bring_22 rfl rfl ?_
    refine j_iload_n C 3 dX12_bring_23 rfl rfl ?_
    obtain ⟨⟨v10, M11⟩, e9, hf⟩ := bd hf
    replace hf := un2e hf
    refine j_callV C 3 lc178 (ent_K _ _ _ _ _ _) rfl (c_X12_brings l G n0 e9) gv_RX12_87 ⟨rfl, rfl⟩ (by decide +kernel) ⟨Nat.le_of_ble_eq_true rfl, Nat.le_of_ble_eq_true rfl⟩ rfl rfl (Nat.le_of_ble_eq_true rfl) dX12_bring_24 ?_
    obtain ⟨rfl, rfl⟩ := Prod.mk.inj (Option.some.inj hf)
    exact hret _ _ dX12_bring_27
  · replace hf := ip c6 hf
    refine j_iconst C (0 : Int32) rfl dX12_bring_14 ?_
    obtain ⟨rfl, rfl⟩ := Prod.mk.inj (Option.some.inj hf)
    exact hret _ _ dX12_bring_15
def lX12_dropsBatch_18  : Nat → Int32 → Mem → Option Mem
  | 0, _, _ => none
  | n + 1, a7, M8 =>
  (ald (M8.1 179) 1601 (7 : Int32)).bind fun v9 =>
  if ((41 : Int32) + ((3 : Int32) * v9)) ≤ a7 then (some M8)
  else ((ald (M8.1 179) 1601 (a7 + (3 : Int32))).bind fun v13 =>
  (ast M8 179 1601 a7 v13).bind fun M16 =>
  lX12_dropsBatch_18  n (a7 + 1) M16)

def fX12_dropsBatch (x1 : Int32) (M : Mem) : Option Mem :=
  (ald (M.1 179) 1601 (7 : Int32)).bind fun v1 =>
  (ast M 179 1601 (7 : Int32) (v1 - (1 : Int32))).bind fun M4 =>
  (lX12_dropsBatch_18 FUEL ((41 : Int32) + ((3 : Int32) * x1)) M4).bind (fun M19 => some M19)

def rX12_dropsBatch : Room := { frames := 0, cells := 0, slots := 0, locals := 0 }
set_option maxRecDepth 100000 in
set_option maxHeartbeats 4000000 in
theorem c_X12_dropsBatch (l : Launch) (G : Gx) (n0 : Nat) {x1 : Int32} {M : Mem} {M' : Mem} (hf : fX12_dropsBatch x1 M = some M') : Ct l yX12_dropsBatch cX12_dropsBatch 3 none rX12_dropsBatch G n0 [.ref (n0 + 178), .int x1] M none M' := by
  refine ct_void (cc := cX12_dropsBatch) (maxL := 3) rfl (Nat.le_of_ble_eq_true rfl) ?_
  intro K C hret
  have C : Ok K l rX12_dropsBatch cX12_dropsBatch RX12 G n0 3 := C
  show J K M 0 [(0, .ref (n0 + 178)), (1, .int x1)] []
  unfold fX12_dropsBatch at hf
  refine j_aload_n C 0 dX12_dropsBatch_0 rfl rfl ?_
  refine g_X12_now C tw5_182 lc178 179 rfl dX12_dropsBatch_1 ?_
  refine j_bipush C (7 : Int32) rfl dX12_dropsBatch_4 ?_
  refine j_dup2_11 C rfl rfl dX12_dropsBatch_6 ?_
  obtain ⟨v1, e2, hf⟩ := bd hf
  obtain ⟨hx3, e2⟩ := ald_some e2
  refine j_iald C lc179 hx3 e2 dX12_dropsBatch_7 ?_
  refine j_iconst C (1 : Int32) rfl dX12_dropsBatch_8 ?_
  refine j_isub C dX12_dropsBatch_9 ?_
  obtain ⟨M4, e5, hf⟩ := bd hf
  obtain ⟨hx6, e5⟩ := ast_some e5
  refine j_iast C lc179 hx6 e5 dX12_dropsBatch_10 ?_
  refine j_bipush C (41 : Int32) rfl dX12_dropsBatch_11 ?_
  refine j_iconst C (3 : Int32) rfl dX12_dropsBatch_13 ?_
  refine j_iload_n C 1 dX12_dropsBatch_14 rfl rfl ?_
  refine j_imul C dX12_dropsBatch_15 ?_
  refine j_iadd C dX12_dropsBatch_16 ?_
  refine j_istore_n C [(2, .int ((41 : Int32) + ((3 : Int32) * x1))), (0, .ref (n0 + 178)), (1, .int x1)] dX12_dropsBatch_17 rfl (Nat.le_of_ble_eq_true rfl) rfl ?_
  obtain ⟨M19, e20, hf⟩ := bd hf
  have hx21 : J K M19 54 [] [] := by
    obtain rfl := Option.some.inj hf
    exact hret _ _ dX12_dropsBatch_54
  clear hf
  have hl22 : ∀ (n : Nat) (a7 : Int32) (M8 : Mem), lX12_dropsBatch_18 n a7 M8 = some M19 → J K M8 18 [(0, .ref (n0 + 178)), (2, .int a7)] [] := by
    intro n
    induction n with
    | zero =>
      intro a7 M8 hf
      exact absurd hf (by rw [lX12_dropsBatch_18]; exact fun h => by cases h)
    | succ n ih =>
      intro a7 M8 hf
      rw [lX12_dropsBatch_18] at hf
      refine j_iload_n C 1 dX12_dropsBatch_18 rfl rfl ?_
      refine j_bipush C (41 : Int32) rfl dX12_dropsBatch_19 ?_
      refine j_iconst C (3 : Int32) rfl dX12_dropsBatch_21 ?_
      refine j_aload_n C 0 dX12_dropsBatch_22 rfl rfl ?_
      refine g_X12_now C tw5_182 lc178 179 rfl dX12_dropsBatch_23 ?_
      refine j_bipush C (7 : Int32) rfl dX12_dropsBatch_26 ?_
      obtain ⟨v9, e10, hf⟩ := bd hf
      obtain ⟨hx11, e10⟩ := ald_some e10
      refine j_iald C lc179 hx11 e10 dX12_dropsBatch_28 ?_
      refine j_imul C dX12_dropsBatch_29 ?_
      refine j_iadd C dX12_dropsBatch_30 ?_
      refine j_icmp_ge C 54 dX12_dropsBatch_31 (by decide) (fun c12 => ?_) (fun c12 => ?_)
      · replace hf := ip c12 hf
        refine j_sub [] rfl ?_
        cases hf
        exact hx21
      · replace hf := ine c12 hf
        refine j_aload_n C 0 dX12_dropsBatch_34 rfl rfl ?_
        refine g_X12_now C tw5_182 lc178 179 rfl dX12_dropsBatch_35 ?_
        refine j_iload_n C 1 dX12_dropsBatch_38 rfl rfl ?_
        refine j_aload_n C 0 dX12_dropsBatch_39 rfl rfl ?_
        refine g_X12_now C tw5_182 lc178 179 rfl dX12_dropsBatch_40 ?_
        refine j_iload_n C 1 dX12_dropsBatch_43 rfl rfl ?_
        refine j_iconst C (3 : Int32) rfl dX12_dropsBatch_44 ?_
        refine j_iadd C dX12_dropsBatch_45 ?_
        obtain ⟨v13, e14, hf⟩ := bd hf
        obtain ⟨hx15, e14⟩ := ald_some e14
        refine j_iald C lc179 hx15 e14 dX12_dropsBatch_46 ?_
        obtain ⟨M16, e17, hf⟩ := bd hf
        obtain ⟨hx18, e17⟩ := ast_some e17
        refine j_iast C lc179 hx18 e17 dX12_dropsBatch_47 ?_
        refine j_iinc C 1 (a7 + 1) [(2, .int (a7 + 1)), (0, .ref (n0 + 178))] dX12_dropsBatch_48 rfl rfl (Nat.le_of_ble_eq_true rfl) rfl ?_
        refine j_goto C 18 dX12_dropsBatch_51 (by decide) ?_
        refine j_sub [1, 0] rfl ?_
        exact ih _ _ hf
  refine j_sub [1, 0] rfl ?_
  exact hl22 FUEL ((41 : Int32) + ((3 : Int32) * x1)) M4 e20
def fX12_takeBack (x1 : Int32) (M : Mem) : Option (Int32 × Mem) :=
  (ald (M.1 179) 1601 (7 : Int32)).bind fun v1 =>
  (fX12_in x1 (0 : Int32) (v1 - (1 : Int32))).bind fun b5 =>
  (if b5 = true then (some (0 : Int32))
  else (some (1 : Int32))).bind (fun z7 => (fX12_refused z7 M).bind (un2 fun b9 M10 =>
  if b9 = true then (some ((0 : Int32), M10))
  else ((fX12_saves M10).bind fun M13 =>
  (ald (M13.1 179) 1601 (((41 : Int32) + ((3 : Int32) * x1)) + (2 : Int32))).bind fun v14 =>
  (fX12_dropsBatch x1 M13).bind fun M18 =>
  some (v14, M18))))

def rX12_takeBack : Room := { frames := 1, cells := 0, slots := 0, locals := 22 }
set_option maxRecDepth 100000 in
set_option maxHeartbeats 4000000 in
theorem c_X12_takeBack (l : Launch) (G : Gx) (n0 : Nat) {x1 : Int32} {M : Mem} {r : Int32} {M' : Mem} (hf : fX12_takeBack x1 M = some (r, M')) : Ct l yX12_takeBack cX12_takeBack 3 (some .int) rX12_takeBack G n0 [.ref (n0 + 178), .int x1] M (some (.int r)) M' := by
  refine ct_int (cc := cX12_takeBack) (maxL := 3) rfl (Nat.le_of_ble_eq_true rfl) ?_
  intro K C hret
  have C : Ok K l rX12_takeBack cX12_takeBack RX12 G n0 3 := C
  show J K M 0 [(0, .ref (n0 + 178)), (1, .int x1)] []
  unfold fX12_takeBack at hf
  refine j_aload_n C 0 dX12_takeBack_0 rfl rfl ?_
  refine j_iload_n C 1 dX12_takeBack_1 rfl rfl ?_
  refine j_iconst C (0 : Int32) rfl dX12_takeBack_2 ?_
  refine j_aload_n C 0 dX12_takeBack_3 rfl rfl ?_
  refine g_X12_now C tw5_182 lc178 179 rfl dX12_takeBack_4 ?_
  refine j_bipush C (7 : Int32) rfl dX12_takeBack_7 ?_
  obtain ⟨v1, e2, hf⟩ := bd hf
  obtain ⟨hx3, e2⟩ := ald_some e2
  refine j_iald C lc179 hx3 e2 dX12_takeBack_9 ?_
  refine j_iconst C (1 : Int32) rfl dX12_takeBack_10 ?_
  refine j_isub C dX12_takeBack_11 ?_
  obtain ⟨b5, e4, hf⟩ := bd hf
  refine j_callS C 3 (c_X12_in l G n0 (M := M) e4) gs_RX12_39 ⟨rfl, rfl⟩ (by decide +kernel) ⟨Nat.le_of_ble_eq_true rfl, Nat.le_of_ble_eq_true rfl⟩ rfl rfl (Nat.le_of_ble_eq_true rfl) dX12_takeBack_12 ?_
  obtain ⟨z7, e19, hf⟩ := bd hf
  have hj20 : J K M 23 [(0, .ref (n0 + 178)), (1, .int x1)] [.int z7, .ref (n0 + 178)] := by
    obtain ⟨⟨b9, M10⟩, e8, hf⟩ := bd hf
    replace hf := un2e hf
    refine j_callV C 1 lc178 (ent_K _ _ _ _ _ _) rfl (c_X12_refused l G n0 e8) gv_RX12_35 ⟨rfl, rfl⟩ (by decide +kernel) ⟨Nat.le_of_ble_eq_true rfl, Nat.le_of_ble_eq_true rfl⟩ rfl rfl (Nat.le_of_ble_eq_true rfl) dX12_takeBack_23 ?_
    refine j_ifz_eq C 31 dX12_takeBack_26 (by decide) (fun c11 => ?_) (fun c11 => ?_)
    · replace hf := ine c11 hf
      refine j_aload_n C 0 dX12_takeBack_31 rfl rfl ?_
      obtain ⟨M13, e12, hf⟩ := bd hf
      refine j_callV C 0 lc178 (ent_K _ _ _ _ _ _) rfl (c_X12_saves l G n0 e12) gv_RX12_63 ⟨rfl, rfl⟩ (by decide +kernel) ⟨Nat.le_of_ble_eq_true rfl, Nat.le_of_ble_eq_true rfl⟩ rfl rfl (Nat.le_of_ble_eq_true rfl) dX12_takeBack_32 ?_
      refine j_aload_n C 0 dX12_takeBack_35 rfl rfl ?_
      refine g_X12_now C tw5_182 lc178 179 rfl dX12_takeBack_36 ?_
      refine j_bipush C (41 : Int32) rfl dX12_takeBack_39 ?_
      refine j_iconst C (3 : Int32) rfl dX12_takeBack_41 ?_
      refine j_iload_n C 1 dX12_takeBack_42 rfl rfl ?_
      refine j_imul C dX12_takeBack_43 ?_
      refine j_iadd C dX12_takeBack_44 ?_
      refine j_iconst C (2 : Int32) rfl dX12_takeBack_45 ?_
      refine j_iadd C dX12_takeBack_46 ?_
      obtain ⟨v14, e15, hf⟩ := bd hf
      obtain ⟨hx16, e15⟩ := ald_some e15
      refine j_iald C lc179 hx16 e15 dX12_takeBack_47 ?_
      refine j_istore_n C [(2, .int v14), (0, .ref (n0 + 178)), (1, .int x1)] dX12_takeBack_48 rfl (Nat.le_of_ble_eq_true rfl) rfl ?_
      refine j_aload_n C 1 dX12_takeBack_49 rfl rfl ?_
      refine j_iload_n C 2 dX12_takeBack_50 rfl rfl ?_
      obtain ⟨M18, e17, hf⟩ := bd hf
      refine j_callV C 1 lc178 (ent_K _ _ _ _ _ _) rfl (c_X12_dropsBatch l G n0 e17) gv_RX12_90 ⟨rfl, rfl⟩ (by decide +kernel) ⟨Nat.le_of_ble_eq_true rfl, Nat.le_of_ble_eq_true rfl⟩ rfl rfl (Nat.le_of_ble_eq_true rfl) dX12_takeBack_51 ?_
      refine j_iload_n C 0 dX12_takeBack_54 rfl rfl ?_
      obtain ⟨rfl, rfl⟩ := Prod.mk.inj (Option.some.inj hf)
      exact hret _ _ dX12_takeBack_55
    · replace hf := ip c11 hf
      refine j_iconst C (0 : Int32) rfl dX12_takeBack_29 ?_
      obtain ⟨rfl, rfl⟩ := Prod.mk.inj (Option.some.inj hf)
      exact hret _ _ dX12_takeBack_30
  clear hf
  have hf := e19
  refine j_ifz_eq C 22 dX12_takeBack_15 (by decide) (fun c6 => ?_) (fun c6 => ?_)
  · replace hf := ine c6 hf
    refine j_iconst C (1 : Int32) rfl dX12_takeBack_22 ?_
    cases hf
    refine j_sub [0, 1] rfl ?_
    exact hj20
  · replace hf := ip c6 hf
    refine j_iconst C (0 : Int32) rfl dX12_takeBack_18 ?_
    refine j_goto C 23 dX12_takeBack_19 (by decide) ?_
    cases hf
    refine j_sub [0, 1] rfl ?_
    exact hj20
def fX12_setS (x1 : Int32) (M : Mem) : Option (Int32 × Mem) :=
  (if 0 ≤ x1 then (some (0 : Int32))
  else (some (1 : Int32))).bind (fun z2 => (fX12_refused z2 M).bind (un2 fun b4 M5 =>
  if b4 = true then (some ((0 : Int32), M5))
  else ((fX12_saves M5).bind fun M8 =>
  (ald (M8.1 179) 1601 (1 : Int32)).bind fun v9 =>
  (ast M8 179 1601 (1 : Int32) x1).bind fun M12 =>
  some (v9, M12))))

def rX12_setS : Room := { frames := 1, cells := 0, slots := 0, locals := 21 }
set_option maxRecDepth 100000 in
set_option maxHeartbeats 4000000 in
theorem c_X12_setS (l : Launch) (G : Gx) (n0 : Nat) {x1 : Int32} {M : Mem} {r : Int32} {M' : Mem} (hf : fX12_setS x1 M = some (r, M')) : Ct l yX12_setS cX12_setS 3 (some .int) rX12_setS G n0 [.ref (n0 + 178), .int x1] M (some (.int r)) M' := by
  refine ct_int (cc := cX12_setS) (maxL := 3) rfl (Nat.le_of_ble_eq_true rfl) ?_
  intro K C hret
  have C : Ok K l rX12_setS cX12_setS RX12 G n0 3 := C
  show J K M 0 [(0, .ref (n0 + 178)), (1, .int x1)] []
  unfold fX12_setS at hf
  refine j_aload_n C 0 dX12_setS_0 rfl rfl ?_
  refine j_iload_n C 1 dX12_setS_1 rfl rfl ?_
  obtain ⟨z2, e15, hf⟩ := bd hf
  have hj16 : J K M 10 [(0, .ref (n0 + 178)), (1, .int x1)] [.int z2, .ref (n0 + 178)] := by
    obtain ⟨⟨b4, M5⟩, e3, hf⟩ := bd hf
    replace hf := un2e hf
    refine j_callV C 1 lc178 (ent_K _ _ _ _ _ _) rfl (c_X12_refused l G n0 e3) gv_RX12_35 ⟨rfl, rfl⟩ (by decide +kernel) ⟨Nat.le_of_ble_eq_true rfl, Nat.le_of_ble_eq_true rfl⟩ rfl rfl (Nat.le_of_ble_eq_true rfl) dX12_setS_10 ?_
    refine j_ifz_eq C 18 dX12_setS_13 (by decide) (fun c6 => ?_) (fun c6 => ?_)
    · replace hf := ine c6 hf
      refine j_aload_n C 0 dX12_setS_18 rfl rfl ?_
      obtain ⟨M8, e7, hf⟩ := bd hf
      refine j_callV C 0 lc178 (ent_K _ _ _ _ _ _) rfl (c_X12_saves l G n0 e7) gv_RX12_63 ⟨rfl, rfl⟩ (by decide +kernel) ⟨Nat.le_of_ble_eq_true rfl, Nat.le_of_ble_eq_true rfl⟩ rfl rfl (Nat.le_of_ble_eq_true rfl) dX12_setS_19 ?_
      refine j_aload_n C 0 dX12_setS_22 rfl rfl ?_
      refine g_X12_now C tw5_182 lc178 179 rfl dX12_setS_23 ?_
      refine j_iconst C (1 : Int32) rfl dX12_setS_26 ?_
      obtain ⟨v9, e10, hf⟩ := bd hf
      obtain ⟨hx11, e10⟩ := ald_some e10
      refine j_iald C lc179 hx11 e10 dX12_setS_27 ?_
      refine j_istore_n C [(2, .int v9), (0, .ref (n0 + 178)), (1, .int x1)] dX12_setS_28 rfl (Nat.le_of_ble_eq_true rfl) rfl ?_
      refine j_aload_n C 1 dX12_setS_29 rfl rfl ?_
      refine g_X12_now C tw5_182 lc178 179 rfl dX12_setS_30 ?_
      refine j_iconst C (1 : Int32) rfl dX12_setS_33 ?_
      refine j_iload_n C 2 dX12_setS_34 rfl rfl ?_
      obtain ⟨M12, e13, hf⟩ := bd hf
      obtain ⟨hx14, e13⟩ := ast_some e13
      refine j_iast C lc179 hx14 e13 dX12_setS_35 ?_
      refine j_iload_n C 0 dX12_setS_36 rfl rfl ?_
      obtain ⟨rfl, rfl⟩ := Prod.mk.inj (Option.some.inj hf)
      exact hret _ _ dX12_setS_37
    · replace hf := ip c6 hf
      refine j_iconst C (0 : Int32) rfl dX12_setS_16 ?_
      obtain ⟨rfl, rfl⟩ := Prod.mk.inj (Option.some.inj hf)
      exact hret _ _ dX12_setS_17
  clear hf
  have hf := e15
  refine j_if_ge C 9 dX12_setS_2 (by decide) (fun c1 => ?_) (fun c1 => ?_)
  · replace hf := ip c1 hf
    refine j_iconst C (0 : Int32) rfl dX12_setS_9 ?_
    cases hf
    refine j_sub [0, 1] rfl ?_
    exact hj16
  · replace hf := ine c1 hf
    refine j_iconst C (1 : Int32) rfl dX12_setS_5 ?_
    refine j_goto C 10 dX12_setS_6 (by decide) ?_
    cases hf
    refine j_sub [0, 1] rfl ?_
    exact hj16
def fX12_draw (x1 : Int32) (M : Mem) : Option (Int32 × Mem) :=
  (ald (M.1 179) 1601 (1 : Int32)).bind fun v1 =>
  (ast M 179 1601 (1 : Int32) ((((1103515245 : Int64) * v1.toInt64) + (12345 : Int64)) - (((1103515245 : Int64) * v1.toInt64) + (12345 : Int64)) / (2147483648 : Int64) * (2147483648 : Int64)).toInt32).bind fun M4 =>
  (ald (M4.1 179) 1601 (1 : Int32)).bind fun v7 =>
  if x1 = 0 then none else
  some (((v7 / (65536 : Int32)) - (v7 / (65536 : Int32)) / x1 * x1), M4)

def rX12_draw : Room := { frames := 0, cells := 0, slots := 0, locals := 0 }
set_option maxRecDepth 100000 in
set_option maxHeartbeats 4000000 in
theorem c_X12_draw (l : Launch) (G : Gx) (n0 : Nat) {x1 : Int32} {M : Mem} {r : Int32} {M' : Mem} (hf : fX12_draw x1 M = some (r, M')) : Ct l yX12_draw cX12_draw 2 (some .int) rX12_draw G n0 [.ref (n0 + 178), .int x1] M (some (.int r)) M' := by
  refine ct_int (cc := cX12_draw) (maxL := 2) rfl (Nat.le_of_ble_eq_true rfl) ?_
  intro K C hret
  have C : Ok K l rX12_draw cX12_draw RX12 G n0 2 := C
  show J K M 0 [(0, .ref (n0 + 178)), (1, .int x1)] []
  unfold fX12_draw at hf
  refine j_aload_n C 0 dX12_draw_0 rfl rfl ?_
  refine g_X12_now C tw5_182 lc178 179 rfl dX12_draw_1 ?_
  refine j_iconst C (1 : Int32) rfl dX12_draw_4 ?_
  refine j_ldc2 C tw6_142 dX12_draw_5 ?_
  refine j_aload_n C 0 dX12_draw_8 rfl rfl ?_
  refine g_X12_now C tw5_182 lc178 179 rfl dX12_draw_9 ?_
  refine j_iconst C (1 : Int32) rfl dX12_draw_12 ?_
  obtain ⟨v1, e2, hf⟩ := bd hf
  obtain ⟨hx3, e2⟩ := ald_some e2
  refine j_iald C lc179 hx3 e2 dX12_draw_13 ?_
  refine j_i2l C dX12_draw_14 ?_
  refine j_lmul C dX12_draw_15 ?_
  refine j_ldc2 C tw6_143 dX12_draw_16 ?_
  refine j_ladd C dX12_draw_19 ?_
  refine j_ldc2 C tw6_144 dX12_draw_20 ?_
  refine j_lrem C (by decide) dX12_draw_23 ?_
  refine j_l2i C dX12_draw_24 ?_
  obtain ⟨M4, e5, hf⟩ := bd hf
  obtain ⟨hx6, e5⟩ := ast_some e5
  refine j_iast C lc179 hx6 e5 dX12_draw_25 ?_
  refine j_aload_n C 0 dX12_draw_26 rfl rfl ?_
  refine g_X12_now C tw5_182 lc178 179 rfl dX12_draw_27 ?_
  refine j_iconst C (1 : Int32) rfl dX12_draw_30 ?_
  obtain ⟨v7, e8, hf⟩ := bd hf
  obtain ⟨hx9, e8⟩ := ald_some e8
  refine j_iald C lc179 hx9 e8 dX12_draw_31 ?_
  refine j_ldc C tw6_145 dX12_draw_32 ?_
  refine j_idiv C (by decide) dX12_draw_34 ?_
  refine j_iload_n C 1 dX12_draw_35 rfl rfl ?_
  obtain ⟨hd10, hf⟩ := gd hf
  refine j_irem C hd10 dX12_draw_36 ?_
  obtain ⟨rfl, rfl⟩ := Prod.mk.inj (Option.some.inj hf)
  exact hret _ _ dX12_draw_37
def fX12_loafAt (x0 : Int32) : Option Int32 :=
  some ((201 : Int32) + ((7 : Int32) * (x0 - x0 / (200 : Int32) * (200 : Int32))))

def rX12_loafAt : Room := { frames := 0, cells := 0, slots := 0, locals := 0 }
set_option maxRecDepth 100000 in
set_option maxHeartbeats 4000000 in
theorem c_X12_loafAt (l : Launch) (G : Gx) (n0 : Nat) {x0 : Int32} {M : Mem} {r : Int32} (hf : fX12_loafAt x0 = some r) : Ct l yX12_loafAt cX12_loafAt 1 (some .int) rX12_loafAt G n0 [.int x0] M (some (.int r)) M := by
  refine ct_int (cc := cX12_loafAt) (maxL := 1) rfl (Nat.le_of_ble_eq_true rfl) ?_
  intro K C hret
  have C : Ok K l rX12_loafAt cX12_loafAt RX12 G n0 1 := C
  show J K M 0 [(0, .int x0)] []
  unfold fX12_loafAt at hf
  refine j_sipush C (201 : Int32) rfl dX12_loafAt_0 ?_
  refine j_bipush C (7 : Int32) rfl dX12_loafAt_3 ?_
  refine j_iload_n C 0 dX12_loafAt_5 rfl rfl ?_
  refine j_sipush C (200 : Int32) rfl dX12_loafAt_6 ?_
  refine j_irem C (by decide) dX12_loafAt_9 ?_
  refine j_imul C dX12_loafAt_10 ?_
  refine j_iadd C dX12_loafAt_11 ?_
  obtain rfl := Option.some.inj hf
  exact hret _ _ dX12_loafAt_12
def fX12_firstKept  (M : Mem) : Option Int32 :=
  (ald (M.1 179) 1601 (5 : Int32)).bind fun v1 =>
  if v1 ≤ (200 : Int32) then (some (0 : Int32))
  else ((ald (M.1 179) 1601 (5 : Int32)).bind fun v5 =>
  some (v5 - (200 : Int32)))

def rX12_firstKept : Room := { frames := 0, cells := 0, slots := 0, locals := 0 }
set_option maxRecDepth 100000 in
set_option maxHeartbeats 4000000 in
theorem c_X12_firstKept (l : Launch) (G : Gx) (n0 : Nat) {M : Mem} {r : Int32} (hf : fX12_firstKept M = some r) : Ct l yX12_firstKept cX12_firstKept 1 (some .int) rX12_firstKept G n0 [.ref (n0 + 178)] M (some (.int r)) M := by
  refine ct_int (cc := cX12_firstKept) (maxL := 1) rfl (Nat.le_of_ble_eq_true rfl) ?_
  intro K C hret
  have C : Ok K l rX12_firstKept cX12_firstKept RX12 G n0 1 := C
  show J K M 0 [(0, .ref (n0 + 178))] []
  unfold fX12_firstKept at hf
  refine j_aload_n C 0 dX12_firstKept_0 rfl rfl ?_
  refine g_X12_now C tw5_182 lc178 179 rfl dX12_firstKept_1 ?_
  refine j_iconst C (5 : Int32) rfl dX12_firstKept_4 ?_
  obtain ⟨v1, e2, hf⟩ := bd hf
  obtain ⟨hx3, e2⟩ := ald_some e2
  refine j_iald C lc179 hx3 e2 dX12_firstKept_5 ?_
  refine j_sipush C (200 : Int32) rfl dX12_firstKept_6 ?_
  refine j_icmp_le C 25 dX12_firstKept_9 (by decide) (fun c4 => ?_) (fun c4 => ?_)
  · replace hf := ip c4 hf
    refine j_iconst C (0 : Int32) rfl dX12_firstKept_25 ?_
    obtain rfl := Option.some.inj hf
    exact hret _ _ dX12_firstKept_26
  · replace hf := ine c4 hf
    refine j_aload_n C 0 dX12_firstKept_12 rfl rfl ?_
    refine g_X12_now C tw5_182 lc178 179 rfl dX12_firstKept_13 ?_
    refine j_iconst C (5 : Int32) rfl dX12_firstKept_16 ?_
    obtain ⟨v5, e6, hf⟩ := bd hf
    obtain ⟨hx7, e6⟩ := ald_some e6
    refine j_iald C lc179 hx7 e6 dX12_firstKept_17 ?_
    refine j_sipush C (200 : Int32) rfl dX12_firstKept_18 ?_
    refine j_isub C dX12_firstKept_21 ?_
    refine j_goto C 26 dX12_firstKept_22 (by decide) ?_
    obtain rfl := Option.some.inj hf
    exact hret _ _ dX12_firstKept_26
def fX12_loafOf (x1 : Int32) (x2 : Int32) (M : Mem) : Option Int32 :=
  (fX12_loafAt x1).bind fun v2 =>
  (ald (M.1 179) 1601 (v2 + x2)).bind fun v3 =>
  some v3

def rX12_loafOf : Room := { frames := 1, cells := 0, slots := 0, locals := 20 }
set_option maxRecDepth 100000 in
set_option maxHeartbeats 4000000 in
theorem c_X12_loafOf (l : Launch) (G : Gx) (n0 : Nat) {x1 : Int32} {x2 : Int32} {M : Mem} {r : Int32} (hf : fX12_loafOf x1 x2 M = some r) : Ct l yX12_loafOf cX12_loafOf 3 (some .int) rX12_loafOf G n0 [.ref (n0 + 178), .int x1, .int x2] M (some (.int r)) M := by
  refine ct_int (cc := cX12_loafOf) (maxL := 3) rfl (Nat.le_of_ble_eq_true rfl) ?_
  intro K C hret
  have C : Ok K l rX12_loafOf cX12_loafOf RX12 G n0 3 := C
  show J K M 0 [(0, .ref (n0 + 178)), (1, .int x1), (2, .int x2)] []
  unfold fX12_loafOf at hf
  refine j_aload_n C 0 dX12_loafOf_0 rfl rfl ?_
  refine g_X12_now C tw5_182 lc178 179 rfl dX12_loafOf_1 ?_
  refine j_iload_n C 1 dX12_loafOf_4 rfl rfl ?_
  obtain ⟨v2, e1, hf⟩ := bd hf
  refine j_callS C 1 (c_X12_loafAt l G n0 (M := M) e1) gs_RX12_101 ⟨rfl, rfl⟩ (by decide +kernel) ⟨Nat.le_of_ble_eq_true rfl, Nat.le_of_ble_eq_true rfl⟩ rfl rfl (Nat.le_of_ble_eq_true rfl) dX12_loafOf_5 ?_
  refine j_iload_n C 2 dX12_loafOf_8 rfl rfl ?_
  refine j_iadd C dX12_loafOf_9 ?_
  obtain ⟨v3, e4, hf⟩ := bd hf
  obtain ⟨hx5, e4⟩ := ald_some e4
  refine j_iald C lc179 hx5 e4 dX12_loafOf_10 ?_
  obtain rfl := Option.some.inj hf
  exact hret _ _ dX12_loafOf_11
def lX12_comesOut_29 (v9 : Int32) : Nat → Int32 → Int32 → Mem → Option (Int32 × Mem)
  | 0, _, _, _ => none
  | n + 1, a11, a12, M13 =>
  if v9 ≤ a12 then (some (a11, M13))
  else ((fX12_draw (16 : Int32) M13).bind (un2 fun v16 M17 =>
  lX12_comesOut_29 v9 n (a11 &&& (((1 : Int32) <<< (v16 &&& 31)) ^^^ (-1 : Int32))) (a12 + 1) M17))

def fX12_comesOut (x1 : Int32) (x2 : Int32) (b3 : Bool) (M : Mem) : Option Mem :=
  (ald (M.1 179) 1601 (5 : Int32)).bind fun v1 =>
  (fX12_loafAt v1).bind fun v5 =>
  (fX12_of x1 (0 : Int32) M).bind fun v7 =>
  (fX12_draw (4 : Int32) M).bind (un2 fun v9 M10 =>
  (lX12_comesOut_29 v9 FUEL v7 (0 : Int32) M10).bind (un2 fun a18 M19 => (ast M19 179 1601 (v5 + (0 : Int32)) x1).bind fun M20 =>
  (ast M20 179 1601 (v5 + (1 : Int32)) x2).bind fun M23 =>
  (ald (M23.1 179) 1601 (3 : Int32)).bind fun v26 =>
  (ast M23 179 1601 (v5 + (2 : Int32)) v26).bind fun M29 =>
  (if b3 = true then (some (1 : Int32))
  else (some (0 : Int32))).bind (fun z33 => (ast M29 179 1601 (v5 + (3 : Int32)) z33).bind fun M34 =>
  (ast M34 179 1601 (v5 + (4 : Int32)) a18).bind fun M37 =>
  (ast M37 179 1601 (v5 + (5 : Int32)) (-1 : Int32)).bind fun M40 =>
  (fX12_of x1 (0 : Int32) M40).bind fun v44 =>
  (fX12_bits v44).bind fun v46 =>
  (fX12_bits a18).bind fun v48 =>
  (ast M40 179 1601 (v5 + (6 : Int32)) (v46 - v48)).bind fun M49 =>
  (ald (M49.1 179) 1601 (5 : Int32)).bind fun v52 =>
  (ast M49 179 1601 (5 : Int32) (v52 + (1 : Int32))).bind fun M55 =>
  (ald (M55.1 179) 1601 (6 : Int32)).bind fun v58 =>
  if b3 = true then ((ast M55 179 1601 (6 : Int32) (v58 + (1 : Int32))).bind fun M65 =>
  some M65)
  else ((ast M55 179 1601 (6 : Int32) (v58 + (0 : Int32))).bind fun M62 =>
  some M62))))

def rX12_comesOut : Room := { frames := 1, cells := 0, slots := 0, locals := 22 }
set_option maxRecDepth 100000 in
set_option maxHeartbeats 4000000 in
theorem c_X12_comesOut (l : Launch) (G : Gx) (n0 : Nat) {x1 : Int32} {x2 : Int32} {b3 : Bool} {M : Mem} {M' : Mem} (hf : fX12_comesOut x1 x2 b3 M = some M') : Ct l yX12_comesOut cX12_comesOut 8 none rX12_comesOut G n0 [.ref (n0 + 178), .int x1, .int x2, .int (bI b3)] M none M' := by
  refine ct_void (cc := cX12_comesOut) (maxL := 8) rfl (Nat.le_of_ble_eq_true rfl) ?_
  intro K C hret
  have C : Ok K l rX12_comesOut cX12_comesOut RX12 G n0 8 := C
  show J K M 0 [(0, .ref (n0 + 178)), (1, .int x1), (2, .int x2), (3, .int (bI b3))] []
  unfold fX12_comesOut at hf
  refine j_aload_n C 0 dX12_comesOut_0 rfl rfl ?_
  refine g_X12_now C tw5_182 lc178 179 rfl dX12_comesOut_1 ?_
  refine j_iconst C (5 : Int32) rfl dX12_comesOut_4 ?_
  obtain ⟨v1, e2, hf⟩ := bd hf
  obtain ⟨hx3, e2⟩ := ald_some e2
  refine j_iald C lc179 hx3 e2 dX12_comesOut_5 ?_
  obtain ⟨v5, e4, hf⟩ := bd hf
  refine j_callS C 1 (c_X12_loafAt l G n0 (M := M) e4) gs_RX12_101 ⟨rfl, rfl⟩ (by decide +kernel) ⟨Nat.le_of_ble_eq_true rfl, Nat.le_of_ble_eq_true rfl⟩ rfl rfl (Nat.le_of_ble_eq_true rfl) dX12_comesOut_6 ?_
  refine j_istore C [(4, .int v5), (0, .ref (n0 + 178)), (1, .int x1), (2, .int x2), (3, .int (bI b3))] dX12_comesOut_9 (Nat.le_of_ble_eq_true rfl) rfl ?_
  refine j_aload_n C 1 dX12_comesOut_11 rfl rfl ?_
  refine j_iload_n C 2 dX12_comesOut_12 rfl rfl ?_
  refine j_iconst C (0 : Int32) rfl dX12_comesOut_13 ?_
  obtain ⟨v7, e6, hf⟩ := bd hf
  refine j_callV C 2 lc178 (ent_K _ _ _ _ _ _) rfl (c_X12_of l G n0 e6) gv_RX12_44 ⟨rfl, rfl⟩ (by decide +kernel) ⟨Nat.le_of_ble_eq_true rfl, Nat.le_of_ble_eq_true rfl⟩ rfl rfl (Nat.le_of_ble_eq_true rfl) dX12_comesOut_14 ?_
  refine j_istore C [(5, .int v7), (4, .int v5), (0, .ref (n0 + 178)), (1, .int x1), (2, .int x2), (3, .int (bI b3))] dX12_comesOut_17 (Nat.le_of_ble_eq_true rfl) rfl ?_
  refine j_aload_n C 2 dX12_comesOut_19 rfl rfl ?_
  refine j_iconst C (4 : Int32) rfl dX12_comesOut_20 ?_
  obtain ⟨⟨v9, M10⟩, e8, hf⟩ := bd hf
  replace hf := un2e hf
  refine j_callV C 1 lc178 (ent_K _ _ _ _ _ _) rfl (c_X12_draw l G n0 e8) gv_RX12_104 ⟨rfl, rfl⟩ (by decide +kernel) ⟨Nat.le_of_ble_eq_true rfl, Nat.le_of_ble_eq_true rfl⟩ rfl rfl (Nat.le_of_ble_eq_true rfl) dX12_comesOut_21 ?_
  refine j_istore C [(6, .int v9), (5, .int v7), (4, .int v5), (0, .ref (n0 + 178)), (1, .int x1), (2, .int x2), (3, .int (bI b3))] dX12_comesOut_24 (Nat.le_of_ble_eq_true rfl) rfl ?_
  refine j_iconst C (0 : Int32) rfl dX12_comesOut_26 ?_
  refine j_istore C [(7, .int (0 : Int32)), (6, .int v9), (5, .int v7), (4, .int v5), (0, .ref (n0 + 178)), (1, .int x1), (2, .int x2), (3, .int (bI b3))] dX12_comesOut_27 (Nat.le_of_ble_eq_true rfl) rfl ?_
  obtain ⟨⟨a18, M19⟩, e68, hf⟩ := bd hf
  replace hf := un2e hf
  have hx69 : J K M19 57 [(0, .ref (n0 + 178)), (1, .int x1), (2, .int x2), (3, .int (bI b3)), (4, .int v5), (5, .int a18)] [] := by
    refine j_aload_n C 0 dX12_comesOut_57 rfl rfl ?_
    refine g_X12_now C tw5_182 lc178 179 rfl dX12_comesOut_58 ?_
    refine j_iload C 4 dX12_comesOut_61 rfl ?_
    refine j_iconst C (0 : Int32) rfl dX12_comesOut_63 ?_
    refine j_iadd C dX12_comesOut_64 ?_
    refine j_iload_n C 1 dX12_comesOut_65 rfl rfl ?_
    obtain ⟨M20, e21, hf⟩ := bd hf
    obtain ⟨hx22, e21⟩ := ast_some e21
    refine j_iast C lc179 hx22 e21 dX12_comesOut_66 ?_
    refine j_aload_n C 0 dX12_comesOut_67 rfl rfl ?_
    refine g_X12_now C tw5_182 lc178 179 rfl dX12_comesOut_68 ?_
    refine j_iload C 4 dX12_comesOut_71 rfl ?_
    refine j_iconst C (1 : Int32) rfl dX12_comesOut_73 ?_
    refine j_iadd C dX12_comesOut_74 ?_
    refine j_iload_n C 2 dX12_comesOut_75 rfl rfl ?_
    obtain ⟨M23, e24, hf⟩ := bd hf
    obtain ⟨hx25, e24⟩ := ast_some e24
    refine j_iast C lc179 hx25 e24 dX12_comesOut_76 ?_
    refine j_aload_n C 0 dX12_comesOut_77 rfl rfl ?_
    refine g_X12_now C tw5_182 lc178 179 rfl dX12_comesOut_78 ?_
    refine j_iload C 4 dX12_comesOut_81 rfl ?_
    refine j_iconst C (2 : Int32) rfl dX12_comesOut_83 ?_
    refine j_iadd C dX12_comesOut_84 ?_
    refine j_aload_n C 0 dX12_comesOut_85 rfl rfl ?_
    refine g_X12_now C tw5_182 lc178 179 rfl dX12_comesOut_86 ?_
    refine j_iconst C (3 : Int32) rfl dX12_comesOut_89 ?_
    obtain ⟨v26, e27, hf⟩ := bd hf
    obtain ⟨hx28, e27⟩ := ald_some e27
    refine j_iald C lc179 hx28 e27 dX12_comesOut_90 ?_
    obtain ⟨M29, e30, hf⟩ := bd hf
    obtain ⟨hx31, e30⟩ := ast_some e30
    refine j_iast C lc179 hx31 e30 dX12_comesOut_91 ?_
    refine j_aload_n C 0 dX12_comesOut_92 rfl rfl ?_
    refine g_X12_now C tw5_182 lc178 179 rfl dX12_comesOut_93 ?_
    refine j_iload C 4 dX12_comesOut_96 rfl ?_
    refine j_iconst C (3 : Int32) rfl dX12_comesOut_98 ?_
    refine j_iadd C dX12_comesOut_99 ?_
    refine j_iload_n C 3 dX12_comesOut_100 rfl rfl ?_
    obtain ⟨z33, e73, hf⟩ := bd hf
    have hj74 : J K M29 109 [(0, .ref (n0 + 178)), (1, .int x1), (3, .int (bI b3)), (4, .int v5), (5, .int a18)] [.int z33, .int (v5 + (3 : Int32)), .ref (n0 + 179)] := by
      obtain ⟨M34, e35, hf⟩ := bd hf
      obtain ⟨hx36, e35⟩ := ast_some e35
      refine j_iast C lc179 hx36 e35 dX12_comesOut_109 ?_
      refine j_aload_n C 0 dX12_comesOut_110 rfl rfl ?_
      refine g_X12_now C tw5_182 lc178 179 rfl dX12_comesOut_111 ?_
      refine j_iload C 3 dX12_comesOut_114 rfl ?_
      refine j_iconst C (4 : Int32) rfl dX12_comesOut_116 ?_
      refine j_iadd C dX12_comesOut_117 ?_
      refine j_iload C 4 dX12_comesOut_118 rfl ?_
      obtain ⟨M37, e38, hf⟩ := bd hf
      obtain ⟨hx39, e38⟩ := ast_some e38
      refine j_iast C lc179 hx39 e38 dX12_comesOut_120 ?_
      refine j_aload_n C 0 dX12_comesOut_121 rfl rfl ?_
      refine g_X12_now C tw5_182 lc178 179 rfl dX12_comesOut_122 ?_
      refine j_iload C 3 dX12_comesOut_125 rfl ?_
      refine j_iconst C (5 : Int32) rfl dX12_comesOut_127 ?_
      refine j_iadd C dX12_comesOut_128 ?_
      refine j_iconst C (-1 : Int32) rfl dX12_comesOut_129 ?_
      obtain ⟨M40, e41, hf⟩ := bd hf
      obtain ⟨hx42, e41⟩ := ast_some e41
      refine j_iast C lc179 hx42 e41 dX12_comesOut_130 ?_
      refine j_aload_n C 0 dX12_comesOut_131 rfl rfl ?_
      refine g_X12_now C tw5_182 lc178 179 rfl dX12_comesOut_132 ?_
      refine j_iload C 3 dX12_comesOut_135 rfl ?_
      refine j_bipush C (6 : Int32) rfl dX12_comesOut_137 ?_
      refine j_iadd C dX12_comesOut_139 ?_
      refine j_aload_n C 0 dX12_comesOut_140 rfl rfl ?_
      refine j_iload_n C 1 dX12_comesOut_141 rfl rfl ?_
      refine j_iconst C (0 : Int32) rfl dX12_comesOut_142 ?_
      obtain ⟨v44, e43, hf⟩ := bd hf
      refine j_callV C 2 lc178 (ent_K _ _ _ _ _ _) rfl (c_X12_of l G n0 e43) gv_RX12_44 ⟨rfl, rfl⟩ (by decide +kernel) ⟨Nat.le_of_ble_eq_true rfl, Nat.le_of_ble_eq_true rfl⟩ rfl rfl (Nat.le_of_ble_eq_true rfl) dX12_comesOut_143 ?_
      obtain ⟨v46, e45, hf⟩ := bd hf
      refine j_callS C 1 (c_X12_bits l G n0 (M := M40) e45) gs_RX12_107 ⟨rfl, rfl⟩ (by decide +kernel) ⟨Nat.le_of_ble_eq_true rfl, Nat.le_of_ble_eq_true rfl⟩ rfl rfl (Nat.le_of_ble_eq_true rfl) dX12_comesOut_146 ?_
      refine j_iload C 4 dX12_comesOut_149 rfl ?_
      obtain ⟨v48, e47, hf⟩ := bd hf
      refine j_callS C 1 (c_X12_bits l G n0 (M := M40) e47) gs_RX12_107 ⟨rfl, rfl⟩ (by decide +kernel) ⟨Nat.le_of_ble_eq_true rfl, Nat.le_of_ble_eq_true rfl⟩ rfl rfl (Nat.le_of_ble_eq_true rfl) dX12_comesOut_151 ?_
      refine j_isub C dX12_comesOut_154 ?_
      obtain ⟨M49, e50, hf⟩ := bd hf
      obtain ⟨hx51, e50⟩ := ast_some e50
      refine j_iast C lc179 hx51 e50 dX12_comesOut_155 ?_
      refine j_aload_n C 0 dX12_comesOut_156 rfl rfl ?_
      refine g_X12_now C tw5_182 lc178 179 rfl dX12_comesOut_157 ?_
      refine j_iconst C (5 : Int32) rfl dX12_comesOut_160 ?_
      refine j_dup2_11 C rfl rfl dX12_comesOut_161 ?_
      obtain ⟨v52, e53, hf⟩ := bd hf
      obtain ⟨hx54, e53⟩ := ald_some e53
      refine j_iald C lc179 hx54 e53 dX12_comesOut_162 ?_
      refine j_iconst C (1 : Int32) rfl dX12_comesOut_163 ?_
      refine j_iadd C dX12_comesOut_164 ?_
      obtain ⟨M55, e56, hf⟩ := bd hf
      obtain ⟨hx57, e56⟩ := ast_some e56
      refine j_iast C lc179 hx57 e56 dX12_comesOut_165 ?_
      refine j_aload_n C 0 dX12_comesOut_166 rfl rfl ?_
      refine g_X12_now C tw5_182 lc178 179 rfl dX12_comesOut_167 ?_
      refine j_bipush C (6 : Int32) rfl dX12_comesOut_170 ?_
      refine j_dup2_11 C rfl rfl dX12_comesOut_172 ?_
      obtain ⟨v58, e59, hf⟩ := bd hf
      obtain ⟨hx60, e59⟩ := ald_some e59
      refine j_iald C lc179 hx60 e59 dX12_comesOut_173 ?_
      refine j_iload_n C 2 dX12_comesOut_174 rfl rfl ?_
      refine j_ifz_eq C 182 dX12_comesOut_175 (by decide) (fun c61 => ?_) (fun c61 => ?_)
      · replace hf := ine c61 hf
        refine j_iconst C (0 : Int32) rfl dX12_comesOut_182 ?_
        refine j_iadd C dX12_comesOut_183 ?_
        obtain ⟨M62, e63, hf⟩ := bd hf
        obtain ⟨hx64, e63⟩ := ast_some e63
        refine j_iast C lc179 hx64 e63 dX12_comesOut_184 ?_
        obtain rfl := Option.some.inj hf
        exact hret _ _ dX12_comesOut_185
      · replace hf := ip c61 hf
        refine j_iconst C (1 : Int32) rfl dX12_comesOut_178 ?_
        refine j_goto C 183 dX12_comesOut_179 (by decide) ?_
        refine j_iadd C dX12_comesOut_183 ?_
        obtain ⟨M65, e66, hf⟩ := bd hf
        obtain ⟨hx67, e66⟩ := ast_some e66
        refine j_iast C lc179 hx67 e66 dX12_comesOut_184 ?_
        obtain rfl := Option.some.inj hf
        exact hret _ _ dX12_comesOut_185
    clear hf
    have hf := e73
    refine j_ifz_eq C 108 dX12_comesOut_101 (by decide) (fun c32 => ?_) (fun c32 => ?_)
    · replace hf := ine c32 hf
      refine j_iconst C (0 : Int32) rfl dX12_comesOut_108 ?_
      cases hf
      refine j_sub [0, 1, 3, 4, 5] rfl ?_
      exact hj74
    · replace hf := ip c32 hf
      refine j_iconst C (1 : Int32) rfl dX12_comesOut_104 ?_
      refine j_goto C 109 dX12_comesOut_105 (by decide) ?_
      cases hf
      refine j_sub [0, 1, 3, 4, 5] rfl ?_
      exact hj74
  clear hf
  have hl70 : ∀ (n : Nat) (a11 : Int32) (a12 : Int32) (M13 : Mem), lX12_comesOut_29 v9 n a11 a12 M13 = some (a18, M19) → J K M13 29 [(0, .ref (n0 + 178)), (1, .int x1), (2, .int x2), (3, .int (bI b3)), (4, .int v5), (5, .int a11), (6, .int v9), (7, .int a12)] [] := by
    intro n
    induction n with
    | zero =>
      intro a11 a12 M13 hf
      exact absurd hf (by rw [lX12_comesOut_29]; exact fun h => by cases h)
    | succ n ih =>
      intro a11 a12 M13 hf
      rw [lX12_comesOut_29] at hf
      refine j_iload C 7 dX12_comesOut_29 rfl ?_
      refine j_iload C 6 dX12_comesOut_31 rfl ?_
      refine j_icmp_ge C 57 dX12_comesOut_33 (by decide) (fun c14 => ?_) (fun c14 => ?_)
      · replace hf := ip c14 hf
        refine j_sub [0, 1, 2, 3, 4, 5] rfl ?_
        cases hf
        exact hx69
      · replace hf := ine c14 hf
        refine j_iload C 5 dX12_comesOut_36 rfl ?_
        refine j_iconst C (1 : Int32) rfl dX12_comesOut_38 ?_
        refine j_aload_n C 0 dX12_comesOut_39 rfl rfl ?_
        refine j_bipush C (16 : Int32) rfl dX12_comesOut_40 ?_
        obtain ⟨⟨v16, M17⟩, e15, hf⟩ := bd hf
        replace hf := un2e hf
        refine j_callV C 1 lc178 (ent_K _ _ _ _ _ _) rfl (c_X12_draw l G n0 e15) gv_RX12_104 ⟨rfl, rfl⟩ (by decide +kernel) ⟨Nat.le_of_ble_eq_true rfl, Nat.le_of_ble_eq_true rfl⟩ rfl rfl (Nat.le_of_ble_eq_true rfl) dX12_comesOut_42 ?_
        refine j_ishl C dX12_comesOut_45 ?_
        refine j_iconst C (-1 : Int32) rfl dX12_comesOut_46 ?_
        refine j_ixor C dX12_comesOut_47 ?_
        refine j_iand C dX12_comesOut_48 ?_
        refine j_istore C [(5, .int (a11 &&& (((1 : Int32) <<< (v16 &&& 31)) ^^^ (-1 : Int32)))), (0, .ref (n0 + 178)), (1, .int x1), (2, .int x2), (3, .int (bI b3)), (4, .int v5), (6, .int v9), (7, .int a12)] dX12_comesOut_49 (Nat.le_of_ble_eq_true rfl) rfl ?_
        refine j_iinc C 7 (a12 + 1) [(7, .int (a12 + 1)), (5, .int (a11 &&& (((1 : Int32) <<< (v16 &&& 31)) ^^^ (-1 : Int32)))), (0, .ref (n0 + 178)), (1, .int x1), (2, .int x2), (3, .int (bI b3)), (4, .int v5), (6, .int v9)] dX12_comesOut_51 rfl rfl (Nat.le_of_ble_eq_true rfl) rfl ?_
        refine j_goto C 29 dX12_comesOut_54 (by decide) ?_
        refine j_sub [2, 3, 4, 5, 6, 1, 7, 0] rfl ?_
        exact ih _ _ _ hf
  refine j_sub [4, 5, 6, 7, 3, 2, 1, 0] rfl ?_
  exact hl70 FUEL v7 (0 : Int32) M10 e68
def lX12_meant_12 (x1 : Int32) (x2 : Int32) (M : Mem) : Nat → Int32 → Int32 → Bool → Int32 → Option (Int32 × Bool)
  | 0, _, _, _, _ => none
  | n + 1, a1, a2, a3, a4 =>
  (ald (M.1 179) 1601 (0 : Int32)).bind fun v5 =>
  if v5 ≤ a4 then (some (a1, a3))
  else ((fX12_of a4 (0 : Int32) M).bind fun v10 =>
  if ((x2 >>> (a4 &&& 31)) &&& (1 : Int32)) = (1 : Int32) then (if (x1 &&& (v10 ^^^ (-1 : Int32))) = 0 then ((fX12_bits (v10 &&& (x1 ^^^ (-1 : Int32)))).bind fun v14 =>
  (if v14 < a2 then (some true)
  else (if a3 = true then (if v14 ≤ a2 then (some false)
  else (some true))
  else (some false))).bind (fun z18 => (if a2 ≤ v14 then (some a1)
  else (some a4)).bind (fun z20 => if a2 ≤ v14 then (lX12_meant_12 x1 x2 M n z20 a2 z18 (a4 + 1))
  else (lX12_meant_12 x1 x2 M n z20 v14 z18 (a4 + 1)))))
  else (lX12_meant_12 x1 x2 M n a1 a2 a3 (a4 + 1)))
  else (lX12_meant_12 x1 x2 M n a1 a2 a3 (a4 + 1)))

def fX12_meant (x1 : Int32) (x2 : Int32) (M : Mem) : Option Int32 :=
  (lX12_meant_12 x1 x2 M FUEL (-1 : Int32) (99 : Int32) false (0 : Int32)).bind (un2 fun a22 a23 => if a23 = true then (some a22)
  else (some (8 : Int32)))

def rX12_meant : Room := { frames := 1, cells := 0, slots := 0, locals := 22 }
set_option maxRecDepth 100000 in
set_option maxHeartbeats 4000000 in
theorem c_X12_meant (l : Launch) (G : Gx) (n0 : Nat) {x1 : Int32} {x2 : Int32} {M : Mem} {r : Int32} (hf : fX12_meant x1 x2 M = some r) : Ct l yX12_meant cX12_meant 9 (some .int) rX12_meant G n0 [.ref (n0 + 178), .int x1, .int x2] M (some (.int r)) M := by
  refine ct_int (cc := cX12_meant) (maxL := 9) rfl (Nat.le_of_ble_eq_true rfl) ?_
  intro K C hret
  have C : Ok K l rX12_meant cX12_meant RX12 G n0 9 := C
  show J K M 0 [(0, .ref (n0 + 178)), (1, .int x1), (2, .int x2)] []
  unfold fX12_meant at hf
  refine j_iconst C (-1 : Int32) rfl dX12_meant_0 ?_
  refine j_istore_n C [(3, .int (-1 : Int32)), (0, .ref (n0 + 178)), (1, .int x1), (2, .int x2)] dX12_meant_1 rfl (Nat.le_of_ble_eq_true rfl) rfl ?_
  refine j_bipush C (99 : Int32) rfl dX12_meant_2 ?_
  refine j_istore C [(4, .int (99 : Int32)), (3, .int (-1 : Int32)), (0, .ref (n0 + 178)), (1, .int x1), (2, .int x2)] dX12_meant_4 (Nat.le_of_ble_eq_true rfl) rfl ?_
  refine j_iconst C (0 : Int32) rfl dX12_meant_6 ?_
  refine j_istore C [(5, .int (bI false)), (4, .int (99 : Int32)), (3, .int (-1 : Int32)), (0, .ref (n0 + 178)), (1, .int x1), (2, .int x2)] dX12_meant_7 (Nat.le_of_ble_eq_true rfl) rfl ?_
  refine j_iconst C (0 : Int32) rfl dX12_meant_9 ?_
  refine j_istore C [(6, .int (0 : Int32)), (5, .int (bI false)), (4, .int (99 : Int32)), (3, .int (-1 : Int32)), (0, .ref (n0 + 178)), (1, .int x1), (2, .int x2)] dX12_meant_10 (Nat.le_of_ble_eq_true rfl) rfl ?_
  obtain ⟨⟨a22, a23⟩, e25, hf⟩ := bd hf
  replace hf := un2e hf
  have hx26 : J K M 124 [(3, .int a22), (5, .int (bI a23))] [] := by
    refine j_iload C 1 dX12_meant_124 rfl ?_
    refine j_ifz_eq C 133 dX12_meant_126 (by decide) (fun c24 => ?_) (fun c24 => ?_)
    · replace hf := ine c24 hf
      refine j_bipush C (8 : Int32) rfl dX12_meant_133 ?_
      obtain rfl := Option.some.inj hf
      exact hret _ _ dX12_meant_135
    · replace hf := ip c24 hf
      refine j_iload_n C 0 dX12_meant_129 rfl rfl ?_
      refine j_goto C 135 dX12_meant_130 (by decide) ?_
      obtain rfl := Option.some.inj hf
      exact hret _ _ dX12_meant_135
  clear hf
  have hl27 : ∀ (n : Nat) (a1 : Int32) (a2 : Int32) (a3 : Bool) (a4 : Int32), lX12_meant_12 x1 x2 M n a1 a2 a3 a4 = some (a22, a23) → J K M 12 [(0, .ref (n0 + 178)), (1, .int x1), (2, .int x2), (3, .int a1), (4, .int a2), (5, .int (bI a3)), (6, .int a4)] [] := by
    intro n
    induction n with
    | zero =>
      intro a1 a2 a3 a4 hf
      exact absurd hf (by rw [lX12_meant_12]; exact fun h => by cases h)
    | succ n ih =>
      intro a1 a2 a3 a4 hf
      rw [lX12_meant_12] at hf
      refine j_iload C 6 dX12_meant_12 rfl ?_
      refine j_aload_n C 0 dX12_meant_14 rfl rfl ?_
      refine g_X12_now C tw5_182 lc178 179 rfl dX12_meant_15 ?_
      refine j_iconst C (0 : Int32) rfl dX12_meant_18 ?_
      obtain ⟨v5, e6, hf⟩ := bd hf
      obtain ⟨hx7, e6⟩ := ald_some e6
      refine j_iald C lc179 hx7 e6 dX12_meant_19 ?_
      refine j_icmp_ge C 124 dX12_meant_20 (by decide) (fun c8 => ?_) (fun c8 => ?_)
      · replace hf := ip c8 hf
        refine j_sub [3, 5] rfl ?_
        cases hf
        exact hx26
      · replace hf := ine c8 hf
        refine j_aload_n C 0 dX12_meant_23 rfl rfl ?_
        refine j_iload C 6 dX12_meant_24 rfl ?_
        refine j_iconst C (0 : Int32) rfl dX12_meant_26 ?_
        obtain ⟨v10, e9, hf⟩ := bd hf
        refine j_callV C 2 lc178 (ent_K _ _ _ _ _ _) rfl (c_X12_of l G n0 e9) gv_RX12_44 ⟨rfl, rfl⟩ (by decide +kernel) ⟨Nat.le_of_ble_eq_true rfl, Nat.le_of_ble_eq_true rfl⟩ rfl rfl (Nat.le_of_ble_eq_true rfl) dX12_meant_27 ?_
        refine j_istore C [(7, .int v10), (0, .ref (n0 + 178)), (1, .int x1), (2, .int x2), (3, .int a1), (4, .int a2), (5, .int (bI a3)), (6, .int a4)] dX12_meant_30 (Nat.le_of_ble_eq_true rfl) rfl ?_
        refine j_iload_n C 3 dX12_meant_32 rfl rfl ?_
        refine j_iload C 7 dX12_meant_33 rfl ?_
        refine j_ishr C dX12_meant_35 ?_
        refine j_iconst C (1 : Int32) rfl dX12_meant_36 ?_
        refine j_iand C dX12_meant_37 ?_
        refine j_iconst C (1 : Int32) rfl dX12_meant_38 ?_
        refine j_icmp_ne C 118 dX12_meant_39 (by decide) (fun c11 => ?_) (fun c11 => ?_)
        · replace hf := ine c11 hf
          refine j_iinc C 7 (a4 + 1) [(6, .int (a4 + 1)), (7, .int v10), (0, .ref (n0 + 178)), (1, .int x1), (2, .int x2), (3, .int a1), (4, .int a2), (5, .int (bI a3))] dX12_meant_118 rfl rfl (Nat.le_of_ble_eq_true rfl) rfl ?_
          refine j_goto C 12 dX12_meant_121 (by decide) ?_
          refine j_sub [2, 3, 4, 5, 6, 7, 0] rfl ?_
          exact ih _ _ _ _ hf
        · replace hf := ip c11 hf
          refine j_iload_n C 2 dX12_meant_42 rfl rfl ?_
          refine j_iload C 0 dX12_meant_43 rfl ?_
          refine j_iconst C (-1 : Int32) rfl dX12_meant_45 ?_
          refine j_ixor C dX12_meant_46 ?_
          refine j_iand C dX12_meant_47 ?_
          refine j_if_ne C 118 dX12_meant_48 (by decide) (fun c12 => ?_) (fun c12 => ?_)
          · replace hf := ine c12 hf
            refine j_iinc C 7 (a4 + 1) [(6, .int (a4 + 1)), (7, .int v10), (0, .ref (n0 + 178)), (1, .int x1), (2, .int x2), (3, .int a1), (4, .int a2), (5, .int (bI a3))] dX12_meant_118 rfl rfl (Nat.le_of_ble_eq_true rfl) rfl ?_
            refine j_goto C 12 dX12_meant_121 (by decide) ?_
            refine j_sub [2, 3, 4, 5, 6, 7, 0] rfl ?_
            exact ih _ _ _ _ hf
          · replace hf := ip c12 hf
            refine j_iload C 0 dX12_meant_51 rfl ?_
            refine j_iload_n C 2 dX12_meant_53 rfl rfl ?_
            refine j_iconst C (-1 : Int32) rfl dX12_meant_54 ?_
            refine j_ixor C dX12_meant_55 ?_
            refine j_iand C dX12_meant_56 ?_
            obtain ⟨v14, e13, hf⟩ := bd hf
            refine j_callS C 1 (c_X12_bits l G n0 (M := M) e13) gs_RX12_107 ⟨rfl, rfl⟩ (by decide +kernel) ⟨Nat.le_of_ble_eq_true rfl, Nat.le_of_ble_eq_true rfl⟩ rfl rfl (Nat.le_of_ble_eq_true rfl) dX12_meant_57 ?_
            refine j_istore C [(8, .int v14), (7, .int v10), (0, .ref (n0 + 178)), (1, .int x1), (2, .int x2), (3, .int a1), (4, .int a2), (5, .int (bI a3)), (6, .int a4)] dX12_meant_60 (Nat.le_of_ble_eq_true rfl) rfl ?_
            refine j_iload C 0 dX12_meant_62 rfl ?_
            refine j_iload C 6 dX12_meant_64 rfl ?_
            obtain ⟨z18, e30, hf⟩ := bd hf
            have hj31 : J K M 86 [(0, .ref (n0 + 178)), (1, .int x1), (2, .int x2), (3, .int a1), (4, .int a2), (6, .int a4), (8, .int v14)] [.int (bI z18)] := by
              refine j_istore C [(5, .int (bI z18)), (0, .ref (n0 + 178)), (1, .int x1), (2, .int x2), (3, .int a1), (4, .int a2), (6, .int a4), (8, .int v14)] dX12_meant_86 (Nat.le_of_ble_eq_true rfl) rfl ?_
              refine j_iload C 7 dX12_meant_88 rfl ?_
              refine j_iload C 5 dX12_meant_90 rfl ?_
              obtain ⟨z20, e32, hf⟩ := bd hf
              have hj33 : J K M 101 [(0, .ref (n0 + 178)), (1, .int x1), (2, .int x2), (4, .int a2), (5, .int (bI z18)), (6, .int a4), (8, .int v14)] [.int z20] := by
                refine j_istore_n C [(3, .int z20), (0, .ref (n0 + 178)), (1, .int x1), (2, .int x2), (4, .int a2), (5, .int (bI z18)), (6, .int a4), (8, .int v14)] dX12_meant_101 rfl (Nat.le_of_ble_eq_true rfl) rfl ?_
                refine j_iload C 7 dX12_meant_102 rfl ?_
                refine j_iload C 4 dX12_meant_104 rfl ?_
                refine j_icmp_ge C 114 dX12_meant_106 (by decide) (fun c21 => ?_) (fun c21 => ?_)
                · replace hf := ip c21 hf
                  refine j_iload C 4 dX12_meant_114 rfl ?_
                  refine j_istore C [(4, .int a2), (3, .int z20), (0, .ref (n0 + 178)), (1, .int x1), (2, .int x2), (5, .int (bI z18)), (6, .int a4), (8, .int v14)] dX12_meant_116 (Nat.le_of_ble_eq_true rfl) rfl ?_
                  refine j_iinc C 6 (a4 + 1) [(6, .int (a4 + 1)), (4, .int a2), (3, .int z20), (0, .ref (n0 + 178)), (1, .int x1), (2, .int x2), (5, .int (bI z18)), (8, .int v14)] dX12_meant_118 rfl rfl (Nat.le_of_ble_eq_true rfl) rfl ?_
                  refine j_goto C 12 dX12_meant_121 (by decide) ?_
                  refine j_sub [3, 4, 5, 2, 1, 6, 0] rfl ?_
                  exact ih _ _ _ _ hf
                · replace hf := ine c21 hf
                  refine j_iload C 7 dX12_meant_109 rfl ?_
                  refine j_goto C 116 dX12_meant_111 (by decide) ?_
                  refine j_istore C [(4, .int v14), (3, .int z20), (0, .ref (n0 + 178)), (1, .int x1), (2, .int x2), (5, .int (bI z18)), (6, .int a4), (8, .int v14)] dX12_meant_116 (Nat.le_of_ble_eq_true rfl) rfl ?_
                  refine j_iinc C 6 (a4 + 1) [(6, .int (a4 + 1)), (4, .int v14), (3, .int z20), (0, .ref (n0 + 178)), (1, .int x1), (2, .int x2), (5, .int (bI z18)), (8, .int v14)] dX12_meant_118 rfl rfl (Nat.le_of_ble_eq_true rfl) rfl ?_
                  refine j_goto C 12 dX12_meant_121 (by decide) ?_
                  refine j_sub [3, 4, 5, 2, 1, 6, 0] rfl ?_
                  exact ih _ _ _ _ hf
              clear hf
              have hf := e32
              refine j_icmp_ge C 100 dX12_meant_92 (by decide) (fun c19 => ?_) (fun c19 => ?_)
              · replace hf := ip c19 hf
                refine j_iload_n C 4 dX12_meant_100 rfl rfl ?_
                cases hf
                refine j_sub [1, 2, 3, 5, 0, 6, 7] rfl ?_
                exact hj33
              · replace hf := ine c19 hf
                refine j_iload C 6 dX12_meant_95 rfl ?_
                refine j_goto C 101 dX12_meant_97 (by decide) ?_
                cases hf
                refine j_sub [1, 2, 3, 5, 0, 6, 7] rfl ?_
                exact hj33
            clear hf
            have hf := e30
            refine j_icmp_lt C 81 dX12_meant_66 (by decide) (fun c15 => ?_) (fun c15 => ?_)
            · replace hf := ip c15 hf
              refine j_iconst C (1 : Int32) rfl dX12_meant_81 ?_
              refine j_goto C 86 dX12_meant_82 (by decide) ?_
              cases hf
              refine j_sub [2, 3, 4, 5, 6, 8, 0] rfl ?_
              exact hj31
            · replace hf := ine c15 hf
              refine j_iload C 7 dX12_meant_69 rfl ?_
              refine j_ifz_eq C 85 dX12_meant_71 (by decide) (fun c16 => ?_) (fun c16 => ?_)
              · replace hf := ine c16 hf
                refine j_iconst C (0 : Int32) rfl dX12_meant_85 ?_
                cases hf
                refine j_sub [2, 3, 4, 5, 6, 8, 0] rfl ?_
                exact hj31
              · replace hf := ip c16 hf
                refine j_iload C 0 dX12_meant_74 rfl ?_
                refine j_iload C 6 dX12_meant_76 rfl ?_
                refine j_icmp_le C 85 dX12_meant_78 (by decide) (fun c17 => ?_) (fun c17 => ?_)
                · replace hf := ip c17 hf
                  refine j_iconst C (0 : Int32) rfl dX12_meant_85 ?_
                  cases hf
                  refine j_sub [2, 3, 4, 5, 6, 8, 0] rfl ?_
                  exact hj31
                · replace hf := ine c17 hf
                  refine j_iconst C (1 : Int32) rfl dX12_meant_81 ?_
                  refine j_goto C 86 dX12_meant_82 (by decide) ?_
                  cases hf
                  refine j_sub [2, 3, 4, 5, 6, 8, 0] rfl ?_
                  exact hj31
  refine j_sub [4, 5, 6, 3, 2, 1, 0] rfl ?_
  exact hl27 FUEL (-1 : Int32) (99 : Int32) false (0 : Int32) e25
def lX12_sorts_17 (x2 : Int32) : Nat → Int32 → Mem → Option Mem
  | 0, _, _ => none
  | n + 1, a7, M8 =>
  (ald (M8.1 179) 1601 (5 : Int32)).bind fun v9 =>
  if v9 ≤ a7 then (some M8)
  else ((fX12_loafAt a7).bind fun v14 =>
  (fX12_loafOf a7 (4 : Int32) M8).bind fun v16 =>
  (fX12_meant v16 x2 M8).bind fun v18 =>
  (ast M8 179 1601 (v14 + (5 : Int32)) v18).bind fun M19 =>
  lX12_sorts_17 x2 n (a7 + 1) M19)

def fX12_sorts (x1 : Int32) (x2 : Int32) (M : Mem) : Option Mem :=
  (fX12_firstKept M).bind fun v2 =>
  (if x1 ≤ v2 then ((fX12_firstKept M).bind fun v5 =>
  some v5)
  else (some x1)).bind (fun z6 => (lX12_sorts_17 x2 FUEL z6 M).bind (fun M22 => some M22))

def rX12_sorts : Room := { frames := 2, cells := 0, slots := 0, locals := 50 }
set_option maxRecDepth 100000 in
set_option maxHeartbeats 4000000 in
theorem c_X12_sorts (l : Launch) (G : Gx) (n0 : Nat) {x1 : Int32} {x2 : Int32} {M : Mem} {M' : Mem} (hf : fX12_sorts x1 x2 M = some M') : Ct l yX12_sorts cX12_sorts 4 none rX12_sorts G n0 [.ref (n0 + 178), .int x1, .int x2] M none M' := by
  refine ct_void (cc := cX12_sorts) (maxL := 4) rfl (Nat.le_of_ble_eq_true rfl) ?_
  intro K C hret
  have C : Ok K l rX12_sorts cX12_sorts RX12 G n0 4 := C
  show J K M 0 [(0, .ref (n0 + 178)), (1, .int x1), (2, .int x2)] []
  unfold fX12_sorts at hf
  refine j_iload_n C 1 dX12_sorts_0 rfl rfl ?_
  refine j_aload_n C 0 dX12_sorts_1 rfl rfl ?_
  obtain ⟨v2, e1, hf⟩ := bd hf
  refine j_callV C 0 lc178 (ent_K _ _ _ _ _ _) rfl (c_X12_firstKept l G n0 e1) gv_RX12_110 ⟨rfl, rfl⟩ (by decide +kernel) ⟨Nat.le_of_ble_eq_true rfl, Nat.le_of_ble_eq_true rfl⟩ rfl rfl (Nat.le_of_ble_eq_true rfl) dX12_sorts_2 ?_
  obtain ⟨z6, e23, hf⟩ := bd hf
  have hj24 : J K M 16 [(0, .ref (n0 + 178)), (2, .int x2)] [.int z6] := by
    refine j_istore_n C [(3, .int z6), (0, .ref (n0 + 178)), (2, .int x2)] dX12_sorts_16 rfl (Nat.le_of_ble_eq_true rfl) rfl ?_
    obtain ⟨M22, e25, hf⟩ := bd hf
    have hx26 : J K M22 55 [] [] := by
      obtain rfl := Option.some.inj hf
      exact hret _ _ dX12_sorts_55
    clear hf
    have hl27 : ∀ (n : Nat) (a7 : Int32) (M8 : Mem), lX12_sorts_17 x2 n a7 M8 = some M22 → J K M8 17 [(0, .ref (n0 + 178)), (2, .int x2), (3, .int a7)] [] := by
      intro n
      induction n with
      | zero =>
        intro a7 M8 hf
        exact absurd hf (by rw [lX12_sorts_17]; exact fun h => by cases h)
      | succ n ih =>
        intro a7 M8 hf
        rw [lX12_sorts_17] at hf
        refine j_iload_n C 2 dX12_sorts_17 rfl rfl ?_
        refine j_aload_n C 0 dX12_sorts_18 rfl rfl ?_
        refine g_X12_now C tw5_182 lc178 179 rfl dX12_sorts_19 ?_
        refine j_iconst C (5 : Int32) rfl dX12_sorts_22 ?_
        obtain ⟨v9, e10, hf⟩ := bd hf
        obtain ⟨hx11, e10⟩ := ald_some e10
        refine j_iald C lc179 hx11 e10 dX12_sorts_23 ?_
        refine j_icmp_ge C 55 dX12_sorts_24 (by decide) (fun c12 => ?_) (fun c12 => ?_)
        · replace hf := ip c12 hf
          refine j_sub [] rfl ?_
          cases hf
          exact hx26
        · replace hf := ine c12 hf
          refine j_aload_n C 0 dX12_sorts_27 rfl rfl ?_
          refine g_X12_now C tw5_182 lc178 179 rfl dX12_sorts_28 ?_
          refine j_iload_n C 2 dX12_sorts_31 rfl rfl ?_
          obtain ⟨v14, e13, hf⟩ := bd hf
          refine j_callS C 1 (c_X12_loafAt l G n0 (M := M8) e13) gs_RX12_101 ⟨rfl, rfl⟩ (by decide +kernel) ⟨Nat.le_of_ble_eq_true rfl, Nat.le_of_ble_eq_true rfl⟩ rfl rfl (Nat.le_of_ble_eq_true rfl) dX12_sorts_32 ?_
          refine j_iconst C (5 : Int32) rfl dX12_sorts_35 ?_
          refine j_iadd C dX12_sorts_36 ?_
          refine j_aload_n C 0 dX12_sorts_37 rfl rfl ?_
          refine j_aload_n C 0 dX12_sorts_38 rfl rfl ?_
          refine j_iload_n C 2 dX12_sorts_39 rfl rfl ?_
          refine j_iconst C (4 : Int32) rfl dX12_sorts_40 ?_
          obtain ⟨v16, e15, hf⟩ := bd hf
          refine j_callV C 2 lc178 (ent_K _ _ _ _ _ _) rfl (c_X12_loafOf l G n0 e15) gv_RX12_113 ⟨rfl, rfl⟩ (by decide +kernel) ⟨Nat.le_of_ble_eq_true rfl, Nat.le_of_ble_eq_true rfl⟩ rfl rfl (Nat.le_of_ble_eq_true rfl) dX12_sorts_41 ?_
          refine j_iload_n C 1 dX12_sorts_44 rfl rfl ?_
          obtain ⟨v18, e17, hf⟩ := bd hf
          refine j_callV C 2 lc178 (ent_K _ _ _ _ _ _) rfl (c_X12_meant l G n0 e17) gv_RX12_116 ⟨rfl, rfl⟩ (by decide +kernel) ⟨Nat.le_of_ble_eq_true rfl, Nat.le_of_ble_eq_true rfl⟩ rfl rfl (Nat.le_of_ble_eq_true rfl) dX12_sorts_45 ?_
          obtain ⟨M19, e20, hf⟩ := bd hf
          obtain ⟨hx21, e20⟩ := ast_some e20
          refine j_iast C lc179 hx21 e20 dX12_sorts_48 ?_
          refine j_iinc C 2 (a7 + 1) [(3, .int (a7 + 1)), (0, .ref (n0 + 178)), (2, .int x2)] dX12_sorts_49 rfl rfl (Nat.le_of_ble_eq_true rfl) rfl ?_
          refine j_goto C 17 dX12_sorts_52 (by decide) ?_
          refine j_sub [1, 2, 0] rfl ?_
          exact ih _ _ hf
    refine j_sub [1, 2, 0] rfl ?_
    exact hl27 FUEL z6 M e25
  clear hf
  have hf := e23
  refine j_icmp_le C 12 dX12_sorts_5 (by decide) (fun c3 => ?_) (fun c3 => ?_)
  · replace hf := ip c3 hf
    refine j_aload_n C 0 dX12_sorts_12 rfl rfl ?_
    obtain ⟨v5, e4, hf⟩ := bd hf
    refine j_callV C 0 lc178 (ent_K _ _ _ _ _ _) rfl (c_X12_firstKept l G n0 e4) gv_RX12_110 ⟨rfl, rfl⟩ (by decide +kernel) ⟨Nat.le_of_ble_eq_true rfl, Nat.le_of_ble_eq_true rfl⟩ rfl rfl (Nat.le_of_ble_eq_true rfl) dX12_sorts_13 ?_
    cases hf
    refine j_sub [0, 2] rfl ?_
    exact hj24
  · replace hf := ine c3 hf
    refine j_iload_n C 1 dX12_sorts_8 rfl rfl ?_
    refine j_goto C 16 dX12_sorts_9 (by decide) ?_
    cases hf
    refine j_sub [0, 2] rfl ?_
    exact hj24
def fX12_lowest (x0 : Int32) : Option Int32 :=
  if x0 = 0 then (some (260 : Int32))
  else (if x0 = (1 : Int32) then (some (180 : Int32))
  else (some (90 : Int32)))

def rX12_lowest : Room := { frames := 0, cells := 0, slots := 0, locals := 0 }
set_option maxRecDepth 100000 in
set_option maxHeartbeats 4000000 in
theorem c_X12_lowest (l : Launch) (G : Gx) (n0 : Nat) {x0 : Int32} {M : Mem} {r : Int32} (hf : fX12_lowest x0 = some r) : Ct l yX12_lowest cX12_lowest 1 (some .int) rX12_lowest G n0 [.int x0] M (some (.int r)) M := by
  refine ct_int (cc := cX12_lowest) (maxL := 1) rfl (Nat.le_of_ble_eq_true rfl) ?_
  intro K C hret
  have C : Ok K l rX12_lowest cX12_lowest RX12 G n0 1 := C
  show J K M 0 [(0, .int x0)] []
  unfold fX12_lowest at hf
  refine j_iload_n C 0 dX12_lowest_0 rfl rfl ?_
  refine j_if_ne C 10 dX12_lowest_1 (by decide) (fun c1 => ?_) (fun c1 => ?_)
  · replace hf := ine c1 hf
    refine j_iload_n C 0 dX12_lowest_10 rfl rfl ?_
    refine j_iconst C (1 : Int32) rfl dX12_lowest_11 ?_
    refine j_icmp_ne C 21 dX12_lowest_12 (by decide) (fun c2 => ?_) (fun c2 => ?_)
    · replace hf := ine c2 hf
      refine j_bipush C (90 : Int32) rfl dX12_lowest_21 ?_
      obtain rfl := Option.some.inj hf
      exact hret _ _ dX12_lowest_23
    · replace hf := ip c2 hf
      refine j_sipush C (180 : Int32) rfl dX12_lowest_15 ?_
      refine j_goto C 23 dX12_lowest_18 (by decide) ?_
      obtain rfl := Option.some.inj hf
      exact hret _ _ dX12_lowest_23
  · replace hf := ip c1 hf
    refine j_sipush C (260 : Int32) rfl dX12_lowest_4 ?_
    refine j_goto C 23 dX12_lowest_7 (by decide) ?_
    obtain rfl := Option.some.inj hf
    exact hret _ _ dX12_lowest_23
def fX12_highest (x0 : Int32) : Option Int32 :=
  if x0 = 0 then (some (400 : Int32))
  else (if x0 = (1 : Int32) then (some (300 : Int32))
  else (some (200 : Int32)))

def rX12_highest : Room := { frames := 0, cells := 0, slots := 0, locals := 0 }
set_option maxRecDepth 100000 in
set_option maxHeartbeats 4000000 in
theorem c_X12_highest (l : Launch) (G : Gx) (n0 : Nat) {x0 : Int32} {M : Mem} {r : Int32} (hf : fX12_highest x0 = some r) : Ct l yX12_highest cX12_highest 1 (some .int) rX12_highest G n0 [.int x0] M (some (.int r)) M := by
  refine ct_int (cc := cX12_highest) (maxL := 1) rfl (Nat.le_of_ble_eq_true rfl) ?_
  intro K C hret
  have C : Ok K l rX12_highest cX12_highest RX12 G n0 1 := C
  show J K M 0 [(0, .int x0)] []
  unfold fX12_highest at hf
  refine j_iload_n C 0 dX12_highest_0 rfl rfl ?_
  refine j_if_ne C 10 dX12_highest_1 (by decide) (fun c1 => ?_) (fun c1 => ?_)
  · replace hf := ine c1 hf
    refine j_iload_n C 0 dX12_highest_10 rfl rfl ?_
    refine j_iconst C (1 : Int32) rfl dX12_highest_11 ?_
    refine j_icmp_ne C 21 dX12_highest_12 (by decide) (fun c2 => ?_) (fun c2 => ?_)
    · replace hf := ine c2 hf
      refine j_sipush C (200 : Int32) rfl dX12_highest_21 ?_
      obtain rfl := Option.some.inj hf
      exact hret _ _ dX12_highest_24
    · replace hf := ip c2 hf
      refine j_sipush C (300 : Int32) rfl dX12_highest_15 ?_
      refine j_goto C 24 dX12_highest_18 (by decide) ?_
      obtain rfl := Option.some.inj hf
      exact hret _ _ dX12_highest_24
  · replace hf := ip c1 hf
    refine j_sipush C (400 : Int32) rfl dX12_highest_4 ?_
    refine j_goto C 24 dX12_highest_7 (by decide) ?_
    obtain rfl := Option.some.inj hf
    exact hret _ _ dX12_highest_24
def fX12_ticksOf (x0 : Int32) : Option Int32 :=
  if x0 = 0 then (some (2 : Int32))
  else (if x0 = (1 : Int32) then (some (5 : Int32))
  else (some (8 : Int32)))

def rX12_ticksOf : Room := { frames := 0, cells := 0, slots := 0, locals := 0 }
set_option maxRecDepth 100000 in
set_option maxHeartbeats 4000000 in
theorem c_X12_ticksOf (l : Launch) (G : Gx) (n0 : Nat) {x0 : Int32} {M : Mem} {r : Int32} (hf : fX12_ticksOf x0 = some r) : Ct l yX12_ticksOf cX12_ticksOf 1 (some .int) rX12_ticksOf G n0 [.int x0] M (some (.int r)) M := by
  refine ct_int (cc := cX12_ticksOf) (maxL := 1) rfl (Nat.le_of_ble_eq_true rfl) ?_
  intro K C hret
  have C : Ok K l rX12_ticksOf cX12_ticksOf RX12 G n0 1 := C
  show J K M 0 [(0, .int x0)] []
  unfold fX12_ticksOf at hf
  refine j_iload_n C 0 dX12_ticksOf_0 rfl rfl ?_
  refine j_if_ne C 8 dX12_ticksOf_1 (by decide) (fun c1 => ?_) (fun c1 => ?_)
  · replace hf := ine c1 hf
    refine j_iload_n C 0 dX12_ticksOf_8 rfl rfl ?_
    refine j_iconst C (1 : Int32) rfl dX12_ticksOf_9 ?_
    refine j_icmp_ne C 17 dX12_ticksOf_10 (by decide) (fun c2 => ?_) (fun c2 => ?_)
    · replace hf := ine c2 hf
      refine j_bipush C (8 : Int32) rfl dX12_ticksOf_17 ?_
      obtain rfl := Option.some.inj hf
      exact hret _ _ dX12_ticksOf_19
    · replace hf := ip c2 hf
      refine j_iconst C (5 : Int32) rfl dX12_ticksOf_13 ?_
      refine j_goto C 19 dX12_ticksOf_14 (by decide) ?_
      obtain rfl := Option.some.inj hf
      exact hret _ _ dX12_ticksOf_19
  · replace hf := ip c1 hf
    refine j_iconst C (2 : Int32) rfl dX12_ticksOf_4 ?_
    refine j_goto C 19 dX12_ticksOf_5 (by decide) ?_
    obtain rfl := Option.some.inj hf
    exact hret _ _ dX12_ticksOf_19
def lX12_waits_4 (x1 : Int32) (M : Mem) : Nat → Bool → Int32 → Option Bool
  | 0, _, _ => none
  | n + 1, a1, a2 =>
  (ald (M.1 179) 1601 (7 : Int32)).bind fun v3 =>
  if v3 ≤ a2 then (some a1)
  else (if a1 = true then (lX12_waits_4 x1 M n true (a2 + 1))
  else ((ald (M.1 179) 1601 (((41 : Int32) + ((3 : Int32) * a2)) + (1 : Int32))).bind fun v8 =>
  if v8 = x1 then (lX12_waits_4 x1 M n true (a2 + 1))
  else (lX12_waits_4 x1 M n false (a2 + 1))))

def fX12_waits (x1 : Int32) (M : Mem) : Option Bool :=
  (lX12_waits_4 x1 M FUEL false (0 : Int32)).bind (fun a12 => some a12)

def rX12_waits : Room := { frames := 0, cells := 0, slots := 0, locals := 0 }
set_option maxRecDepth 100000 in
set_option maxHeartbeats 4000000 in
theorem c_X12_waits (l : Launch) (G : Gx) (n0 : Nat) {x1 : Int32} {M : Mem} {r : Bool} (hf : fX12_waits x1 M = some r) : Ct l yX12_waits cX12_waits 4 (some .boolean) rX12_waits G n0 [.ref (n0 + 178), .int x1] M (some (.int (bI r))) M := by
  refine ct_bool (cc := cX12_waits) (maxL := 4) rfl (Nat.le_of_ble_eq_true rfl) ?_
  intro K C hret
  have C : Ok K l rX12_waits cX12_waits RX12 G n0 4 := C
  show J K M 0 [(0, .ref (n0 + 178)), (1, .int x1)] []
  unfold fX12_waits at hf
  refine j_iconst C (0 : Int32) rfl dX12_waits_0 ?_
  refine j_istore_n C [(2, .int (bI false)), (0, .ref (n0 + 178)), (1, .int x1)] dX12_waits_1 rfl (Nat.le_of_ble_eq_true rfl) rfl ?_
  refine j_iconst C (0 : Int32) rfl dX12_waits_2 ?_
  refine j_istore_n C [(3, .int (0 : Int32)), (2, .int (bI false)), (0, .ref (n0 + 178)), (1, .int x1)] dX12_waits_3 rfl (Nat.le_of_ble_eq_true rfl) rfl ?_
  obtain ⟨a12, e13, hf⟩ := bd hf
  have hx14 : J K M 48 [(2, .int (bI a12))] [] := by
    refine j_iload_n C 0 dX12_waits_48 rfl rfl ?_
    obtain rfl := Option.some.inj hf
    exact hret _ _ dX12_waits_49
  clear hf
  have hl15 : ∀ (n : Nat) (a1 : Bool) (a2 : Int32), lX12_waits_4 x1 M n a1 a2 = some a12 → J K M 4 [(0, .ref (n0 + 178)), (1, .int x1), (2, .int (bI a1)), (3, .int a2)] [] := by
    intro n
    induction n with
    | zero =>
      intro a1 a2 hf
      exact absurd hf (by rw [lX12_waits_4]; exact fun h => by cases h)
    | succ n ih =>
      intro a1 a2 hf
      rw [lX12_waits_4] at hf
      refine j_iload_n C 3 dX12_waits_4 rfl rfl ?_
      refine j_aload_n C 0 dX12_waits_5 rfl rfl ?_
      refine g_X12_now C tw5_182 lc178 179 rfl dX12_waits_6 ?_
      refine j_bipush C (7 : Int32) rfl dX12_waits_9 ?_
      obtain ⟨v3, e4, hf⟩ := bd hf
      obtain ⟨hx5, e4⟩ := ald_some e4
      refine j_iald C lc179 hx5 e4 dX12_waits_11 ?_
      refine j_icmp_ge C 48 dX12_waits_12 (by decide) (fun c6 => ?_) (fun c6 => ?_)
      · replace hf := ip c6 hf
        refine j_sub [2] rfl ?_
        cases hf
        exact hx14
      · replace hf := ine c6 hf
        refine j_iload_n C 2 dX12_waits_15 rfl rfl ?_
        refine j_ifz_ne C 36 dX12_waits_16 (by decide) (fun c7 => ?_) (fun c7 => ?_)
        · replace hf := ip c7 hf
          refine j_iconst C (1 : Int32) rfl dX12_waits_36 ?_
          refine j_goto C 41 dX12_waits_37 (by decide) ?_
          refine j_istore_n C [(2, .int (bI true)), (0, .ref (n0 + 178)), (1, .int x1), (3, .int a2)] dX12_waits_41 rfl (Nat.le_of_ble_eq_true rfl) rfl ?_
          refine j_iinc C 3 (a2 + 1) [(3, .int (a2 + 1)), (2, .int (bI true)), (0, .ref (n0 + 178)), (1, .int x1)] dX12_waits_42 rfl rfl (Nat.le_of_ble_eq_true rfl) rfl ?_
          refine j_goto C 4 dX12_waits_45 (by decide) ?_
          refine j_sub [2, 3, 1, 0] rfl ?_
          exact ih _ _ hf
        · replace hf := ine c7 hf
          refine j_aload_n C 0 dX12_waits_19 rfl rfl ?_
          refine g_X12_now C tw5_182 lc178 179 rfl dX12_waits_20 ?_
          refine j_bipush C (41 : Int32) rfl dX12_waits_23 ?_
          refine j_iconst C (3 : Int32) rfl dX12_waits_25 ?_
          refine j_iload_n C 3 dX12_waits_26 rfl rfl ?_
          refine j_imul C dX12_waits_27 ?_
          refine j_iadd C dX12_waits_28 ?_
          refine j_iconst C (1 : Int32) rfl dX12_waits_29 ?_
          refine j_iadd C dX12_waits_30 ?_
          obtain ⟨v8, e9, hf⟩ := bd hf
          obtain ⟨hx10, e9⟩ := ald_some e9
          refine j_iald C lc179 hx10 e9 dX12_waits_31 ?_
          refine j_iload_n C 1 dX12_waits_32 rfl rfl ?_
          refine j_icmp_ne C 40 dX12_waits_33 (by decide) (fun c11 => ?_) (fun c11 => ?_)
          · replace hf := ine c11 hf
            refine j_iconst C (0 : Int32) rfl dX12_waits_40 ?_
            refine j_istore_n C [(2, .int (bI false)), (0, .ref (n0 + 178)), (1, .int x1), (3, .int a2)] dX12_waits_41 rfl (Nat.le_of_ble_eq_true rfl) rfl ?_
            refine j_iinc C 3 (a2 + 1) [(3, .int (a2 + 1)), (2, .int (bI false)), (0, .ref (n0 + 178)), (1, .int x1)] dX12_waits_42 rfl rfl (Nat.le_of_ble_eq_true rfl) rfl ?_
            refine j_goto C 4 dX12_waits_45 (by decide) ?_
            refine j_sub [2, 3, 1, 0] rfl ?_
            exact ih _ _ hf
          · replace hf := ip c11 hf
            refine j_iconst C (1 : Int32) rfl dX12_waits_36 ?_
            refine j_goto C 41 dX12_waits_37 (by decide) ?_
            refine j_istore_n C [(2, .int (bI true)), (0, .ref (n0 + 178)), (1, .int x1), (3, .int a2)] dX12_waits_41 rfl (Nat.le_of_ble_eq_true rfl) rfl ?_
            refine j_iinc C 3 (a2 + 1) [(3, .int (a2 + 1)), (2, .int (bI true)), (0, .ref (n0 + 178)), (1, .int x1)] dX12_waits_42 rfl rfl (Nat.le_of_ble_eq_true rfl) rfl ?_
            refine j_goto C 4 dX12_waits_45 (by decide) ?_
            refine j_sub [2, 3, 1, 0] rfl ?_
            exact ih _ _ hf
  refine j_sub [2, 3, 1, 0] rfl ?_
  exact hl15 FUEL false (0 : Int32) e13
def fX12_falls (x1 : Int32) (M : Mem) : Option Mem :=
  (ald (M.1 179) 1601 (2 : Int32)).bind fun v1 =>
  if (20 : Int32) ≤ (v1 - x1) then ((ald (M.1 179) 1601 (2 : Int32)).bind fun v5 =>
  (ast M 179 1601 (2 : Int32) (v5 - x1)).bind fun M8 =>
  some M8)
  else ((ast M 179 1601 (2 : Int32) (20 : Int32)).bind fun M11 =>
  some M11)

def rX12_falls : Room := { frames := 0, cells := 0, slots := 0, locals := 0 }
set_option maxRecDepth 100000 in
set_option maxHeartbeats 4000000 in
theorem c_X12_falls (l : Launch) (G : Gx) (n0 : Nat) {x1 : Int32} {M : Mem} {M' : Mem} (hf : fX12_falls x1 M = some M') : Ct l yX12_falls cX12_falls 2 none rX12_falls G n0 [.ref (n0 + 178), .int x1] M none M' := by
  refine ct_void (cc := cX12_falls) (maxL := 2) rfl (Nat.le_of_ble_eq_true rfl) ?_
  intro K C hret
  have C : Ok K l rX12_falls cX12_falls RX12 G n0 2 := C
  show J K M 0 [(0, .ref (n0 + 178)), (1, .int x1)] []
  unfold fX12_falls at hf
  refine j_aload_n C 0 dX12_falls_0 rfl rfl ?_
  refine g_X12_now C tw5_182 lc178 179 rfl dX12_falls_1 ?_
  refine j_iconst C (2 : Int32) rfl dX12_falls_4 ?_
  refine j_aload_n C 0 dX12_falls_5 rfl rfl ?_
  refine g_X12_now C tw5_182 lc178 179 rfl dX12_falls_6 ?_
  refine j_iconst C (2 : Int32) rfl dX12_falls_9 ?_
  obtain ⟨v1, e2, hf⟩ := bd hf
  obtain ⟨hx3, e2⟩ := ald_some e2
  refine j_iald C lc179 hx3 e2 dX12_falls_10 ?_
  refine j_iload_n C 1 dX12_falls_11 rfl rfl ?_
  refine j_isub C dX12_falls_12 ?_
  refine j_bipush C (20 : Int32) rfl dX12_falls_13 ?_
  refine j_icmp_ge C 23 dX12_falls_15 (by decide) (fun c4 => ?_) (fun c4 => ?_)
  · replace hf := ip c4 hf
    refine j_aload_n C 0 dX12_falls_23 rfl rfl ?_
    refine g_X12_now C tw5_182 lc178 179 rfl dX12_falls_24 ?_
    refine j_iconst C (2 : Int32) rfl dX12_falls_27 ?_
    obtain ⟨v5, e6, hf⟩ := bd hf
    obtain ⟨hx7, e6⟩ := ald_some e6
    refine j_iald C lc179 hx7 e6 dX12_falls_28 ?_
    refine j_iload_n C 1 dX12_falls_29 rfl rfl ?_
    refine j_isub C dX12_falls_30 ?_
    obtain ⟨M8, e9, hf⟩ := bd hf
    obtain ⟨hx10, e9⟩ := ast_some e9
    refine j_iast C lc179 hx10 e9 dX12_falls_31 ?_
    obtain rfl := Option.some.inj hf
    exact hret _ _ dX12_falls_32
  · replace hf := ine c4 hf
    refine j_bipush C (20 : Int32) rfl dX12_falls_18 ?_
    refine j_goto C 31 dX12_falls_20 (by decide) ?_
    obtain ⟨M11, e12, hf⟩ := bd hf
    obtain ⟨hx13, e12⟩ := ast_some e12
    refine j_iast C lc179 hx13 e12 dX12_falls_31 ?_
    obtain rfl := Option.some.inj hf
    exact hret _ _ dX12_falls_32
