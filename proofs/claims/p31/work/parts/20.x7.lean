def fX7_get (t : Nat) (tw : Nat) (tr : Nat) (x1 : Int32) (x2 : Int32) (M : Mem) : Option Int32 :=
  if x1 < 0 then (some (0 : Int32))
  else (if (nI tr) ≤ x1 then (some (0 : Int32))
  else (if x2 < 0 then (some (0 : Int32))
  else (if x2 < (nI tw) then (if x2 < 0 ∨ tw ≤ x2.toNatClampNeg then none else
  (ald (M.1 (t + (2 + x2.toNatClampNeg))) tr x1).bind fun v6 =>
  some v6)
  else (some (0 : Int32)))))

def rX7_get : Room := { frames := 0, cells := 0, slots := 0, locals := 0 }
set_option maxRecDepth 100000 in
set_option maxHeartbeats 4000000 in
theorem c_X7_get (l : Launch) (G : Gx) (n0 : Nat) {t : Nat} {tw : Nat} {tr : Nat} {x1 : Int32} {x2 : Int32} (hk : isT t tw tr) {M : Mem} {r : Int32} (hf : fX7_get t tw tr x1 x2 M = some r) : Ct l yX7_get cX7_get 3 (some .int) rX7_get G n0 [.ref (n0 + t), .int x1, .int x2] M (some (.int r)) M := by
  refine ct_int (cc := cX7_get) (maxL := 3) rfl (Nat.le_of_ble_eq_true rfl) ?_
  intro K C hret
  have C : Ok K l rX7_get cX7_get RX7 G n0 3 := C
  show J K M 0 [(0, .ref (n0 + t)), (1, .int x1), (2, .int x2)] []
  unfold fX7_get at hf
  refine j_iload_n C 1 dX7_get_0 rfl rfl ?_
  refine j_if_lt C 25 dX7_get_1 (by decide) (fun c1 => ?_) (fun c1 => ?_)
  · replace hf := ip c1 hf
    refine j_iconst C (0 : Int32) rfl dX7_get_25 ?_
    obtain rfl := Option.some.inj hf
    exact hret _ _ dX7_get_26
  · replace hf := ine c1 hf
    refine j_iload_n C 1 dX7_get_4 rfl rfl ?_
    refine j_aload_n C 0 dX7_get_5 rfl rfl ?_
    refine g_X7_room C tw1_52 hk dX7_get_6 ?_
    refine j_icmp_ge C 25 dX7_get_9 (by decide) (fun c2 => ?_) (fun c2 => ?_)
    · replace hf := ip c2 hf
      refine j_iconst C (0 : Int32) rfl dX7_get_25 ?_
      obtain rfl := Option.some.inj hf
      exact hret _ _ dX7_get_26
    · replace hf := ine c2 hf
      refine j_iload_n C 2 dX7_get_12 rfl rfl ?_
      refine j_if_lt C 25 dX7_get_13 (by decide) (fun c3 => ?_) (fun c3 => ?_)
      · replace hf := ip c3 hf
        refine j_iconst C (0 : Int32) rfl dX7_get_25 ?_
        obtain rfl := Option.some.inj hf
        exact hret _ _ dX7_get_26
      · replace hf := ine c3 hf
        refine j_iload_n C 2 dX7_get_16 rfl rfl ?_
        refine j_aload_n C 0 dX7_get_17 rfl rfl ?_
        refine g_X7_columns C tw1_51 hk (t + 1) rfl dX7_get_18 ?_
        refine j_alenC C hk.2.1 dX7_get_21 ?_
        refine j_icmp_lt C 27 dX7_get_22 (by decide) (fun c4 => ?_) (fun c4 => ?_)
        · replace hf := ip c4 hf
          refine j_aload_n C 0 dX7_get_27 rfl rfl ?_
          refine g_X7_columns C tw1_51 hk (t + 1) rfl dX7_get_28 ?_
          refine j_iload_n C 2 dX7_get_31 rfl rfl ?_
          obtain ⟨hx5, hf⟩ := gd hf
          refine j_aldT C hk hx5 dX7_get_32 ?_
          refine j_iload_n C 1 dX7_get_33 rfl rfl ?_
          obtain ⟨v6, e7, hf⟩ := bd hf
          obtain ⟨hx8, e7⟩ := ald_some e7
          refine j_iald C (hk.col hx5) hx8 e7 dX7_get_34 ?_
          obtain rfl := Option.some.inj hf
          exact hret _ _ dX7_get_35
        · replace hf := ine c4 hf
          refine j_iconst C (0 : Int32) rfl dX7_get_25 ?_
          obtain rfl := Option.some.inj hf
          exact hret _ _ dX7_get_26
def lX7_copyFrom_36 (t : Nat) (tw : Nat) (tr : Nat) (o1 : Nat) (o1w : Nat) (o1r : Nat) (x2 : Int32) : Nat → Int32 → Mem → Option Mem
  | 0, _, _ => none
  | n + 1, a5, M6 =>
  if (nI tw) ≤ a5 then (some M6)
  else (if a5 < 0 ∨ o1w ≤ a5.toNatClampNeg then none else
  if a5 < 0 ∨ tw ≤ a5.toNatClampNeg then none else
  (acp M6 (o1 + (2 + a5.toNatClampNeg)) o1r (t + (2 + a5.toNatClampNeg)) tr (0 : Int32) (0 : Int32) x2).bind fun M10 =>
  lX7_copyFrom_36 t tw tr o1 o1w o1r x2 n (a5 + 1) M10)

def fX7_copyFrom (t : Nat) (tw : Nat) (tr : Nat) (o1 : Nat) (o1w : Nat) (o1r : Nat) (x2 : Int32) (M : Mem) : Option Mem :=
  if x2 < 0 then (some M)
  else (if (nI tr) < x2 then (some M)
  else (if (nI o1r) < x2 then (some M)
  else (if (nI tw) = (nI o1w) then ((lX7_copyFrom_36 t tw tr o1 o1w o1r x2 FUEL (0 : Int32) M).bind (fun M13 => some M13))
  else (some M))))

def rX7_copyFrom : Room := { frames := 1, cells := 0, slots := 0, locals := 40 }
set_option maxRecDepth 100000 in
set_option maxHeartbeats 4000000 in
theorem c_X7_copyFrom (l : Launch) (G : Gx) (n0 : Nat) {t : Nat} {tw : Nat} {tr : Nat} {o1 : Nat} {o1w : Nat} {o1r : Nat} {x2 : Int32} (hk : isT t tw tr) (hk1 : isT o1 o1w o1r) {M : Mem} {M' : Mem} (hf : fX7_copyFrom t tw tr o1 o1w o1r x2 M = some M') : Ct l yX7_copyFrom cX7_copyFrom 4 none rX7_copyFrom G n0 [.ref (n0 + t), .ref (n0 + o1), .int x2] M none M' := by
  refine ct_void (cc := cX7_copyFrom) (maxL := 4) rfl (Nat.le_of_ble_eq_true rfl) ?_
  intro K C hret
  have C : Ok K l rX7_copyFrom cX7_copyFrom RX7 G n0 4 := C
  show J K M 0 [(0, .ref (n0 + t)), (1, .ref (n0 + o1)), (2, .int x2)] []
  unfold fX7_copyFrom at hf
  refine j_iload_n C 2 dX7_copyFrom_0 rfl rfl ?_
  refine j_if_lt C 33 dX7_copyFrom_1 (by decide) (fun c1 => ?_) (fun c1 => ?_)
  · replace hf := ip c1 hf
    obtain rfl := Option.some.inj hf
    exact hret _ _ dX7_copyFrom_33
  · replace hf := ine c1 hf
    refine j_iload_n C 2 dX7_copyFrom_4 rfl rfl ?_
    refine j_aload_n C 0 dX7_copyFrom_5 rfl rfl ?_
    refine g_X7_room C tw1_52 hk dX7_copyFrom_6 ?_
    refine j_icmp_gt C 33 dX7_copyFrom_9 (by decide) (fun c2 => ?_) (fun c2 => ?_)
    · replace hf := ip c2 hf
      obtain rfl := Option.some.inj hf
      exact hret _ _ dX7_copyFrom_33
    · replace hf := ine c2 hf
      refine j_iload_n C 2 dX7_copyFrom_12 rfl rfl ?_
      refine j_aload_n C 1 dX7_copyFrom_13 rfl rfl ?_
      refine g_X7_room C tw1_52 hk1 dX7_copyFrom_14 ?_
      refine j_icmp_gt C 33 dX7_copyFrom_17 (by decide) (fun c3 => ?_) (fun c3 => ?_)
      · replace hf := ip c3 hf
        obtain rfl := Option.some.inj hf
        exact hret _ _ dX7_copyFrom_33
      · replace hf := ine c3 hf
        refine j_aload_n C 0 dX7_copyFrom_20 rfl rfl ?_
        refine g_X7_columns C tw1_51 hk (t + 1) rfl dX7_copyFrom_21 ?_
        refine j_alenC C hk.2.1 dX7_copyFrom_24 ?_
        refine j_aload_n C 1 dX7_copyFrom_25 rfl rfl ?_
        refine g_X7_columns C tw1_51 hk1 (o1 + 1) rfl dX7_copyFrom_26 ?_
        refine j_alenC C hk1.2.1 dX7_copyFrom_29 ?_
        refine j_icmp_eq C 34 dX7_copyFrom_30 (by decide) (fun c4 => ?_) (fun c4 => ?_)
        · replace hf := ip c4 hf
          refine j_iconst C (0 : Int32) rfl dX7_copyFrom_34 ?_
          refine j_istore_n C [(3, .int (0 : Int32)), (0, .ref (n0 + t)), (1, .ref (n0 + o1)), (2, .int x2)] dX7_copyFrom_35 rfl (Nat.le_of_ble_eq_true rfl) rfl ?_
          obtain ⟨M13, e14, hf⟩ := bd hf
          have hx15 : J K M13 69 [] [] := by
            obtain rfl := Option.some.inj hf
            exact hret _ _ dX7_copyFrom_69
          clear hf
          have hl16 : ∀ (n : Nat) (a5 : Int32) (M6 : Mem), lX7_copyFrom_36 t tw tr o1 o1w o1r x2 n a5 M6 = some M13 → J K M6 36 [(0, .ref (n0 + t)), (1, .ref (n0 + o1)), (2, .int x2), (3, .int a5)] [] := by
            intro n
            induction n with
            | zero =>
              intro a5 M6 hf
              exact absurd hf (by rw [lX7_copyFrom_36]; exact fun h => by cases h)
            | succ n ih =>
              intro a5 M6 hf
              rw [lX7_copyFrom_36] at hf
              refine j_iload_n C 3 dX7_copyFrom_36 rfl rfl ?_
              refine j_aload_n C 0 dX7_copyFrom_37 rfl rfl ?_
              refine g_X7_columns C tw1_51 hk (t + 1) rfl dX7_copyFrom_38 ?_
              refine j_alenC C hk.2.1 dX7_copyFrom_41 ?_
              refine j_icmp_ge C 69 dX7_copyFrom_42 (by decide) (fun c7 => ?_) (fun c7 => ?_)
              · replace hf := ip c7 hf
                refine j_sub [] rfl ?_
                cases hf
                exact hx15
              · replace hf := ine c7 hf
                refine j_aload_n C 1 dX7_copyFrom_45 rfl rfl ?_
                refine g_X7_columns C tw1_51 hk1 (o1 + 1) rfl dX7_copyFrom_46 ?_
                refine j_iload_n C 3 dX7_copyFrom_49 rfl rfl ?_
                obtain ⟨hx8, hf⟩ := gd hf
                refine j_aldT C hk1 hx8 dX7_copyFrom_50 ?_
                refine j_iconst C (0 : Int32) rfl dX7_copyFrom_51 ?_
                refine j_aload_n C 0 dX7_copyFrom_52 rfl rfl ?_
                refine g_X7_columns C tw1_51 hk (t + 1) rfl dX7_copyFrom_53 ?_
                refine j_iload_n C 3 dX7_copyFrom_56 rfl rfl ?_
                obtain ⟨hx9, hf⟩ := gd hf
                refine j_aldT C hk hx9 dX7_copyFrom_57 ?_
                refine j_iconst C (0 : Int32) rfl dX7_copyFrom_58 ?_
                refine j_iload_n C 2 dX7_copyFrom_59 rfl rfl ?_
                obtain ⟨M10, e11, hf⟩ := bd hf
                obtain ⟨hx12, e11⟩ := acp_some e11
                refine j_acp C tw2_209 tw2_211 tw2_210 tw1_18 (hk1.col hx8) (hk.col hx9) hx12 e11 ⟨Nat.le_of_ble_eq_true rfl, Nat.le_of_ble_eq_true rfl⟩ dX7_copyFrom_60 ?_
                refine j_iinc C 3 (a5 + 1) [(3, .int (a5 + 1)), (0, .ref (n0 + t)), (1, .ref (n0 + o1)), (2, .int x2)] dX7_copyFrom_63 rfl rfl (Nat.le_of_ble_eq_true rfl) rfl ?_
                refine j_goto C 36 dX7_copyFrom_66 (by decide) ?_
                refine j_sub [1, 2, 3, 0] rfl ?_
                exact ih _ _ hf
          refine j_sub [1, 2, 3, 0] rfl ?_
          exact hl16 FUEL (0 : Int32) M e14
        · replace hf := ine c4 hf
          obtain rfl := Option.some.inj hf
          exact hret _ _ dX7_copyFrom_33
def fX7_put (t : Nat) (tw : Nat) (tr : Nat) (x1 : Int32) (x2 : Int32) (x3 : Int32) (M : Mem) : Option Mem :=
  if x1 < 0 then (some M)
  else (if (nI tr) ≤ x1 then (some M)
  else (if x2 < 0 then (some M)
  else (if (nI tw) ≤ x2 then (some M)
  else (if x2 < 0 ∨ tw ≤ x2.toNatClampNeg then none else
  (ast M (t + (2 + x2.toNatClampNeg)) tr x1 x3).bind fun M6 =>
  some M6))))

def rX7_put : Room := { frames := 0, cells := 0, slots := 0, locals := 0 }
set_option maxRecDepth 100000 in
set_option maxHeartbeats 4000000 in
theorem c_X7_put (l : Launch) (G : Gx) (n0 : Nat) {t : Nat} {tw : Nat} {tr : Nat} {x1 : Int32} {x2 : Int32} {x3 : Int32} (hk : isT t tw tr) {M : Mem} {M' : Mem} (hf : fX7_put t tw tr x1 x2 x3 M = some M') : Ct l yX7_put cX7_put 4 none rX7_put G n0 [.ref (n0 + t), .int x1, .int x2, .int x3] M none M' := by
  refine ct_void (cc := cX7_put) (maxL := 4) rfl (Nat.le_of_ble_eq_true rfl) ?_
  intro K C hret
  have C : Ok K l rX7_put cX7_put RX7 G n0 4 := C
  show J K M 0 [(0, .ref (n0 + t)), (1, .int x1), (2, .int x2), (3, .int x3)] []
  unfold fX7_put at hf
  refine j_iload_n C 1 dX7_put_0 rfl rfl ?_
  refine j_if_lt C 34 dX7_put_1 (by decide) (fun c1 => ?_) (fun c1 => ?_)
  · replace hf := ip c1 hf
    obtain rfl := Option.some.inj hf
    exact hret _ _ dX7_put_34
  · replace hf := ine c1 hf
    refine j_iload_n C 1 dX7_put_4 rfl rfl ?_
    refine j_aload_n C 0 dX7_put_5 rfl rfl ?_
    refine g_X7_room C tw1_52 hk dX7_put_6 ?_
    refine j_icmp_ge C 34 dX7_put_9 (by decide) (fun c2 => ?_) (fun c2 => ?_)
    · replace hf := ip c2 hf
      obtain rfl := Option.some.inj hf
      exact hret _ _ dX7_put_34
    · replace hf := ine c2 hf
      refine j_iload_n C 2 dX7_put_12 rfl rfl ?_
      refine j_if_lt C 34 dX7_put_13 (by decide) (fun c3 => ?_) (fun c3 => ?_)
      · replace hf := ip c3 hf
        obtain rfl := Option.some.inj hf
        exact hret _ _ dX7_put_34
      · replace hf := ine c3 hf
        refine j_iload_n C 2 dX7_put_16 rfl rfl ?_
        refine j_aload_n C 0 dX7_put_17 rfl rfl ?_
        refine g_X7_columns C tw1_51 hk (t + 1) rfl dX7_put_18 ?_
        refine j_alenC C hk.2.1 dX7_put_21 ?_
        refine j_icmp_ge C 34 dX7_put_22 (by decide) (fun c4 => ?_) (fun c4 => ?_)
        · replace hf := ip c4 hf
          obtain rfl := Option.some.inj hf
          exact hret _ _ dX7_put_34
        · replace hf := ine c4 hf
          refine j_aload_n C 0 dX7_put_25 rfl rfl ?_
          refine g_X7_columns C tw1_51 hk (t + 1) rfl dX7_put_26 ?_
          refine j_iload_n C 2 dX7_put_29 rfl rfl ?_
          obtain ⟨hx5, hf⟩ := gd hf
          refine j_aldT C hk hx5 dX7_put_30 ?_
          refine j_iload_n C 1 dX7_put_31 rfl rfl ?_
          refine j_iload_n C 3 dX7_put_32 rfl rfl ?_
          obtain ⟨M6, e7, hf⟩ := bd hf
          obtain ⟨hx8, e7⟩ := ast_some e7
          refine j_iast C (hk.col hx5) hx8 e7 dX7_put_33 ?_
          obtain rfl := Option.some.inj hf
          exact hret _ _ dX7_put_34
def lX7_countBoth_53 (t : Nat) (tr : Nat) (x1 : Int32) (x2 : Int32) (x3 : Int32) (x4 : Int32) (x5 : Int32) (M : Mem) : Nat → Int32 → Int32 → Option Int32
  | 0, _, _ => none
  | n + 1, a7, a8 =>
  if x1 ≤ a8 then (some a7)
  else (if (nI tr) ≤ a8 then (some a7)
  else ((ald (M.1 (t + (2 + x2.toNatClampNeg))) tr a8).bind fun v11 =>
  if v11 = x3 then ((ald (M.1 (t + (2 + x4.toNatClampNeg))) tr a8).bind fun v15 =>
  if v15 = x5 then (lX7_countBoth_53 t tr x1 x2 x3 x4 x5 M n (a7 + 1) (a8 + 1))
  else (lX7_countBoth_53 t tr x1 x2 x3 x4 x5 M n a7 (a8 + 1)))
  else (lX7_countBoth_53 t tr x1 x2 x3 x4 x5 M n a7 (a8 + 1))))

def fX7_countBoth (t : Nat) (tw : Nat) (tr : Nat) (x1 : Int32) (x2 : Int32) (x3 : Int32) (x4 : Int32) (x5 : Int32) (M : Mem) : Option Int32 :=
  if x2 < 0 then (some (0 : Int32))
  else (if (nI tw) ≤ x2 then (some (0 : Int32))
  else (if x4 < 0 then (some (0 : Int32))
  else (if x4 < (nI tw) then (if x2 < 0 ∨ tw ≤ x2.toNatClampNeg then none else
  if x4 < 0 ∨ tw ≤ x4.toNatClampNeg then none else
  (lX7_countBoth_53 t tr x1 x2 x3 x4 x5 M FUEL (0 : Int32) (0 : Int32)).bind (fun a19 => some a19))
  else (some (0 : Int32)))))

def rX7_countBoth : Room := { frames := 0, cells := 0, slots := 0, locals := 0 }
set_option maxRecDepth 100000 in
set_option maxHeartbeats 4000000 in
theorem c_X7_countBoth (l : Launch) (G : Gx) (n0 : Nat) {t : Nat} {tw : Nat} {tr : Nat} {x1 : Int32} {x2 : Int32} {x3 : Int32} {x4 : Int32} {x5 : Int32} (hk : isT t tw tr) {M : Mem} {r : Int32} (hf : fX7_countBoth t tw tr x1 x2 x3 x4 x5 M = some r) : Ct l yX7_countBoth cX7_countBoth 10 (some .int) rX7_countBoth G n0 [.ref (n0 + t), .int x1, .int x2, .int x3, .int x4, .int x5] M (some (.int r)) M := by
  refine ct_int (cc := cX7_countBoth) (maxL := 10) rfl (Nat.le_of_ble_eq_true rfl) ?_
  intro K C hret
  have C : Ok K l rX7_countBoth cX7_countBoth RX7 G n0 10 := C
  show J K M 0 [(0, .ref (n0 + t)), (1, .int x1), (2, .int x2), (3, .int x3), (4, .int x4), (5, .int x5)] []
  unfold fX7_countBoth at hf
  refine j_iload_n C 2 dX7_countBoth_0 rfl rfl ?_
  refine j_if_lt C 28 dX7_countBoth_1 (by decide) (fun c1 => ?_) (fun c1 => ?_)
  · replace hf := ip c1 hf
    refine j_iconst C (0 : Int32) rfl dX7_countBoth_28 ?_
    obtain rfl := Option.some.inj hf
    exact hret _ _ dX7_countBoth_29
  · replace hf := ine c1 hf
    refine j_iload_n C 2 dX7_countBoth_4 rfl rfl ?_
    refine j_aload_n C 0 dX7_countBoth_5 rfl rfl ?_
    refine g_X7_columns C tw1_51 hk (t + 1) rfl dX7_countBoth_6 ?_
    refine j_alenC C hk.2.1 dX7_countBoth_9 ?_
    refine j_icmp_ge C 28 dX7_countBoth_10 (by decide) (fun c2 => ?_) (fun c2 => ?_)
    · replace hf := ip c2 hf
      refine j_iconst C (0 : Int32) rfl dX7_countBoth_28 ?_
      obtain rfl := Option.some.inj hf
      exact hret _ _ dX7_countBoth_29
    · replace hf := ine c2 hf
      refine j_iload C 4 dX7_countBoth_13 rfl ?_
      refine j_if_lt C 28 dX7_countBoth_15 (by decide) (fun c3 => ?_) (fun c3 => ?_)
      · replace hf := ip c3 hf
        refine j_iconst C (0 : Int32) rfl dX7_countBoth_28 ?_
        obtain rfl := Option.some.inj hf
        exact hret _ _ dX7_countBoth_29
      · replace hf := ine c3 hf
        refine j_iload C 4 dX7_countBoth_18 rfl ?_
        refine j_aload_n C 0 dX7_countBoth_20 rfl rfl ?_
        refine g_X7_columns C tw1_51 hk (t + 1) rfl dX7_countBoth_21 ?_
        refine j_alenC C hk.2.1 dX7_countBoth_24 ?_
        refine j_icmp_lt C 30 dX7_countBoth_25 (by decide) (fun c4 => ?_) (fun c4 => ?_)
        · replace hf := ip c4 hf
          refine j_aload_n C 0 dX7_countBoth_30 rfl rfl ?_
          refine g_X7_columns C tw1_51 hk (t + 1) rfl dX7_countBoth_31 ?_
          refine j_iload_n C 2 dX7_countBoth_34 rfl rfl ?_
          obtain ⟨hx5, hf⟩ := gd hf
          refine j_aldT C hk hx5 dX7_countBoth_35 ?_
          refine j_astore C [(6, .ref (n0 + (t + (2 + x2.toNatClampNeg)))), (0, .ref (n0 + t)), (1, .int x1), (2, .int x2), (3, .int x3), (4, .int x4), (5, .int x5)] dX7_countBoth_36 (Nat.le_of_ble_eq_true rfl) rfl ?_
          refine j_aload_n C 1 dX7_countBoth_38 rfl rfl ?_
          refine g_X7_columns C tw1_51 hk (t + 1) rfl dX7_countBoth_39 ?_
          refine j_iload C 5 dX7_countBoth_42 rfl ?_
          obtain ⟨hx6, hf⟩ := gd hf
          refine j_aldT C hk hx6 dX7_countBoth_44 ?_
          refine j_astore C [(7, .ref (n0 + (t + (2 + x4.toNatClampNeg)))), (6, .ref (n0 + (t + (2 + x2.toNatClampNeg)))), (0, .ref (n0 + t)), (1, .int x1), (2, .int x2), (3, .int x3), (4, .int x4), (5, .int x5)] dX7_countBoth_45 (Nat.le_of_ble_eq_true rfl) rfl ?_
          refine j_iconst C (0 : Int32) rfl dX7_countBoth_47 ?_
          refine j_istore C [(8, .int (0 : Int32)), (7, .ref (n0 + (t + (2 + x4.toNatClampNeg)))), (6, .ref (n0 + (t + (2 + x2.toNatClampNeg)))), (0, .ref (n0 + t)), (1, .int x1), (2, .int x2), (3, .int x3), (4, .int x4), (5, .int x5)] dX7_countBoth_48 (Nat.le_of_ble_eq_true rfl) rfl ?_
          refine j_iconst C (0 : Int32) rfl dX7_countBoth_50 ?_
          refine j_istore C [(9, .int (0 : Int32)), (8, .int (0 : Int32)), (7, .ref (n0 + (t + (2 + x4.toNatClampNeg)))), (6, .ref (n0 + (t + (2 + x2.toNatClampNeg)))), (0, .ref (n0 + t)), (1, .int x1), (2, .int x2), (3, .int x3), (4, .int x4), (5, .int x5)] dX7_countBoth_51 (Nat.le_of_ble_eq_true rfl) rfl ?_
          obtain ⟨a19, e20, hf⟩ := bd hf
          have hx21 : J K M 96 [(8, .int a19)] [] := by
            refine j_iload C 0 dX7_countBoth_96 rfl ?_
            obtain rfl := Option.some.inj hf
            exact hret _ _ dX7_countBoth_98
          clear hf
          have hl22 : ∀ (n : Nat) (a7 : Int32) (a8 : Int32), lX7_countBoth_53 t tr x1 x2 x3 x4 x5 M n a7 a8 = some a19 → J K M 53 [(0, .ref (n0 + t)), (1, .int x1), (3, .int x3), (5, .int x5), (6, .ref (n0 + (t + (2 + x2.toNatClampNeg)))), (7, .ref (n0 + (t + (2 + x4.toNatClampNeg)))), (8, .int a7), (9, .int a8)] [] := by
            intro n
            induction n with
            | zero =>
              intro a7 a8 hf
              exact absurd hf (by rw [lX7_countBoth_53]; exact fun h => by cases h)
            | succ n ih =>
              intro a7 a8 hf
              rw [lX7_countBoth_53] at hf
              refine j_iload C 7 dX7_countBoth_53 rfl ?_
              refine j_iload_n C 1 dX7_countBoth_55 rfl rfl ?_
              refine j_icmp_ge C 96 dX7_countBoth_56 (by decide) (fun c9 => ?_) (fun c9 => ?_)
              · replace hf := ip c9 hf
                refine j_sub [6] rfl ?_
                cases hf
                exact hx21
              · replace hf := ine c9 hf
                refine j_iload C 7 dX7_countBoth_59 rfl ?_
                refine j_aload_n C 0 dX7_countBoth_61 rfl rfl ?_
                refine g_X7_room C tw1_52 hk dX7_countBoth_62 ?_
                refine j_icmp_ge C 96 dX7_countBoth_65 (by decide) (fun c10 => ?_) (fun c10 => ?_)
                · replace hf := ip c10 hf
                  refine j_sub [6] rfl ?_
                  cases hf
                  exact hx21
                · replace hf := ine c10 hf
                  refine j_aload C 4 dX7_countBoth_68 rfl ?_
                  refine j_iload C 7 dX7_countBoth_70 rfl ?_
                  obtain ⟨v11, e12, hf⟩ := bd hf
                  obtain ⟨hx13, e12⟩ := ald_some e12
                  refine j_iald C (hk.col hx5) hx13 e12 dX7_countBoth_72 ?_
                  refine j_iload_n C 2 dX7_countBoth_73 rfl rfl ?_
                  refine j_icmp_ne C 90 dX7_countBoth_74 (by decide) (fun c14 => ?_) (fun c14 => ?_)
                  · replace hf := ine c14 hf
                    refine j_iinc C 7 (a8 + 1) [(9, .int (a8 + 1)), (0, .ref (n0 + t)), (1, .int x1), (3, .int x3), (5, .int x5), (6, .ref (n0 + (t + (2 + x2.toNatClampNeg)))), (7, .ref (n0 + (t + (2 + x4.toNatClampNeg)))), (8, .int a7)] dX7_countBoth_90 rfl rfl (Nat.le_of_ble_eq_true rfl) rfl ?_
                    refine j_goto C 53 dX7_countBoth_93 (by decide) ?_
                    refine j_sub [1, 2, 3, 4, 5, 6, 7, 0] rfl ?_
                    exact ih _ _ hf
                  · replace hf := ip c14 hf
                    refine j_aload C 5 dX7_countBoth_77 rfl ?_
                    refine j_iload C 7 dX7_countBoth_79 rfl ?_
                    obtain ⟨v15, e16, hf⟩ := bd hf
                    obtain ⟨hx17, e16⟩ := ald_some e16
                    refine j_iald C (hk.col hx6) hx17 e16 dX7_countBoth_81 ?_
                    refine j_iload C 3 dX7_countBoth_82 rfl ?_
                    refine j_icmp_ne C 90 dX7_countBoth_84 (by decide) (fun c18 => ?_) (fun c18 => ?_)
                    · replace hf := ine c18 hf
                      refine j_iinc C 7 (a8 + 1) [(9, .int (a8 + 1)), (0, .ref (n0 + t)), (1, .int x1), (3, .int x3), (5, .int x5), (6, .ref (n0 + (t + (2 + x2.toNatClampNeg)))), (7, .ref (n0 + (t + (2 + x4.toNatClampNeg)))), (8, .int a7)] dX7_countBoth_90 rfl rfl (Nat.le_of_ble_eq_true rfl) rfl ?_
                      refine j_goto C 53 dX7_countBoth_93 (by decide) ?_
                      refine j_sub [1, 2, 3, 4, 5, 6, 7, 0] rfl ?_
                      exact ih _ _ hf
                    · replace hf := ip c18 hf
                      refine j_iinc C 6 (a7 + 1) [(8, .int (a7 + 1)), (0, .ref (n0 + t)), (1, .int x1), (3, .int x3), (5, .int x5), (6, .ref (n0 + (t + (2 + x2.toNatClampNeg)))), (7, .ref (n0 + (t + (2 + x4.toNatClampNeg)))), (9, .int a8)] dX7_countBoth_87 rfl rfl (Nat.le_of_ble_eq_true rfl) rfl ?_
                      refine j_iinc C 7 (a8 + 1) [(9, .int (a8 + 1)), (8, .int (a7 + 1)), (0, .ref (n0 + t)), (1, .int x1), (3, .int x3), (5, .int x5), (6, .ref (n0 + (t + (2 + x2.toNatClampNeg)))), (7, .ref (n0 + (t + (2 + x4.toNatClampNeg))))] dX7_countBoth_90 rfl rfl (Nat.le_of_ble_eq_true rfl) rfl ?_
                      refine j_goto C 53 dX7_countBoth_93 (by decide) ?_
                      refine j_sub [2, 3, 4, 5, 6, 7, 1, 0] rfl ?_
                      exact ih _ _ hf
          refine j_sub [4, 5, 7, 9, 3, 2, 1, 0] rfl ?_
          exact hl22 FUEL (0 : Int32) (0 : Int32) e20
        · replace hf := ine c4 hf
          refine j_iconst C (0 : Int32) rfl dX7_countBoth_28 ?_
          obtain rfl := Option.some.inj hf
          exact hret _ _ dX7_countBoth_29
def fX7_count (t : Nat) (tw : Nat) (tr : Nat) (x1 : Int32) (x2 : Int32) (x3 : Int32) (M : Mem) : Option Int32 :=
  (fX7_countBoth t tw tr x1 x2 x3 x2 x3 M).bind fun v2 =>
  some v2

def rX7_count : Room := { frames := 1, cells := 0, slots := 0, locals := 29 }
set_option maxRecDepth 100000 in
set_option maxHeartbeats 4000000 in
theorem c_X7_count (l : Launch) (G : Gx) (n0 : Nat) {t : Nat} {tw : Nat} {tr : Nat} {x1 : Int32} {x2 : Int32} {x3 : Int32} (hk : isT t tw tr) {M : Mem} {r : Int32} (hf : fX7_count t tw tr x1 x2 x3 M = some r) : Ct l yX7_count cX7_count 4 (some .int) rX7_count G n0 [.ref (n0 + t), .int x1, .int x2, .int x3] M (some (.int r)) M := by
  refine ct_int (cc := cX7_count) (maxL := 4) rfl (Nat.le_of_ble_eq_true rfl) ?_
  intro K C hret
  have C : Ok K l rX7_count cX7_count RX7 G n0 4 := C
  show J K M 0 [(0, .ref (n0 + t)), (1, .int x1), (2, .int x2), (3, .int x3)] []
  unfold fX7_count at hf
  refine j_aload_n C 0 dX7_count_0 rfl rfl ?_
  refine j_iload_n C 1 dX7_count_1 rfl rfl ?_
  refine j_iload_n C 2 dX7_count_2 rfl rfl ?_
  refine j_iload_n C 3 dX7_count_3 rfl rfl ?_
  refine j_iload_n C 2 dX7_count_4 rfl rfl ?_
  refine j_iload_n C 3 dX7_count_5 rfl rfl ?_
  obtain ⟨v2, e1, hf⟩ := bd hf
  refine j_callV C 5 hk.1 (ent_T _ _ _ _ _ _) rfl (c_X7_countBoth l G n0 hk e1) gv_RX7_24 ⟨rfl, rfl⟩ (by decide +kernel) ⟨Nat.le_of_ble_eq_true rfl, Nat.le_of_ble_eq_true rfl⟩ rfl rfl (Nat.le_of_ble_eq_true rfl) dX7_count_6 ?_
  obtain rfl := Option.some.inj hf
  exact hret _ _ dX7_count_9
def lX7_remove_20 (t : Nat) (tw : Nat) (tr : Nat) (x1 : Int32) (x2 : Int32) : Nat → Int32 → Mem → Option Mem
  | 0, _, _ => none
  | n + 1, a4, M5 =>
  if (nI tw) ≤ a4 then (some M5)
  else (if a4 < 0 ∨ tw ≤ a4.toNatClampNeg then none else
  if a4 < 0 ∨ tw ≤ a4.toNatClampNeg then none else
  (acp M5 (t + (2 + a4.toNatClampNeg)) tr (t + (2 + a4.toNatClampNeg)) tr (x1 + (1 : Int32)) x1 ((x2 - x1) - (1 : Int32))).bind fun M9 =>
  lX7_remove_20 t tw tr x1 x2 n (a4 + 1) M9)

def fX7_remove (t : Nat) (tw : Nat) (tr : Nat) (x1 : Int32) (x2 : Int32) (M : Mem) : Option Mem :=
  if x1 < 0 then (some M)
  else (if x2 ≤ x1 then (some M)
  else (if x2 ≤ (nI tr) then ((lX7_remove_20 t tw tr x1 x2 FUEL (0 : Int32) M).bind (fun M12 => some M12))
  else (some M)))

def rX7_remove : Room := { frames := 1, cells := 0, slots := 0, locals := 40 }
set_option maxRecDepth 100000 in
set_option maxHeartbeats 4000000 in
theorem c_X7_remove (l : Launch) (G : Gx) (n0 : Nat) {t : Nat} {tw : Nat} {tr : Nat} {x1 : Int32} {x2 : Int32} (hk : isT t tw tr) {M : Mem} {M' : Mem} (hf : fX7_remove t tw tr x1 x2 M = some M') : Ct l yX7_remove cX7_remove 4 none rX7_remove G n0 [.ref (n0 + t), .int x1, .int x2] M none M' := by
  refine ct_void (cc := cX7_remove) (maxL := 4) rfl (Nat.le_of_ble_eq_true rfl) ?_
  intro K C hret
  have C : Ok K l rX7_remove cX7_remove RX7 G n0 4 := C
  show J K M 0 [(0, .ref (n0 + t)), (1, .int x1), (2, .int x2)] []
  unfold fX7_remove at hf
  refine j_iload_n C 1 dX7_remove_0 rfl rfl ?_
  refine j_if_lt C 17 dX7_remove_1 (by decide) (fun c1 => ?_) (fun c1 => ?_)
  · replace hf := ip c1 hf
    obtain rfl := Option.some.inj hf
    exact hret _ _ dX7_remove_17
  · replace hf := ine c1 hf
    refine j_iload_n C 1 dX7_remove_4 rfl rfl ?_
    refine j_iload_n C 2 dX7_remove_5 rfl rfl ?_
    refine j_icmp_ge C 17 dX7_remove_6 (by decide) (fun c2 => ?_) (fun c2 => ?_)
    · replace hf := ip c2 hf
      obtain rfl := Option.some.inj hf
      exact hret _ _ dX7_remove_17
    · replace hf := ine c2 hf
      refine j_iload_n C 2 dX7_remove_9 rfl rfl ?_
      refine j_aload_n C 0 dX7_remove_10 rfl rfl ?_
      refine g_X7_room C tw1_52 hk dX7_remove_11 ?_
      refine j_icmp_le C 18 dX7_remove_14 (by decide) (fun c3 => ?_) (fun c3 => ?_)
      · replace hf := ip c3 hf
        refine j_iconst C (0 : Int32) rfl dX7_remove_18 ?_
        refine j_istore_n C [(3, .int (0 : Int32)), (0, .ref (n0 + t)), (1, .int x1), (2, .int x2)] dX7_remove_19 rfl (Nat.le_of_ble_eq_true rfl) rfl ?_
        obtain ⟨M12, e13, hf⟩ := bd hf
        have hx14 : J K M12 59 [] [] := by
          obtain rfl := Option.some.inj hf
          exact hret _ _ dX7_remove_59
        clear hf
        have hl15 : ∀ (n : Nat) (a4 : Int32) (M5 : Mem), lX7_remove_20 t tw tr x1 x2 n a4 M5 = some M12 → J K M5 20 [(0, .ref (n0 + t)), (1, .int x1), (2, .int x2), (3, .int a4)] [] := by
          intro n
          induction n with
          | zero =>
            intro a4 M5 hf
            exact absurd hf (by rw [lX7_remove_20]; exact fun h => by cases h)
          | succ n ih =>
            intro a4 M5 hf
            rw [lX7_remove_20] at hf
            refine j_iload_n C 3 dX7_remove_20 rfl rfl ?_
            refine j_aload_n C 0 dX7_remove_21 rfl rfl ?_
            refine g_X7_columns C tw1_51 hk (t + 1) rfl dX7_remove_22 ?_
            refine j_alenC C hk.2.1 dX7_remove_25 ?_
            refine j_icmp_ge C 59 dX7_remove_26 (by decide) (fun c6 => ?_) (fun c6 => ?_)
            · replace hf := ip c6 hf
              refine j_sub [] rfl ?_
              cases hf
              exact hx14
            · replace hf := ine c6 hf
              refine j_aload_n C 0 dX7_remove_29 rfl rfl ?_
              refine g_X7_columns C tw1_51 hk (t + 1) rfl dX7_remove_30 ?_
              refine j_iload_n C 3 dX7_remove_33 rfl rfl ?_
              obtain ⟨hx7, hf⟩ := gd hf
              refine j_aldT C hk hx7 dX7_remove_34 ?_
              refine j_iload_n C 1 dX7_remove_35 rfl rfl ?_
              refine j_iconst C (1 : Int32) rfl dX7_remove_36 ?_
              refine j_iadd C dX7_remove_37 ?_
              refine j_aload_n C 0 dX7_remove_38 rfl rfl ?_
              refine g_X7_columns C tw1_51 hk (t + 1) rfl dX7_remove_39 ?_
              refine j_iload_n C 3 dX7_remove_42 rfl rfl ?_
              obtain ⟨hx8, hf⟩ := gd hf
              refine j_aldT C hk hx8 dX7_remove_43 ?_
              refine j_iload_n C 1 dX7_remove_44 rfl rfl ?_
              refine j_iload_n C 2 dX7_remove_45 rfl rfl ?_
              refine j_iload_n C 1 dX7_remove_46 rfl rfl ?_
              refine j_isub C dX7_remove_47 ?_
              refine j_iconst C (1 : Int32) rfl dX7_remove_48 ?_
              refine j_isub C dX7_remove_49 ?_
              obtain ⟨M9, e10, hf⟩ := bd hf
              obtain ⟨hx11, e10⟩ := acp_some e10
              refine j_acp C tw2_209 tw2_211 tw2_210 tw1_18 (hk.col hx7) (hk.col hx8) hx11 e10 ⟨Nat.le_of_ble_eq_true rfl, Nat.le_of_ble_eq_true rfl⟩ dX7_remove_50 ?_
              refine j_iinc C 3 (a4 + 1) [(3, .int (a4 + 1)), (0, .ref (n0 + t)), (1, .int x1), (2, .int x2)] dX7_remove_53 rfl rfl (Nat.le_of_ble_eq_true rfl) rfl ?_
              refine j_goto C 20 dX7_remove_56 (by decide) ?_
              refine j_sub [1, 2, 3, 0] rfl ?_
              exact ih _ _ hf
        refine j_sub [1, 2, 3, 0] rfl ?_
        exact hl15 FUEL (0 : Int32) M e13
      · replace hf := ine c3 hf
        obtain rfl := Option.some.inj hf
        exact hret _ _ dX7_remove_17
def lX7_sum_28 (t : Nat) (tr : Nat) (x1 : Int32) (x2 : Int32) (M : Mem) : Nat → Int32 → Int32 → Option Int32
  | 0, _, _ => none
  | n + 1, a4, a5 =>
  if x1 ≤ a5 then (some a4)
  else (if (nI tr) ≤ a5 then (some a4)
  else ((ald (M.1 (t + (2 + x2.toNatClampNeg))) tr a5).bind fun v8 =>
  lX7_sum_28 t tr x1 x2 M n (a4 + v8) (a5 + 1)))

def fX7_sum (t : Nat) (tw : Nat) (tr : Nat) (x1 : Int32) (x2 : Int32) (M : Mem) : Option Int32 :=
  if x2 < 0 then (some (0 : Int32))
  else (if x2 < (nI tw) then (if x2 < 0 ∨ tw ≤ x2.toNatClampNeg then none else
  (lX7_sum_28 t tr x1 x2 M FUEL (0 : Int32) (0 : Int32)).bind (fun a11 => some a11))
  else (some (0 : Int32)))

def rX7_sum : Room := { frames := 0, cells := 0, slots := 0, locals := 0 }
set_option maxRecDepth 100000 in
set_option maxHeartbeats 4000000 in
theorem c_X7_sum (l : Launch) (G : Gx) (n0 : Nat) {t : Nat} {tw : Nat} {tr : Nat} {x1 : Int32} {x2 : Int32} (hk : isT t tw tr) {M : Mem} {r : Int32} (hf : fX7_sum t tw tr x1 x2 M = some r) : Ct l yX7_sum cX7_sum 6 (some .int) rX7_sum G n0 [.ref (n0 + t), .int x1, .int x2] M (some (.int r)) M := by
  refine ct_int (cc := cX7_sum) (maxL := 6) rfl (Nat.le_of_ble_eq_true rfl) ?_
  intro K C hret
  have C : Ok K l rX7_sum cX7_sum RX7 G n0 6 := C
  show J K M 0 [(0, .ref (n0 + t)), (1, .int x1), (2, .int x2)] []
  unfold fX7_sum at hf
  refine j_iload_n C 2 dX7_sum_0 rfl rfl ?_
  refine j_if_lt C 13 dX7_sum_1 (by decide) (fun c1 => ?_) (fun c1 => ?_)
  · replace hf := ip c1 hf
    refine j_iconst C (0 : Int32) rfl dX7_sum_13 ?_
    obtain rfl := Option.some.inj hf
    exact hret _ _ dX7_sum_14
  · replace hf := ine c1 hf
    refine j_iload_n C 2 dX7_sum_4 rfl rfl ?_
    refine j_aload_n C 0 dX7_sum_5 rfl rfl ?_
    refine g_X7_columns C tw1_51 hk (t + 1) rfl dX7_sum_6 ?_
    refine j_alenC C hk.2.1 dX7_sum_9 ?_
    refine j_icmp_lt C 15 dX7_sum_10 (by decide) (fun c2 => ?_) (fun c2 => ?_)
    · replace hf := ip c2 hf
      refine j_aload_n C 0 dX7_sum_15 rfl rfl ?_
      refine g_X7_columns C tw1_51 hk (t + 1) rfl dX7_sum_16 ?_
      refine j_iload_n C 2 dX7_sum_19 rfl rfl ?_
      obtain ⟨hx3, hf⟩ := gd hf
      refine j_aldT C hk hx3 dX7_sum_20 ?_
      refine j_astore_n C [(3, .ref (n0 + (t + (2 + x2.toNatClampNeg)))), (0, .ref (n0 + t)), (1, .int x1), (2, .int x2)] dX7_sum_21 rfl (Nat.le_of_ble_eq_true rfl) rfl ?_
      refine j_iconst C (0 : Int32) rfl dX7_sum_22 ?_
      refine j_istore C [(4, .int (0 : Int32)), (3, .ref (n0 + (t + (2 + x2.toNatClampNeg)))), (0, .ref (n0 + t)), (1, .int x1), (2, .int x2)] dX7_sum_23 (Nat.le_of_ble_eq_true rfl) rfl ?_
      refine j_iconst C (0 : Int32) rfl dX7_sum_25 ?_
      refine j_istore C [(5, .int (0 : Int32)), (4, .int (0 : Int32)), (3, .ref (n0 + (t + (2 + x2.toNatClampNeg)))), (0, .ref (n0 + t)), (1, .int x1), (2, .int x2)] dX7_sum_26 (Nat.le_of_ble_eq_true rfl) rfl ?_
      obtain ⟨a11, e12, hf⟩ := bd hf
      have hx13 : J K M 58 [(4, .int a11)] [] := by
        refine j_iload C 0 dX7_sum_58 rfl ?_
        obtain rfl := Option.some.inj hf
        exact hret _ _ dX7_sum_60
      clear hf
      have hl14 : ∀ (n : Nat) (a4 : Int32) (a5 : Int32), lX7_sum_28 t tr x1 x2 M n a4 a5 = some a11 → J K M 28 [(0, .ref (n0 + t)), (1, .int x1), (3, .ref (n0 + (t + (2 + x2.toNatClampNeg)))), (4, .int a4), (5, .int a5)] [] := by
        intro n
        induction n with
        | zero =>
          intro a4 a5 hf
          exact absurd hf (by rw [lX7_sum_28]; exact fun h => by cases h)
        | succ n ih =>
          intro a4 a5 hf
          rw [lX7_sum_28] at hf
          refine j_iload C 4 dX7_sum_28 rfl ?_
          refine j_iload_n C 1 dX7_sum_30 rfl rfl ?_
          refine j_icmp_ge C 58 dX7_sum_31 (by decide) (fun c6 => ?_) (fun c6 => ?_)
          · replace hf := ip c6 hf
            refine j_sub [3] rfl ?_
            cases hf
            exact hx13
          · replace hf := ine c6 hf
            refine j_iload C 4 dX7_sum_34 rfl ?_
            refine j_aload_n C 0 dX7_sum_36 rfl rfl ?_
            refine g_X7_room C tw1_52 hk dX7_sum_37 ?_
            refine j_icmp_ge C 58 dX7_sum_40 (by decide) (fun c7 => ?_) (fun c7 => ?_)
            · replace hf := ip c7 hf
              refine j_sub [3] rfl ?_
              cases hf
              exact hx13
            · replace hf := ine c7 hf
              refine j_iload C 3 dX7_sum_43 rfl ?_
              refine j_aload_n C 2 dX7_sum_45 rfl rfl ?_
              refine j_iload C 4 dX7_sum_46 rfl ?_
              obtain ⟨v8, e9, hf⟩ := bd hf
              obtain ⟨hx10, e9⟩ := ald_some e9
              refine j_iald C (hk.col hx3) hx10 e9 dX7_sum_48 ?_
              refine j_iadd C dX7_sum_49 ?_
              refine j_istore C [(4, .int (a4 + v8)), (0, .ref (n0 + t)), (1, .int x1), (3, .ref (n0 + (t + (2 + x2.toNatClampNeg)))), (5, .int a5)] dX7_sum_50 (Nat.le_of_ble_eq_true rfl) rfl ?_
              refine j_iinc C 4 (a5 + 1) [(5, .int (a5 + 1)), (4, .int (a4 + v8)), (0, .ref (n0 + t)), (1, .int x1), (3, .ref (n0 + (t + (2 + x2.toNatClampNeg))))] dX7_sum_52 rfl rfl (Nat.le_of_ble_eq_true rfl) rfl ?_
              refine j_goto C 28 dX7_sum_55 (by decide) ?_
              refine j_sub [2, 3, 4, 1, 0] rfl ?_
              exact ih _ _ hf
      refine j_sub [3, 4, 2, 1, 0] rfl ?_
      exact hl14 FUEL (0 : Int32) (0 : Int32) e12
    · replace hf := ine c2 hf
      refine j_iconst C (0 : Int32) rfl dX7_sum_13 ?_
      obtain rfl := Option.some.inj hf
      exact hret _ _ dX7_sum_14
