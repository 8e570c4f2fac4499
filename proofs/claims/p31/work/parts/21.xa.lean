def fX4_isFull (t : Nat) (M : Mem) : Option Bool :=
  if (M.1 t 1) = (8 : Int32) then (some true)
  else (some false)

def rX4_isFull : Room := { frames := 0, cells := 0, slots := 0, locals := 0 }
set_option maxRecDepth 100000 in
set_option maxHeartbeats 4000000 in
theorem c_X4_isFull (l : Launch) (G : Gx) (n0 : Nat) {t : Nat} (hk : lay[t]? = some (tK 4)) {M : Mem} {r : Bool} (hf : fX4_isFull t M = some r) : Ct l yX4_isFull cX4_isFull 1 (some .boolean) rX4_isFull G n0 [.ref (n0 + t)] M (some (.int (bI r))) M := by
  refine ct_bool (cc := cX4_isFull) (maxL := 1) rfl (Nat.le_of_ble_eq_true rfl) ?_
  intro K C hret
  have C : Ok K l rX4_isFull cX4_isFull RX4 G n0 1 := C
  show J K M 0 [(0, .ref (n0 + t))] []
  unfold fX4_isFull at hf
  refine j_aload_n C 0 dX4_isFull_0 rfl rfl ?_
  refine g_X4_count C tw1_60 hk dX4_isFull_1 ?_
  refine j_bipush C (8 : Int32) rfl dX4_isFull_4 ?_
  refine j_icmp_ne C 13 dX4_isFull_6 (by decide) (fun c1 => ?_) (fun c1 => ?_)
  · replace hf := ine c1 hf
    refine j_iconst C (0 : Int32) rfl dX4_isFull_13 ?_
    obtain rfl := Option.some.inj hf
    exact hret _ _ dX4_isFull_14
  · replace hf := ip c1 hf
    refine j_iconst C (1 : Int32) rfl dX4_isFull_9 ?_
    refine j_goto C 14 dX4_isFull_10 (by decide) ?_
    obtain rfl := Option.some.inj hf
    exact hret _ _ dX4_isFull_14
def lX4_withMark_2 (t : Nat) (x1 : Int32) (M : Mem) : Nat → Int32 → Option (Int32 ⊕ Unit)
  | 0, _ => none
  | n + 1, a1 =>
  if (M.1 t 1) ≤ a1 then (some (Sum.inr ()))
  else ((fX7_get (t + 1) 4 8 a1 (0 : Int32) M).bind fun v4 =>
  if v4 = x1 then (some (Sum.inl a1))
  else (lX4_withMark_2 t x1 M n (a1 + 1)))

def fX4_withMark (t : Nat) (x1 : Int32) (M : Mem) : Option Int32 :=
  (lX4_withMark_2 t x1 M FUEL (0 : Int32)).bind fun o => s0 o (fun _ => some (-1 : Int32))

def rX4_withMark : Room := { frames := 1, cells := 0, slots := 0, locals := 22 }
set_option maxRecDepth 100000 in
set_option maxHeartbeats 4000000 in
theorem c_X4_withMark (l : Launch) (G : Gx) (n0 : Nat) {t : Nat} {x1 : Int32} (hk : lay[t]? = some (tK 4)) {M : Mem} {r : Int32} (hf : fX4_withMark t x1 M = some r) : Ct l yX4_withMark cX4_withMark 3 (some .int) rX4_withMark G n0 [.ref (n0 + t), .int x1] M (some (.int r)) M := by
  refine ct_int (cc := cX4_withMark) (maxL := 3) rfl (Nat.le_of_ble_eq_true rfl) ?_
  intro K C hret
  have C : Ok K l rX4_withMark cX4_withMark RX4 G n0 3 := C
  show J K M 0 [(0, .ref (n0 + t)), (1, .int x1)] []
  unfold fX4_withMark at hf
  refine j_iconst C (0 : Int32) rfl dX4_withMark_0 ?_
  refine j_istore_n C [(2, .int (0 : Int32)), (0, .ref (n0 + t)), (1, .int x1)] dX4_withMark_1 rfl (Nat.le_of_ble_eq_true rfl) rfl ?_
  obtain ⟨o10, e6, hg9⟩ := bd hf
  have hx7 : o10 = Sum.inr () → J K M 31 [] [] := by
    intro ho
    rw [ho] at hg9
    replace hf := s0r hg9
    refine j_iconst C (-1 : Int32) rfl dX4_withMark_31 ?_
    obtain rfl := Option.some.inj hf
    exact hret _ _ dX4_withMark_32
  have hl8 : ∀ (n : Nat) (a1 : Int32), lX4_withMark_2 t x1 M n a1 = some o10 → J K M 2 [(0, .ref (n0 + t)), (1, .int x1), (2, .int a1)] [] := by
    intro n
    induction n with
    | zero =>
      intro a1 hf
      exact absurd hf (by rw [lX4_withMark_2]; exact fun h => by cases h)
    | succ n ih =>
      intro a1 hf
      rw [lX4_withMark_2] at hf
      refine j_iload_n C 2 dX4_withMark_2 rfl rfl ?_
      refine j_aload_n C 0 dX4_withMark_3 rfl rfl ?_
      refine g_X4_count C tw1_60 hk dX4_withMark_4 ?_
      refine j_icmp_ge C 31 dX4_withMark_7 (by decide) (fun c2 => ?_) (fun c2 => ?_)
      · replace hf := ip c2 hf
        refine j_sub [] rfl ?_
        exact hx7 (Option.some.inj hf).symm
      · replace hf := ine c2 hf
        refine j_aload_n C 0 dX4_withMark_10 rfl rfl ?_
        refine g_X4_rows C tw1_59 hk (t + 1) rfl dX4_withMark_11 ?_
        refine j_iload_n C 2 dX4_withMark_14 rfl rfl ?_
        refine j_iconst C (0 : Int32) rfl dX4_withMark_15 ?_
        obtain ⟨v4, e3, hf⟩ := bd hf
        refine j_callV C 2 (k4_1 hk).1 (ent_T _ _ _ _ _ _) rfl (c_X7_get l G n0 (k4_1 hk) e3) gv_RX4_28 ⟨rfl, rfl⟩ (by decide +kernel) ⟨Nat.le_of_ble_eq_true rfl, Nat.le_of_ble_eq_true rfl⟩ rfl rfl (Nat.le_of_ble_eq_true rfl) dX4_withMark_16 ?_
        refine j_iload_n C 1 dX4_withMark_19 rfl rfl ?_
        refine j_icmp_ne C 25 dX4_withMark_20 (by decide) (fun c5 => ?_) (fun c5 => ?_)
        · replace hf := ine c5 hf
          refine j_iinc C 2 (a1 + 1) [(2, .int (a1 + 1)), (0, .ref (n0 + t)), (1, .int x1)] dX4_withMark_25 rfl rfl (Nat.le_of_ble_eq_true rfl) rfl ?_
          refine j_goto C 2 dX4_withMark_28 (by decide) ?_
          refine j_sub [1, 2, 0] rfl ?_
          exact ih _ hf
        · replace hf := ip c5 hf
          refine j_iload_n C 2 dX4_withMark_23 rfl rfl ?_
          rw [← Option.some.inj hf] at hg9
          have hf := hg9
          replace hf : some _ = some _ := hf
          obtain rfl := Option.some.inj hf
          exact hret _ _ dX4_withMark_24
  refine j_sub [1, 2, 0] rfl ?_
  exact hl8 FUEL (0 : Int32) e6
def fX4_copyFrom (t : Nat) (o1 : Nat) (M : Mem) : Option Mem :=
  (fX7_copyFrom (t + 1) 4 8 (o1 + 1) 4 8 (M.1 o1 1) M).bind fun M2 =>
  (pf M2 t 1 (M2.1 o1 1)).bind fun M3 =>
  some M3

def rX4_copyFrom : Room := { frames := 2, cells := 0, slots := 0, locals := 63 }
set_option maxRecDepth 100000 in
set_option maxHeartbeats 4000000 in
theorem c_X4_copyFrom (l : Launch) (G : Gx) (n0 : Nat) {t : Nat} {o1 : Nat} (hk : lay[t]? = some (tK 4)) (hk1 : lay[o1]? = some (tK 4)) {M : Mem} {M' : Mem} (hf : fX4_copyFrom t o1 M = some M') : Ct l yX4_copyFrom cX4_copyFrom 2 none rX4_copyFrom G n0 [.ref (n0 + t), .ref (n0 + o1)] M none M' := by
  refine ct_void (cc := cX4_copyFrom) (maxL := 2) rfl (Nat.le_of_ble_eq_true rfl) ?_
  intro K C hret
  have C : Ok K l rX4_copyFrom cX4_copyFrom RX4 G n0 2 := C
  show J K M 0 [(0, .ref (n0 + t)), (1, .ref (n0 + o1))] []
  unfold fX4_copyFrom at hf
  refine j_aload_n C 0 dX4_copyFrom_0 rfl rfl ?_
  refine g_X4_rows C tw1_59 hk (t + 1) rfl dX4_copyFrom_1 ?_
  refine j_aload_n C 1 dX4_copyFrom_4 rfl rfl ?_
  refine g_X4_rows C tw1_59 hk1 (o1 + 1) rfl dX4_copyFrom_5 ?_
  refine j_aload_n C 1 dX4_copyFrom_8 rfl rfl ?_
  refine g_X4_count C tw1_60 hk1 dX4_copyFrom_9 ?_
  obtain ⟨M2, e1, hf⟩ := bd hf
  refine j_callV C 2 (k4_1 hk).1 (ent_T _ _ _ _ _ _) rfl (c_X7_copyFrom l G n0 (k4_1 hk) (k4_1 hk1) e1) gv_RX4_24 ⟨rfl, rfl⟩ (by decide +kernel) ⟨Nat.le_of_ble_eq_true rfl, Nat.le_of_ble_eq_true rfl⟩ rfl rfl (Nat.le_of_ble_eq_true rfl) dX4_copyFrom_12 ?_
  refine j_aload_n C 0 dX4_copyFrom_15 rfl rfl ?_
  refine j_aload_n C 1 dX4_copyFrom_16 rfl rfl ?_
  refine g_X4_count C tw1_60 hk1 dX4_copyFrom_17 ?_
  obtain ⟨M3, e4, hf⟩ := bd hf
  refine p_X4_count C tw1_60 hk e4 dX4_copyFrom_20 ?_
  obtain rfl := Option.some.inj hf
  exact hret _ _ dX4_copyFrom_23
def fX1_copyFrom (t : Nat) (o1 : Nat) (M : Mem) : Option Mem :=
  (fX7_copyFrom (t + 1) 3 20 (o1 + 1) 3 20 (M.1 o1 1) M).bind fun M2 =>
  (pf M2 t 1 (M2.1 o1 1)).bind fun M3 =>
  some M3

def rX1_copyFrom : Room := { frames := 2, cells := 0, slots := 0, locals := 63 }
set_option maxRecDepth 100000 in
set_option maxHeartbeats 4000000 in
theorem c_X1_copyFrom (l : Launch) (G : Gx) (n0 : Nat) {t : Nat} {o1 : Nat} (hk : lay[t]? = some (tK 1)) (hk1 : lay[o1]? = some (tK 1)) {M : Mem} {M' : Mem} (hf : fX1_copyFrom t o1 M = some M') : Ct l yX1_copyFrom cX1_copyFrom 2 none rX1_copyFrom G n0 [.ref (n0 + t), .ref (n0 + o1)] M none M' := by
  refine ct_void (cc := cX1_copyFrom) (maxL := 2) rfl (Nat.le_of_ble_eq_true rfl) ?_
  intro K C hret
  have C : Ok K l rX1_copyFrom cX1_copyFrom RX1 G n0 2 := C
  show J K M 0 [(0, .ref (n0 + t)), (1, .ref (n0 + o1))] []
  unfold fX1_copyFrom at hf
  refine j_aload_n C 0 dX1_copyFrom_0 rfl rfl ?_
  refine g_X1_rows C tw1_74 hk (t + 1) rfl dX1_copyFrom_1 ?_
  refine j_aload_n C 1 dX1_copyFrom_4 rfl rfl ?_
  refine g_X1_rows C tw1_74 hk1 (o1 + 1) rfl dX1_copyFrom_5 ?_
  refine j_aload_n C 1 dX1_copyFrom_8 rfl rfl ?_
  refine g_X1_count C tw1_75 hk1 dX1_copyFrom_9 ?_
  obtain ⟨M2, e1, hf⟩ := bd hf
  refine j_callV C 2 (k1_1 hk).1 (ent_T _ _ _ _ _ _) rfl (c_X7_copyFrom l G n0 (k1_1 hk) (k1_1 hk1) e1) gv_RX1_24 ⟨rfl, rfl⟩ (by decide +kernel) ⟨Nat.le_of_ble_eq_true rfl, Nat.le_of_ble_eq_true rfl⟩ rfl rfl (Nat.le_of_ble_eq_true rfl) dX1_copyFrom_12 ?_
  refine j_aload_n C 0 dX1_copyFrom_15 rfl rfl ?_
  refine j_aload_n C 1 dX1_copyFrom_16 rfl rfl ?_
  refine g_X1_count C tw1_75 hk1 dX1_copyFrom_17 ?_
  obtain ⟨M3, e4, hf⟩ := bd hf
  refine p_X1_count C tw1_75 hk e4 dX1_copyFrom_20 ?_
  obtain rfl := Option.some.inj hf
  exact hret _ _ dX1_copyFrom_23
def fX5_copyFrom (t : Nat) (o1 : Nat) (M : Mem) : Option Mem :=
  (fX7_copyFrom (t + 1) 5 20 (o1 + 1) 5 20 (M.1 o1 1) M).bind fun M2 =>
  (pf M2 t 1 (M2.1 o1 1)).bind fun M3 =>
  some M3

def rX5_copyFrom : Room := { frames := 2, cells := 0, slots := 0, locals := 63 }
set_option maxRecDepth 100000 in
set_option maxHeartbeats 4000000 in
theorem c_X5_copyFrom (l : Launch) (G : Gx) (n0 : Nat) {t : Nat} {o1 : Nat} (hk : lay[t]? = some (tK 5)) (hk1 : lay[o1]? = some (tK 5)) {M : Mem} {M' : Mem} (hf : fX5_copyFrom t o1 M = some M') : Ct l yX5_copyFrom cX5_copyFrom 2 none rX5_copyFrom G n0 [.ref (n0 + t), .ref (n0 + o1)] M none M' := by
  refine ct_void (cc := cX5_copyFrom) (maxL := 2) rfl (Nat.le_of_ble_eq_true rfl) ?_
  intro K C hret
  have C : Ok K l rX5_copyFrom cX5_copyFrom RX5 G n0 2 := C
  show J K M 0 [(0, .ref (n0 + t)), (1, .ref (n0 + o1))] []
  unfold fX5_copyFrom at hf
  refine j_aload_n C 0 dX5_copyFrom_0 rfl rfl ?_
  refine g_X5_rows C tw1_89 hk (t + 1) rfl dX5_copyFrom_1 ?_
  refine j_aload_n C 1 dX5_copyFrom_4 rfl rfl ?_
  refine g_X5_rows C tw1_89 hk1 (o1 + 1) rfl dX5_copyFrom_5 ?_
  refine j_aload_n C 1 dX5_copyFrom_8 rfl rfl ?_
  refine g_X5_count C tw1_90 hk1 dX5_copyFrom_9 ?_
  obtain ⟨M2, e1, hf⟩ := bd hf
  refine j_callV C 2 (k5_1 hk).1 (ent_T _ _ _ _ _ _) rfl (c_X7_copyFrom l G n0 (k5_1 hk) (k5_1 hk1) e1) gv_RX5_24 ⟨rfl, rfl⟩ (by decide +kernel) ⟨Nat.le_of_ble_eq_true rfl, Nat.le_of_ble_eq_true rfl⟩ rfl rfl (Nat.le_of_ble_eq_true rfl) dX5_copyFrom_12 ?_
  refine j_aload_n C 0 dX5_copyFrom_15 rfl rfl ?_
  refine j_aload_n C 1 dX5_copyFrom_16 rfl rfl ?_
  refine g_X5_count C tw1_90 hk1 dX5_copyFrom_17 ?_
  obtain ⟨M3, e4, hf⟩ := bd hf
  refine p_X5_count C tw1_90 hk e4 dX5_copyFrom_20 ?_
  obtain rfl := Option.some.inj hf
  exact hret _ _ dX5_copyFrom_23
def fX6_kept (t : Nat) (M : Mem) : Option Int32 :=
  some (if (200 : Int32) < (M.1 t 1) then (200 : Int32) else (M.1 t 1))

def rX6_kept : Room := { frames := 1, cells := 0, slots := 0, locals := 13 }
set_option maxRecDepth 100000 in
set_option maxHeartbeats 4000000 in
theorem c_X6_kept (l : Launch) (G : Gx) (n0 : Nat) {t : Nat} (hk : lay[t]? = some (tK 6)) {M : Mem} {r : Int32} (hf : fX6_kept t M = some r) : Ct l yX6_kept cX6_kept 1 (some .int) rX6_kept G n0 [.ref (n0 + t)] M (some (.int r)) M := by
  refine ct_int (cc := cX6_kept) (maxL := 1) rfl (Nat.le_of_ble_eq_true rfl) ?_
  intro K C hret
  have C : Ok K l rX6_kept cX6_kept RX6 G n0 1 := C
  show J K M 0 [(0, .ref (n0 + t))] []
  unfold fX6_kept at hf
  refine j_aload_n C 0 dX6_kept_0 rfl rfl ?_
  refine g_X6_cameOut C tw1_105 hk dX6_kept_1 ?_
  refine j_sipush C (200 : Int32) rfl dX6_kept_4 ?_
  refine j_mmin C tw2_148 tw2_149 tw1_5 tw2_150 ⟨Nat.le_of_ble_eq_true rfl, Nat.le_of_ble_eq_true rfl⟩ dX6_kept_7 ?_
  obtain rfl := Option.some.inj hf
  exact hret _ _ dX6_kept_10
def fX6_copyFrom (t : Nat) (o1 : Nat) (M : Mem) : Option Mem :=
  (fX6_kept o1 M).bind fun v2 =>
  (fX7_copyFrom (t + 1) 7 200 (o1 + 1) 7 200 v2 M).bind fun M4 =>
  (pf M4 t 1 (M4.1 o1 1)).bind fun M5 =>
  (pf M5 t 2 (M5.1 o1 2)).bind fun M7 =>
  some M7

def rX6_copyFrom : Room := { frames := 2, cells := 0, slots := 0, locals := 63 }
set_option maxRecDepth 100000 in
set_option maxHeartbeats 4000000 in
theorem c_X6_copyFrom (l : Launch) (G : Gx) (n0 : Nat) {t : Nat} {o1 : Nat} (hk : lay[t]? = some (tK 6)) (hk1 : lay[o1]? = some (tK 6)) {M : Mem} {M' : Mem} (hf : fX6_copyFrom t o1 M = some M') : Ct l yX6_copyFrom cX6_copyFrom 2 none rX6_copyFrom G n0 [.ref (n0 + t), .ref (n0 + o1)] M none M' := by
  refine ct_void (cc := cX6_copyFrom) (maxL := 2) rfl (Nat.le_of_ble_eq_true rfl) ?_
  intro K C hret
  have C : Ok K l rX6_copyFrom cX6_copyFrom RX6 G n0 2 := C
  show J K M 0 [(0, .ref (n0 + t)), (1, .ref (n0 + o1))] []
  unfold fX6_copyFrom at hf
  refine j_aload_n C 0 dX6_copyFrom_0 rfl rfl ?_
  refine g_X6_rows C tw1_104 hk (t + 1) rfl dX6_copyFrom_1 ?_
  refine j_aload_n C 1 dX6_copyFrom_4 rfl rfl ?_
  refine g_X6_rows C tw1_104 hk1 (o1 + 1) rfl dX6_copyFrom_5 ?_
  refine j_aload_n C 1 dX6_copyFrom_8 rfl rfl ?_
  obtain ⟨v2, e1, hf⟩ := bd hf
  refine j_callV C 0 hk1 (ent_K _ _ _ _ _ _) rfl (c_X6_kept l G n0 hk1 e1) gv_RX6_20 ⟨rfl, rfl⟩ (by decide +kernel) ⟨Nat.le_of_ble_eq_true rfl, Nat.le_of_ble_eq_true rfl⟩ rfl rfl (Nat.le_of_ble_eq_true rfl) dX6_copyFrom_9 ?_
  obtain ⟨M4, e3, hf⟩ := bd hf
  refine j_callV C 2 (k6_1 hk).1 (ent_T _ _ _ _ _ _) rfl (c_X7_copyFrom l G n0 (k6_1 hk) (k6_1 hk1) e3) gv_RX6_24 ⟨rfl, rfl⟩ (by decide +kernel) ⟨Nat.le_of_ble_eq_true rfl, Nat.le_of_ble_eq_true rfl⟩ rfl rfl (Nat.le_of_ble_eq_true rfl) dX6_copyFrom_12 ?_
  refine j_aload_n C 0 dX6_copyFrom_15 rfl rfl ?_
  refine j_aload_n C 1 dX6_copyFrom_16 rfl rfl ?_
  refine g_X6_cameOut C tw1_105 hk1 dX6_copyFrom_17 ?_
  obtain ⟨M5, e6, hf⟩ := bd hf
  refine p_X6_cameOut C tw1_105 hk e6 dX6_copyFrom_20 ?_
  refine j_aload_n C 0 dX6_copyFrom_23 rfl rfl ?_
  refine j_aload_n C 1 dX6_copyFrom_24 rfl rfl ?_
  refine g_X6_pale C tw1_106 hk1 dX6_copyFrom_25 ?_
  obtain ⟨M7, e8, hf⟩ := bd hf
  refine p_X6_pale C tw1_106 hk e8 dX6_copyFrom_28 ?_
  obtain rfl := Option.some.inj hf
  exact hret _ _ dX6_copyFrom_31
def fX4_add (t : Nat) (x1 : Int32) (M : Mem) : Option (Int32 × Mem) :=
  (fX7_put (t + 1) 4 8 (M.1 t 1) (0 : Int32) x1 M).bind fun M2 =>
  (fX7_put (t + 1) 4 8 (M.1 t 1) (1 : Int32) (0 : Int32) M2).bind fun M4 =>
  (fX7_put (t + 1) 4 8 (M.1 t 1) (2 : Int32) (0 : Int32) M4).bind fun M6 =>
  (fX7_put (t + 1) 4 8 (M.1 t 1) (3 : Int32) (0 : Int32) M6).bind fun M8 =>
  (pf M8 t 1 ((M8.1 t 1) + (1 : Int32))).bind fun M9 =>
  some ((M.1 t 1), M9)

def rX4_add : Room := { frames := 1, cells := 0, slots := 0, locals := 23 }
set_option maxRecDepth 100000 in
set_option maxHeartbeats 4000000 in
theorem c_X4_add (l : Launch) (G : Gx) (n0 : Nat) {t : Nat} {x1 : Int32} (hk : lay[t]? = some (tK 4)) {M : Mem} {r : Int32} {M' : Mem} (hf : fX4_add t x1 M = some (r, M')) : Ct l yX4_add cX4_add 3 (some .int) rX4_add G n0 [.ref (n0 + t), .int x1] M (some (.int r)) M' := by
  refine ct_int (cc := cX4_add) (maxL := 3) rfl (Nat.le_of_ble_eq_true rfl) ?_
  intro K C hret
  have C : Ok K l rX4_add cX4_add RX4 G n0 3 := C
  show J K M 0 [(0, .ref (n0 + t)), (1, .int x1)] []
  unfold fX4_add at hf
  refine j_aload_n C 0 dX4_add_0 rfl rfl ?_
  refine g_X4_count C tw1_60 hk dX4_add_1 ?_
  refine j_istore_n C [(2, .int (M.1 t 1)), (0, .ref (n0 + t)), (1, .int x1)] dX4_add_4 rfl (Nat.le_of_ble_eq_true rfl) rfl ?_
  refine j_aload_n C 1 dX4_add_5 rfl rfl ?_
  refine g_X4_rows C tw1_59 hk (t + 1) rfl dX4_add_6 ?_
  refine j_iload_n C 0 dX4_add_9 rfl rfl ?_
  refine j_iconst C (0 : Int32) rfl dX4_add_10 ?_
  refine j_iload_n C 2 dX4_add_11 rfl rfl ?_
  obtain ⟨M2, e1, hf⟩ := bd hf
  refine j_callV C 3 (k4_1 hk).1 (ent_T _ _ _ _ _ _) rfl (c_X7_put l G n0 (k4_1 hk) e1) gv_RX4_35 ⟨rfl, rfl⟩ (by decide +kernel) ⟨Nat.le_of_ble_eq_true rfl, Nat.le_of_ble_eq_true rfl⟩ rfl rfl (Nat.le_of_ble_eq_true rfl) dX4_add_12 ?_
  refine j_aload_n C 1 dX4_add_15 rfl rfl ?_
  refine g_X4_rows C tw1_59 hk (t + 1) rfl dX4_add_16 ?_
  refine j_iload_n C 0 dX4_add_19 rfl rfl ?_
  refine j_iconst C (1 : Int32) rfl dX4_add_20 ?_
  refine j_iconst C (0 : Int32) rfl dX4_add_21 ?_
  obtain ⟨M4, e3, hf⟩ := bd hf
  refine j_callV C 3 (k4_1 hk).1 (ent_T _ _ _ _ _ _) rfl (c_X7_put l G n0 (k4_1 hk) e3) gv_RX4_35 ⟨rfl, rfl⟩ (by decide +kernel) ⟨Nat.le_of_ble_eq_true rfl, Nat.le_of_ble_eq_true rfl⟩ rfl rfl (Nat.le_of_ble_eq_true rfl) dX4_add_22 ?_
  refine j_aload_n C 1 dX4_add_25 rfl rfl ?_
  refine g_X4_rows C tw1_59 hk (t + 1) rfl dX4_add_26 ?_
  refine j_iload_n C 0 dX4_add_29 rfl rfl ?_
  refine j_iconst C (2 : Int32) rfl dX4_add_30 ?_
  refine j_iconst C (0 : Int32) rfl dX4_add_31 ?_
  obtain ⟨M6, e5, hf⟩ := bd hf
  refine j_callV C 3 (k4_1 hk).1 (ent_T _ _ _ _ _ _) rfl (c_X7_put l G n0 (k4_1 hk) e5) gv_RX4_35 ⟨rfl, rfl⟩ (by decide +kernel) ⟨Nat.le_of_ble_eq_true rfl, Nat.le_of_ble_eq_true rfl⟩ rfl rfl (Nat.le_of_ble_eq_true rfl) dX4_add_32 ?_
  refine j_aload_n C 1 dX4_add_35 rfl rfl ?_
  refine g_X4_rows C tw1_59 hk (t + 1) rfl dX4_add_36 ?_
  refine j_iload_n C 0 dX4_add_39 rfl rfl ?_
  refine j_iconst C (3 : Int32) rfl dX4_add_40 ?_
  refine j_iconst C (0 : Int32) rfl dX4_add_41 ?_
  obtain ⟨M8, e7, hf⟩ := bd hf
  refine j_callV C 3 (k4_1 hk).1 (ent_T _ _ _ _ _ _) rfl (c_X7_put l G n0 (k4_1 hk) e7) gv_RX4_35 ⟨rfl, rfl⟩ (by decide +kernel) ⟨Nat.le_of_ble_eq_true rfl, Nat.le_of_ble_eq_true rfl⟩ rfl rfl (Nat.le_of_ble_eq_true rfl) dX4_add_42 ?_
  refine j_aload_n C 1 dX4_add_45 rfl rfl ?_
  refine j_dup C rfl dX4_add_46 ?_
  refine g_X4_count C tw1_60 hk dX4_add_47 ?_
  refine j_iconst C (1 : Int32) rfl dX4_add_50 ?_
  refine j_iadd C dX4_add_51 ?_
  obtain ⟨M9, e10, hf⟩ := bd hf
  refine p_X4_count C tw1_60 hk e10 dX4_add_52 ?_
  refine j_iload_n C 0 dX4_add_55 rfl rfl ?_
  obtain ⟨rfl, rfl⟩ := Prod.mk.inj (Option.some.inj hf)
  exact hret _ _ dX4_add_56
def fX4_has (t : Nat) (x1 : Int32) (M : Mem) : Option Bool :=
  if x1 < 0 then (some false)
  else (if (M.1 t 1) ≤ x1 then (some false)
  else (some true))

def rX4_has : Room := { frames := 0, cells := 0, slots := 0, locals := 0 }
set_option maxRecDepth 100000 in
set_option maxHeartbeats 4000000 in
theorem c_X4_has (l : Launch) (G : Gx) (n0 : Nat) {t : Nat} {x1 : Int32} (hk : lay[t]? = some (tK 4)) {M : Mem} {r : Bool} (hf : fX4_has t x1 M = some r) : Ct l yX4_has cX4_has 2 (some .boolean) rX4_has G n0 [.ref (n0 + t), .int x1] M (some (.int (bI r))) M := by
  refine ct_bool (cc := cX4_has) (maxL := 2) rfl (Nat.le_of_ble_eq_true rfl) ?_
  intro K C hret
  have C : Ok K l rX4_has cX4_has RX4 G n0 2 := C
  show J K M 0 [(0, .ref (n0 + t)), (1, .int x1)] []
  unfold fX4_has at hf
  refine j_iload_n C 1 dX4_has_0 rfl rfl ?_
  refine j_if_lt C 16 dX4_has_1 (by decide) (fun c1 => ?_) (fun c1 => ?_)
  · replace hf := ip c1 hf
    refine j_iconst C (0 : Int32) rfl dX4_has_16 ?_
    obtain rfl := Option.some.inj hf
    exact hret _ _ dX4_has_17
  · replace hf := ine c1 hf
    refine j_iload_n C 1 dX4_has_4 rfl rfl ?_
    refine j_aload_n C 0 dX4_has_5 rfl rfl ?_
    refine g_X4_count C tw1_60 hk dX4_has_6 ?_
    refine j_icmp_ge C 16 dX4_has_9 (by decide) (fun c2 => ?_) (fun c2 => ?_)
    · replace hf := ip c2 hf
      refine j_iconst C (0 : Int32) rfl dX4_has_16 ?_
      obtain rfl := Option.some.inj hf
      exact hret _ _ dX4_has_17
    · replace hf := ine c2 hf
      refine j_iconst C (1 : Int32) rfl dX4_has_12 ?_
      refine j_goto C 17 dX4_has_13 (by decide) ?_
      obtain rfl := Option.some.inj hf
      exact hret _ _ dX4_has_17
def fX4_changeMark (t : Nat) (x1 : Int32) (x2 : Int32) (M : Mem) : Option (Int32 × Mem) :=
  (fX7_get (t + 1) 4 8 x1 (0 : Int32) M).bind fun v2 =>
  (fX7_put (t + 1) 4 8 x1 (0 : Int32) x2 M).bind fun M4 =>
  some (v2, M4)

def rX4_changeMark : Room := { frames := 1, cells := 0, slots := 0, locals := 23 }
set_option maxRecDepth 100000 in
set_option maxHeartbeats 4000000 in
theorem c_X4_changeMark (l : Launch) (G : Gx) (n0 : Nat) {t : Nat} {x1 : Int32} {x2 : Int32} (hk : lay[t]? = some (tK 4)) {M : Mem} {r : Int32} {M' : Mem} (hf : fX4_changeMark t x1 x2 M = some (r, M')) : Ct l yX4_changeMark cX4_changeMark 4 (some .int) rX4_changeMark G n0 [.ref (n0 + t), .int x1, .int x2] M (some (.int r)) M' := by
  refine ct_int (cc := cX4_changeMark) (maxL := 4) rfl (Nat.le_of_ble_eq_true rfl) ?_
  intro K C hret
  have C : Ok K l rX4_changeMark cX4_changeMark RX4 G n0 4 := C
  show J K M 0 [(0, .ref (n0 + t)), (1, .int x1), (2, .int x2)] []
  unfold fX4_changeMark at hf
  refine j_aload_n C 0 dX4_changeMark_0 rfl rfl ?_
  refine g_X4_rows C tw1_59 hk (t + 1) rfl dX4_changeMark_1 ?_
  refine j_iload_n C 1 dX4_changeMark_4 rfl rfl ?_
  refine j_iconst C (0 : Int32) rfl dX4_changeMark_5 ?_
  obtain ⟨v2, e1, hf⟩ := bd hf
  refine j_callV C 2 (k4_1 hk).1 (ent_T _ _ _ _ _ _) rfl (c_X7_get l G n0 (k4_1 hk) e1) gv_RX4_28 ⟨rfl, rfl⟩ (by decide +kernel) ⟨Nat.le_of_ble_eq_true rfl, Nat.le_of_ble_eq_true rfl⟩ rfl rfl (Nat.le_of_ble_eq_true rfl) dX4_changeMark_6 ?_
  refine j_istore_n C [(3, .int v2), (0, .ref (n0 + t)), (1, .int x1), (2, .int x2)] dX4_changeMark_9 rfl (Nat.le_of_ble_eq_true rfl) rfl ?_
  refine j_aload_n C 1 dX4_changeMark_10 rfl rfl ?_
  refine g_X4_rows C tw1_59 hk (t + 1) rfl dX4_changeMark_11 ?_
  refine j_iload_n C 2 dX4_changeMark_14 rfl rfl ?_
  refine j_iconst C (0 : Int32) rfl dX4_changeMark_15 ?_
  refine j_iload_n C 3 dX4_changeMark_16 rfl rfl ?_
  obtain ⟨M4, e3, hf⟩ := bd hf
  refine j_callV C 3 (k4_1 hk).1 (ent_T _ _ _ _ _ _) rfl (c_X7_put l G n0 (k4_1 hk) e3) gv_RX4_35 ⟨rfl, rfl⟩ (by decide +kernel) ⟨Nat.le_of_ble_eq_true rfl, Nat.le_of_ble_eq_true rfl⟩ rfl rfl (Nat.le_of_ble_eq_true rfl) dX4_changeMark_17 ?_
  refine j_iload_n C 0 dX4_changeMark_20 rfl rfl ?_
  obtain ⟨rfl, rfl⟩ := Prod.mk.inj (Option.some.inj hf)
  exact hret _ _ dX4_changeMark_21
def fX4_excuseOne (t : Nat) (x1 : Int32) (M : Mem) : Option (Int32 × Mem) :=
  (fX7_put (t + 1) 4 8 x1 (3 : Int32) (1 : Int32) M).bind fun M2 =>
  (fX7_count (t + 1) 4 8 (M2.1 t 1) (3 : Int32) (1 : Int32) M2).bind fun v4 =>
  some (v4, M2)

def rX4_excuseOne : Room := { frames := 2, cells := 0, slots := 0, locals := 52 }
set_option maxRecDepth 100000 in
set_option maxHeartbeats 4000000 in
theorem c_X4_excuseOne (l : Launch) (G : Gx) (n0 : Nat) {t : Nat} {x1 : Int32} (hk : lay[t]? = some (tK 4)) {M : Mem} {r : Int32} {M' : Mem} (hf : fX4_excuseOne t x1 M = some (r, M')) : Ct l yX4_excuseOne cX4_excuseOne 2 (some .int) rX4_excuseOne G n0 [.ref (n0 + t), .int x1] M (some (.int r)) M' := by
  refine ct_int (cc := cX4_excuseOne) (maxL := 2) rfl (Nat.le_of_ble_eq_true rfl) ?_
  intro K C hret
  have C : Ok K l rX4_excuseOne cX4_excuseOne RX4 G n0 2 := C
  show J K M 0 [(0, .ref (n0 + t)), (1, .int x1)] []
  unfold fX4_excuseOne at hf
  refine j_aload_n C 0 dX4_excuseOne_0 rfl rfl ?_
  refine g_X4_rows C tw1_59 hk (t + 1) rfl dX4_excuseOne_1 ?_
  refine j_iload_n C 1 dX4_excuseOne_4 rfl rfl ?_
  refine j_iconst C (3 : Int32) rfl dX4_excuseOne_5 ?_
  refine j_iconst C (1 : Int32) rfl dX4_excuseOne_6 ?_
  obtain ⟨M2, e1, hf⟩ := bd hf
  refine j_callV C 3 (k4_1 hk).1 (ent_T _ _ _ _ _ _) rfl (c_X7_put l G n0 (k4_1 hk) e1) gv_RX4_35 ⟨rfl, rfl⟩ (by decide +kernel) ⟨Nat.le_of_ble_eq_true rfl, Nat.le_of_ble_eq_true rfl⟩ rfl rfl (Nat.le_of_ble_eq_true rfl) dX4_excuseOne_7 ?_
  refine j_aload_n C 0 dX4_excuseOne_10 rfl rfl ?_
  refine g_X4_rows C tw1_59 hk (t + 1) rfl dX4_excuseOne_11 ?_
  refine j_aload_n C 0 dX4_excuseOne_14 rfl rfl ?_
  refine g_X4_count C tw1_60 hk dX4_excuseOne_15 ?_
  refine j_iconst C (3 : Int32) rfl dX4_excuseOne_18 ?_
  refine j_iconst C (1 : Int32) rfl dX4_excuseOne_19 ?_
  obtain ⟨v4, e3, hf⟩ := bd hf
  refine j_callV C 3 (k4_1 hk).1 (ent_T _ _ _ _ _ _) rfl (c_X7_count l G n0 (k4_1 hk) e3) gv_RX4_39 ⟨rfl, rfl⟩ (by decide +kernel) ⟨Nat.le_of_ble_eq_true rfl, Nat.le_of_ble_eq_true rfl⟩ rfl rfl (Nat.le_of_ble_eq_true rfl) dX4_excuseOne_20 ?_
  obtain ⟨rfl, rfl⟩ := Prod.mk.inj (Option.some.inj hf)
  exact hret _ _ dX4_excuseOne_23
def fX1_isFull (t : Nat) (M : Mem) : Option Bool :=
  if (M.1 t 1) = (20 : Int32) then (some true)
  else (some false)

def rX1_isFull : Room := { frames := 0, cells := 0, slots := 0, locals := 0 }
set_option maxRecDepth 100000 in
set_option maxHeartbeats 4000000 in
theorem c_X1_isFull (l : Launch) (G : Gx) (n0 : Nat) {t : Nat} (hk : lay[t]? = some (tK 1)) {M : Mem} {r : Bool} (hf : fX1_isFull t M = some r) : Ct l yX1_isFull cX1_isFull 1 (some .boolean) rX1_isFull G n0 [.ref (n0 + t)] M (some (.int (bI r))) M := by
  refine ct_bool (cc := cX1_isFull) (maxL := 1) rfl (Nat.le_of_ble_eq_true rfl) ?_
  intro K C hret
  have C : Ok K l rX1_isFull cX1_isFull RX1 G n0 1 := C
  show J K M 0 [(0, .ref (n0 + t))] []
  unfold fX1_isFull at hf
  refine j_aload_n C 0 dX1_isFull_0 rfl rfl ?_
  refine g_X1_count C tw1_75 hk dX1_isFull_1 ?_
  refine j_bipush C (20 : Int32) rfl dX1_isFull_4 ?_
  refine j_icmp_ne C 13 dX1_isFull_6 (by decide) (fun c1 => ?_) (fun c1 => ?_)
  · replace hf := ine c1 hf
    refine j_iconst C (0 : Int32) rfl dX1_isFull_13 ?_
    obtain rfl := Option.some.inj hf
    exact hret _ _ dX1_isFull_14
  · replace hf := ip c1 hf
    refine j_iconst C (1 : Int32) rfl dX1_isFull_9 ?_
    refine j_goto C 14 dX1_isFull_10 (by decide) ?_
    obtain rfl := Option.some.inj hf
    exact hret _ _ dX1_isFull_14
def fX1_add (t : Nat) (x1 : Int32) (x2 : Int32) (x3 : Int32) (M : Mem) : Option (Int32 × Mem) :=
  (fX7_put (t + 1) 3 20 (M.1 t 1) (0 : Int32) x1 M).bind fun M2 =>
  (fX7_put (t + 1) 3 20 (M.1 t 1) (1 : Int32) x2 M2).bind fun M4 =>
  (fX7_put (t + 1) 3 20 (M.1 t 1) (2 : Int32) x3 M4).bind fun M6 =>
  (pf M6 t 1 ((M6.1 t 1) + (1 : Int32))).bind fun M7 =>
  some ((M.1 t 1), M7)

def rX1_add : Room := { frames := 1, cells := 0, slots := 0, locals := 23 }
set_option maxRecDepth 100000 in
set_option maxHeartbeats 4000000 in
theorem c_X1_add (l : Launch) (G : Gx) (n0 : Nat) {t : Nat} {x1 : Int32} {x2 : Int32} {x3 : Int32} (hk : lay[t]? = some (tK 1)) {M : Mem} {r : Int32} {M' : Mem} (hf : fX1_add t x1 x2 x3 M = some (r, M')) : Ct l yX1_add cX1_add 5 (some .int) rX1_add G n0 [.ref (n0 + t), .int x1, .int x2, .int x3] M (some (.int r)) M' := by
  refine ct_int (cc := cX1_add) (maxL := 5) rfl (Nat.le_of_ble_eq_true rfl) ?_
  intro K C hret
  have C : Ok K l rX1_add cX1_add RX1 G n0 5 := C
  show J K M 0 [(0, .ref (n0 + t)), (1, .int x1), (2, .int x2), (3, .int x3)] []
  unfold fX1_add at hf
  refine j_aload_n C 0 dX1_add_0 rfl rfl ?_
  refine g_X1_count C tw1_75 hk dX1_add_1 ?_
  refine j_istore C [(4, .int (M.1 t 1)), (0, .ref (n0 + t)), (1, .int x1), (2, .int x2), (3, .int x3)] dX1_add_4 (Nat.le_of_ble_eq_true rfl) rfl ?_
  refine j_aload_n C 1 dX1_add_6 rfl rfl ?_
  refine g_X1_rows C tw1_74 hk (t + 1) rfl dX1_add_7 ?_
  refine j_iload C 0 dX1_add_10 rfl ?_
  refine j_iconst C (0 : Int32) rfl dX1_add_12 ?_
  refine j_iload_n C 2 dX1_add_13 rfl rfl ?_
  obtain ⟨M2, e1, hf⟩ := bd hf
  refine j_callV C 3 (k1_1 hk).1 (ent_T _ _ _ _ _ _) rfl (c_X7_put l G n0 (k1_1 hk) e1) gv_RX1_35 ⟨rfl, rfl⟩ (by decide +kernel) ⟨Nat.le_of_ble_eq_true rfl, Nat.le_of_ble_eq_true rfl⟩ rfl rfl (Nat.le_of_ble_eq_true rfl) dX1_add_14 ?_
  refine j_aload_n C 1 dX1_add_17 rfl rfl ?_
  refine g_X1_rows C tw1_74 hk (t + 1) rfl dX1_add_18 ?_
  refine j_iload C 0 dX1_add_21 rfl ?_
  refine j_iconst C (1 : Int32) rfl dX1_add_23 ?_
  refine j_iload_n C 3 dX1_add_24 rfl rfl ?_
  obtain ⟨M4, e3, hf⟩ := bd hf
  refine j_callV C 3 (k1_1 hk).1 (ent_T _ _ _ _ _ _) rfl (c_X7_put l G n0 (k1_1 hk) e3) gv_RX1_35 ⟨rfl, rfl⟩ (by decide +kernel) ⟨Nat.le_of_ble_eq_true rfl, Nat.le_of_ble_eq_true rfl⟩ rfl rfl (Nat.le_of_ble_eq_true rfl) dX1_add_25 ?_
  refine j_aload_n C 1 dX1_add_28 rfl rfl ?_
  refine g_X1_rows C tw1_74 hk (t + 1) rfl dX1_add_29 ?_
  refine j_iload C 0 dX1_add_32 rfl ?_
  refine j_iconst C (2 : Int32) rfl dX1_add_34 ?_
  refine j_iload_n C 4 dX1_add_35 rfl rfl ?_
  obtain ⟨M6, e5, hf⟩ := bd hf
  refine j_callV C 3 (k1_1 hk).1 (ent_T _ _ _ _ _ _) rfl (c_X7_put l G n0 (k1_1 hk) e5) gv_RX1_35 ⟨rfl, rfl⟩ (by decide +kernel) ⟨Nat.le_of_ble_eq_true rfl, Nat.le_of_ble_eq_true rfl⟩ rfl rfl (Nat.le_of_ble_eq_true rfl) dX1_add_36 ?_
  refine j_aload_n C 1 dX1_add_39 rfl rfl ?_
  refine j_dup C rfl dX1_add_40 ?_
  refine g_X1_count C tw1_75 hk dX1_add_41 ?_
  refine j_iconst C (1 : Int32) rfl dX1_add_44 ?_
  refine j_iadd C dX1_add_45 ?_
  obtain ⟨M7, e8, hf⟩ := bd hf
  refine p_X1_count C tw1_75 hk e8 dX1_add_46 ?_
  refine j_iload C 0 dX1_add_49 rfl ?_
  obtain ⟨rfl, rfl⟩ := Prod.mk.inj (Option.some.inj hf)
  exact hret _ _ dX1_add_51
def fX1_has (t : Nat) (x1 : Int32) (M : Mem) : Option Bool :=
  if x1 < 0 then (some false)
  else (if (M.1 t 1) ≤ x1 then (some false)
  else (some true))

def rX1_has : Room := { frames := 0, cells := 0, slots := 0, locals := 0 }
set_option maxRecDepth 100000 in
set_option maxHeartbeats 4000000 in
theorem c_X1_has (l : Launch) (G : Gx) (n0 : Nat) {t : Nat} {x1 : Int32} (hk : lay[t]? = some (tK 1)) {M : Mem} {r : Bool} (hf : fX1_has t x1 M = some r) : Ct l yX1_has cX1_has 2 (some .boolean) rX1_has G n0 [.ref (n0 + t), .int x1] M (some (.int (bI r))) M := by
  refine ct_bool (cc := cX1_has) (maxL := 2) rfl (Nat.le_of_ble_eq_true rfl) ?_
  intro K C hret
  have C : Ok K l rX1_has cX1_has RX1 G n0 2 := C
  show J K M 0 [(0, .ref (n0 + t)), (1, .int x1)] []
  unfold fX1_has at hf
  refine j_iload_n C 1 dX1_has_0 rfl rfl ?_
  refine j_if_lt C 16 dX1_has_1 (by decide) (fun c1 => ?_) (fun c1 => ?_)
  · replace hf := ip c1 hf
    refine j_iconst C (0 : Int32) rfl dX1_has_16 ?_
    obtain rfl := Option.some.inj hf
    exact hret _ _ dX1_has_17
  · replace hf := ine c1 hf
    refine j_iload_n C 1 dX1_has_4 rfl rfl ?_
    refine j_aload_n C 0 dX1_has_5 rfl rfl ?_
    refine g_X1_count C tw1_75 hk dX1_has_6 ?_
    refine j_icmp_ge C 16 dX1_has_9 (by decide) (fun c2 => ?_) (fun c2 => ?_)
    · replace hf := ip c2 hf
      refine j_iconst C (0 : Int32) rfl dX1_has_16 ?_
      obtain rfl := Option.some.inj hf
      exact hret _ _ dX1_has_17
    · replace hf := ine c2 hf
      refine j_iconst C (1 : Int32) rfl dX1_has_12 ?_
      refine j_goto C 17 dX1_has_13 (by decide) ?_
      obtain rfl := Option.some.inj hf
      exact hret _ _ dX1_has_17
def fX1_remove (t : Nat) (x1 : Int32) (M : Mem) : Option (Int32 × Mem) :=
  (fX7_get (t + 1) 3 20 x1 (2 : Int32) M).bind fun v2 =>
  (fX7_remove (t + 1) 3 20 x1 (M.1 t 1) M).bind fun M4 =>
  (pf M4 t 1 ((M4.1 t 1) - (1 : Int32))).bind fun M5 =>
  some (v2, M5)

def rX1_remove : Room := { frames := 2, cells := 0, slots := 0, locals := 63 }
set_option maxRecDepth 100000 in
set_option maxHeartbeats 4000000 in
theorem c_X1_remove (l : Launch) (G : Gx) (n0 : Nat) {t : Nat} {x1 : Int32} (hk : lay[t]? = some (tK 1)) {M : Mem} {r : Int32} {M' : Mem} (hf : fX1_remove t x1 M = some (r, M')) : Ct l yX1_remove cX1_remove 3 (some .int) rX1_remove G n0 [.ref (n0 + t), .int x1] M (some (.int r)) M' := by
  refine ct_int (cc := cX1_remove) (maxL := 3) rfl (Nat.le_of_ble_eq_true rfl) ?_
  intro K C hret
  have C : Ok K l rX1_remove cX1_remove RX1 G n0 3 := C
  show J K M 0 [(0, .ref (n0 + t)), (1, .int x1)] []
  unfold fX1_remove at hf
  refine j_aload_n C 0 dX1_remove_0 rfl rfl ?_
  refine g_X1_rows C tw1_74 hk (t + 1) rfl dX1_remove_1 ?_
  refine j_iload_n C 1 dX1_remove_4 rfl rfl ?_
  refine j_iconst C (2 : Int32) rfl dX1_remove_5 ?_
  obtain ⟨v2, e1, hf⟩ := bd hf
  refine j_callV C 2 (k1_1 hk).1 (ent_T _ _ _ _ _ _) rfl (c_X7_get l G n0 (k1_1 hk) e1) gv_RX1_28 ⟨rfl, rfl⟩ (by decide +kernel) ⟨Nat.le_of_ble_eq_true rfl, Nat.le_of_ble_eq_true rfl⟩ rfl rfl (Nat.le_of_ble_eq_true rfl) dX1_remove_6 ?_
  refine j_istore_n C [(2, .int v2), (0, .ref (n0 + t)), (1, .int x1)] dX1_remove_9 rfl (Nat.le_of_ble_eq_true rfl) rfl ?_
  refine j_aload_n C 1 dX1_remove_10 rfl rfl ?_
  refine g_X1_rows C tw1_74 hk (t + 1) rfl dX1_remove_11 ?_
  refine j_iload_n C 2 dX1_remove_14 rfl rfl ?_
  refine j_aload_n C 1 dX1_remove_15 rfl rfl ?_
  refine g_X1_count C tw1_75 hk dX1_remove_16 ?_
  obtain ⟨M4, e3, hf⟩ := bd hf
  refine j_callV C 2 (k1_1 hk).1 (ent_T _ _ _ _ _ _) rfl (c_X7_remove l G n0 (k1_1 hk) e3) gv_RX1_39 ⟨rfl, rfl⟩ (by decide +kernel) ⟨Nat.le_of_ble_eq_true rfl, Nat.le_of_ble_eq_true rfl⟩ rfl rfl (Nat.le_of_ble_eq_true rfl) dX1_remove_19 ?_
  refine j_aload_n C 1 dX1_remove_22 rfl rfl ?_
  refine j_dup C rfl dX1_remove_23 ?_
  refine g_X1_count C tw1_75 hk dX1_remove_24 ?_
  refine j_iconst C (1 : Int32) rfl dX1_remove_27 ?_
  refine j_isub C dX1_remove_28 ?_
  obtain ⟨M5, e6, hf⟩ := bd hf
  refine p_X1_count C tw1_75 hk e6 dX1_remove_29 ?_
  refine j_iload_n C 0 dX1_remove_32 rfl rfl ?_
  obtain ⟨rfl, rfl⟩ := Prod.mk.inj (Option.some.inj hf)
  exact hret _ _ dX1_remove_33
def fX1_size (t : Nat) (M : Mem) : Option Int32 :=
  some (M.1 t 1)

def rX1_size : Room := { frames := 0, cells := 0, slots := 0, locals := 0 }
set_option maxRecDepth 100000 in
set_option maxHeartbeats 4000000 in
theorem c_X1_size (l : Launch) (G : Gx) (n0 : Nat) {t : Nat} (hk : lay[t]? = some (tK 1)) {M : Mem} {r : Int32} (hf : fX1_size t M = some r) : Ct l yX1_size cX1_size 1 (some .int) rX1_size G n0 [.ref (n0 + t)] M (some (.int r)) M := by
  refine ct_int (cc := cX1_size) (maxL := 1) rfl (Nat.le_of_ble_eq_true rfl) ?_
  intro K C hret
  have C : Ok K l rX1_size cX1_size RX1 G n0 1 := C
  show J K M 0 [(0, .ref (n0 + t))] []
  unfold fX1_size at hf
  refine j_aload_n C 0 dX1_size_0 rfl rfl ?_
  refine g_X1_count C tw1_75 hk dX1_size_1 ?_
  obtain rfl := Option.some.inj hf
  exact hret _ _ dX1_size_4
def fX6_cameOut (t : Nat) (M : Mem) : Option Int32 :=
  some (M.1 t 1)

def rX6_cameOut : Room := { frames := 0, cells := 0, slots := 0, locals := 0 }
set_option maxRecDepth 100000 in
set_option maxHeartbeats 4000000 in
theorem c_X6_cameOut (l : Launch) (G : Gx) (n0 : Nat) {t : Nat} (hk : lay[t]? = some (tK 6)) {M : Mem} {r : Int32} (hf : fX6_cameOut t M = some r) : Ct l yX6_cameOut cX6_cameOut 1 (some .int) rX6_cameOut G n0 [.ref (n0 + t)] M (some (.int r)) M := by
  refine ct_int (cc := cX6_cameOut) (maxL := 1) rfl (Nat.le_of_ble_eq_true rfl) ?_
  intro K C hret
  have C : Ok K l rX6_cameOut cX6_cameOut RX6 G n0 1 := C
  show J K M 0 [(0, .ref (n0 + t))] []
  unfold fX6_cameOut at hf
  refine j_aload_n C 0 dX6_cameOut_0 rfl rfl ?_
  refine g_X6_cameOut C tw1_105 hk dX6_cameOut_1 ?_
  obtain rfl := Option.some.inj hf
  exact hret _ _ dX6_cameOut_4
def fX4_size (t : Nat) (M : Mem) : Option Int32 :=
  some (M.1 t 1)

def rX4_size : Room := { frames := 0, cells := 0, slots := 0, locals := 0 }
set_option maxRecDepth 100000 in
set_option maxHeartbeats 4000000 in
theorem c_X4_size (l : Launch) (G : Gx) (n0 : Nat) {t : Nat} (hk : lay[t]? = some (tK 4)) {M : Mem} {r : Int32} (hf : fX4_size t M = some r) : Ct l yX4_size cX4_size 1 (some .int) rX4_size G n0 [.ref (n0 + t)] M (some (.int r)) M := by
  refine ct_int (cc := cX4_size) (maxL := 1) rfl (Nat.le_of_ble_eq_true rfl) ?_
  intro K C hret
  have C : Ok K l rX4_size cX4_size RX4 G n0 1 := C
  show J K M 0 [(0, .ref (n0 + t))] []
  unfold fX4_size at hf
  refine j_aload_n C 0 dX4_size_0 rfl rfl ?_
  refine g_X4_count C tw1_60 hk dX4_size_1 ?_
  obtain rfl := Option.some.inj hf
  exact hret _ _ dX4_size_4
def fX4_dueOf (t : Nat) (x1 : Int32) (M : Mem) : Option Int64 :=
  (fX7_sum (t + 1) 4 8 (M.1 t 1) (1 : Int32) M).bind fun v2 =>
  (fX7_sum (t + 1) 4 8 (M.1 t 1) (2 : Int32) M).bind fun v4 =>
  (fX7_get (t + 1) 4 8 x1 (2 : Int32) M).bind fun v6 =>
  (fX7_get (t + 1) 4 8 x1 (1 : Int32) M).bind fun v8 =>
  some ((v2.toInt64 * v6.toInt64) - (v4.toInt64 * v8.toInt64))

def rX4_dueOf : Room := { frames := 1, cells := 0, slots := 0, locals := 25 }
set_option maxRecDepth 100000 in
set_option maxHeartbeats 4000000 in
theorem c_X4_dueOf (l : Launch) (G : Gx) (n0 : Nat) {t : Nat} {x1 : Int32} (hk : lay[t]? = some (tK 4)) {M : Mem} {r : Int64} (hf : fX4_dueOf t x1 M = some r) : Ct l yX4_dueOf cX4_dueOf 6 (some .long) rX4_dueOf G n0 [.ref (n0 + t), .int x1] M (some (.long r)) M := by
  refine ct_long (cc := cX4_dueOf) (maxL := 6) rfl (Nat.le_of_ble_eq_true rfl) ?_
  intro K C hret
  have C : Ok K l rX4_dueOf cX4_dueOf RX4 G n0 6 := C
  show J K M 0 [(0, .ref (n0 + t)), (1, .int x1)] []
  unfold fX4_dueOf at hf
  refine j_aload_n C 0 dX4_dueOf_0 rfl rfl ?_
  refine g_X4_rows C tw1_59 hk (t + 1) rfl dX4_dueOf_1 ?_
  refine j_aload_n C 0 dX4_dueOf_4 rfl rfl ?_
  refine g_X4_count C tw1_60 hk dX4_dueOf_5 ?_
  refine j_iconst C (1 : Int32) rfl dX4_dueOf_8 ?_
  obtain ⟨v2, e1, hf⟩ := bd hf
  refine j_callV C 2 (k4_1 hk).1 (ent_T _ _ _ _ _ _) rfl (c_X7_sum l G n0 (k4_1 hk) e1) gv_RX4_32 ⟨rfl, rfl⟩ (by decide +kernel) ⟨Nat.le_of_ble_eq_true rfl, Nat.le_of_ble_eq_true rfl⟩ rfl rfl (Nat.le_of_ble_eq_true rfl) dX4_dueOf_9 ?_
  refine j_i2l C dX4_dueOf_12 ?_
  refine j_lstore_n C [(2, .long v2.toInt64), (0, .ref (n0 + t)), (1, .int x1)] dX4_dueOf_13 rfl (Nat.le_of_ble_eq_true rfl) rfl ?_
  refine j_aload_n C 1 dX4_dueOf_14 rfl rfl ?_
  refine g_X4_rows C tw1_59 hk (t + 1) rfl dX4_dueOf_15 ?_
  refine j_aload_n C 1 dX4_dueOf_18 rfl rfl ?_
  refine g_X4_count C tw1_60 hk dX4_dueOf_19 ?_
  refine j_iconst C (2 : Int32) rfl dX4_dueOf_22 ?_
  obtain ⟨v4, e3, hf⟩ := bd hf
  refine j_callV C 2 (k4_1 hk).1 (ent_T _ _ _ _ _ _) rfl (c_X7_sum l G n0 (k4_1 hk) e3) gv_RX4_32 ⟨rfl, rfl⟩ (by decide +kernel) ⟨Nat.le_of_ble_eq_true rfl, Nat.le_of_ble_eq_true rfl⟩ rfl rfl (Nat.le_of_ble_eq_true rfl) dX4_dueOf_23 ?_
  refine j_i2l C dX4_dueOf_26 ?_
  refine j_lstore C [(4, .long v4.toInt64), (2, .long v2.toInt64), (0, .ref (n0 + t)), (1, .int x1)] dX4_dueOf_27 (Nat.le_of_ble_eq_true rfl) rfl ?_
  refine j_lload_n C 1 dX4_dueOf_29 rfl rfl ?_
  refine j_aload_n C 2 dX4_dueOf_30 rfl rfl ?_
  refine g_X4_rows C tw1_59 hk (t + 1) rfl dX4_dueOf_31 ?_
  refine j_iload_n C 3 dX4_dueOf_34 rfl rfl ?_
  refine j_iconst C (2 : Int32) rfl dX4_dueOf_35 ?_
  obtain ⟨v6, e5, hf⟩ := bd hf
  refine j_callV C 2 (k4_1 hk).1 (ent_T _ _ _ _ _ _) rfl (c_X7_get l G n0 (k4_1 hk) e5) gv_RX4_28 ⟨rfl, rfl⟩ (by decide +kernel) ⟨Nat.le_of_ble_eq_true rfl, Nat.le_of_ble_eq_true rfl⟩ rfl rfl (Nat.le_of_ble_eq_true rfl) dX4_dueOf_36 ?_
  refine j_i2l C dX4_dueOf_39 ?_
  refine j_lmul C dX4_dueOf_40 ?_
  refine j_lload C 0 dX4_dueOf_41 rfl ?_
  refine j_aload_n C 2 dX4_dueOf_43 rfl rfl ?_
  refine g_X4_rows C tw1_59 hk (t + 1) rfl dX4_dueOf_44 ?_
  refine j_iload_n C 3 dX4_dueOf_47 rfl rfl ?_
  refine j_iconst C (1 : Int32) rfl dX4_dueOf_48 ?_
  obtain ⟨v8, e7, hf⟩ := bd hf
  refine j_callV C 2 (k4_1 hk).1 (ent_T _ _ _ _ _ _) rfl (c_X7_get l G n0 (k4_1 hk) e7) gv_RX4_28 ⟨rfl, rfl⟩ (by decide +kernel) ⟨Nat.le_of_ble_eq_true rfl, Nat.le_of_ble_eq_true rfl⟩ rfl rfl (Nat.le_of_ble_eq_true rfl) dX4_dueOf_49 ?_
  refine j_i2l C dX4_dueOf_52 ?_
  refine j_lmul C dX4_dueOf_53 ?_
  refine j_lsub C dX4_dueOf_54 ?_
  obtain rfl := Option.some.inj hf
  exact hret _ _ dX4_dueOf_55
def lX4_nextOne_33 (t : Nat) (M : Mem) (z4 : Bool) : Nat → Int32 → Int64 → Int32 → Option Int32
  | 0, _, _, _ => none
  | n + 1, a5, a6, a7 =>
  if (M.1 t 1) ≤ a7 then (some a5)
  else (if z4 = true then ((fX4_dueOf t a7 M).bind fun v11 =>
  if a5 = (-1 : Int32) then (lX4_nextOne_33 t M z4 n a7 v11 (a7 + 1))
  else (if v11 ≤ a6 then (lX4_nextOne_33 t M z4 n a5 a6 (a7 + 1))
  else (lX4_nextOne_33 t M z4 n a7 v11 (a7 + 1))))
  else ((fX7_get (t + 1) 4 8 a7 (3 : Int32) M).bind fun v15 =>
  if v15 = 0 then ((fX4_dueOf t a7 M).bind fun v18 =>
  if a5 = (-1 : Int32) then (lX4_nextOne_33 t M z4 n a7 v18 (a7 + 1))
  else (if v18 ≤ a6 then (lX4_nextOne_33 t M z4 n a5 a6 (a7 + 1))
  else (lX4_nextOne_33 t M z4 n a7 v18 (a7 + 1))))
  else (lX4_nextOne_33 t M z4 n a5 a6 (a7 + 1))))

def fX4_nextOne (t : Nat) (M : Mem) : Option Int32 :=
  (fX7_count (t + 1) 4 8 (M.1 t 1) (3 : Int32) (1 : Int32) M).bind fun v2 =>
  (if v2 = (M.1 t 1) then (some true)
  else (some false)).bind (fun z4 => (lX4_nextOne_33 t M z4 FUEL (-1 : Int32) (0 : Int64) (0 : Int32)).bind (fun a21 => some a21))

def rX4_nextOne : Room := { frames := 2, cells := 0, slots := 0, locals := 52 }
set_option maxRecDepth 100000 in
set_option maxHeartbeats 4000000 in
theorem c_X4_nextOne (l : Launch) (G : Gx) (n0 : Nat) {t : Nat} (hk : lay[t]? = some (tK 4)) {M : Mem} {r : Int32} (hf : fX4_nextOne t M = some r) : Ct l yX4_nextOne cX4_nextOne 8 (some .int) rX4_nextOne G n0 [.ref (n0 + t)] M (some (.int r)) M := by
  refine ct_int (cc := cX4_nextOne) (maxL := 8) rfl (Nat.le_of_ble_eq_true rfl) ?_
  intro K C hret
  have C : Ok K l rX4_nextOne cX4_nextOne RX4 G n0 8 := C
  show J K M 0 [(0, .ref (n0 + t))] []
  unfold fX4_nextOne at hf
  refine j_aload_n C 0 dX4_nextOne_0 rfl rfl ?_
  refine g_X4_rows C tw1_59 hk (t + 1) rfl dX4_nextOne_1 ?_
  refine j_aload_n C 0 dX4_nextOne_4 rfl rfl ?_
  refine g_X4_count C tw1_60 hk dX4_nextOne_5 ?_
  refine j_iconst C (3 : Int32) rfl dX4_nextOne_8 ?_
  refine j_iconst C (1 : Int32) rfl dX4_nextOne_9 ?_
  obtain ⟨v2, e1, hf⟩ := bd hf
  refine j_callV C 3 (k4_1 hk).1 (ent_T _ _ _ _ _ _) rfl (c_X7_count l G n0 (k4_1 hk) e1) gv_RX4_39 ⟨rfl, rfl⟩ (by decide +kernel) ⟨Nat.le_of_ble_eq_true rfl, Nat.le_of_ble_eq_true rfl⟩ rfl rfl (Nat.le_of_ble_eq_true rfl) dX4_nextOne_10 ?_
  refine j_aload_n C 0 dX4_nextOne_13 rfl rfl ?_
  refine g_X4_count C tw1_60 hk dX4_nextOne_14 ?_
  obtain ⟨z4, e22, hf⟩ := bd hf
  have hj23 : J K M 25 [(0, .ref (n0 + t))] [.int (bI z4)] := by
    refine j_istore_n C [(1, .int (bI z4)), (0, .ref (n0 + t))] dX4_nextOne_25 rfl (Nat.le_of_ble_eq_true rfl) rfl ?_
    refine j_iconst C (-1 : Int32) rfl dX4_nextOne_26 ?_
    refine j_istore_n C [(2, .int (-1 : Int32)), (1, .int (bI z4)), (0, .ref (n0 + t))] dX4_nextOne_27 rfl (Nat.le_of_ble_eq_true rfl) rfl ?_
    refine j_lconst C (0 : Int64) rfl dX4_nextOne_28 ?_
    refine j_lstore_n C [(3, .long (0 : Int64)), (2, .int (-1 : Int32)), (1, .int (bI z4)), (0, .ref (n0 + t))] dX4_nextOne_29 rfl (Nat.le_of_ble_eq_true rfl) rfl ?_
    refine j_iconst C (0 : Int32) rfl dX4_nextOne_30 ?_
    refine j_istore C [(5, .int (0 : Int32)), (3, .long (0 : Int64)), (2, .int (-1 : Int32)), (1, .int (bI z4)), (0, .ref (n0 + t))] dX4_nextOne_31 (Nat.le_of_ble_eq_true rfl) rfl ?_
    obtain ⟨a21, e24, hf⟩ := bd hf
    have hx25 : J K M 91 [(2, .int a21)] [] := by
      refine j_iload_n C 0 dX4_nextOne_91 rfl rfl ?_
      obtain rfl := Option.some.inj hf
      exact hret _ _ dX4_nextOne_92
    clear hf
    have hl26 : ∀ (n : Nat) (a5 : Int32) (a6 : Int64) (a7 : Int32), lX4_nextOne_33 t M z4 n a5 a6 a7 = some a21 → J K M 33 [(0, .ref (n0 + t)), (1, .int (bI z4)), (2, .int a5), (3, .long a6), (5, .int a7)] [] := by
      intro n
      induction n with
      | zero =>
        intro a5 a6 a7 hf
        exact absurd hf (by rw [lX4_nextOne_33]; exact fun h => by cases h)
      | succ n ih =>
        intro a5 a6 a7 hf
        rw [lX4_nextOne_33] at hf
        refine j_iload C 4 dX4_nextOne_33 rfl ?_
        refine j_aload_n C 0 dX4_nextOne_35 rfl rfl ?_
        refine g_X4_count C tw1_60 hk dX4_nextOne_36 ?_
        refine j_icmp_ge C 91 dX4_nextOne_39 (by decide) (fun c8 => ?_) (fun c8 => ?_)
        · replace hf := ip c8 hf
          refine j_sub [2] rfl ?_
          cases hf
          exact hx25
        · replace hf := ine c8 hf
          refine j_iload_n C 1 dX4_nextOne_42 rfl rfl ?_
          refine j_ifz_ne C 59 dX4_nextOne_43 (by decide) (fun c9 => ?_) (fun c9 => ?_)
          · replace hf := ip c9 hf
            refine j_aload_n C 0 dX4_nextOne_59 rfl rfl ?_
            refine j_iload C 4 dX4_nextOne_60 rfl ?_
            obtain ⟨v11, e10, hf⟩ := bd hf
            refine j_callV C 1 hk (ent_K _ _ _ _ _ _) rfl (c_X4_dueOf l G n0 hk e10) gv_RX4_46 ⟨rfl, rfl⟩ (by decide +kernel) ⟨Nat.le_of_ble_eq_true rfl, Nat.le_of_ble_eq_true rfl⟩ rfl rfl (Nat.le_of_ble_eq_true rfl) dX4_nextOne_62 ?_
            refine j_lstore C [(6, .long v11), (0, .ref (n0 + t)), (1, .int (bI z4)), (2, .int a5), (3, .long a6), (5, .int a7)] dX4_nextOne_65 (Nat.le_of_ble_eq_true rfl) rfl ?_
            refine j_iload_n C 3 dX4_nextOne_67 rfl rfl ?_
            refine j_iconst C (-1 : Int32) rfl dX4_nextOne_68 ?_
            refine j_icmp_eq C 79 dX4_nextOne_69 (by decide) (fun c12 => ?_) (fun c12 => ?_)
            · replace hf := ip c12 hf
              refine j_iload C 5 dX4_nextOne_79 rfl ?_
              refine j_istore_n C [(2, .int a7), (6, .long v11), (0, .ref (n0 + t)), (1, .int (bI z4)), (3, .long a6), (5, .int a7)] dX4_nextOne_81 rfl (Nat.le_of_ble_eq_true rfl) rfl ?_
              refine j_lload C 1 dX4_nextOne_82 rfl ?_
              refine j_lstore_n C [(3, .long v11), (2, .int a7), (6, .long v11), (0, .ref (n0 + t)), (1, .int (bI z4)), (5, .int a7)] dX4_nextOne_84 rfl (Nat.le_of_ble_eq_true rfl) rfl ?_
              refine j_iinc C 5 (a7 + 1) [(5, .int (a7 + 1)), (3, .long v11), (2, .int a7), (6, .long v11), (0, .ref (n0 + t)), (1, .int (bI z4))] dX4_nextOne_85 rfl rfl (Nat.le_of_ble_eq_true rfl) rfl ?_
              refine j_goto C 33 dX4_nextOne_88 (by decide) ?_
              refine j_sub [4, 5, 2, 1, 0] rfl ?_
              exact ih _ _ _ hf
            · replace hf := ine c12 hf
              refine j_lload C 0 dX4_nextOne_72 rfl ?_
              refine j_lload_n C 4 dX4_nextOne_74 rfl rfl ?_
              refine j_lcmp C dX4_nextOne_75 ?_
              refine j_iflc_le C 85 dX4_nextOne_76 (by decide) (fun c13 => ?_) (fun c13 => ?_)
              · replace hf := ip c13 hf
                refine j_iinc C 5 (a7 + 1) [(5, .int (a7 + 1)), (6, .long v11), (0, .ref (n0 + t)), (1, .int (bI z4)), (2, .int a5), (3, .long a6)] dX4_nextOne_85 rfl rfl (Nat.le_of_ble_eq_true rfl) rfl ?_
                refine j_goto C 33 dX4_nextOne_88 (by decide) ?_
                refine j_sub [2, 3, 4, 5, 0] rfl ?_
                exact ih _ _ _ hf
              · replace hf := ine c13 hf
                refine j_iload C 5 dX4_nextOne_79 rfl ?_
                refine j_istore_n C [(2, .int a7), (6, .long v11), (0, .ref (n0 + t)), (1, .int (bI z4)), (3, .long a6), (5, .int a7)] dX4_nextOne_81 rfl (Nat.le_of_ble_eq_true rfl) rfl ?_
                refine j_lload C 1 dX4_nextOne_82 rfl ?_
                refine j_lstore_n C [(3, .long v11), (2, .int a7), (6, .long v11), (0, .ref (n0 + t)), (1, .int (bI z4)), (5, .int a7)] dX4_nextOne_84 rfl (Nat.le_of_ble_eq_true rfl) rfl ?_
                refine j_iinc C 5 (a7 + 1) [(5, .int (a7 + 1)), (3, .long v11), (2, .int a7), (6, .long v11), (0, .ref (n0 + t)), (1, .int (bI z4))] dX4_nextOne_85 rfl rfl (Nat.le_of_ble_eq_true rfl) rfl ?_
                refine j_goto C 33 dX4_nextOne_88 (by decide) ?_
                refine j_sub [4, 5, 2, 1, 0] rfl ?_
                exact ih _ _ _ hf
          · replace hf := ine c9 hf
            refine j_aload_n C 0 dX4_nextOne_46 rfl rfl ?_
            refine g_X4_rows C tw1_59 hk (t + 1) rfl dX4_nextOne_47 ?_
            refine j_iload C 4 dX4_nextOne_50 rfl ?_
            refine j_iconst C (3 : Int32) rfl dX4_nextOne_52 ?_
            obtain ⟨v15, e14, hf⟩ := bd hf
            refine j_callV C 2 (k4_1 hk).1 (ent_T _ _ _ _ _ _) rfl (c_X7_get l G n0 (k4_1 hk) e14) gv_RX4_28 ⟨rfl, rfl⟩ (by decide +kernel) ⟨Nat.le_of_ble_eq_true rfl, Nat.le_of_ble_eq_true rfl⟩ rfl rfl (Nat.le_of_ble_eq_true rfl) dX4_nextOne_53 ?_
            refine j_if_ne C 85 dX4_nextOne_56 (by decide) (fun c16 => ?_) (fun c16 => ?_)
            · replace hf := ine c16 hf
              refine j_iinc C 4 (a7 + 1) [(5, .int (a7 + 1)), (0, .ref (n0 + t)), (1, .int (bI z4)), (2, .int a5), (3, .long a6)] dX4_nextOne_85 rfl rfl (Nat.le_of_ble_eq_true rfl) rfl ?_
              refine j_goto C 33 dX4_nextOne_88 (by decide) ?_
              refine j_sub [1, 2, 3, 4, 0] rfl ?_
              exact ih _ _ _ hf
            · replace hf := ip c16 hf
              refine j_aload_n C 0 dX4_nextOne_59 rfl rfl ?_
              refine j_iload C 4 dX4_nextOne_60 rfl ?_
              obtain ⟨v18, e17, hf⟩ := bd hf
              refine j_callV C 1 hk (ent_K _ _ _ _ _ _) rfl (c_X4_dueOf l G n0 hk e17) gv_RX4_46 ⟨rfl, rfl⟩ (by decide +kernel) ⟨Nat.le_of_ble_eq_true rfl, Nat.le_of_ble_eq_true rfl⟩ rfl rfl (Nat.le_of_ble_eq_true rfl) dX4_nextOne_62 ?_
              refine j_lstore C [(6, .long v18), (0, .ref (n0 + t)), (1, .int (bI z4)), (2, .int a5), (3, .long a6), (5, .int a7)] dX4_nextOne_65 (Nat.le_of_ble_eq_true rfl) rfl ?_
              refine j_iload_n C 3 dX4_nextOne_67 rfl rfl ?_
              refine j_iconst C (-1 : Int32) rfl dX4_nextOne_68 ?_
              refine j_icmp_eq C 79 dX4_nextOne_69 (by decide) (fun c19 => ?_) (fun c19 => ?_)
              · replace hf := ip c19 hf
                refine j_iload C 5 dX4_nextOne_79 rfl ?_
                refine j_istore_n C [(2, .int a7), (6, .long v18), (0, .ref (n0 + t)), (1, .int (bI z4)), (3, .long a6), (5, .int a7)] dX4_nextOne_81 rfl (Nat.le_of_ble_eq_true rfl) rfl ?_
                refine j_lload C 1 dX4_nextOne_82 rfl ?_
                refine j_lstore_n C [(3, .long v18), (2, .int a7), (6, .long v18), (0, .ref (n0 + t)), (1, .int (bI z4)), (5, .int a7)] dX4_nextOne_84 rfl (Nat.le_of_ble_eq_true rfl) rfl ?_
                refine j_iinc C 5 (a7 + 1) [(5, .int (a7 + 1)), (3, .long v18), (2, .int a7), (6, .long v18), (0, .ref (n0 + t)), (1, .int (bI z4))] dX4_nextOne_85 rfl rfl (Nat.le_of_ble_eq_true rfl) rfl ?_
                refine j_goto C 33 dX4_nextOne_88 (by decide) ?_
                refine j_sub [4, 5, 2, 1, 0] rfl ?_
                exact ih _ _ _ hf
              · replace hf := ine c19 hf
                refine j_lload C 0 dX4_nextOne_72 rfl ?_
                refine j_lload_n C 4 dX4_nextOne_74 rfl rfl ?_
                refine j_lcmp C dX4_nextOne_75 ?_
                refine j_iflc_le C 85 dX4_nextOne_76 (by decide) (fun c20 => ?_) (fun c20 => ?_)
                · replace hf := ip c20 hf
                  refine j_iinc C 5 (a7 + 1) [(5, .int (a7 + 1)), (6, .long v18), (0, .ref (n0 + t)), (1, .int (bI z4)), (2, .int a5), (3, .long a6)] dX4_nextOne_85 rfl rfl (Nat.le_of_ble_eq_true rfl) rfl ?_
                  refine j_goto C 33 dX4_nextOne_88 (by decide) ?_
                  refine j_sub [2, 3, 4, 5, 0] rfl ?_
                  exact ih _ _ _ hf
                · replace hf := ine c20 hf
                  refine j_iload C 5 dX4_nextOne_79 rfl ?_
                  refine j_istore_n C [(2, .int a7), (6, .long v18), (0, .ref (n0 + t)), (1, .int (bI z4)), (3, .long a6), (5, .int a7)] dX4_nextOne_81 rfl (Nat.le_of_ble_eq_true rfl) rfl ?_
                  refine j_lload C 1 dX4_nextOne_82 rfl ?_
                  refine j_lstore_n C [(3, .long v18), (2, .int a7), (6, .long v18), (0, .ref (n0 + t)), (1, .int (bI z4)), (5, .int a7)] dX4_nextOne_84 rfl (Nat.le_of_ble_eq_true rfl) rfl ?_
                  refine j_iinc C 5 (a7 + 1) [(5, .int (a7 + 1)), (3, .long v18), (2, .int a7), (6, .long v18), (0, .ref (n0 + t)), (1, .int (bI z4))] dX4_nextOne_85 rfl rfl (Nat.le_of_ble_eq_true rfl) rfl ?_
                  refine j_goto C 33 dX4_nextOne_88 (by decide) ?_
                  refine j_sub [4, 5, 2, 1, 0] rfl ?_
                  exact ih _ _ _ hf
    refine j_sub [4, 3, 2, 1, 0] rfl ?_
    exact hl26 FUEL (-1 : Int32) (0 : Int64) (0 : Int32) e24
  clear hf
  have hf := e22
  refine j_icmp_ne C 24 dX4_nextOne_17 (by decide) (fun c3 => ?_) (fun c3 => ?_)
  · replace hf := ine c3 hf
    refine j_iconst C (0 : Int32) rfl dX4_nextOne_24 ?_
    cases hf
    refine j_sub [0] rfl ?_
    exact hj23
  · replace hf := ip c3 hf
    refine j_iconst C (1 : Int32) rfl dX4_nextOne_20 ?_
    refine j_goto C 25 dX4_nextOne_21 (by decide) ?_
    cases hf
    refine j_sub [0] rfl ?_
    exact hj23
def fX1_value (t : Nat) (x1 : Int32) (x2 : Int32) (M : Mem) : Option Int32 :=
  (fX7_get (t + 1) 3 20 x1 x2 M).bind fun v2 =>
  some v2

def rX1_value : Room := { frames := 1, cells := 0, slots := 0, locals := 22 }
set_option maxRecDepth 100000 in
set_option maxHeartbeats 4000000 in
theorem c_X1_value (l : Launch) (G : Gx) (n0 : Nat) {t : Nat} {x1 : Int32} {x2 : Int32} (hk : lay[t]? = some (tK 1)) {M : Mem} {r : Int32} (hf : fX1_value t x1 x2 M = some r) : Ct l yX1_value cX1_value 3 (some .int) rX1_value G n0 [.ref (n0 + t), .int x1, .int x2] M (some (.int r)) M := by
  refine ct_int (cc := cX1_value) (maxL := 3) rfl (Nat.le_of_ble_eq_true rfl) ?_
  intro K C hret
  have C : Ok K l rX1_value cX1_value RX1 G n0 3 := C
  show J K M 0 [(0, .ref (n0 + t)), (1, .int x1), (2, .int x2)] []
  unfold fX1_value at hf
  refine j_aload_n C 0 dX1_value_0 rfl rfl ?_
  refine g_X1_rows C tw1_74 hk (t + 1) rfl dX1_value_1 ?_
  refine j_iload_n C 1 dX1_value_4 rfl rfl ?_
  refine j_iload_n C 2 dX1_value_5 rfl rfl ?_
  obtain ⟨v2, e1, hf⟩ := bd hf
  refine j_callV C 2 (k1_1 hk).1 (ent_T _ _ _ _ _ _) rfl (c_X7_get l G n0 (k1_1 hk) e1) gv_RX1_28 ⟨rfl, rfl⟩ (by decide +kernel) ⟨Nat.le_of_ble_eq_true rfl, Nat.le_of_ble_eq_true rfl⟩ rfl rfl (Nat.le_of_ble_eq_true rfl) dX1_value_6 ?_
  obtain rfl := Option.some.inj hf
  exact hret _ _ dX1_value_9
def lX4_bringWood_27 (t : Nat) : Nat → Int32 → Mem → Option Mem
  | 0, _, _ => none
  | n + 1, a7, M8 =>
  if (M8.1 t 1) ≤ a7 then (some M8)
  else ((fX7_put (t + 1) 4 8 a7 (3 : Int32) (0 : Int32) M8).bind fun M11 =>
  lX4_bringWood_27 t n (a7 + 1) M11)

def fX4_bringWood (t : Nat) (x1 : Int32) (M : Mem) : Option Mem :=
  (fX4_nextOne t M).bind fun v2 =>
  (fX7_get (t + 1) 4 8 v2 (1 : Int32) M).bind fun v4 =>
  (fX7_put (t + 1) 4 8 v2 (1 : Int32) (v4 + x1) M).bind fun M6 =>
  (lX4_bringWood_27 t FUEL (0 : Int32) M6).bind (fun M12 => some M12)

def rX4_bringWood : Room := { frames := 3, cells := 0, slots := 0, locals := 79 }
set_option maxRecDepth 100000 in
set_option maxHeartbeats 4000000 in
theorem c_X4_bringWood (l : Launch) (G : Gx) (n0 : Nat) {t : Nat} {x1 : Int32} (hk : lay[t]? = some (tK 4)) {M : Mem} {M' : Mem} (hf : fX4_bringWood t x1 M = some M') : Ct l yX4_bringWood cX4_bringWood 4 none rX4_bringWood G n0 [.ref (n0 + t), .int x1] M none M' := by
  refine ct_void (cc := cX4_bringWood) (maxL := 4) rfl (Nat.le_of_ble_eq_true rfl) ?_
  intro K C hret
  have C : Ok K l rX4_bringWood cX4_bringWood RX4 G n0 4 := C
  show J K M 0 [(0, .ref (n0 + t)), (1, .int x1)] []
  unfold fX4_bringWood at hf
  refine j_aload_n C 0 dX4_bringWood_0 rfl rfl ?_
  obtain ⟨v2, e1, hf⟩ := bd hf
  refine j_callV C 0 hk (ent_K _ _ _ _ _ _) rfl (c_X4_nextOne l G n0 hk e1) gv_RX4_42 ⟨rfl, rfl⟩ (by decide +kernel) ⟨Nat.le_of_ble_eq_true rfl, Nat.le_of_ble_eq_true rfl⟩ rfl rfl (Nat.le_of_ble_eq_true rfl) dX4_bringWood_1 ?_
  refine j_istore_n C [(2, .int v2), (0, .ref (n0 + t)), (1, .int x1)] dX4_bringWood_4 rfl (Nat.le_of_ble_eq_true rfl) rfl ?_
  refine j_aload_n C 1 dX4_bringWood_5 rfl rfl ?_
  refine g_X4_rows C tw1_59 hk (t + 1) rfl dX4_bringWood_6 ?_
  refine j_iload_n C 0 dX4_bringWood_9 rfl rfl ?_
  refine j_iconst C (1 : Int32) rfl dX4_bringWood_10 ?_
  refine j_aload_n C 1 dX4_bringWood_11 rfl rfl ?_
  refine g_X4_rows C tw1_59 hk (t + 1) rfl dX4_bringWood_12 ?_
  refine j_iload_n C 0 dX4_bringWood_15 rfl rfl ?_
  refine j_iconst C (1 : Int32) rfl dX4_bringWood_16 ?_
  obtain ⟨v4, e3, hf⟩ := bd hf
  refine j_callV C 2 (k4_1 hk).1 (ent_T _ _ _ _ _ _) rfl (c_X7_get l G n0 (k4_1 hk) e3) gv_RX4_28 ⟨rfl, rfl⟩ (by decide +kernel) ⟨Nat.le_of_ble_eq_true rfl, Nat.le_of_ble_eq_true rfl⟩ rfl rfl (Nat.le_of_ble_eq_true rfl) dX4_bringWood_17 ?_
  refine j_iload_n C 2 dX4_bringWood_20 rfl rfl ?_
  refine j_iadd C dX4_bringWood_21 ?_
  obtain ⟨M6, e5, hf⟩ := bd hf
  refine j_callV C 3 (k4_1 hk).1 (ent_T _ _ _ _ _ _) rfl (c_X7_put l G n0 (k4_1 hk) e5) gv_RX4_35 ⟨rfl, rfl⟩ (by decide +kernel) ⟨Nat.le_of_ble_eq_true rfl, Nat.le_of_ble_eq_true rfl⟩ rfl rfl (Nat.le_of_ble_eq_true rfl) dX4_bringWood_22 ?_
  refine j_iconst C (0 : Int32) rfl dX4_bringWood_25 ?_
  refine j_istore_n C [(3, .int (0 : Int32)), (2, .int v2), (0, .ref (n0 + t)), (1, .int x1)] dX4_bringWood_26 rfl (Nat.le_of_ble_eq_true rfl) rfl ?_
  obtain ⟨M12, e13, hf⟩ := bd hf
  have hx14 : J K M12 51 [] [] := by
    obtain rfl := Option.some.inj hf
    exact hret _ _ dX4_bringWood_51
  clear hf
  have hl15 : ∀ (n : Nat) (a7 : Int32) (M8 : Mem), lX4_bringWood_27 t n a7 M8 = some M12 → J K M8 27 [(0, .ref (n0 + t)), (3, .int a7)] [] := by
    intro n
    induction n with
    | zero =>
      intro a7 M8 hf
      exact absurd hf (by rw [lX4_bringWood_27]; exact fun h => by cases h)
    | succ n ih =>
      intro a7 M8 hf
      rw [lX4_bringWood_27] at hf
      refine j_iload_n C 1 dX4_bringWood_27 rfl rfl ?_
      refine j_aload_n C 0 dX4_bringWood_28 rfl rfl ?_
      refine g_X4_count C tw1_60 hk dX4_bringWood_29 ?_
      refine j_icmp_ge C 51 dX4_bringWood_32 (by decide) (fun c9 => ?_) (fun c9 => ?_)
      · replace hf := ip c9 hf
        refine j_sub [] rfl ?_
        cases hf
        exact hx14
      · replace hf := ine c9 hf
        refine j_aload_n C 0 dX4_bringWood_35 rfl rfl ?_
        refine g_X4_rows C tw1_59 hk (t + 1) rfl dX4_bringWood_36 ?_
        refine j_iload_n C 1 dX4_bringWood_39 rfl rfl ?_
        refine j_iconst C (3 : Int32) rfl dX4_bringWood_40 ?_
        refine j_iconst C (0 : Int32) rfl dX4_bringWood_41 ?_
        obtain ⟨M11, e10, hf⟩ := bd hf
        refine j_callV C 3 (k4_1 hk).1 (ent_T _ _ _ _ _ _) rfl (c_X7_put l G n0 (k4_1 hk) e10) gv_RX4_35 ⟨rfl, rfl⟩ (by decide +kernel) ⟨Nat.le_of_ble_eq_true rfl, Nat.le_of_ble_eq_true rfl⟩ rfl rfl (Nat.le_of_ble_eq_true rfl) dX4_bringWood_42 ?_
        refine j_iinc C 1 (a7 + 1) [(3, .int (a7 + 1)), (0, .ref (n0 + t))] dX4_bringWood_45 rfl rfl (Nat.le_of_ble_eq_true rfl) rfl ?_
        refine j_goto C 27 dX4_bringWood_48 (by decide) ?_
        refine j_sub [1, 0] rfl ?_
        exact ih _ _ hf
  refine j_sub [2, 0] rfl ?_
  exact hl15 FUEL (0 : Int32) M6 e13
def fX5_clear (t : Nat) (M : Mem) : Option Mem :=
  (pf M t 1 (0 : Int32)).bind fun M1 =>
  some M1

def rX5_clear : Room := { frames := 0, cells := 0, slots := 0, locals := 0 }
set_option maxRecDepth 100000 in
set_option maxHeartbeats 4000000 in
theorem c_X5_clear (l : Launch) (G : Gx) (n0 : Nat) {t : Nat} (hk : lay[t]? = some (tK 5)) {M : Mem} {M' : Mem} (hf : fX5_clear t M = some M') : Ct l yX5_clear cX5_clear 1 none rX5_clear G n0 [.ref (n0 + t)] M none M' := by
  refine ct_void (cc := cX5_clear) (maxL := 1) rfl (Nat.le_of_ble_eq_true rfl) ?_
  intro K C hret
  have C : Ok K l rX5_clear cX5_clear RX5 G n0 1 := C
  show J K M 0 [(0, .ref (n0 + t))] []
  unfold fX5_clear at hf
  refine j_aload_n C 0 dX5_clear_0 rfl rfl ?_
  refine j_iconst C (0 : Int32) rfl dX5_clear_1 ?_
  obtain ⟨M1, e2, hf⟩ := bd hf
  refine p_X5_count C tw1_90 hk e2 dX5_clear_2 ?_
  obtain rfl := Option.some.inj hf
  exact hret _ _ dX5_clear_5
def fX5_size (t : Nat) (M : Mem) : Option Int32 :=
  some (M.1 t 1)

def rX5_size : Room := { frames := 0, cells := 0, slots := 0, locals := 0 }
set_option maxRecDepth 100000 in
set_option maxHeartbeats 4000000 in
theorem c_X5_size (l : Launch) (G : Gx) (n0 : Nat) {t : Nat} (hk : lay[t]? = some (tK 5)) {M : Mem} {r : Int32} (hf : fX5_size t M = some r) : Ct l yX5_size cX5_size 1 (some .int) rX5_size G n0 [.ref (n0 + t)] M (some (.int r)) M := by
  refine ct_int (cc := cX5_size) (maxL := 1) rfl (Nat.le_of_ble_eq_true rfl) ?_
  intro K C hret
  have C : Ok K l rX5_size cX5_size RX5 G n0 1 := C
  show J K M 0 [(0, .ref (n0 + t))] []
  unfold fX5_size at hf
  refine j_aload_n C 0 dX5_size_0 rfl rfl ?_
  refine g_X5_count C tw1_90 hk dX5_size_1 ?_
  obtain rfl := Option.some.inj hf
  exact hret _ _ dX5_size_4
def fX5_add (t : Nat) (x1 : Int32) (x2 : Int32) (x3 : Int32) (x4 : Int32) (x5 : Int32) (M : Mem) : Option Mem :=
  (fX7_put (t + 1) 5 20 (M.1 t 1) (0 : Int32) x1 M).bind fun M2 =>
  (fX7_put (t + 1) 5 20 (M2.1 t 1) (1 : Int32) x2 M2).bind fun M4 =>
  (fX7_put (t + 1) 5 20 (M4.1 t 1) (2 : Int32) x3 M4).bind fun M6 =>
  (fX7_put (t + 1) 5 20 (M6.1 t 1) (3 : Int32) x4 M6).bind fun M8 =>
  (fX7_put (t + 1) 5 20 (M8.1 t 1) (4 : Int32) x5 M8).bind fun M10 =>
  (pf M10 t 1 ((M10.1 t 1) + (1 : Int32))).bind fun M11 =>
  some M11

def rX5_add : Room := { frames := 1, cells := 0, slots := 0, locals := 23 }
set_option maxRecDepth 100000 in
set_option maxHeartbeats 4000000 in
theorem c_X5_add (l : Launch) (G : Gx) (n0 : Nat) {t : Nat} {x1 : Int32} {x2 : Int32} {x3 : Int32} {x4 : Int32} {x5 : Int32} (hk : lay[t]? = some (tK 5)) {M : Mem} {M' : Mem} (hf : fX5_add t x1 x2 x3 x4 x5 M = some M') : Ct l yX5_add cX5_add 6 none rX5_add G n0 [.ref (n0 + t), .int x1, .int x2, .int x3, .int x4, .int x5] M none M' := by
  refine ct_void (cc := cX5_add) (maxL := 6) rfl (Nat.le_of_ble_eq_true rfl) ?_
  intro K C hret
  have C : Ok K l rX5_add cX5_add RX5 G n0 6 := C
  show J K M 0 [(0, .ref (n0 + t)), (1, .int x1), (2, .int x2), (3, .int x3), (4, .int x4), (5, .int x5)] []
  unfold fX5_add at hf
  refine j_aload_n C 0 dX5_add_0 rfl rfl ?_
  refine g_X5_rows C tw1_89 hk (t + 1) rfl dX5_add_1 ?_
  refine j_aload_n C 0 dX5_add_4 rfl rfl ?_
  refine g_X5_count C tw1_90 hk dX5_add_5 ?_
  refine j_iconst C (0 : Int32) rfl dX5_add_8 ?_
  refine j_iload_n C 1 dX5_add_9 rfl rfl ?_
  obtain ⟨M2, e1, hf⟩ := bd hf
  refine j_callV C 3 (k5_1 hk).1 (ent_T _ _ _ _ _ _) rfl (c_X7_put l G n0 (k5_1 hk) e1) gv_RX5_32 ⟨rfl, rfl⟩ (by decide +kernel) ⟨Nat.le_of_ble_eq_true rfl, Nat.le_of_ble_eq_true rfl⟩ rfl rfl (Nat.le_of_ble_eq_true rfl) dX5_add_10 ?_
  refine j_aload_n C 0 dX5_add_13 rfl rfl ?_
  refine g_X5_rows C tw1_89 hk (t + 1) rfl dX5_add_14 ?_
  refine j_aload_n C 0 dX5_add_17 rfl rfl ?_
  refine g_X5_count C tw1_90 hk dX5_add_18 ?_
  refine j_iconst C (1 : Int32) rfl dX5_add_21 ?_
  refine j_iload_n C 2 dX5_add_22 rfl rfl ?_
  obtain ⟨M4, e3, hf⟩ := bd hf
  refine j_callV C 3 (k5_1 hk).1 (ent_T _ _ _ _ _ _) rfl (c_X7_put l G n0 (k5_1 hk) e3) gv_RX5_32 ⟨rfl, rfl⟩ (by decide +kernel) ⟨Nat.le_of_ble_eq_true rfl, Nat.le_of_ble_eq_true rfl⟩ rfl rfl (Nat.le_of_ble_eq_true rfl) dX5_add_23 ?_
  refine j_aload_n C 0 dX5_add_26 rfl rfl ?_
  refine g_X5_rows C tw1_89 hk (t + 1) rfl dX5_add_27 ?_
  refine j_aload_n C 0 dX5_add_30 rfl rfl ?_
  refine g_X5_count C tw1_90 hk dX5_add_31 ?_
  refine j_iconst C (2 : Int32) rfl dX5_add_34 ?_
  refine j_iload_n C 3 dX5_add_35 rfl rfl ?_
  obtain ⟨M6, e5, hf⟩ := bd hf
  refine j_callV C 3 (k5_1 hk).1 (ent_T _ _ _ _ _ _) rfl (c_X7_put l G n0 (k5_1 hk) e5) gv_RX5_32 ⟨rfl, rfl⟩ (by decide +kernel) ⟨Nat.le_of_ble_eq_true rfl, Nat.le_of_ble_eq_true rfl⟩ rfl rfl (Nat.le_of_ble_eq_true rfl) dX5_add_36 ?_
  refine j_aload_n C 0 dX5_add_39 rfl rfl ?_
  refine g_X5_rows C tw1_89 hk (t + 1) rfl dX5_add_40 ?_
  refine j_aload_n C 0 dX5_add_43 rfl rfl ?_
  refine g_X5_count C tw1_90 hk dX5_add_44 ?_
  refine j_iconst C (3 : Int32) rfl dX5_add_47 ?_
  refine j_iload C 4 dX5_add_48 rfl ?_
  obtain ⟨M8, e7, hf⟩ := bd hf
  refine j_callV C 3 (k5_1 hk).1 (ent_T _ _ _ _ _ _) rfl (c_X7_put l G n0 (k5_1 hk) e7) gv_RX5_32 ⟨rfl, rfl⟩ (by decide +kernel) ⟨Nat.le_of_ble_eq_true rfl, Nat.le_of_ble_eq_true rfl⟩ rfl rfl (Nat.le_of_ble_eq_true rfl) dX5_add_50 ?_
  refine j_aload_n C 0 dX5_add_53 rfl rfl ?_
  refine g_X5_rows C tw1_89 hk (t + 1) rfl dX5_add_54 ?_
  refine j_aload_n C 0 dX5_add_57 rfl rfl ?_
  refine g_X5_count C tw1_90 hk dX5_add_58 ?_
  refine j_iconst C (4 : Int32) rfl dX5_add_61 ?_
  refine j_iload C 5 dX5_add_62 rfl ?_
  obtain ⟨M10, e9, hf⟩ := bd hf
  refine j_callV C 3 (k5_1 hk).1 (ent_T _ _ _ _ _ _) rfl (c_X7_put l G n0 (k5_1 hk) e9) gv_RX5_32 ⟨rfl, rfl⟩ (by decide +kernel) ⟨Nat.le_of_ble_eq_true rfl, Nat.le_of_ble_eq_true rfl⟩ rfl rfl (Nat.le_of_ble_eq_true rfl) dX5_add_64 ?_
  refine j_aload_n C 0 dX5_add_67 rfl rfl ?_
  refine j_dup C rfl dX5_add_68 ?_
  refine g_X5_count C tw1_90 hk dX5_add_69 ?_
  refine j_iconst C (1 : Int32) rfl dX5_add_72 ?_
  refine j_iadd C dX5_add_73 ?_
  obtain ⟨M11, e12, hf⟩ := bd hf
  refine p_X5_count C tw1_90 hk e12 dX5_add_74 ?_
  obtain rfl := Option.some.inj hf
  exact hret _ _ dX5_add_77
def fX5_value (t : Nat) (x1 : Int32) (x2 : Int32) (M : Mem) : Option Int32 :=
  (fX7_get (t + 1) 5 20 x1 x2 M).bind fun v2 =>
  some v2

def rX5_value : Room := { frames := 1, cells := 0, slots := 0, locals := 22 }
set_option maxRecDepth 100000 in
set_option maxHeartbeats 4000000 in
theorem c_X5_value (l : Launch) (G : Gx) (n0 : Nat) {t : Nat} {x1 : Int32} {x2 : Int32} (hk : lay[t]? = some (tK 5)) {M : Mem} {r : Int32} (hf : fX5_value t x1 x2 M = some r) : Ct l yX5_value cX5_value 3 (some .int) rX5_value G n0 [.ref (n0 + t), .int x1, .int x2] M (some (.int r)) M := by
  refine ct_int (cc := cX5_value) (maxL := 3) rfl (Nat.le_of_ble_eq_true rfl) ?_
  intro K C hret
  have C : Ok K l rX5_value cX5_value RX5 G n0 3 := C
  show J K M 0 [(0, .ref (n0 + t)), (1, .int x1), (2, .int x2)] []
  unfold fX5_value at hf
  refine j_aload_n C 0 dX5_value_0 rfl rfl ?_
  refine g_X5_rows C tw1_89 hk (t + 1) rfl dX5_value_1 ?_
  refine j_iload_n C 1 dX5_value_4 rfl rfl ?_
  refine j_iload_n C 2 dX5_value_5 rfl rfl ?_
  obtain ⟨v2, e1, hf⟩ := bd hf
  refine j_callV C 2 (k5_1 hk).1 (ent_T _ _ _ _ _ _) rfl (c_X7_get l G n0 (k5_1 hk) e1) gv_RX5_28 ⟨rfl, rfl⟩ (by decide +kernel) ⟨Nat.le_of_ble_eq_true rfl, Nat.le_of_ble_eq_true rfl⟩ rfl rfl (Nat.le_of_ble_eq_true rfl) dX5_value_6 ?_
  obtain rfl := Option.some.inj hf
  exact hret _ _ dX5_value_9
def fX4_value (t : Nat) (x1 : Int32) (x2 : Int32) (M : Mem) : Option Int32 :=
  (fX7_get (t + 1) 4 8 x1 x2 M).bind fun v2 =>
  some v2

def rX4_value : Room := { frames := 1, cells := 0, slots := 0, locals := 22 }
set_option maxRecDepth 100000 in
set_option maxHeartbeats 4000000 in
theorem c_X4_value (l : Launch) (G : Gx) (n0 : Nat) {t : Nat} {x1 : Int32} {x2 : Int32} (hk : lay[t]? = some (tK 4)) {M : Mem} {r : Int32} (hf : fX4_value t x1 x2 M = some r) : Ct l yX4_value cX4_value 3 (some .int) rX4_value G n0 [.ref (n0 + t), .int x1, .int x2] M (some (.int r)) M := by
  refine ct_int (cc := cX4_value) (maxL := 3) rfl (Nat.le_of_ble_eq_true rfl) ?_
  intro K C hret
  have C : Ok K l rX4_value cX4_value RX4 G n0 3 := C
  show J K M 0 [(0, .ref (n0 + t)), (1, .int x1), (2, .int x2)] []
  unfold fX4_value at hf
  refine j_aload_n C 0 dX4_value_0 rfl rfl ?_
  refine g_X4_rows C tw1_59 hk (t + 1) rfl dX4_value_1 ?_
  refine j_iload_n C 1 dX4_value_4 rfl rfl ?_
  refine j_iload_n C 2 dX4_value_5 rfl rfl ?_
  obtain ⟨v2, e1, hf⟩ := bd hf
  refine j_callV C 2 (k4_1 hk).1 (ent_T _ _ _ _ _ _) rfl (c_X7_get l G n0 (k4_1 hk) e1) gv_RX4_28 ⟨rfl, rfl⟩ (by decide +kernel) ⟨Nat.le_of_ble_eq_true rfl, Nat.le_of_ble_eq_true rfl⟩ rfl rfl (Nat.le_of_ble_eq_true rfl) dX4_value_6 ?_
  obtain rfl := Option.some.inj hf
  exact hret _ _ dX4_value_9
def fX4_putIn (t : Nat) (x1 : Int32) (x2 : Int32) (M : Mem) : Option Mem :=
  (fX7_get (t + 1) 4 8 x1 (2 : Int32) M).bind fun v2 =>
  (fX7_put (t + 1) 4 8 x1 (2 : Int32) (v2 + x2) M).bind fun M4 =>
  some M4

def rX4_putIn : Room := { frames := 1, cells := 0, slots := 0, locals := 23 }
set_option maxRecDepth 100000 in
set_option maxHeartbeats 4000000 in
theorem c_X4_putIn (l : Launch) (G : Gx) (n0 : Nat) {t : Nat} {x1 : Int32} {x2 : Int32} (hk : lay[t]? = some (tK 4)) {M : Mem} {M' : Mem} (hf : fX4_putIn t x1 x2 M = some M') : Ct l yX4_putIn cX4_putIn 3 none rX4_putIn G n0 [.ref (n0 + t), .int x1, .int x2] M none M' := by
  refine ct_void (cc := cX4_putIn) (maxL := 3) rfl (Nat.le_of_ble_eq_true rfl) ?_
  intro K C hret
  have C : Ok K l rX4_putIn cX4_putIn RX4 G n0 3 := C
  show J K M 0 [(0, .ref (n0 + t)), (1, .int x1), (2, .int x2)] []
  unfold fX4_putIn at hf
  refine j_aload_n C 0 dX4_putIn_0 rfl rfl ?_
  refine g_X4_rows C tw1_59 hk (t + 1) rfl dX4_putIn_1 ?_
  refine j_iload_n C 1 dX4_putIn_4 rfl rfl ?_
  refine j_iconst C (2 : Int32) rfl dX4_putIn_5 ?_
  refine j_aload_n C 0 dX4_putIn_6 rfl rfl ?_
  refine g_X4_rows C tw1_59 hk (t + 1) rfl dX4_putIn_7 ?_
  refine j_iload_n C 1 dX4_putIn_10 rfl rfl ?_
  refine j_iconst C (2 : Int32) rfl dX4_putIn_11 ?_
  obtain ⟨v2, e1, hf⟩ := bd hf
  refine j_callV C 2 (k4_1 hk).1 (ent_T _ _ _ _ _ _) rfl (c_X7_get l G n0 (k4_1 hk) e1) gv_RX4_28 ⟨rfl, rfl⟩ (by decide +kernel) ⟨Nat.le_of_ble_eq_true rfl, Nat.le_of_ble_eq_true rfl⟩ rfl rfl (Nat.le_of_ble_eq_true rfl) dX4_putIn_12 ?_
  refine j_iload_n C 2 dX4_putIn_15 rfl rfl ?_
  refine j_iadd C dX4_putIn_16 ?_
  obtain ⟨M4, e3, hf⟩ := bd hf
  refine j_callV C 3 (k4_1 hk).1 (ent_T _ _ _ _ _ _) rfl (c_X7_put l G n0 (k4_1 hk) e3) gv_RX4_35 ⟨rfl, rfl⟩ (by decide +kernel) ⟨Nat.le_of_ble_eq_true rfl, Nat.le_of_ble_eq_true rfl⟩ rfl rfl (Nat.le_of_ble_eq_true rfl) dX4_putIn_17 ?_
  obtain rfl := Option.some.inj hf
  exact hret _ _ dX4_putIn_20
def fJ6_bitCount_0f7a4 (x0 : Int32) : Option Int32 :=
  some ((((((((x0 - ((((x0).toUInt32 >>> (((1 : Int32)).toUInt32 &&& Int32.toUInt32 31)).toInt32) &&& (1431655765 : Int32))) &&& (858993459 : Int32)) + (((((x0 - ((((x0).toUInt32 >>> (((1 : Int32)).toUInt32 &&& Int32.toUInt32 31)).toInt32) &&& (1431655765 : Int32)))).toUInt32 >>> (((2 : Int32)).toUInt32 &&& Int32.toUInt32 31)).toInt32) &&& (858993459 : Int32))) + ((((((x0 - ((((x0).toUInt32 >>> (((1 : Int32)).toUInt32 &&& Int32.toUInt32 31)).toInt32) &&& (1431655765 : Int32))) &&& (858993459 : Int32)) + (((((x0 - ((((x0).toUInt32 >>> (((1 : Int32)).toUInt32 &&& Int32.toUInt32 31)).toInt32) &&& (1431655765 : Int32)))).toUInt32 >>> (((2 : Int32)).toUInt32 &&& Int32.toUInt32 31)).toInt32) &&& (858993459 : Int32)))).toUInt32 >>> (((4 : Int32)).toUInt32 &&& Int32.toUInt32 31)).toInt32)) &&& (252645135 : Int32)) + ((((((((x0 - ((((x0).toUInt32 >>> (((1 : Int32)).toUInt32 &&& Int32.toUInt32 31)).toInt32) &&& (1431655765 : Int32))) &&& (858993459 : Int32)) + (((((x0 - ((((x0).toUInt32 >>> (((1 : Int32)).toUInt32 &&& Int32.toUInt32 31)).toInt32) &&& (1431655765 : Int32)))).toUInt32 >>> (((2 : Int32)).toUInt32 &&& Int32.toUInt32 31)).toInt32) &&& (858993459 : Int32))) + ((((((x0 - ((((x0).toUInt32 >>> (((1 : Int32)).toUInt32 &&& Int32.toUInt32 31)).toInt32) &&& (1431655765 : Int32))) &&& (858993459 : Int32)) + (((((x0 - ((((x0).toUInt32 >>> (((1 : Int32)).toUInt32 &&& Int32.toUInt32 31)).toInt32) &&& (1431655765 : Int32)))).toUInt32 >>> (((2 : Int32)).toUInt32 &&& Int32.toUInt32 31)).toInt32) &&& (858993459 : Int32)))).toUInt32 >>> (((4 : Int32)).toUInt32 &&& Int32.toUInt32 31)).toInt32)) &&& (252645135 : Int32))).toUInt32 >>> (((8 : Int32)).toUInt32 &&& Int32.toUInt32 31)).toInt32)) + (((((((((x0 - ((((x0).toUInt32 >>> (((1 : Int32)).toUInt32 &&& Int32.toUInt32 31)).toInt32) &&& (1431655765 : Int32))) &&& (858993459 : Int32)) + (((((x0 - ((((x0).toUInt32 >>> (((1 : Int32)).toUInt32 &&& Int32.toUInt32 31)).toInt32) &&& (1431655765 : Int32)))).toUInt32 >>> (((2 : Int32)).toUInt32 &&& Int32.toUInt32 31)).toInt32) &&& (858993459 : Int32))) + ((((((x0 - ((((x0).toUInt32 >>> (((1 : Int32)).toUInt32 &&& Int32.toUInt32 31)).toInt32) &&& (1431655765 : Int32))) &&& (858993459 : Int32)) + (((((x0 - ((((x0).toUInt32 >>> (((1 : Int32)).toUInt32 &&& Int32.toUInt32 31)).toInt32) &&& (1431655765 : Int32)))).toUInt32 >>> (((2 : Int32)).toUInt32 &&& Int32.toUInt32 31)).toInt32) &&& (858993459 : Int32)))).toUInt32 >>> (((4 : Int32)).toUInt32 &&& Int32.toUInt32 31)).toInt32)) &&& (252645135 : Int32)) + ((((((((x0 - ((((x0).toUInt32 >>> (((1 : Int32)).toUInt32 &&& Int32.toUInt32 31)).toInt32) &&& (1431655765 : Int32))) &&& (858993459 : Int32)) + (((((x0 - ((((x0).toUInt32 >>> (((1 : Int32)).toUInt32 &&& Int32.toUInt32 31)).toInt32) &&& (1431655765 : Int32)))).toUInt32 >>> (((2 : Int32)).toUInt32 &&& Int32.toUInt32 31)).toInt32) &&& (858993459 : Int32))) + ((((((x0 - ((((x0).toUInt32 >>> (((1 : Int32)).toUInt32 &&& Int32.toUInt32 31)).toInt32) &&& (1431655765 : Int32))) &&& (858993459 : Int32)) + (((((x0 - ((((x0).toUInt32 >>> (((1 : Int32)).toUInt32 &&& Int32.toUInt32 31)).toInt32) &&& (1431655765 : Int32)))).toUInt32 >>> (((2 : Int32)).toUInt32 &&& Int32.toUInt32 31)).toInt32) &&& (858993459 : Int32)))).toUInt32 >>> (((4 : Int32)).toUInt32 &&& Int32.toUInt32 31)).toInt32)) &&& (252645135 : Int32))).toUInt32 >>> (((8 : Int32)).toUInt32 &&& Int32.toUInt32 31)).toInt32))).toUInt32 >>> (((16 : Int32)).toUInt32 &&& Int32.toUInt32 31)).toInt32)) &&& (63 : Int32))

def rJ6_bitCount_0f7a4 : Room := { frames := 0, cells := 0, slots := 0, locals := 0 }
set_option maxRecDepth 100000 in
set_option maxHeartbeats 4000000 in
theorem c_J6_bitCount_0f7a4 (l : Launch) (G : Gx) (n0 : Nat) {x0 : Int32} {M : Mem} {r : Int32} (hf : fJ6_bitCount_0f7a4 x0 = some r) : Ct l yJ6_bitCount_0f7a4 cJ6_bitCount_0f7a4 1 (some .int) rJ6_bitCount_0f7a4 G n0 [.int x0] M (some (.int r)) M := by
  refine ct_int (cc := cJ6_bitCount_0f7a4) (maxL := 1) rfl (Nat.le_of_ble_eq_true rfl) ?_
  intro K C hret
  have C : Ok K l rJ6_bitCount_0f7a4 cJ6_bitCount_0f7a4 RJ6 G n0 1 := C
  show J K M 0 [(0, .int x0)] []
  unfold fJ6_bitCount_0f7a4 at hf
  refine j_iload_n C 0 dJ6_bitCount_0f7a4_0 rfl rfl ?_
  refine j_iload_n C 0 dJ6_bitCount_0f7a4_1 rfl rfl ?_
  refine j_iconst C (1 : Int32) rfl dJ6_bitCount_0f7a4_2 ?_
  refine j_iushr C dJ6_bitCount_0f7a4_3 ?_
  refine j_ldc_w C tw4_86 dJ6_bitCount_0f7a4_4 ?_
  refine j_iand C dJ6_bitCount_0f7a4_7 ?_
  refine j_isub C dJ6_bitCount_0f7a4_8 ?_
  refine j_istore_n C [(0, .int (x0 - ((((x0).toUInt32 >>> (((1 : Int32)).toUInt32 &&& Int32.toUInt32 31)).toInt32) &&& (1431655765 : Int32))))] dJ6_bitCount_0f7a4_9 rfl (Nat.le_of_ble_eq_true rfl) rfl ?_
  refine j_iload_n C 0 dJ6_bitCount_0f7a4_10 rfl rfl ?_
  refine j_ldc_w C tw4_87 dJ6_bitCount_0f7a4_11 ?_
  refine j_iand C dJ6_bitCount_0f7a4_14 ?_
  refine j_iload_n C 0 dJ6_bitCount_0f7a4_15 rfl rfl ?_
  refine j_iconst C (2 : Int32) rfl dJ6_bitCount_0f7a4_16 ?_
  refine j_iushr C dJ6_bitCount_0f7a4_17 ?_
  refine j_ldc_w C tw4_87 dJ6_bitCount_0f7a4_18 ?_
  refine j_iand C dJ6_bitCount_0f7a4_21 ?_
  refine j_iadd C dJ6_bitCount_0f7a4_22 ?_
  refine j_istore_n C [(0, .int (((x0 - ((((x0).toUInt32 >>> (((1 : Int32)).toUInt32 &&& Int32.toUInt32 31)).toInt32) &&& (1431655765 : Int32))) &&& (858993459 : Int32)) + (((((x0 - ((((x0).toUInt32 >>> (((1 : Int32)).toUInt32 &&& Int32.toUInt32 31)).toInt32) &&& (1431655765 : Int32)))).toUInt32 >>> (((2 : Int32)).toUInt32 &&& Int32.toUInt32 31)).toInt32) &&& (858993459 : Int32))))] dJ6_bitCount_0f7a4_23 rfl (Nat.le_of_ble_eq_true rfl) rfl ?_
  refine j_iload_n C 0 dJ6_bitCount_0f7a4_24 rfl rfl ?_
  refine j_iload_n C 0 dJ6_bitCount_0f7a4_25 rfl rfl ?_
  refine j_iconst C (4 : Int32) rfl dJ6_bitCount_0f7a4_26 ?_
  refine j_iushr C dJ6_bitCount_0f7a4_27 ?_
  refine j_iadd C dJ6_bitCount_0f7a4_28 ?_
  refine j_ldc_w C tw4_88 dJ6_bitCount_0f7a4_29 ?_
  refine j_iand C dJ6_bitCount_0f7a4_32 ?_
  refine j_istore_n C [(0, .int (((((x0 - ((((x0).toUInt32 >>> (((1 : Int32)).toUInt32 &&& Int32.toUInt32 31)).toInt32) &&& (1431655765 : Int32))) &&& (858993459 : Int32)) + (((((x0 - ((((x0).toUInt32 >>> (((1 : Int32)).toUInt32 &&& Int32.toUInt32 31)).toInt32) &&& (1431655765 : Int32)))).toUInt32 >>> (((2 : Int32)).toUInt32 &&& Int32.toUInt32 31)).toInt32) &&& (858993459 : Int32))) + ((((((x0 - ((((x0).toUInt32 >>> (((1 : Int32)).toUInt32 &&& Int32.toUInt32 31)).toInt32) &&& (1431655765 : Int32))) &&& (858993459 : Int32)) + (((((x0 - ((((x0).toUInt32 >>> (((1 : Int32)).toUInt32 &&& Int32.toUInt32 31)).toInt32) &&& (1431655765 : Int32)))).toUInt32 >>> (((2 : Int32)).toUInt32 &&& Int32.toUInt32 31)).toInt32) &&& (858993459 : Int32)))).toUInt32 >>> (((4 : Int32)).toUInt32 &&& Int32.toUInt32 31)).toInt32)) &&& (252645135 : Int32)))] dJ6_bitCount_0f7a4_33 rfl (Nat.le_of_ble_eq_true rfl) rfl ?_
  refine j_iload_n C 0 dJ6_bitCount_0f7a4_34 rfl rfl ?_
  refine j_iload_n C 0 dJ6_bitCount_0f7a4_35 rfl rfl ?_
  refine j_bipush C (8 : Int32) rfl dJ6_bitCount_0f7a4_36 ?_
  refine j_iushr C dJ6_bitCount_0f7a4_38 ?_
  refine j_iadd C dJ6_bitCount_0f7a4_39 ?_
  refine j_istore_n C [(0, .int ((((((x0 - ((((x0).toUInt32 >>> (((1 : Int32)).toUInt32 &&& Int32.toUInt32 31)).toInt32) &&& (1431655765 : Int32))) &&& (858993459 : Int32)) + (((((x0 - ((((x0).toUInt32 >>> (((1 : Int32)).toUInt32 &&& Int32.toUInt32 31)).toInt32) &&& (1431655765 : Int32)))).toUInt32 >>> (((2 : Int32)).toUInt32 &&& Int32.toUInt32 31)).toInt32) &&& (858993459 : Int32))) + ((((((x0 - ((((x0).toUInt32 >>> (((1 : Int32)).toUInt32 &&& Int32.toUInt32 31)).toInt32) &&& (1431655765 : Int32))) &&& (858993459 : Int32)) + (((((x0 - ((((x0).toUInt32 >>> (((1 : Int32)).toUInt32 &&& Int32.toUInt32 31)).toInt32) &&& (1431655765 : Int32)))).toUInt32 >>> (((2 : Int32)).toUInt32 &&& Int32.toUInt32 31)).toInt32) &&& (858993459 : Int32)))).toUInt32 >>> (((4 : Int32)).toUInt32 &&& Int32.toUInt32 31)).toInt32)) &&& (252645135 : Int32)) + ((((((((x0 - ((((x0).toUInt32 >>> (((1 : Int32)).toUInt32 &&& Int32.toUInt32 31)).toInt32) &&& (1431655765 : Int32))) &&& (858993459 : Int32)) + (((((x0 - ((((x0).toUInt32 >>> (((1 : Int32)).toUInt32 &&& Int32.toUInt32 31)).toInt32) &&& (1431655765 : Int32)))).toUInt32 >>> (((2 : Int32)).toUInt32 &&& Int32.toUInt32 31)).toInt32) &&& (858993459 : Int32))) + ((((((x0 - ((((x0).toUInt32 >>> (((1 : Int32)).toUInt32 &&& Int32.toUInt32 31)).toInt32) &&& (1431655765 : Int32))) &&& (858993459 : Int32)) + (((((x0 - ((((x0).toUInt32 >>> (((1 : Int32)).toUInt32 &&& Int32.toUInt32 31)).toInt32) &&& (1431655765 : Int32)))).toUInt32 >>> (((2 : Int32)).toUInt32 &&& Int32.toUInt32 31)).toInt32) &&& (858993459 : Int32)))).toUInt32 >>> (((4 : Int32)).toUInt32 &&& Int32.toUInt32 31)).toInt32)) &&& (252645135 : Int32))).toUInt32 >>> (((8 : Int32)).toUInt32 &&& Int32.toUInt32 31)).toInt32)))] dJ6_bitCount_0f7a4_40 rfl (Nat.le_of_ble_eq_true rfl) rfl ?_
  refine j_iload_n C 0 dJ6_bitCount_0f7a4_41 rfl rfl ?_
  refine j_iload_n C 0 dJ6_bitCount_0f7a4_42 rfl rfl ?_
  refine j_bipush C (16 : Int32) rfl dJ6_bitCount_0f7a4_43 ?_
  refine j_iushr C dJ6_bitCount_0f7a4_45 ?_
  refine j_iadd C dJ6_bitCount_0f7a4_46 ?_
  refine j_istore_n C [(0, .int (((((((x0 - ((((x0).toUInt32 >>> (((1 : Int32)).toUInt32 &&& Int32.toUInt32 31)).toInt32) &&& (1431655765 : Int32))) &&& (858993459 : Int32)) + (((((x0 - ((((x0).toUInt32 >>> (((1 : Int32)).toUInt32 &&& Int32.toUInt32 31)).toInt32) &&& (1431655765 : Int32)))).toUInt32 >>> (((2 : Int32)).toUInt32 &&& Int32.toUInt32 31)).toInt32) &&& (858993459 : Int32))) + ((((((x0 - ((((x0).toUInt32 >>> (((1 : Int32)).toUInt32 &&& Int32.toUInt32 31)).toInt32) &&& (1431655765 : Int32))) &&& (858993459 : Int32)) + (((((x0 - ((((x0).toUInt32 >>> (((1 : Int32)).toUInt32 &&& Int32.toUInt32 31)).toInt32) &&& (1431655765 : Int32)))).toUInt32 >>> (((2 : Int32)).toUInt32 &&& Int32.toUInt32 31)).toInt32) &&& (858993459 : Int32)))).toUInt32 >>> (((4 : Int32)).toUInt32 &&& Int32.toUInt32 31)).toInt32)) &&& (252645135 : Int32)) + ((((((((x0 - ((((x0).toUInt32 >>> (((1 : Int32)).toUInt32 &&& Int32.toUInt32 31)).toInt32) &&& (1431655765 : Int32))) &&& (858993459 : Int32)) + (((((x0 - ((((x0).toUInt32 >>> (((1 : Int32)).toUInt32 &&& Int32.toUInt32 31)).toInt32) &&& (1431655765 : Int32)))).toUInt32 >>> (((2 : Int32)).toUInt32 &&& Int32.toUInt32 31)).toInt32) &&& (858993459 : Int32))) + ((((((x0 - ((((x0).toUInt32 >>> (((1 : Int32)).toUInt32 &&& Int32.toUInt32 31)).toInt32) &&& (1431655765 : Int32))) &&& (858993459 : Int32)) + (((((x0 - ((((x0).toUInt32 >>> (((1 : Int32)).toUInt32 &&& Int32.toUInt32 31)).toInt32) &&& (1431655765 : Int32)))).toUInt32 >>> (((2 : Int32)).toUInt32 &&& Int32.toUInt32 31)).toInt32) &&& (858993459 : Int32)))).toUInt32 >>> (((4 : Int32)).toUInt32 &&& Int32.toUInt32 31)).toInt32)) &&& (252645135 : Int32))).toUInt32 >>> (((8 : Int32)).toUInt32 &&& Int32.toUInt32 31)).toInt32)) + (((((((((x0 - ((((x0).toUInt32 >>> (((1 : Int32)).toUInt32 &&& Int32.toUInt32 31)).toInt32) &&& (1431655765 : Int32))) &&& (858993459 : Int32)) + (((((x0 - ((((x0).toUInt32 >>> (((1 : Int32)).toUInt32 &&& Int32.toUInt32 31)).toInt32) &&& (1431655765 : Int32)))).toUInt32 >>> (((2 : Int32)).toUInt32 &&& Int32.toUInt32 31)).toInt32) &&& (858993459 : Int32))) + ((((((x0 - ((((x0).toUInt32 >>> (((1 : Int32)).toUInt32 &&& Int32.toUInt32 31)).toInt32) &&& (1431655765 : Int32))) &&& (858993459 : Int32)) + (((((x0 - ((((x0).toUInt32 >>> (((1 : Int32)).toUInt32 &&& Int32.toUInt32 31)).toInt32) &&& (1431655765 : Int32)))).toUInt32 >>> (((2 : Int32)).toUInt32 &&& Int32.toUInt32 31)).toInt32) &&& (858993459 : Int32)))).toUInt32 >>> (((4 : Int32)).toUInt32 &&& Int32.toUInt32 31)).toInt32)) &&& (252645135 : Int32)) + ((((((((x0 - ((((x0).toUInt32 >>> (((1 : Int32)).toUInt32 &&& Int32.toUInt32 31)).toInt32) &&& (1431655765 : Int32))) &&& (858993459 : Int32)) + (((((x0 - ((((x0).toUInt32 >>> (((1 : Int32)).toUInt32 &&& Int32.toUInt32 31)).toInt32) &&& (1431655765 : Int32)))).toUInt32 >>> (((2 : Int32)).toUInt32 &&& Int32.toUInt32 31)).toInt32) &&& (858993459 : Int32))) + ((((((x0 - ((((x0).toUInt32 >>> (((1 : Int32)).toUInt32 &&& Int32.toUInt32 31)).toInt32) &&& (1431655765 : Int32))) &&& (858993459 : Int32)) + (((((x0 - ((((x0).toUInt32 >>> (((1 : Int32)).toUInt32 &&& Int32.toUInt32 31)).toInt32) &&& (1431655765 : Int32)))).toUInt32 >>> (((2 : Int32)).toUInt32 &&& Int32.toUInt32 31)).toInt32) &&& (858993459 : Int32)))).toUInt32 >>> (((4 : Int32)).toUInt32 &&& Int32.toUInt32 31)).toInt32)) &&& (252645135 : Int32))).toUInt32 >>> (((8 : Int32)).toUInt32 &&& Int32.toUInt32 31)).toInt32))).toUInt32 >>> (((16 : Int32)).toUInt32 &&& Int32.toUInt32 31)).toInt32)))] dJ6_bitCount_0f7a4_47 rfl (Nat.le_of_ble_eq_true rfl) rfl ?_
  refine j_iload_n C 0 dJ6_bitCount_0f7a4_48 rfl rfl ?_
  refine j_bipush C (63 : Int32) rfl dJ6_bitCount_0f7a4_49 ?_
  refine j_iand C dJ6_bitCount_0f7a4_51 ?_
  obtain rfl := Option.some.inj hf
  exact hret _ _ dJ6_bitCount_0f7a4_52
def fX6_add (t : Nat) (x1 : Int32) (x2 : Int32) (x3 : Int32) (b4 : Bool) (x5 : Int32) (x6 : Int32) (M : Mem) : Option Mem :=
  (fX7_put (t + 1) 7 200 ((M.1 t 1) - (M.1 t 1) / (200 : Int32) * (200 : Int32)) (0 : Int32) x1 M).bind fun M2 =>
  (fX7_put (t + 1) 7 200 ((M.1 t 1) - (M.1 t 1) / (200 : Int32) * (200 : Int32)) (1 : Int32) x2 M2).bind fun M4 =>
  (fX7_put (t + 1) 7 200 ((M.1 t 1) - (M.1 t 1) / (200 : Int32) * (200 : Int32)) (2 : Int32) x3 M4).bind fun M6 =>
  (if b4 = true then (some (1 : Int32))
  else (some (0 : Int32))).bind (fun z8 => (fX7_put (t + 1) 7 200 ((M.1 t 1) - (M.1 t 1) / (200 : Int32) * (200 : Int32)) (3 : Int32) z8 M6).bind fun M10 =>
  (fX7_put (t + 1) 7 200 ((M.1 t 1) - (M.1 t 1) / (200 : Int32) * (200 : Int32)) (4 : Int32) x6 M10).bind fun M12 =>
  (fX7_put (t + 1) 7 200 ((M.1 t 1) - (M.1 t 1) / (200 : Int32) * (200 : Int32)) (5 : Int32) (-1 : Int32) M12).bind fun M14 =>
  (fJ6_bitCount_0f7a4 (x5 &&& (x6 ^^^ (-1 : Int32)))).bind fun v16 =>
  (fX7_put (t + 1) 7 200 ((M.1 t 1) - (M.1 t 1) / (200 : Int32) * (200 : Int32)) (6 : Int32) v16 M14).bind fun M18 =>
  (pf M18 t 1 ((M18.1 t 1) + (1 : Int32))).bind fun M19 =>
  if b4 = true then ((pf M19 t 2 ((M19.1 t 2) + (1 : Int32))).bind fun M22 =>
  some M22)
  else (some M19))

def rX6_add : Room := { frames := 1, cells := 0, slots := 0, locals := 23 }
set_option maxRecDepth 100000 in
set_option maxHeartbeats 4000000 in
theorem c_X6_add (l : Launch) (G : Gx) (n0 : Nat) {t : Nat} {x1 : Int32} {x2 : Int32} {x3 : Int32} {b4 : Bool} {x5 : Int32} {x6 : Int32} (hk : lay[t]? = some (tK 6)) {M : Mem} {M' : Mem} (hf : fX6_add t x1 x2 x3 b4 x5 x6 M = some M') : Ct l yX6_add cX6_add 8 none rX6_add G n0 [.ref (n0 + t), .int x1, .int x2, .int x3, .int (bI b4), .int x5, .int x6] M none M' := by
  refine ct_void (cc := cX6_add) (maxL := 8) rfl (Nat.le_of_ble_eq_true rfl) ?_
  intro K C hret
  have C : Ok K l rX6_add cX6_add RX6 G n0 8 := C
  show J K M 0 [(0, .ref (n0 + t)), (1, .int x1), (2, .int x2), (3, .int x3), (4, .int (bI b4)), (5, .int x5), (6, .int x6)] []
  unfold fX6_add at hf
  refine j_aload_n C 0 dX6_add_0 rfl rfl ?_
  refine g_X6_cameOut C tw1_105 hk dX6_add_1 ?_
  refine j_sipush C (200 : Int32) rfl dX6_add_4 ?_
  refine j_irem C (by decide) dX6_add_7 ?_
  refine j_istore C [(7, .int ((M.1 t 1) - (M.1 t 1) / (200 : Int32) * (200 : Int32))), (0, .ref (n0 + t)), (1, .int x1), (2, .int x2), (3, .int x3), (4, .int (bI b4)), (5, .int x5), (6, .int x6)] dX6_add_8 (Nat.le_of_ble_eq_true rfl) rfl ?_
  refine j_aload_n C 1 dX6_add_10 rfl rfl ?_
  refine g_X6_rows C tw1_104 hk (t + 1) rfl dX6_add_11 ?_
  refine j_iload C 0 dX6_add_14 rfl ?_
  refine j_iconst C (0 : Int32) rfl dX6_add_16 ?_
  refine j_iload_n C 2 dX6_add_17 rfl rfl ?_
  obtain ⟨M2, e1, hf⟩ := bd hf
  refine j_callV C 3 (k6_1 hk).1 (ent_T _ _ _ _ _ _) rfl (c_X7_put l G n0 (k6_1 hk) e1) gv_RX6_47 ⟨rfl, rfl⟩ (by decide +kernel) ⟨Nat.le_of_ble_eq_true rfl, Nat.le_of_ble_eq_true rfl⟩ rfl rfl (Nat.le_of_ble_eq_true rfl) dX6_add_18 ?_
  refine j_aload_n C 1 dX6_add_21 rfl rfl ?_
  refine g_X6_rows C tw1_104 hk (t + 1) rfl dX6_add_22 ?_
  refine j_iload C 0 dX6_add_25 rfl ?_
  refine j_iconst C (1 : Int32) rfl dX6_add_27 ?_
  refine j_iload_n C 3 dX6_add_28 rfl rfl ?_
  obtain ⟨M4, e3, hf⟩ := bd hf
  refine j_callV C 3 (k6_1 hk).1 (ent_T _ _ _ _ _ _) rfl (c_X7_put l G n0 (k6_1 hk) e3) gv_RX6_47 ⟨rfl, rfl⟩ (by decide +kernel) ⟨Nat.le_of_ble_eq_true rfl, Nat.le_of_ble_eq_true rfl⟩ rfl rfl (Nat.le_of_ble_eq_true rfl) dX6_add_29 ?_
  refine j_aload_n C 1 dX6_add_32 rfl rfl ?_
  refine g_X6_rows C tw1_104 hk (t + 1) rfl dX6_add_33 ?_
  refine j_iload C 0 dX6_add_36 rfl ?_
  refine j_iconst C (2 : Int32) rfl dX6_add_38 ?_
  refine j_iload_n C 4 dX6_add_39 rfl rfl ?_
  obtain ⟨M6, e5, hf⟩ := bd hf
  refine j_callV C 3 (k6_1 hk).1 (ent_T _ _ _ _ _ _) rfl (c_X7_put l G n0 (k6_1 hk) e5) gv_RX6_47 ⟨rfl, rfl⟩ (by decide +kernel) ⟨Nat.le_of_ble_eq_true rfl, Nat.le_of_ble_eq_true rfl⟩ rfl rfl (Nat.le_of_ble_eq_true rfl) dX6_add_40 ?_
  refine j_aload_n C 1 dX6_add_43 rfl rfl ?_
  refine g_X6_rows C tw1_104 hk (t + 1) rfl dX6_add_44 ?_
  refine j_iload C 0 dX6_add_47 rfl ?_
  refine j_iconst C (3 : Int32) rfl dX6_add_49 ?_
  refine j_iload C 5 dX6_add_50 rfl ?_
  obtain ⟨z8, e24, hf⟩ := bd hf
  have hj25 : J K M6 60 [(0, .ref (n0 + t)), (4, .int (bI b4)), (5, .int x5), (6, .int x6), (7, .int ((M.1 t 1) - (M.1 t 1) / (200 : Int32) * (200 : Int32)))] [.int z8, .int (3 : Int32), .int ((M.1 t 1) - (M.1 t 1) / (200 : Int32) * (200 : Int32)), .ref (n0 + (t + 1))] := by
    obtain ⟨M10, e9, hf⟩ := bd hf
    refine j_callV C 3 (k6_1 hk).1 (ent_T _ _ _ _ _ _) rfl (c_X7_put l G n0 (k6_1 hk) e9) gv_RX6_47 ⟨rfl, rfl⟩ (by decide +kernel) ⟨Nat.le_of_ble_eq_true rfl, Nat.le_of_ble_eq_true rfl⟩ rfl rfl (Nat.le_of_ble_eq_true rfl) dX6_add_60 ?_
    refine j_aload_n C 0 dX6_add_63 rfl rfl ?_
    refine g_X6_rows C tw1_104 hk (t + 1) rfl dX6_add_64 ?_
    refine j_iload C 4 dX6_add_67 rfl ?_
    refine j_iconst C (4 : Int32) rfl dX6_add_69 ?_
    refine j_iload C 3 dX6_add_70 rfl ?_
    obtain ⟨M12, e11, hf⟩ := bd hf
    refine j_callV C 3 (k6_1 hk).1 (ent_T _ _ _ _ _ _) rfl (c_X7_put l G n0 (k6_1 hk) e11) gv_RX6_47 ⟨rfl, rfl⟩ (by decide +kernel) ⟨Nat.le_of_ble_eq_true rfl, Nat.le_of_ble_eq_true rfl⟩ rfl rfl (Nat.le_of_ble_eq_true rfl) dX6_add_72 ?_
    refine j_aload_n C 0 dX6_add_75 rfl rfl ?_
    refine g_X6_rows C tw1_104 hk (t + 1) rfl dX6_add_76 ?_
    refine j_iload C 4 dX6_add_79 rfl ?_
    refine j_iconst C (5 : Int32) rfl dX6_add_81 ?_
    refine j_iconst C (-1 : Int32) rfl dX6_add_82 ?_
    obtain ⟨M14, e13, hf⟩ := bd hf
    refine j_callV C 3 (k6_1 hk).1 (ent_T _ _ _ _ _ _) rfl (c_X7_put l G n0 (k6_1 hk) e13) gv_RX6_47 ⟨rfl, rfl⟩ (by decide +kernel) ⟨Nat.le_of_ble_eq_true rfl, Nat.le_of_ble_eq_true rfl⟩ rfl rfl (Nat.le_of_ble_eq_true rfl) dX6_add_83 ?_
    refine j_aload_n C 0 dX6_add_86 rfl rfl ?_
    refine g_X6_rows C tw1_104 hk (t + 1) rfl dX6_add_87 ?_
    refine j_iload C 4 dX6_add_90 rfl ?_
    refine j_bipush C (6 : Int32) rfl dX6_add_92 ?_
    refine j_iload C 2 dX6_add_94 rfl ?_
    refine j_iload C 3 dX6_add_96 rfl ?_
    refine j_iconst C (-1 : Int32) rfl dX6_add_98 ?_
    refine j_ixor C dX6_add_99 ?_
    refine j_iand C dX6_add_100 ?_
    obtain ⟨v16, e15, hf⟩ := bd hf
    refine j_callS C 1 (c_J6_bitCount_0f7a4 l G n0 (M := M14) e15) gs_RX6_51 ⟨rfl, rfl⟩ (by decide +kernel) ⟨Nat.le_of_ble_eq_true rfl, Nat.le_of_ble_eq_true rfl⟩ rfl rfl (Nat.le_of_ble_eq_true rfl) dX6_add_101 ?_
    obtain ⟨M18, e17, hf⟩ := bd hf
    refine j_callV C 3 (k6_1 hk).1 (ent_T _ _ _ _ _ _) rfl (c_X7_put l G n0 (k6_1 hk) e17) gv_RX6_47 ⟨rfl, rfl⟩ (by decide +kernel) ⟨Nat.le_of_ble_eq_true rfl, Nat.le_of_ble_eq_true rfl⟩ rfl rfl (Nat.le_of_ble_eq_true rfl) dX6_add_104 ?_
    refine j_aload_n C 0 dX6_add_107 rfl rfl ?_
    refine j_dup C rfl dX6_add_108 ?_
    refine g_X6_cameOut C tw1_105 hk dX6_add_109 ?_
    refine j_iconst C (1 : Int32) rfl dX6_add_112 ?_
    refine j_iadd C dX6_add_113 ?_
    obtain ⟨M19, e20, hf⟩ := bd hf
    refine p_X6_cameOut C tw1_105 hk e20 dX6_add_114 ?_
    refine j_iload C 1 dX6_add_117 rfl ?_
    refine j_ifz_eq C 132 dX6_add_119 (by decide) (fun c21 => ?_) (fun c21 => ?_)
    · replace hf := ine c21 hf
      obtain rfl := Option.some.inj hf
      exact hret _ _ dX6_add_132
    · replace hf := ip c21 hf
      refine j_aload_n C 0 dX6_add_122 rfl rfl ?_
      refine j_dup C rfl dX6_add_123 ?_
      refine g_X6_pale C tw1_106 hk dX6_add_124 ?_
      refine j_iconst C (1 : Int32) rfl dX6_add_127 ?_
      refine j_iadd C dX6_add_128 ?_
      obtain ⟨M22, e23, hf⟩ := bd hf
      refine p_X6_pale C tw1_106 hk e23 dX6_add_129 ?_
      obtain rfl := Option.some.inj hf
      exact hret _ _ dX6_add_132
  clear hf
  have hf := e24
  refine j_ifz_eq C 59 dX6_add_52 (by decide) (fun c7 => ?_) (fun c7 => ?_)
  · replace hf := ine c7 hf
    refine j_iconst C (0 : Int32) rfl dX6_add_59 ?_
    cases hf
    refine j_sub [1, 5, 6, 7, 0] rfl ?_
    exact hj25
  · replace hf := ip c7 hf
    refine j_iconst C (1 : Int32) rfl dX6_add_55 ?_
    refine j_goto C 60 dX6_add_56 (by decide) ?_
    cases hf
    refine j_sub [1, 5, 6, 7, 0] rfl ?_
    exact hj25
def fX6_firstKept (t : Nat) (M : Mem) : Option Int32 :=
  (fX6_kept t M).bind fun v2 =>
  some ((M.1 t 1) - v2)

def rX6_firstKept : Room := { frames := 2, cells := 0, slots := 0, locals := 33 }
set_option maxRecDepth 100000 in
set_option maxHeartbeats 4000000 in
theorem c_X6_firstKept (l : Launch) (G : Gx) (n0 : Nat) {t : Nat} (hk : lay[t]? = some (tK 6)) {M : Mem} {r : Int32} (hf : fX6_firstKept t M = some r) : Ct l yX6_firstKept cX6_firstKept 1 (some .int) rX6_firstKept G n0 [.ref (n0 + t)] M (some (.int r)) M := by
  refine ct_int (cc := cX6_firstKept) (maxL := 1) rfl (Nat.le_of_ble_eq_true rfl) ?_
  intro K C hret
  have C : Ok K l rX6_firstKept cX6_firstKept RX6 G n0 1 := C
  show J K M 0 [(0, .ref (n0 + t))] []
  unfold fX6_firstKept at hf
  refine j_aload_n C 0 dX6_firstKept_0 rfl rfl ?_
  refine g_X6_cameOut C tw1_105 hk dX6_firstKept_1 ?_
  refine j_aload_n C 0 dX6_firstKept_4 rfl rfl ?_
  obtain ⟨v2, e1, hf⟩ := bd hf
  refine j_callV C 0 hk (ent_K _ _ _ _ _ _) rfl (c_X6_kept l G n0 hk e1) gv_RX6_20 ⟨rfl, rfl⟩ (by decide +kernel) ⟨Nat.le_of_ble_eq_true rfl, Nat.le_of_ble_eq_true rfl⟩ rfl rfl (Nat.le_of_ble_eq_true rfl) dX6_firstKept_5 ?_
  refine j_isub C dX6_firstKept_8 ?_
  obtain rfl := Option.some.inj hf
  exact hret _ _ dX6_firstKept_9
def fX6_value (t : Nat) (x1 : Int32) (x2 : Int32) (M : Mem) : Option Int32 :=
  (fX7_get (t + 1) 7 200 (x1 - x1 / (200 : Int32) * (200 : Int32)) x2 M).bind fun v2 =>
  some v2

def rX6_value : Room := { frames := 1, cells := 0, slots := 0, locals := 22 }
set_option maxRecDepth 100000 in
set_option maxHeartbeats 4000000 in
theorem c_X6_value (l : Launch) (G : Gx) (n0 : Nat) {t : Nat} {x1 : Int32} {x2 : Int32} (hk : lay[t]? = some (tK 6)) {M : Mem} {r : Int32} (hf : fX6_value t x1 x2 M = some r) : Ct l yX6_value cX6_value 3 (some .int) rX6_value G n0 [.ref (n0 + t), .int x1, .int x2] M (some (.int r)) M := by
  refine ct_int (cc := cX6_value) (maxL := 3) rfl (Nat.le_of_ble_eq_true rfl) ?_
  intro K C hret
  have C : Ok K l rX6_value cX6_value RX6 G n0 3 := C
  show J K M 0 [(0, .ref (n0 + t)), (1, .int x1), (2, .int x2)] []
  unfold fX6_value at hf
  refine j_aload_n C 0 dX6_value_0 rfl rfl ?_
  refine g_X6_rows C tw1_104 hk (t + 1) rfl dX6_value_1 ?_
  refine j_iload_n C 1 dX6_value_4 rfl rfl ?_
  refine j_sipush C (200 : Int32) rfl dX6_value_5 ?_
  refine j_irem C (by decide) dX6_value_8 ?_
  refine j_iload_n C 2 dX6_value_9 rfl rfl ?_
  obtain ⟨v2, e1, hf⟩ := bd hf
  refine j_callV C 2 (k6_1 hk).1 (ent_T _ _ _ _ _ _) rfl (c_X7_get l G n0 (k6_1 hk) e1) gv_RX6_44 ⟨rfl, rfl⟩ (by decide +kernel) ⟨Nat.le_of_ble_eq_true rfl, Nat.le_of_ble_eq_true rfl⟩ rfl rfl (Nat.le_of_ble_eq_true rfl) dX6_value_10 ?_
  obtain rfl := Option.some.inj hf
  exact hret _ _ dX6_value_13
def fX11_contains (x0 : Int32) (x1 : Int32) : Option Bool :=
  if (x1 &&& (x0 ^^^ (-1 : Int32))) = 0 then (some true)
  else (some false)

def rX11_contains : Room := { frames := 0, cells := 0, slots := 0, locals := 0 }
set_option maxRecDepth 100000 in
set_option maxHeartbeats 4000000 in
theorem c_X11_contains (l : Launch) (G : Gx) (n0 : Nat) {x0 : Int32} {x1 : Int32} {M : Mem} {r : Bool} (hf : fX11_contains x0 x1 = some r) : Ct l yX11_contains cX11_contains 2 (some .boolean) rX11_contains G n0 [.int x0, .int x1] M (some (.int (bI r))) M := by
  refine ct_bool (cc := cX11_contains) (maxL := 2) rfl (Nat.le_of_ble_eq_true rfl) ?_
  intro K C hret
  have C : Ok K l rX11_contains cX11_contains RX11 G n0 2 := C
  show J K M 0 [(0, .int x0), (1, .int x1)] []
  unfold fX11_contains at hf
  refine j_iload_n C 1 dX11_contains_0 rfl rfl ?_
  refine j_iload_n C 0 dX11_contains_1 rfl rfl ?_
  refine j_iconst C (-1 : Int32) rfl dX11_contains_2 ?_
  refine j_ixor C dX11_contains_3 ?_
  refine j_iand C dX11_contains_4 ?_
  refine j_if_ne C 12 dX11_contains_5 (by decide) (fun c1 => ?_) (fun c1 => ?_)
  · replace hf := ine c1 hf
    refine j_iconst C (0 : Int32) rfl dX11_contains_12 ?_
    obtain rfl := Option.some.inj hf
    exact hret _ _ dX11_contains_13
  · replace hf := ip c1 hf
    refine j_iconst C (1 : Int32) rfl dX11_contains_8 ?_
    refine j_goto C 13 dX11_contains_9 (by decide) ?_
    obtain rfl := Option.some.inj hf
    exact hret _ _ dX11_contains_13
def lX4_takerOf_10 (t : Nat) (x1 : Int32) (x2 : Int32) (M : Mem) : Nat → Int32 → Int32 → Int32 → Option Int32
  | 0, _, _, _ => none
  | n + 1, a1, a2, a3 =>
  if (M.1 t 1) ≤ a3 then (some a1)
  else ((fX7_get (t + 1) 4 8 a3 (0 : Int32) M).bind fun v6 =>
  if ((x2 >>> (a3 &&& 31)) &&& (1 : Int32)) = (1 : Int32) then ((fX11_contains v6 x1).bind fun b9 =>
  if b9 = true then ((fJ6_bitCount_0f7a4 (v6 &&& (x1 ^^^ (-1 : Int32)))).bind fun v12 =>
  if a2 ≤ v12 then (if v12 = a2 then (lX4_takerOf_10 t x1 x2 M n (8 : Int32) a2 (a3 + 1))
  else (lX4_takerOf_10 t x1 x2 M n a1 a2 (a3 + 1)))
  else (lX4_takerOf_10 t x1 x2 M n a3 v12 (a3 + 1)))
  else (lX4_takerOf_10 t x1 x2 M n a1 a2 (a3 + 1)))
  else (lX4_takerOf_10 t x1 x2 M n a1 a2 (a3 + 1)))

def fX4_takerOf (t : Nat) (x1 : Int32) (x2 : Int32) (M : Mem) : Option Int32 :=
  (lX4_takerOf_10 t x1 x2 M FUEL (8 : Int32) (17 : Int32) (0 : Int32)).bind (fun a15 => some a15)

def rX4_takerOf : Room := { frames := 1, cells := 0, slots := 0, locals := 22 }
set_option maxRecDepth 100000 in
set_option maxHeartbeats 4000000 in
theorem c_X4_takerOf (l : Launch) (G : Gx) (n0 : Nat) {t : Nat} {x1 : Int32} {x2 : Int32} (hk : lay[t]? = some (tK 4)) {M : Mem} {r : Int32} (hf : fX4_takerOf t x1 x2 M = some r) : Ct l yX4_takerOf cX4_takerOf 8 (some .int) rX4_takerOf G n0 [.ref (n0 + t), .int x1, .int x2] M (some (.int r)) M := by
  refine ct_int (cc := cX4_takerOf) (maxL := 8) rfl (Nat.le_of_ble_eq_true rfl) ?_
  intro K C hret
  have C : Ok K l rX4_takerOf cX4_takerOf RX4 G n0 8 := C
  show J K M 0 [(0, .ref (n0 + t)), (1, .int x1), (2, .int x2)] []
  unfold fX4_takerOf at hf
  refine j_bipush C (8 : Int32) rfl dX4_takerOf_0 ?_
  refine j_istore_n C [(3, .int (8 : Int32)), (0, .ref (n0 + t)), (1, .int x1), (2, .int x2)] dX4_takerOf_2 rfl (Nat.le_of_ble_eq_true rfl) rfl ?_
  refine j_bipush C (17 : Int32) rfl dX4_takerOf_3 ?_
  refine j_istore C [(4, .int (17 : Int32)), (3, .int (8 : Int32)), (0, .ref (n0 + t)), (1, .int x1), (2, .int x2)] dX4_takerOf_5 (Nat.le_of_ble_eq_true rfl) rfl ?_
  refine j_iconst C (0 : Int32) rfl dX4_takerOf_7 ?_
  refine j_istore C [(5, .int (0 : Int32)), (4, .int (17 : Int32)), (3, .int (8 : Int32)), (0, .ref (n0 + t)), (1, .int x1), (2, .int x2)] dX4_takerOf_8 (Nat.le_of_ble_eq_true rfl) rfl ?_
  obtain ⟨a15, e16, hf⟩ := bd hf
  have hx17 : J K M 94 [(3, .int a15)] [] := by
    refine j_iload_n C 0 dX4_takerOf_94 rfl rfl ?_
    obtain rfl := Option.some.inj hf
    exact hret _ _ dX4_takerOf_95
  clear hf
  have hl18 : ∀ (n : Nat) (a1 : Int32) (a2 : Int32) (a3 : Int32), lX4_takerOf_10 t x1 x2 M n a1 a2 a3 = some a15 → J K M 10 [(0, .ref (n0 + t)), (1, .int x1), (2, .int x2), (3, .int a1), (4, .int a2), (5, .int a3)] [] := by
    intro n
    induction n with
    | zero =>
      intro a1 a2 a3 hf
      exact absurd hf (by rw [lX4_takerOf_10]; exact fun h => by cases h)
    | succ n ih =>
      intro a1 a2 a3 hf
      rw [lX4_takerOf_10] at hf
      refine j_iload C 5 dX4_takerOf_10 rfl ?_
      refine j_aload_n C 0 dX4_takerOf_12 rfl rfl ?_
      refine g_X4_count C tw1_60 hk dX4_takerOf_13 ?_
      refine j_icmp_ge C 94 dX4_takerOf_16 (by decide) (fun c4 => ?_) (fun c4 => ?_)
      · replace hf := ip c4 hf
        refine j_sub [3] rfl ?_
        cases hf
        exact hx17
      · replace hf := ine c4 hf
        refine j_aload_n C 0 dX4_takerOf_19 rfl rfl ?_
        refine g_X4_rows C tw1_59 hk (t + 1) rfl dX4_takerOf_20 ?_
        refine j_iload C 5 dX4_takerOf_23 rfl ?_
        refine j_iconst C (0 : Int32) rfl dX4_takerOf_25 ?_
        obtain ⟨v6, e5, hf⟩ := bd hf
        refine j_callV C 2 (k4_1 hk).1 (ent_T _ _ _ _ _ _) rfl (c_X7_get l G n0 (k4_1 hk) e5) gv_RX4_28 ⟨rfl, rfl⟩ (by decide +kernel) ⟨Nat.le_of_ble_eq_true rfl, Nat.le_of_ble_eq_true rfl⟩ rfl rfl (Nat.le_of_ble_eq_true rfl) dX4_takerOf_26 ?_
        refine j_istore C [(6, .int v6), (0, .ref (n0 + t)), (1, .int x1), (2, .int x2), (3, .int a1), (4, .int a2), (5, .int a3)] dX4_takerOf_29 (Nat.le_of_ble_eq_true rfl) rfl ?_
        refine j_iload_n C 3 dX4_takerOf_31 rfl rfl ?_
        refine j_iload C 6 dX4_takerOf_32 rfl ?_
        refine j_ishr C dX4_takerOf_34 ?_
        refine j_iconst C (1 : Int32) rfl dX4_takerOf_35 ?_
        refine j_iand C dX4_takerOf_36 ?_
        refine j_iconst C (1 : Int32) rfl dX4_takerOf_37 ?_
        refine j_icmp_ne C 88 dX4_takerOf_38 (by decide) (fun c7 => ?_) (fun c7 => ?_)
        · replace hf := ine c7 hf
          refine j_iinc C 6 (a3 + 1) [(5, .int (a3 + 1)), (6, .int v6), (0, .ref (n0 + t)), (1, .int x1), (2, .int x2), (3, .int a1), (4, .int a2)] dX4_takerOf_88 rfl rfl (Nat.le_of_ble_eq_true rfl) rfl ?_
          refine j_goto C 10 dX4_takerOf_91 (by decide) ?_
          refine j_sub [2, 3, 4, 5, 6, 0] rfl ?_
          exact ih _ _ _ hf
        · replace hf := ip c7 hf
          refine j_iload C 0 dX4_takerOf_41 rfl ?_
          refine j_iload_n C 2 dX4_takerOf_43 rfl rfl ?_
          obtain ⟨b9, e8, hf⟩ := bd hf
          refine j_callSN C 2 (c_X11_contains l G n0 (M := M) e8) nxm_RX4_50 tw1_1 tw4_100 tw4_101 ⟨rfl, rfl⟩ (by decide +kernel) ⟨Nat.le_of_ble_eq_true rfl, Nat.le_of_ble_eq_true rfl⟩ rfl rfl (Nat.le_of_ble_eq_true rfl) dX4_takerOf_44 ?_
          refine j_ifz_eq C 88 dX4_takerOf_47 (by decide) (fun c10 => ?_) (fun c10 => ?_)
          · replace hf := ine c10 hf
            refine j_iinc C 6 (a3 + 1) [(5, .int (a3 + 1)), (6, .int v6), (0, .ref (n0 + t)), (1, .int x1), (2, .int x2), (3, .int a1), (4, .int a2)] dX4_takerOf_88 rfl rfl (Nat.le_of_ble_eq_true rfl) rfl ?_
            refine j_goto C 10 dX4_takerOf_91 (by decide) ?_
            refine j_sub [2, 3, 4, 5, 6, 0] rfl ?_
            exact ih _ _ _ hf
          · replace hf := ip c10 hf
            refine j_iload C 0 dX4_takerOf_50 rfl ?_
            refine j_iload_n C 2 dX4_takerOf_52 rfl rfl ?_
            refine j_iconst C (-1 : Int32) rfl dX4_takerOf_53 ?_
            refine j_ixor C dX4_takerOf_54 ?_
            refine j_iand C dX4_takerOf_55 ?_
            obtain ⟨v12, e11, hf⟩ := bd hf
            refine j_callS C 1 (c_J6_bitCount_0f7a4 l G n0 (M := M) e11) gs_RX4_54 ⟨rfl, rfl⟩ (by decide +kernel) ⟨Nat.le_of_ble_eq_true rfl, Nat.le_of_ble_eq_true rfl⟩ rfl rfl (Nat.le_of_ble_eq_true rfl) dX4_takerOf_56 ?_
            refine j_istore C [(7, .int v12), (6, .int v6), (0, .ref (n0 + t)), (1, .int x1), (2, .int x2), (3, .int a1), (4, .int a2), (5, .int a3)] dX4_takerOf_59 (Nat.le_of_ble_eq_true rfl) rfl ?_
            refine j_iload C 0 dX4_takerOf_61 rfl ?_
            refine j_iload C 6 dX4_takerOf_63 rfl ?_
            refine j_icmp_ge C 78 dX4_takerOf_65 (by decide) (fun c13 => ?_) (fun c13 => ?_)
            · replace hf := ip c13 hf
              refine j_iload C 0 dX4_takerOf_78 rfl ?_
              refine j_iload C 6 dX4_takerOf_80 rfl ?_
              refine j_icmp_ne C 88 dX4_takerOf_82 (by decide) (fun c14 => ?_) (fun c14 => ?_)
              · replace hf := ine c14 hf
                refine j_iinc C 7 (a3 + 1) [(5, .int (a3 + 1)), (7, .int v12), (6, .int v6), (0, .ref (n0 + t)), (1, .int x1), (2, .int x2), (3, .int a1), (4, .int a2)] dX4_takerOf_88 rfl rfl (Nat.le_of_ble_eq_true rfl) rfl ?_
                refine j_goto C 10 dX4_takerOf_91 (by decide) ?_
                refine j_sub [3, 4, 5, 6, 7, 0] rfl ?_
                exact ih _ _ _ hf
              · replace hf := ip c14 hf
                refine j_bipush C (8 : Int32) rfl dX4_takerOf_85 ?_
                refine j_istore_n C [(3, .int (8 : Int32)), (7, .int v12), (6, .int v6), (0, .ref (n0 + t)), (1, .int x1), (2, .int x2), (4, .int a2), (5, .int a3)] dX4_takerOf_87 rfl (Nat.le_of_ble_eq_true rfl) rfl ?_
                refine j_iinc C 7 (a3 + 1) [(5, .int (a3 + 1)), (3, .int (8 : Int32)), (7, .int v12), (6, .int v6), (0, .ref (n0 + t)), (1, .int x1), (2, .int x2), (4, .int a2)] dX4_takerOf_88 rfl rfl (Nat.le_of_ble_eq_true rfl) rfl ?_
                refine j_goto C 10 dX4_takerOf_91 (by decide) ?_
                refine j_sub [4, 5, 6, 1, 7, 0] rfl ?_
                exact ih _ _ _ hf
            · replace hf := ine c13 hf
              refine j_iload C 0 dX4_takerOf_68 rfl ?_
              refine j_istore C [(4, .int v12), (7, .int v12), (6, .int v6), (0, .ref (n0 + t)), (1, .int x1), (2, .int x2), (3, .int a1), (5, .int a3)] dX4_takerOf_70 (Nat.le_of_ble_eq_true rfl) rfl ?_
              refine j_iload C 7 dX4_takerOf_72 rfl ?_
              refine j_istore_n C [(3, .int a3), (4, .int v12), (7, .int v12), (6, .int v6), (0, .ref (n0 + t)), (1, .int x1), (2, .int x2), (5, .int a3)] dX4_takerOf_74 rfl (Nat.le_of_ble_eq_true rfl) rfl ?_
              refine j_goto C 88 dX4_takerOf_75 (by decide) ?_
              refine j_iinc C 7 (a3 + 1) [(5, .int (a3 + 1)), (3, .int a3), (4, .int v12), (7, .int v12), (6, .int v6), (0, .ref (n0 + t)), (1, .int x1), (2, .int x2)] dX4_takerOf_88 rfl rfl (Nat.le_of_ble_eq_true rfl) rfl ?_
              refine j_goto C 10 dX4_takerOf_91 (by decide) ?_
              refine j_sub [5, 6, 7, 1, 2, 0] rfl ?_
              exact ih _ _ _ hf
  refine j_sub [3, 4, 5, 2, 1, 0] rfl ?_
  exact hl18 FUEL (8 : Int32) (17 : Int32) (0 : Int32) e16
def fX6_give (t : Nat) (x1 : Int32) (x2 : Int32) (M : Mem) : Option Mem :=
  (fX7_put (t + 1) 7 200 (x1 - x1 / (200 : Int32) * (200 : Int32)) (5 : Int32) x2 M).bind fun M2 =>
  some M2

def rX6_give : Room := { frames := 1, cells := 0, slots := 0, locals := 23 }
set_option maxRecDepth 100000 in
set_option maxHeartbeats 4000000 in
theorem c_X6_give (l : Launch) (G : Gx) (n0 : Nat) {t : Nat} {x1 : Int32} {x2 : Int32} (hk : lay[t]? = some (tK 6)) {M : Mem} {M' : Mem} (hf : fX6_give t x1 x2 M = some M') : Ct l yX6_give cX6_give 3 none rX6_give G n0 [.ref (n0 + t), .int x1, .int x2] M none M' := by
  refine ct_void (cc := cX6_give) (maxL := 3) rfl (Nat.le_of_ble_eq_true rfl) ?_
  intro K C hret
  have C : Ok K l rX6_give cX6_give RX6 G n0 3 := C
  show J K M 0 [(0, .ref (n0 + t)), (1, .int x1), (2, .int x2)] []
  unfold fX6_give at hf
  refine j_aload_n C 0 dX6_give_0 rfl rfl ?_
  refine g_X6_rows C tw1_104 hk (t + 1) rfl dX6_give_1 ?_
  refine j_iload_n C 1 dX6_give_4 rfl rfl ?_
  refine j_sipush C (200 : Int32) rfl dX6_give_5 ?_
  refine j_irem C (by decide) dX6_give_8 ?_
  refine j_iconst C (5 : Int32) rfl dX6_give_9 ?_
  refine j_iload_n C 2 dX6_give_10 rfl rfl ?_
  obtain ⟨M2, e1, hf⟩ := bd hf
  refine j_callV C 3 (k6_1 hk).1 (ent_T _ _ _ _ _ _) rfl (c_X7_put l G n0 (k6_1 hk) e1) gv_RX6_47 ⟨rfl, rfl⟩ (by decide +kernel) ⟨Nat.le_of_ble_eq_true rfl, Nat.le_of_ble_eq_true rfl⟩ rfl rfl (Nat.le_of_ble_eq_true rfl) dX6_give_11 ?_
  obtain rfl := Option.some.inj hf
  exact hret _ _ dX6_give_14
def lX6_sortFrom_10 (t : Nat) (o2 : Nat) (x3 : Int32) : Nat → Int32 → Mem → Option Mem
  | 0, _, _ => none
  | n + 1, a3, M4 =>
  if (M4.1 t 1) ≤ a3 then (some M4)
  else ((fX6_value t a3 (4 : Int32) M4).bind fun v7 =>
  (fX4_takerOf o2 v7 x3 M4).bind fun v9 =>
  (fX6_give t a3 v9 M4).bind fun M11 =>
  lX6_sortFrom_10 t o2 x3 n (a3 + 1) M11)

def fX6_sortFrom (t : Nat) (x1 : Int32) (o2 : Nat) (x3 : Int32) (M : Mem) : Option Mem :=
  (fX6_firstKept t M).bind fun v2 =>
  (lX6_sortFrom_10 t o2 x3 FUEL (if x1 < v2 then v2 else x1) M).bind (fun M12 => some M12)

def rX6_sortFrom : Room := { frames := 3, cells := 0, slots := 0, locals := 53 }
set_option maxRecDepth 100000 in
set_option maxHeartbeats 4000000 in
theorem c_X6_sortFrom (l : Launch) (G : Gx) (n0 : Nat) {t : Nat} {x1 : Int32} {o2 : Nat} {x3 : Int32} (hk : lay[t]? = some (tK 6)) (hk2 : lay[o2]? = some (tK 4)) {M : Mem} {M' : Mem} (hf : fX6_sortFrom t x1 o2 x3 M = some M') : Ct l yX6_sortFrom cX6_sortFrom 5 none rX6_sortFrom G n0 [.ref (n0 + t), .int x1, .ref (n0 + o2), .int x3] M none M' := by
  refine ct_void (cc := cX6_sortFrom) (maxL := 5) rfl (Nat.le_of_ble_eq_true rfl) ?_
  intro K C hret
  have C : Ok K l rX6_sortFrom cX6_sortFrom RX6 G n0 5 := C
  show J K M 0 [(0, .ref (n0 + t)), (1, .int x1), (2, .ref (n0 + o2)), (3, .int x3)] []
  unfold fX6_sortFrom at hf
  refine j_iload_n C 1 dX6_sortFrom_0 rfl rfl ?_
  refine j_aload_n C 0 dX6_sortFrom_1 rfl rfl ?_
  obtain ⟨v2, e1, hf⟩ := bd hf
  refine j_callV C 0 hk (ent_K _ _ _ _ _ _) rfl (c_X6_firstKept l G n0 hk e1) gv_RX6_41 ⟨rfl, rfl⟩ (by decide +kernel) ⟨Nat.le_of_ble_eq_true rfl, Nat.le_of_ble_eq_true rfl⟩ rfl rfl (Nat.le_of_ble_eq_true rfl) dX6_sortFrom_2 ?_
  refine j_mmax C tw4_93 tw1_47 tw1_5 tw1_48 ⟨Nat.le_of_ble_eq_true rfl, Nat.le_of_ble_eq_true rfl⟩ dX6_sortFrom_5 ?_
  refine j_istore C [(4, .int (if x1 < v2 then v2 else x1)), (0, .ref (n0 + t)), (1, .int x1), (2, .ref (n0 + o2)), (3, .int x3)] dX6_sortFrom_8 (Nat.le_of_ble_eq_true rfl) rfl ?_
  obtain ⟨M12, e13, hf⟩ := bd hf
  have hx14 : J K M12 43 [] [] := by
    obtain rfl := Option.some.inj hf
    exact hret _ _ dX6_sortFrom_43
  clear hf
  have hl15 : ∀ (n : Nat) (a3 : Int32) (M4 : Mem), lX6_sortFrom_10 t o2 x3 n a3 M4 = some M12 → J K M4 10 [(0, .ref (n0 + t)), (2, .ref (n0 + o2)), (3, .int x3), (4, .int a3)] [] := by
    intro n
    induction n with
    | zero =>
      intro a3 M4 hf
      exact absurd hf (by rw [lX6_sortFrom_10]; exact fun h => by cases h)
    | succ n ih =>
      intro a3 M4 hf
      rw [lX6_sortFrom_10] at hf
      refine j_iload C 3 dX6_sortFrom_10 rfl ?_
      refine j_aload_n C 0 dX6_sortFrom_12 rfl rfl ?_
      refine g_X6_cameOut C tw1_105 hk dX6_sortFrom_13 ?_
      refine j_icmp_ge C 43 dX6_sortFrom_16 (by decide) (fun c5 => ?_) (fun c5 => ?_)
      · replace hf := ip c5 hf
        refine j_sub [] rfl ?_
        cases hf
        exact hx14
      · replace hf := ine c5 hf
        refine j_aload_n C 0 dX6_sortFrom_19 rfl rfl ?_
        refine j_iload C 3 dX6_sortFrom_20 rfl ?_
        refine j_aload_n C 1 dX6_sortFrom_22 rfl rfl ?_
        refine j_aload_n C 0 dX6_sortFrom_23 rfl rfl ?_
        refine j_iload C 3 dX6_sortFrom_24 rfl ?_
        refine j_iconst C (4 : Int32) rfl dX6_sortFrom_26 ?_
        obtain ⟨v7, e6, hf⟩ := bd hf
        refine j_callV C 2 hk (ent_K _ _ _ _ _ _) rfl (c_X6_value l G n0 hk e6) gv_RX6_60 ⟨rfl, rfl⟩ (by decide +kernel) ⟨Nat.le_of_ble_eq_true rfl, Nat.le_of_ble_eq_true rfl⟩ rfl rfl (Nat.le_of_ble_eq_true rfl) dX6_sortFrom_27 ?_
        refine j_iload_n C 2 dX6_sortFrom_30 rfl rfl ?_
        obtain ⟨v9, e8, hf⟩ := bd hf
        refine j_callV C 2 hk2 (ent_K _ _ _ _ _ _) rfl (c_X4_takerOf l G n0 hk2 e8) gv_RX6_63 ⟨rfl, rfl⟩ (by decide +kernel) ⟨Nat.le_of_ble_eq_true rfl, Nat.le_of_ble_eq_true rfl⟩ rfl rfl (Nat.le_of_ble_eq_true rfl) dX6_sortFrom_31 ?_
        obtain ⟨M11, e10, hf⟩ := bd hf
        refine j_callV C 2 hk (ent_K _ _ _ _ _ _) rfl (c_X6_give l G n0 hk e10) gv_RX6_68 ⟨rfl, rfl⟩ (by decide +kernel) ⟨Nat.le_of_ble_eq_true rfl, Nat.le_of_ble_eq_true rfl⟩ rfl rfl (Nat.le_of_ble_eq_true rfl) dX6_sortFrom_34 ?_
        refine j_iinc C 3 (a3 + 1) [(4, .int (a3 + 1)), (0, .ref (n0 + t)), (2, .ref (n0 + o2)), (3, .int x3)] dX6_sortFrom_37 rfl rfl (Nat.le_of_ble_eq_true rfl) rfl ?_
        refine j_goto C 10 dX6_sortFrom_40 (by decide) ?_
        refine j_sub [1, 2, 3, 0] rfl ?_
        exact ih _ _ hf
  refine j_sub [1, 3, 4, 0] rfl ?_
  exact hl15 FUEL (if x1 < v2 then v2 else x1) M e13
def fX1_clear (t : Nat) (M : Mem) : Option Mem :=
  (pf M t 1 (0 : Int32)).bind fun M1 =>
  some M1

def rX1_clear : Room := { frames := 0, cells := 0, slots := 0, locals := 0 }
set_option maxRecDepth 100000 in
set_option maxHeartbeats 4000000 in
theorem c_X1_clear (l : Launch) (G : Gx) (n0 : Nat) {t : Nat} (hk : lay[t]? = some (tK 1)) {M : Mem} {M' : Mem} (hf : fX1_clear t M = some M') : Ct l yX1_clear cX1_clear 1 none rX1_clear G n0 [.ref (n0 + t)] M none M' := by
  refine ct_void (cc := cX1_clear) (maxL := 1) rfl (Nat.le_of_ble_eq_true rfl) ?_
  intro K C hret
  have C : Ok K l rX1_clear cX1_clear RX1 G n0 1 := C
  show J K M 0 [(0, .ref (n0 + t))] []
  unfold fX1_clear at hf
  refine j_aload_n C 0 dX1_clear_0 rfl rfl ?_
  refine j_iconst C (0 : Int32) rfl dX1_clear_1 ?_
  obtain ⟨M1, e2, hf⟩ := bd hf
  refine p_X1_count C tw1_75 hk e2 dX1_clear_2 ?_
  obtain rfl := Option.some.inj hf
  exact hret _ _ dX1_clear_5
def fX6_countWithBoth (t : Nat) (x1 : Int32) (x2 : Int32) (x3 : Int32) (x4 : Int32) (M : Mem) : Option Int32 :=
  (fX6_kept t M).bind fun v2 =>
  (fX7_countBoth (t + 1) 7 200 v2 x1 x2 x3 x4 M).bind fun v4 =>
  some v4

def rX6_countWithBoth : Room := { frames := 2, cells := 0, slots := 0, locals := 33 }
set_option maxRecDepth 100000 in
set_option maxHeartbeats 4000000 in
theorem c_X6_countWithBoth (l : Launch) (G : Gx) (n0 : Nat) {t : Nat} {x1 : Int32} {x2 : Int32} {x3 : Int32} {x4 : Int32} (hk : lay[t]? = some (tK 6)) {M : Mem} {r : Int32} (hf : fX6_countWithBoth t x1 x2 x3 x4 M = some r) : Ct l yX6_countWithBoth cX6_countWithBoth 5 (some .int) rX6_countWithBoth G n0 [.ref (n0 + t), .int x1, .int x2, .int x3, .int x4] M (some (.int r)) M := by
  refine ct_int (cc := cX6_countWithBoth) (maxL := 5) rfl (Nat.le_of_ble_eq_true rfl) ?_
  intro K C hret
  have C : Ok K l rX6_countWithBoth cX6_countWithBoth RX6 G n0 5 := C
  show J K M 0 [(0, .ref (n0 + t)), (1, .int x1), (2, .int x2), (3, .int x3), (4, .int x4)] []
  unfold fX6_countWithBoth at hf
  refine j_aload_n C 0 dX6_countWithBoth_0 rfl rfl ?_
  refine g_X6_rows C tw1_104 hk (t + 1) rfl dX6_countWithBoth_1 ?_
  refine j_aload_n C 0 dX6_countWithBoth_4 rfl rfl ?_
  obtain ⟨v2, e1, hf⟩ := bd hf
  refine j_callV C 0 hk (ent_K _ _ _ _ _ _) rfl (c_X6_kept l G n0 hk e1) gv_RX6_20 ⟨rfl, rfl⟩ (by decide +kernel) ⟨Nat.le_of_ble_eq_true rfl, Nat.le_of_ble_eq_true rfl⟩ rfl rfl (Nat.le_of_ble_eq_true rfl) dX6_countWithBoth_5 ?_
  refine j_iload_n C 1 dX6_countWithBoth_8 rfl rfl ?_
  refine j_iload_n C 2 dX6_countWithBoth_9 rfl rfl ?_
  refine j_iload_n C 3 dX6_countWithBoth_10 rfl rfl ?_
  refine j_iload C 4 dX6_countWithBoth_11 rfl ?_
  obtain ⟨v4, e3, hf⟩ := bd hf
  refine j_callV C 5 (k6_1 hk).1 (ent_T _ _ _ _ _ _) rfl (c_X7_countBoth l G n0 (k6_1 hk) e3) gv_RX6_75 ⟨rfl, rfl⟩ (by decide +kernel) ⟨Nat.le_of_ble_eq_true rfl, Nat.le_of_ble_eq_true rfl⟩ rfl rfl (Nat.le_of_ble_eq_true rfl) dX6_countWithBoth_13 ?_
  obtain rfl := Option.some.inj hf
  exact hret _ _ dX6_countWithBoth_16
def fX6_balanceOf (t : Nat) (x1 : Int32) (x2 : Int32) (M : Mem) : Option Int32 :=
  (fX6_countWithBoth t (1 : Int32) x2 (0 : Int32) x1 M).bind fun v2 =>
  (fX6_countWithBoth t (1 : Int32) x2 (5 : Int32) x1 M).bind fun v4 =>
  some (v2 - v4)

def rX6_balanceOf : Room := { frames := 3, cells := 0, slots := 0, locals := 57 }
set_option maxRecDepth 100000 in
set_option maxHeartbeats 4000000 in
theorem c_X6_balanceOf (l : Launch) (G : Gx) (n0 : Nat) {t : Nat} {x1 : Int32} {x2 : Int32} (hk : lay[t]? = some (tK 6)) {M : Mem} {r : Int32} (hf : fX6_balanceOf t x1 x2 M = some r) : Ct l yX6_balanceOf cX6_balanceOf 3 (some .int) rX6_balanceOf G n0 [.ref (n0 + t), .int x1, .int x2] M (some (.int r)) M := by
  refine ct_int (cc := cX6_balanceOf) (maxL := 3) rfl (Nat.le_of_ble_eq_true rfl) ?_
  intro K C hret
  have C : Ok K l rX6_balanceOf cX6_balanceOf RX6 G n0 3 := C
  show J K M 0 [(0, .ref (n0 + t)), (1, .int x1), (2, .int x2)] []
  unfold fX6_balanceOf at hf
  refine j_aload_n C 0 dX6_balanceOf_0 rfl rfl ?_
  refine j_iconst C (1 : Int32) rfl dX6_balanceOf_1 ?_
  refine j_iload_n C 2 dX6_balanceOf_2 rfl rfl ?_
  refine j_iconst C (0 : Int32) rfl dX6_balanceOf_3 ?_
  refine j_iload_n C 1 dX6_balanceOf_4 rfl rfl ?_
  obtain ⟨v2, e1, hf⟩ := bd hf
  refine j_callV C 4 hk (ent_K _ _ _ _ _ _) rfl (c_X6_countWithBoth l G n0 hk e1) gv_RX6_79 ⟨rfl, rfl⟩ (by decide +kernel) ⟨Nat.le_of_ble_eq_true rfl, Nat.le_of_ble_eq_true rfl⟩ rfl rfl (Nat.le_of_ble_eq_true rfl) dX6_balanceOf_5 ?_
  refine j_aload_n C 0 dX6_balanceOf_8 rfl rfl ?_
  refine j_iconst C (1 : Int32) rfl dX6_balanceOf_9 ?_
  refine j_iload_n C 2 dX6_balanceOf_10 rfl rfl ?_
  refine j_iconst C (5 : Int32) rfl dX6_balanceOf_11 ?_
  refine j_iload_n C 1 dX6_balanceOf_12 rfl rfl ?_
  obtain ⟨v4, e3, hf⟩ := bd hf
  refine j_callV C 4 hk (ent_K _ _ _ _ _ _) rfl (c_X6_countWithBoth l G n0 hk e3) gv_RX6_79 ⟨rfl, rfl⟩ (by decide +kernel) ⟨Nat.le_of_ble_eq_true rfl, Nat.le_of_ble_eq_true rfl⟩ rfl rfl (Nat.le_of_ble_eq_true rfl) dX6_balanceOf_13 ?_
  refine j_isub C dX6_balanceOf_16 ?_
  obtain rfl := Option.some.inj hf
  exact hret _ _ dX6_balanceOf_17
def lX6_moveFromShelf_26 (t : Nat) (x1 : Int32) (x2 : Int32) (a2 : Int32) : Nat → Int32 → Int32 → Int32 → Mem → Option (Int32 × Mem)
  | 0, _, _, _, _ => none
  | n + 1, a9, a10, a11, M12 =>
  if (M12.1 t 1) ≤ a11 then (some (a9, M12))
  else (if a10 ≤ 0 then (some (a9, M12))
  else ((fX6_value t a11 (1 : Int32) M12).bind fun v16 =>
  if v16 = a2 then ((fX6_value t a11 (5 : Int32) M12).bind fun v19 =>
  if v19 = (8 : Int32) then ((fX6_value t a11 (4 : Int32) M12).bind fun v22 =>
  (fX11_contains x2 v22).bind fun b24 =>
  if b24 = true then ((fX6_give t a11 x1 M12).bind fun M27 =>
  lX6_moveFromShelf_26 t x1 x2 a2 n (a9 + 1) (a10 + (-1)) (a11 + 1) M27)
  else (lX6_moveFromShelf_26 t x1 x2 a2 n a9 a10 (a11 + 1) M12))
  else (lX6_moveFromShelf_26 t x1 x2 a2 n a9 a10 (a11 + 1) M12))
  else (lX6_moveFromShelf_26 t x1 x2 a2 n a9 a10 (a11 + 1) M12)))

def lX6_moveFromShelf_5 (t : Nat) (x1 : Int32) (x2 : Int32) : Nat → Int32 → Int32 → Mem → Option (Int32 × Mem)
  | 0, _, _, _ => none
  | n + 1, a1, a2, M3 =>
  if (3 : Int32) ≤ a2 then (some (a1, M3))
  else ((fX6_balanceOf t x1 a2 M3).bind fun v6 =>
  (fX6_firstKept t M3).bind fun v8 =>
  (lX6_moveFromShelf_26 t x1 x2 a2 FUEL a1 v6 v8 M3).bind (un2 fun a28 M29 => lX6_moveFromShelf_5 t x1 x2 n a28 (a2 + 1) M29))

def fX6_moveFromShelf (t : Nat) (x1 : Int32) (x2 : Int32) (M : Mem) : Option (Int32 × Mem) :=
  (lX6_moveFromShelf_5 t x1 x2 FUEL (0 : Int32) (0 : Int32) M).bind (un2 fun a30 M31 => some (a30, M31))

def rX6_moveFromShelf : Room := { frames := 4, cells := 0, slots := 0, locals := 79 }
set_option maxRecDepth 100000 in
set_option maxHeartbeats 4000000 in
theorem c_X6_moveFromShelf (l : Launch) (G : Gx) (n0 : Nat) {t : Nat} {x1 : Int32} {x2 : Int32} (hk : lay[t]? = some (tK 6)) {M : Mem} {r : Int32} {M' : Mem} (hf : fX6_moveFromShelf t x1 x2 M = some (r, M')) : Ct l yX6_moveFromShelf cX6_moveFromShelf 7 (some .int) rX6_moveFromShelf G n0 [.ref (n0 + t), .int x1, .int x2] M (some (.int r)) M' := by
  refine ct_int (cc := cX6_moveFromShelf) (maxL := 7) rfl (Nat.le_of_ble_eq_true rfl) ?_
  intro K C hret
  have C : Ok K l rX6_moveFromShelf cX6_moveFromShelf RX6 G n0 7 := C
  show J K M 0 [(0, .ref (n0 + t)), (1, .int x1), (2, .int x2)] []
  unfold fX6_moveFromShelf at hf
  refine j_iconst C (0 : Int32) rfl dX6_moveFromShelf_0 ?_
  refine j_istore_n C [(3, .int (0 : Int32)), (0, .ref (n0 + t)), (1, .int x1), (2, .int x2)] dX6_moveFromShelf_1 rfl (Nat.le_of_ble_eq_true rfl) rfl ?_
  refine j_iconst C (0 : Int32) rfl dX6_moveFromShelf_2 ?_
  refine j_istore C [(4, .int (0 : Int32)), (3, .int (0 : Int32)), (0, .ref (n0 + t)), (1, .int x1), (2, .int x2)] dX6_moveFromShelf_3 (Nat.le_of_ble_eq_true rfl) rfl ?_
  obtain ⟨⟨a30, M31⟩, e32, hf⟩ := bd hf
  replace hf := un2e hf
  have hx33 : J K M31 103 [(3, .int a30)] [] := by
    refine j_iload_n C 0 dX6_moveFromShelf_103 rfl rfl ?_
    obtain ⟨rfl, rfl⟩ := Prod.mk.inj (Option.some.inj hf)
    exact hret _ _ dX6_moveFromShelf_104
  clear hf
  have hl34 : ∀ (n : Nat) (a1 : Int32) (a2 : Int32) (M3 : Mem), lX6_moveFromShelf_5 t x1 x2 n a1 a2 M3 = some (a30, M31) → J K M3 5 [(0, .ref (n0 + t)), (1, .int x1), (2, .int x2), (3, .int a1), (4, .int a2)] [] := by
    intro n
    induction n with
    | zero =>
      intro a1 a2 M3 hf
      exact absurd hf (by rw [lX6_moveFromShelf_5]; exact fun h => by cases h)
    | succ n ih =>
      intro a1 a2 M3 hf
      rw [lX6_moveFromShelf_5] at hf
      refine j_iload C 4 dX6_moveFromShelf_5 rfl ?_
      refine j_iconst C (3 : Int32) rfl dX6_moveFromShelf_7 ?_
      refine j_icmp_ge C 103 dX6_moveFromShelf_8 (by decide) (fun c4 => ?_) (fun c4 => ?_)
      · replace hf := ip c4 hf
        refine j_sub [3] rfl ?_
        cases hf
        exact hx33
      · replace hf := ine c4 hf
        refine j_aload_n C 0 dX6_moveFromShelf_11 rfl rfl ?_
        refine j_iload_n C 1 dX6_moveFromShelf_12 rfl rfl ?_
        refine j_iload C 4 dX6_moveFromShelf_13 rfl ?_
        obtain ⟨v6, e5, hf⟩ := bd hf
        refine j_callV C 2 hk (ent_K _ _ _ _ _ _) rfl (c_X6_balanceOf l G n0 hk e5) gv_RX6_83 ⟨rfl, rfl⟩ (by decide +kernel) ⟨Nat.le_of_ble_eq_true rfl, Nat.le_of_ble_eq_true rfl⟩ rfl rfl (Nat.le_of_ble_eq_true rfl) dX6_moveFromShelf_15 ?_
        refine j_istore C [(5, .int v6), (0, .ref (n0 + t)), (1, .int x1), (2, .int x2), (3, .int a1), (4, .int a2)] dX6_moveFromShelf_18 (Nat.le_of_ble_eq_true rfl) rfl ?_
        refine j_aload_n C 1 dX6_moveFromShelf_20 rfl rfl ?_
        obtain ⟨v8, e7, hf⟩ := bd hf
        refine j_callV C 0 hk (ent_K _ _ _ _ _ _) rfl (c_X6_firstKept l G n0 hk e7) gv_RX6_41 ⟨rfl, rfl⟩ (by decide +kernel) ⟨Nat.le_of_ble_eq_true rfl, Nat.le_of_ble_eq_true rfl⟩ rfl rfl (Nat.le_of_ble_eq_true rfl) dX6_moveFromShelf_21 ?_
        refine j_istore C [(6, .int v8), (5, .int v6), (0, .ref (n0 + t)), (1, .int x1), (2, .int x2), (3, .int a1), (4, .int a2)] dX6_moveFromShelf_24 (Nat.le_of_ble_eq_true rfl) rfl ?_
        obtain ⟨⟨a28, M29⟩, e37, hf⟩ := bd hf
        replace hf := un2e hf
        have hx38 : J K M29 97 [(0, .ref (n0 + t)), (1, .int x1), (2, .int x2), (3, .int a28), (4, .int a2)] [] := by
          refine j_iinc C 4 (a2 + 1) [(4, .int (a2 + 1)), (0, .ref (n0 + t)), (1, .int x1), (2, .int x2), (3, .int a28)] dX6_moveFromShelf_97 rfl rfl (Nat.le_of_ble_eq_true rfl) rfl ?_
          refine j_goto C 5 dX6_moveFromShelf_100 (by decide) ?_
          refine j_sub [1, 2, 3, 4, 0] rfl ?_
          exact ih _ _ _ hf
        clear hf
        have hl39 : ∀ (n : Nat) (a9 : Int32) (a10 : Int32) (a11 : Int32) (M12 : Mem), lX6_moveFromShelf_26 t x1 x2 a2 n a9 a10 a11 M12 = some (a28, M29) → J K M12 26 [(0, .ref (n0 + t)), (1, .int x1), (2, .int x2), (3, .int a9), (4, .int a2), (5, .int a10), (6, .int a11)] [] := by
          intro n
          induction n with
          | zero =>
            intro a9 a10 a11 M12 hf
            exact absurd hf (by rw [lX6_moveFromShelf_26]; exact fun h => by cases h)
          | succ n ih =>
            intro a9 a10 a11 M12 hf
            rw [lX6_moveFromShelf_26] at hf
            refine j_iload C 6 dX6_moveFromShelf_26 rfl ?_
            refine j_aload_n C 0 dX6_moveFromShelf_28 rfl rfl ?_
            refine g_X6_cameOut C tw1_105 hk dX6_moveFromShelf_29 ?_
            refine j_icmp_ge C 97 dX6_moveFromShelf_32 (by decide) (fun c13 => ?_) (fun c13 => ?_)
            · replace hf := ip c13 hf
              refine j_sub [0, 1, 2, 3, 4] rfl ?_
              cases hf
              exact hx38
            · replace hf := ine c13 hf
              refine j_iload C 5 dX6_moveFromShelf_35 rfl ?_
              refine j_if_le C 97 dX6_moveFromShelf_37 (by decide) (fun c14 => ?_) (fun c14 => ?_)
              · replace hf := ip c14 hf
                refine j_sub [0, 1, 2, 3, 4] rfl ?_
                cases hf
                exact hx38
              · replace hf := ine c14 hf
                refine j_aload_n C 0 dX6_moveFromShelf_40 rfl rfl ?_
                refine j_iload C 6 dX6_moveFromShelf_41 rfl ?_
                refine j_iconst C (1 : Int32) rfl dX6_moveFromShelf_43 ?_
                obtain ⟨v16, e15, hf⟩ := bd hf
                refine j_callV C 2 hk (ent_K _ _ _ _ _ _) rfl (c_X6_value l G n0 hk e15) gv_RX6_60 ⟨rfl, rfl⟩ (by decide +kernel) ⟨Nat.le_of_ble_eq_true rfl, Nat.le_of_ble_eq_true rfl⟩ rfl rfl (Nat.le_of_ble_eq_true rfl) dX6_moveFromShelf_44 ?_
                refine j_iload C 4 dX6_moveFromShelf_47 rfl ?_
                refine j_icmp_ne C 91 dX6_moveFromShelf_49 (by decide) (fun c17 => ?_) (fun c17 => ?_)
                · replace hf := ine c17 hf
                  refine j_iinc C 6 (a11 + 1) [(6, .int (a11 + 1)), (0, .ref (n0 + t)), (1, .int x1), (2, .int x2), (3, .int a9), (4, .int a2), (5, .int a10)] dX6_moveFromShelf_91 rfl rfl (Nat.le_of_ble_eq_true rfl) rfl ?_
                  refine j_goto C 26 dX6_moveFromShelf_94 (by decide) ?_
                  refine j_sub [1, 2, 3, 4, 5, 6, 0] rfl ?_
                  exact ih _ _ _ _ hf
                · replace hf := ip c17 hf
                  refine j_aload_n C 0 dX6_moveFromShelf_52 rfl rfl ?_
                  refine j_iload C 6 dX6_moveFromShelf_53 rfl ?_
                  refine j_iconst C (5 : Int32) rfl dX6_moveFromShelf_55 ?_
                  obtain ⟨v19, e18, hf⟩ := bd hf
                  refine j_callV C 2 hk (ent_K _ _ _ _ _ _) rfl (c_X6_value l G n0 hk e18) gv_RX6_60 ⟨rfl, rfl⟩ (by decide +kernel) ⟨Nat.le_of_ble_eq_true rfl, Nat.le_of_ble_eq_true rfl⟩ rfl rfl (Nat.le_of_ble_eq_true rfl) dX6_moveFromShelf_56 ?_
                  refine j_bipush C (8 : Int32) rfl dX6_moveFromShelf_59 ?_
                  refine j_icmp_ne C 91 dX6_moveFromShelf_61 (by decide) (fun c20 => ?_) (fun c20 => ?_)
                  · replace hf := ine c20 hf
                    refine j_iinc C 6 (a11 + 1) [(6, .int (a11 + 1)), (0, .ref (n0 + t)), (1, .int x1), (2, .int x2), (3, .int a9), (4, .int a2), (5, .int a10)] dX6_moveFromShelf_91 rfl rfl (Nat.le_of_ble_eq_true rfl) rfl ?_
                    refine j_goto C 26 dX6_moveFromShelf_94 (by decide) ?_
                    refine j_sub [1, 2, 3, 4, 5, 6, 0] rfl ?_
                    exact ih _ _ _ _ hf
                  · replace hf := ip c20 hf
                    refine j_iload_n C 2 dX6_moveFromShelf_64 rfl rfl ?_
                    refine j_aload_n C 0 dX6_moveFromShelf_65 rfl rfl ?_
                    refine j_iload C 6 dX6_moveFromShelf_66 rfl ?_
                    refine j_iconst C (4 : Int32) rfl dX6_moveFromShelf_68 ?_
                    obtain ⟨v22, e21, hf⟩ := bd hf
                    refine j_callV C 2 hk (ent_K _ _ _ _ _ _) rfl (c_X6_value l G n0 hk e21) gv_RX6_60 ⟨rfl, rfl⟩ (by decide +kernel) ⟨Nat.le_of_ble_eq_true rfl, Nat.le_of_ble_eq_true rfl⟩ rfl rfl (Nat.le_of_ble_eq_true rfl) dX6_moveFromShelf_69 ?_
                    obtain ⟨b24, e23, hf⟩ := bd hf
                    refine j_callSN C 2 (c_X11_contains l G n0 (M := M12) e23) nxm_RX6_86 tw1_1 tw4_100 tw4_101 ⟨rfl, rfl⟩ (by decide +kernel) ⟨Nat.le_of_ble_eq_true rfl, Nat.le_of_ble_eq_true rfl⟩ rfl rfl (Nat.le_of_ble_eq_true rfl) dX6_moveFromShelf_72 ?_
                    refine j_ifz_eq C 91 dX6_moveFromShelf_75 (by decide) (fun c25 => ?_) (fun c25 => ?_)
                    · replace hf := ine c25 hf
                      refine j_iinc C 6 (a11 + 1) [(6, .int (a11 + 1)), (0, .ref (n0 + t)), (1, .int x1), (2, .int x2), (3, .int a9), (4, .int a2), (5, .int a10)] dX6_moveFromShelf_91 rfl rfl (Nat.le_of_ble_eq_true rfl) rfl ?_
                      refine j_goto C 26 dX6_moveFromShelf_94 (by decide) ?_
                      refine j_sub [1, 2, 3, 4, 5, 6, 0] rfl ?_
                      exact ih _ _ _ _ hf
                    · replace hf := ip c25 hf
                      refine j_aload_n C 0 dX6_moveFromShelf_78 rfl rfl ?_
                      refine j_iload C 6 dX6_moveFromShelf_79 rfl ?_
                      refine j_iload_n C 1 dX6_moveFromShelf_81 rfl rfl ?_
                      obtain ⟨M27, e26, hf⟩ := bd hf
                      refine j_callV C 2 hk (ent_K _ _ _ _ _ _) rfl (c_X6_give l G n0 hk e26) gv_RX6_68 ⟨rfl, rfl⟩ (by decide +kernel) ⟨Nat.le_of_ble_eq_true rfl, Nat.le_of_ble_eq_true rfl⟩ rfl rfl (Nat.le_of_ble_eq_true rfl) dX6_moveFromShelf_82 ?_
                      refine j_iinc C 5 (a10 + (-1)) [(5, .int (a10 + (-1))), (0, .ref (n0 + t)), (1, .int x1), (2, .int x2), (3, .int a9), (4, .int a2), (6, .int a11)] dX6_moveFromShelf_85 rfl rfl (Nat.le_of_ble_eq_true rfl) rfl ?_
                      refine j_iinc C 4 (a9 + 1) [(3, .int (a9 + 1)), (5, .int (a10 + (-1))), (0, .ref (n0 + t)), (1, .int x1), (2, .int x2), (4, .int a2), (6, .int a11)] dX6_moveFromShelf_88 rfl rfl (Nat.le_of_ble_eq_true rfl) rfl ?_
                      refine j_iinc C 6 (a11 + 1) [(6, .int (a11 + 1)), (3, .int (a9 + 1)), (5, .int (a10 + (-1))), (0, .ref (n0 + t)), (1, .int x1), (2, .int x2), (4, .int a2)] dX6_moveFromShelf_91 rfl rfl (Nat.le_of_ble_eq_true rfl) rfl ?_
                      refine j_goto C 26 dX6_moveFromShelf_94 (by decide) ?_
                      refine j_sub [3, 4, 5, 1, 6, 2, 0] rfl ?_
                      exact ih _ _ _ _ hf
        refine j_sub [2, 3, 4, 5, 6, 1, 0] rfl ?_
        exact hl39 FUEL a1 v6 v8 M3 e37
  refine j_sub [2, 3, 4, 1, 0] rfl ?_
  exact hl34 FUEL (0 : Int32) (0 : Int32) M e32
def lX6_moveToShelf_25 (t : Nat) (x1 : Int32) (a2 : Int32) : Nat → Int32 → Int32 → Int32 → Mem → Option (Int32 × Mem)
  | 0, _, _, _, _ => none
  | n + 1, a7, a8, a9, M10 =>
  (fX6_firstKept t M10).bind fun v12 =>
  if a9 < v12 then (some (a7, M10))
  else (if 0 ≤ a8 then (some (a7, M10))
  else ((fX6_value t a9 (1 : Int32) M10).bind fun v16 =>
  if v16 = a2 then ((fX6_value t a9 (5 : Int32) M10).bind fun v19 =>
  if v19 = x1 then ((fX6_value t a9 (0 : Int32) M10).bind fun v22 =>
  if v22 = x1 then (lX6_moveToShelf_25 t x1 a2 n a7 a8 (a9 + (-1)) M10)
  else ((fX6_give t a9 (8 : Int32) M10).bind fun M25 =>
  lX6_moveToShelf_25 t x1 a2 n (a7 + 1) (a8 + 1) (a9 + (-1)) M25))
  else (lX6_moveToShelf_25 t x1 a2 n a7 a8 (a9 + (-1)) M10))
  else (lX6_moveToShelf_25 t x1 a2 n a7 a8 (a9 + (-1)) M10)))

def lX6_moveToShelf_4 (t : Nat) (x1 : Int32) : Nat → Int32 → Int32 → Mem → Option (Int32 × Mem)
  | 0, _, _, _ => none
  | n + 1, a1, a2, M3 =>
  if (3 : Int32) ≤ a2 then (some (a1, M3))
  else ((fX6_balanceOf t x1 a2 M3).bind fun v6 =>
  (lX6_moveToShelf_25 t x1 a2 FUEL a1 v6 ((M3.1 t 1) - (1 : Int32)) M3).bind (un2 fun a26 M27 => lX6_moveToShelf_4 t x1 n a26 (a2 + 1) M27))

def fX6_moveToShelf (t : Nat) (x1 : Int32) (M : Mem) : Option (Int32 × Mem) :=
  (lX6_moveToShelf_4 t x1 FUEL (0 : Int32) (0 : Int32) M).bind (un2 fun a28 M29 => some (a28, M29))

def rX6_moveToShelf : Room := { frames := 4, cells := 0, slots := 0, locals := 79 }
set_option maxRecDepth 100000 in
set_option maxHeartbeats 4000000 in
theorem c_X6_moveToShelf (l : Launch) (G : Gx) (n0 : Nat) {t : Nat} {x1 : Int32} (hk : lay[t]? = some (tK 6)) {M : Mem} {r : Int32} {M' : Mem} (hf : fX6_moveToShelf t x1 M = some (r, M')) : Ct l yX6_moveToShelf cX6_moveToShelf 6 (some .int) rX6_moveToShelf G n0 [.ref (n0 + t), .int x1] M (some (.int r)) M' := by
  refine ct_int (cc := cX6_moveToShelf) (maxL := 6) rfl (Nat.le_of_ble_eq_true rfl) ?_
  intro K C hret
  have C : Ok K l rX6_moveToShelf cX6_moveToShelf RX6 G n0 6 := C
  show J K M 0 [(0, .ref (n0 + t)), (1, .int x1)] []
  unfold fX6_moveToShelf at hf
  refine j_iconst C (0 : Int32) rfl dX6_moveToShelf_0 ?_
  refine j_istore_n C [(2, .int (0 : Int32)), (0, .ref (n0 + t)), (1, .int x1)] dX6_moveToShelf_1 rfl (Nat.le_of_ble_eq_true rfl) rfl ?_
  refine j_iconst C (0 : Int32) rfl dX6_moveToShelf_2 ?_
  refine j_istore_n C [(3, .int (0 : Int32)), (2, .int (0 : Int32)), (0, .ref (n0 + t)), (1, .int x1)] dX6_moveToShelf_3 rfl (Nat.le_of_ble_eq_true rfl) rfl ?_
  obtain ⟨⟨a28, M29⟩, e30, hf⟩ := bd hf
  replace hf := un2e hf
  have hx31 : J K M29 98 [(2, .int a28)] [] := by
    refine j_iload_n C 0 dX6_moveToShelf_98 rfl rfl ?_
    obtain ⟨rfl, rfl⟩ := Prod.mk.inj (Option.some.inj hf)
    exact hret _ _ dX6_moveToShelf_99
  clear hf
  have hl32 : ∀ (n : Nat) (a1 : Int32) (a2 : Int32) (M3 : Mem), lX6_moveToShelf_4 t x1 n a1 a2 M3 = some (a28, M29) → J K M3 4 [(0, .ref (n0 + t)), (1, .int x1), (2, .int a1), (3, .int a2)] [] := by
    intro n
    induction n with
    | zero =>
      intro a1 a2 M3 hf
      exact absurd hf (by rw [lX6_moveToShelf_4]; exact fun h => by cases h)
    | succ n ih =>
      intro a1 a2 M3 hf
      rw [lX6_moveToShelf_4] at hf
      refine j_iload_n C 3 dX6_moveToShelf_4 rfl rfl ?_
      refine j_iconst C (3 : Int32) rfl dX6_moveToShelf_5 ?_
      refine j_icmp_ge C 98 dX6_moveToShelf_6 (by decide) (fun c4 => ?_) (fun c4 => ?_)
      · replace hf := ip c4 hf
        refine j_sub [2] rfl ?_
        cases hf
        exact hx31
      · replace hf := ine c4 hf
        refine j_aload_n C 0 dX6_moveToShelf_9 rfl rfl ?_
        refine j_iload_n C 1 dX6_moveToShelf_10 rfl rfl ?_
        refine j_iload_n C 3 dX6_moveToShelf_11 rfl rfl ?_
        obtain ⟨v6, e5, hf⟩ := bd hf
        refine j_callV C 2 hk (ent_K _ _ _ _ _ _) rfl (c_X6_balanceOf l G n0 hk e5) gv_RX6_83 ⟨rfl, rfl⟩ (by decide +kernel) ⟨Nat.le_of_ble_eq_true rfl, Nat.le_of_ble_eq_true rfl⟩ rfl rfl (Nat.le_of_ble_eq_true rfl) dX6_moveToShelf_12 ?_
        refine j_istore C [(4, .int v6), (0, .ref (n0 + t)), (1, .int x1), (2, .int a1), (3, .int a2)] dX6_moveToShelf_15 (Nat.le_of_ble_eq_true rfl) rfl ?_
        refine j_aload_n C 1 dX6_moveToShelf_17 rfl rfl ?_
        refine g_X6_cameOut C tw1_105 hk dX6_moveToShelf_18 ?_
        refine j_iconst C (1 : Int32) rfl dX6_moveToShelf_21 ?_
        refine j_isub C dX6_moveToShelf_22 ?_
        refine j_istore C [(5, .int ((M3.1 t 1) - (1 : Int32))), (4, .int v6), (0, .ref (n0 + t)), (1, .int x1), (2, .int a1), (3, .int a2)] dX6_moveToShelf_23 (Nat.le_of_ble_eq_true rfl) rfl ?_
        obtain ⟨⟨a26, M27⟩, e35, hf⟩ := bd hf
        replace hf := un2e hf
        have hx36 : J K M27 92 [(0, .ref (n0 + t)), (1, .int x1), (2, .int a26), (3, .int a2)] [] := by
          refine j_iinc C 3 (a2 + 1) [(3, .int (a2 + 1)), (0, .ref (n0 + t)), (1, .int x1), (2, .int a26)] dX6_moveToShelf_92 rfl rfl (Nat.le_of_ble_eq_true rfl) rfl ?_
          refine j_goto C 4 dX6_moveToShelf_95 (by decide) ?_
          refine j_sub [1, 2, 3, 0] rfl ?_
          exact ih _ _ _ hf
        clear hf
        have hl37 : ∀ (n : Nat) (a7 : Int32) (a8 : Int32) (a9 : Int32) (M10 : Mem), lX6_moveToShelf_25 t x1 a2 n a7 a8 a9 M10 = some (a26, M27) → J K M10 25 [(0, .ref (n0 + t)), (1, .int x1), (2, .int a7), (3, .int a2), (4, .int a8), (5, .int a9)] [] := by
          intro n
          induction n with
          | zero =>
            intro a7 a8 a9 M10 hf
            exact absurd hf (by rw [lX6_moveToShelf_25]; exact fun h => by cases h)
          | succ n ih =>
            intro a7 a8 a9 M10 hf
            rw [lX6_moveToShelf_25] at hf
            refine j_iload C 5 dX6_moveToShelf_25 rfl ?_
            refine j_aload_n C 0 dX6_moveToShelf_27 rfl rfl ?_
            obtain ⟨v12, e11, hf⟩ := bd hf
            refine j_callV C 0 hk (ent_K _ _ _ _ _ _) rfl (c_X6_firstKept l G n0 hk e11) gv_RX6_41 ⟨rfl, rfl⟩ (by decide +kernel) ⟨Nat.le_of_ble_eq_true rfl, Nat.le_of_ble_eq_true rfl⟩ rfl rfl (Nat.le_of_ble_eq_true rfl) dX6_moveToShelf_28 ?_
            refine j_icmp_lt C 92 dX6_moveToShelf_31 (by decide) (fun c13 => ?_) (fun c13 => ?_)
            · replace hf := ip c13 hf
              refine j_sub [0, 1, 2, 3] rfl ?_
              cases hf
              exact hx36
            · replace hf := ine c13 hf
              refine j_iload C 4 dX6_moveToShelf_34 rfl ?_
              refine j_if_ge C 92 dX6_moveToShelf_36 (by decide) (fun c14 => ?_) (fun c14 => ?_)
              · replace hf := ip c14 hf
                refine j_sub [0, 1, 2, 3] rfl ?_
                cases hf
                exact hx36
              · replace hf := ine c14 hf
                refine j_aload_n C 0 dX6_moveToShelf_39 rfl rfl ?_
                refine j_iload C 5 dX6_moveToShelf_40 rfl ?_
                refine j_iconst C (1 : Int32) rfl dX6_moveToShelf_42 ?_
                obtain ⟨v16, e15, hf⟩ := bd hf
                refine j_callV C 2 hk (ent_K _ _ _ _ _ _) rfl (c_X6_value l G n0 hk e15) gv_RX6_60 ⟨rfl, rfl⟩ (by decide +kernel) ⟨Nat.le_of_ble_eq_true rfl, Nat.le_of_ble_eq_true rfl⟩ rfl rfl (Nat.le_of_ble_eq_true rfl) dX6_moveToShelf_43 ?_
                refine j_iload_n C 3 dX6_moveToShelf_46 rfl rfl ?_
                refine j_icmp_ne C 86 dX6_moveToShelf_47 (by decide) (fun c17 => ?_) (fun c17 => ?_)
                · replace hf := ine c17 hf
                  refine j_iinc C 5 (a9 + (-1)) [(5, .int (a9 + (-1))), (0, .ref (n0 + t)), (1, .int x1), (2, .int a7), (3, .int a2), (4, .int a8)] dX6_moveToShelf_86 rfl rfl (Nat.le_of_ble_eq_true rfl) rfl ?_
                  refine j_goto C 25 dX6_moveToShelf_89 (by decide) ?_
                  refine j_sub [1, 2, 3, 4, 5, 0] rfl ?_
                  exact ih _ _ _ _ hf
                · replace hf := ip c17 hf
                  refine j_aload_n C 0 dX6_moveToShelf_50 rfl rfl ?_
                  refine j_iload C 5 dX6_moveToShelf_51 rfl ?_
                  refine j_iconst C (5 : Int32) rfl dX6_moveToShelf_53 ?_
                  obtain ⟨v19, e18, hf⟩ := bd hf
                  refine j_callV C 2 hk (ent_K _ _ _ _ _ _) rfl (c_X6_value l G n0 hk e18) gv_RX6_60 ⟨rfl, rfl⟩ (by decide +kernel) ⟨Nat.le_of_ble_eq_true rfl, Nat.le_of_ble_eq_true rfl⟩ rfl rfl (Nat.le_of_ble_eq_true rfl) dX6_moveToShelf_54 ?_
                  refine j_iload_n C 1 dX6_moveToShelf_57 rfl rfl ?_
                  refine j_icmp_ne C 86 dX6_moveToShelf_58 (by decide) (fun c20 => ?_) (fun c20 => ?_)
                  · replace hf := ine c20 hf
                    refine j_iinc C 5 (a9 + (-1)) [(5, .int (a9 + (-1))), (0, .ref (n0 + t)), (1, .int x1), (2, .int a7), (3, .int a2), (4, .int a8)] dX6_moveToShelf_86 rfl rfl (Nat.le_of_ble_eq_true rfl) rfl ?_
                    refine j_goto C 25 dX6_moveToShelf_89 (by decide) ?_
                    refine j_sub [1, 2, 3, 4, 5, 0] rfl ?_
                    exact ih _ _ _ _ hf
                  · replace hf := ip c20 hf
                    refine j_aload_n C 0 dX6_moveToShelf_61 rfl rfl ?_
                    refine j_iload C 5 dX6_moveToShelf_62 rfl ?_
                    refine j_iconst C (0 : Int32) rfl dX6_moveToShelf_64 ?_
                    obtain ⟨v22, e21, hf⟩ := bd hf
                    refine j_callV C 2 hk (ent_K _ _ _ _ _ _) rfl (c_X6_value l G n0 hk e21) gv_RX6_60 ⟨rfl, rfl⟩ (by decide +kernel) ⟨Nat.le_of_ble_eq_true rfl, Nat.le_of_ble_eq_true rfl⟩ rfl rfl (Nat.le_of_ble_eq_true rfl) dX6_moveToShelf_65 ?_
                    refine j_iload_n C 1 dX6_moveToShelf_68 rfl rfl ?_
                    refine j_icmp_eq C 86 dX6_moveToShelf_69 (by decide) (fun c23 => ?_) (fun c23 => ?_)
                    · replace hf := ip c23 hf
                      refine j_iinc C 5 (a9 + (-1)) [(5, .int (a9 + (-1))), (0, .ref (n0 + t)), (1, .int x1), (2, .int a7), (3, .int a2), (4, .int a8)] dX6_moveToShelf_86 rfl rfl (Nat.le_of_ble_eq_true rfl) rfl ?_
                      refine j_goto C 25 dX6_moveToShelf_89 (by decide) ?_
                      refine j_sub [1, 2, 3, 4, 5, 0] rfl ?_
                      exact ih _ _ _ _ hf
                    · replace hf := ine c23 hf
                      refine j_aload_n C 0 dX6_moveToShelf_72 rfl rfl ?_
                      refine j_iload C 5 dX6_moveToShelf_73 rfl ?_
                      refine j_bipush C (8 : Int32) rfl dX6_moveToShelf_75 ?_
                      obtain ⟨M25, e24, hf⟩ := bd hf
                      refine j_callV C 2 hk (ent_K _ _ _ _ _ _) rfl (c_X6_give l G n0 hk e24) gv_RX6_68 ⟨rfl, rfl⟩ (by decide +kernel) ⟨Nat.le_of_ble_eq_true rfl, Nat.le_of_ble_eq_true rfl⟩ rfl rfl (Nat.le_of_ble_eq_true rfl) dX6_moveToShelf_77 ?_
                      refine j_iinc C 4 (a8 + 1) [(4, .int (a8 + 1)), (0, .ref (n0 + t)), (1, .int x1), (2, .int a7), (3, .int a2), (5, .int a9)] dX6_moveToShelf_80 rfl rfl (Nat.le_of_ble_eq_true rfl) rfl ?_
                      refine j_iinc C 3 (a7 + 1) [(2, .int (a7 + 1)), (4, .int (a8 + 1)), (0, .ref (n0 + t)), (1, .int x1), (3, .int a2), (5, .int a9)] dX6_moveToShelf_83 rfl rfl (Nat.le_of_ble_eq_true rfl) rfl ?_
                      refine j_iinc C 5 (a9 + (-1)) [(5, .int (a9 + (-1))), (2, .int (a7 + 1)), (4, .int (a8 + 1)), (0, .ref (n0 + t)), (1, .int x1), (3, .int a2)] dX6_moveToShelf_86 rfl rfl (Nat.le_of_ble_eq_true rfl) rfl ?_
                      refine j_goto C 25 dX6_moveToShelf_89 (by decide) ?_
                      refine j_sub [3, 4, 1, 5, 2, 0] rfl ?_
                      exact ih _ _ _ _ hf
        refine j_sub [2, 3, 4, 5, 1, 0] rfl ?_
        exact hl37 FUEL a1 v6 ((M3.1 t 1) - (1 : Int32)) M3 e35
  refine j_sub [2, 3, 1, 0] rfl ?_
  exact hl32 FUEL (0 : Int32) (0 : Int32) M e30
def lX6_emptyShelf_4 (t : Nat) : Nat → Int32 → Int32 → Mem → Option (Int32 × Mem)
  | 0, _, _, _ => none
  | n + 1, a1, a2, M3 =>
  (fX6_kept t M3).bind fun v5 =>
  if v5 ≤ a2 then (some (a1, M3))
  else ((fX7_get (t + 1) 7 200 a2 (5 : Int32) M3).bind fun v8 =>
  if v8 = (8 : Int32) then ((fX7_put (t + 1) 7 200 a2 (5 : Int32) (-1 : Int32) M3).bind fun M11 =>
  lX6_emptyShelf_4 t n (a1 + 1) (a2 + 1) M11)
  else (lX6_emptyShelf_4 t n a1 (a2 + 1) M3))

def fX6_emptyShelf (t : Nat) (M : Mem) : Option (Int32 × Mem) :=
  (lX6_emptyShelf_4 t FUEL (0 : Int32) (0 : Int32) M).bind (un2 fun a12 M13 => some (a12, M13))

def rX6_emptyShelf : Room := { frames := 2, cells := 0, slots := 0, locals := 33 }
set_option maxRecDepth 100000 in
set_option maxHeartbeats 4000000 in
theorem c_X6_emptyShelf (l : Launch) (G : Gx) (n0 : Nat) {t : Nat} (hk : lay[t]? = some (tK 6)) {M : Mem} {r : Int32} {M' : Mem} (hf : fX6_emptyShelf t M = some (r, M')) : Ct l yX6_emptyShelf cX6_emptyShelf 3 (some .int) rX6_emptyShelf G n0 [.ref (n0 + t)] M (some (.int r)) M' := by
  refine ct_int (cc := cX6_emptyShelf) (maxL := 3) rfl (Nat.le_of_ble_eq_true rfl) ?_
  intro K C hret
  have C : Ok K l rX6_emptyShelf cX6_emptyShelf RX6 G n0 3 := C
  show J K M 0 [(0, .ref (n0 + t))] []
  unfold fX6_emptyShelf at hf
  refine j_iconst C (0 : Int32) rfl dX6_emptyShelf_0 ?_
  refine j_istore_n C [(1, .int (0 : Int32)), (0, .ref (n0 + t))] dX6_emptyShelf_1 rfl (Nat.le_of_ble_eq_true rfl) rfl ?_
  refine j_iconst C (0 : Int32) rfl dX6_emptyShelf_2 ?_
  refine j_istore_n C [(2, .int (0 : Int32)), (1, .int (0 : Int32)), (0, .ref (n0 + t))] dX6_emptyShelf_3 rfl (Nat.le_of_ble_eq_true rfl) rfl ?_
  obtain ⟨⟨a12, M13⟩, e14, hf⟩ := bd hf
  replace hf := un2e hf
  have hx15 : J K M13 45 [(1, .int a12)] [] := by
    refine j_iload_n C 0 dX6_emptyShelf_45 rfl rfl ?_
    obtain ⟨rfl, rfl⟩ := Prod.mk.inj (Option.some.inj hf)
    exact hret _ _ dX6_emptyShelf_46
  clear hf
  have hl16 : ∀ (n : Nat) (a1 : Int32) (a2 : Int32) (M3 : Mem), lX6_emptyShelf_4 t n a1 a2 M3 = some (a12, M13) → J K M3 4 [(0, .ref (n0 + t)), (1, .int a1), (2, .int a2)] [] := by
    intro n
    induction n with
    | zero =>
      intro a1 a2 M3 hf
      exact absurd hf (by rw [lX6_emptyShelf_4]; exact fun h => by cases h)
    | succ n ih =>
      intro a1 a2 M3 hf
      rw [lX6_emptyShelf_4] at hf
      refine j_iload_n C 2 dX6_emptyShelf_4 rfl rfl ?_
      refine j_aload_n C 0 dX6_emptyShelf_5 rfl rfl ?_
      obtain ⟨v5, e4, hf⟩ := bd hf
      refine j_callV C 0 hk (ent_K _ _ _ _ _ _) rfl (c_X6_kept l G n0 hk e4) gv_RX6_20 ⟨rfl, rfl⟩ (by decide +kernel) ⟨Nat.le_of_ble_eq_true rfl, Nat.le_of_ble_eq_true rfl⟩ rfl rfl (Nat.le_of_ble_eq_true rfl) dX6_emptyShelf_6 ?_
      refine j_icmp_ge C 45 dX6_emptyShelf_9 (by decide) (fun c6 => ?_) (fun c6 => ?_)
      · replace hf := ip c6 hf
        refine j_sub [1] rfl ?_
        cases hf
        exact hx15
      · replace hf := ine c6 hf
        refine j_aload_n C 0 dX6_emptyShelf_12 rfl rfl ?_
        refine g_X6_rows C tw1_104 hk (t + 1) rfl dX6_emptyShelf_13 ?_
        refine j_iload_n C 2 dX6_emptyShelf_16 rfl rfl ?_
        refine j_iconst C (5 : Int32) rfl dX6_emptyShelf_17 ?_
        obtain ⟨v8, e7, hf⟩ := bd hf
        refine j_callV C 2 (k6_1 hk).1 (ent_T _ _ _ _ _ _) rfl (c_X7_get l G n0 (k6_1 hk) e7) gv_RX6_44 ⟨rfl, rfl⟩ (by decide +kernel) ⟨Nat.le_of_ble_eq_true rfl, Nat.le_of_ble_eq_true rfl⟩ rfl rfl (Nat.le_of_ble_eq_true rfl) dX6_emptyShelf_18 ?_
        refine j_bipush C (8 : Int32) rfl dX6_emptyShelf_21 ?_
        refine j_icmp_ne C 39 dX6_emptyShelf_23 (by decide) (fun c9 => ?_) (fun c9 => ?_)
        · replace hf := ine c9 hf
          refine j_iinc C 2 (a2 + 1) [(2, .int (a2 + 1)), (0, .ref (n0 + t)), (1, .int a1)] dX6_emptyShelf_39 rfl rfl (Nat.le_of_ble_eq_true rfl) rfl ?_
          refine j_goto C 4 dX6_emptyShelf_42 (by decide) ?_
          refine j_sub [1, 2, 0] rfl ?_
          exact ih _ _ _ hf
        · replace hf := ip c9 hf
          refine j_aload_n C 0 dX6_emptyShelf_26 rfl rfl ?_
          refine g_X6_rows C tw1_104 hk (t + 1) rfl dX6_emptyShelf_27 ?_
          refine j_iload_n C 2 dX6_emptyShelf_30 rfl rfl ?_
          refine j_iconst C (5 : Int32) rfl dX6_emptyShelf_31 ?_
          refine j_iconst C (-1 : Int32) rfl dX6_emptyShelf_32 ?_
          obtain ⟨M11, e10, hf⟩ := bd hf
          refine j_callV C 3 (k6_1 hk).1 (ent_T _ _ _ _ _ _) rfl (c_X7_put l G n0 (k6_1 hk) e10) gv_RX6_47 ⟨rfl, rfl⟩ (by decide +kernel) ⟨Nat.le_of_ble_eq_true rfl, Nat.le_of_ble_eq_true rfl⟩ rfl rfl (Nat.le_of_ble_eq_true rfl) dX6_emptyShelf_33 ?_
          refine j_iinc C 1 (a1 + 1) [(1, .int (a1 + 1)), (0, .ref (n0 + t)), (2, .int a2)] dX6_emptyShelf_36 rfl rfl (Nat.le_of_ble_eq_true rfl) rfl ?_
          refine j_iinc C 2 (a2 + 1) [(2, .int (a2 + 1)), (1, .int (a1 + 1)), (0, .ref (n0 + t))] dX6_emptyShelf_39 rfl rfl (Nat.le_of_ble_eq_true rfl) rfl ?_
          refine j_goto C 4 dX6_emptyShelf_42 (by decide) ?_
          refine j_sub [2, 1, 0] rfl ?_
          exact ih _ _ _ hf
  refine j_sub [2, 1, 0] rfl ?_
  exact hl16 FUEL (0 : Int32) (0 : Int32) M e14
def fX6_countWith (t : Nat) (x1 : Int32) (x2 : Int32) (M : Mem) : Option Int32 :=
  (fX6_kept t M).bind fun v2 =>
  (fX7_count (t + 1) 7 200 v2 x1 x2 M).bind fun v4 =>
  some v4

def rX6_countWith : Room := { frames := 2, cells := 0, slots := 0, locals := 52 }
set_option maxRecDepth 100000 in
set_option maxHeartbeats 4000000 in
theorem c_X6_countWith (l : Launch) (G : Gx) (n0 : Nat) {t : Nat} {x1 : Int32} {x2 : Int32} (hk : lay[t]? = some (tK 6)) {M : Mem} {r : Int32} (hf : fX6_countWith t x1 x2 M = some r) : Ct l yX6_countWith cX6_countWith 3 (some .int) rX6_countWith G n0 [.ref (n0 + t), .int x1, .int x2] M (some (.int r)) M := by
  refine ct_int (cc := cX6_countWith) (maxL := 3) rfl (Nat.le_of_ble_eq_true rfl) ?_
  intro K C hret
  have C : Ok K l rX6_countWith cX6_countWith RX6 G n0 3 := C
  show J K M 0 [(0, .ref (n0 + t)), (1, .int x1), (2, .int x2)] []
  unfold fX6_countWith at hf
  refine j_aload_n C 0 dX6_countWith_0 rfl rfl ?_
  refine g_X6_rows C tw1_104 hk (t + 1) rfl dX6_countWith_1 ?_
  refine j_aload_n C 0 dX6_countWith_4 rfl rfl ?_
  obtain ⟨v2, e1, hf⟩ := bd hf
  refine j_callV C 0 hk (ent_K _ _ _ _ _ _) rfl (c_X6_kept l G n0 hk e1) gv_RX6_20 ⟨rfl, rfl⟩ (by decide +kernel) ⟨Nat.le_of_ble_eq_true rfl, Nat.le_of_ble_eq_true rfl⟩ rfl rfl (Nat.le_of_ble_eq_true rfl) dX6_countWith_5 ?_
  refine j_iload_n C 1 dX6_countWith_8 rfl rfl ?_
  refine j_iload_n C 2 dX6_countWith_9 rfl rfl ?_
  obtain ⟨v4, e3, hf⟩ := bd hf
  refine j_callV C 3 (k6_1 hk).1 (ent_T _ _ _ _ _ _) rfl (c_X7_count l G n0 (k6_1 hk) e3) gv_RX6_71 ⟨rfl, rfl⟩ (by decide +kernel) ⟨Nat.le_of_ble_eq_true rfl, Nat.le_of_ble_eq_true rfl⟩ rfl rfl (Nat.le_of_ble_eq_true rfl) dX6_countWith_10 ?_
  obtain rfl := Option.some.inj hf
  exact hret _ _ dX6_countWith_13
def fX1_countOf (t : Nat) (x1 : Int32) (M : Mem) : Option Int32 :=
  (fX7_count (t + 1) 3 20 (M.1 t 1) (0 : Int32) x1 M).bind fun v2 =>
  some v2

def rX1_countOf : Room := { frames := 2, cells := 0, slots := 0, locals := 52 }
set_option maxRecDepth 100000 in
set_option maxHeartbeats 4000000 in
theorem c_X1_countOf (l : Launch) (G : Gx) (n0 : Nat) {t : Nat} {x1 : Int32} (hk : lay[t]? = some (tK 1)) {M : Mem} {r : Int32} (hf : fX1_countOf t x1 M = some r) : Ct l yX1_countOf cX1_countOf 2 (some .int) rX1_countOf G n0 [.ref (n0 + t), .int x1] M (some (.int r)) M := by
  refine ct_int (cc := cX1_countOf) (maxL := 2) rfl (Nat.le_of_ble_eq_true rfl) ?_
  intro K C hret
  have C : Ok K l rX1_countOf cX1_countOf RX1 G n0 2 := C
  show J K M 0 [(0, .ref (n0 + t)), (1, .int x1)] []
  unfold fX1_countOf at hf
  refine j_aload_n C 0 dX1_countOf_0 rfl rfl ?_
  refine g_X1_rows C tw1_74 hk (t + 1) rfl dX1_countOf_1 ?_
  refine j_aload_n C 0 dX1_countOf_4 rfl rfl ?_
  refine g_X1_count C tw1_75 hk dX1_countOf_5 ?_
  refine j_iconst C (0 : Int32) rfl dX1_countOf_8 ?_
  refine j_iload_n C 1 dX1_countOf_9 rfl rfl ?_
  obtain ⟨v2, e1, hf⟩ := bd hf
  refine j_callV C 3 (k1_1 hk).1 (ent_T _ _ _ _ _ _) rfl (c_X7_count l G n0 (k1_1 hk) e1) gv_RX1_32 ⟨rfl, rfl⟩ (by decide +kernel) ⟨Nat.le_of_ble_eq_true rfl, Nat.le_of_ble_eq_true rfl⟩ rfl rfl (Nat.le_of_ble_eq_true rfl) dX1_countOf_10 ?_
  obtain rfl := Option.some.inj hf
  exact hret _ _ dX1_countOf_13
def fX6_keeps (t : Nat) (x1 : Int32) (M : Mem) : Option Bool :=
  (fX6_firstKept t M).bind fun v2 =>
  if x1 < v2 then (some false)
  else (if (M.1 t 1) ≤ x1 then (some false)
  else (some true))

def rX6_keeps : Room := { frames := 3, cells := 0, slots := 0, locals := 53 }
set_option maxRecDepth 100000 in
set_option maxHeartbeats 4000000 in
theorem c_X6_keeps (l : Launch) (G : Gx) (n0 : Nat) {t : Nat} {x1 : Int32} (hk : lay[t]? = some (tK 6)) {M : Mem} {r : Bool} (hf : fX6_keeps t x1 M = some r) : Ct l yX6_keeps cX6_keeps 2 (some .boolean) rX6_keeps G n0 [.ref (n0 + t), .int x1] M (some (.int (bI r))) M := by
  refine ct_bool (cc := cX6_keeps) (maxL := 2) rfl (Nat.le_of_ble_eq_true rfl) ?_
  intro K C hret
  have C : Ok K l rX6_keeps cX6_keeps RX6 G n0 2 := C
  show J K M 0 [(0, .ref (n0 + t)), (1, .int x1)] []
  unfold fX6_keeps at hf
  refine j_iload_n C 1 dX6_keeps_0 rfl rfl ?_
  refine j_aload_n C 0 dX6_keeps_1 rfl rfl ?_
  obtain ⟨v2, e1, hf⟩ := bd hf
  refine j_callV C 0 hk (ent_K _ _ _ _ _ _) rfl (c_X6_firstKept l G n0 hk e1) gv_RX6_41 ⟨rfl, rfl⟩ (by decide +kernel) ⟨Nat.le_of_ble_eq_true rfl, Nat.le_of_ble_eq_true rfl⟩ rfl rfl (Nat.le_of_ble_eq_true rfl) dX6_keeps_2 ?_
  refine j_icmp_lt C 20 dX6_keeps_5 (by decide) (fun c3 => ?_) (fun c3 => ?_)
  · replace hf := ip c3 hf
    refine j_iconst C (0 : Int32) rfl dX6_keeps_20 ?_
    obtain rfl := Option.some.inj hf
    exact hret _ _ dX6_keeps_21
  · replace hf := ine c3 hf
    refine j_iload_n C 1 dX6_keeps_8 rfl rfl ?_
    refine j_aload_n C 0 dX6_keeps_9 rfl rfl ?_
    refine g_X6_cameOut C tw1_105 hk dX6_keeps_10 ?_
    refine j_icmp_ge C 20 dX6_keeps_13 (by decide) (fun c4 => ?_) (fun c4 => ?_)
    · replace hf := ip c4 hf
      refine j_iconst C (0 : Int32) rfl dX6_keeps_20 ?_
      obtain rfl := Option.some.inj hf
      exact hret _ _ dX6_keeps_21
    · replace hf := ine c4 hf
      refine j_iconst C (1 : Int32) rfl dX6_keeps_16 ?_
      refine j_goto C 21 dX6_keeps_17 (by decide) ?_
      obtain rfl := Option.some.inj hf
      exact hret _ _ dX6_keeps_21
def fX4_sumOf (t : Nat) (x1 : Int32) (M : Mem) : Option Int32 :=
  (fX7_sum (t + 1) 4 8 (M.1 t 1) x1 M).bind fun v2 =>
  some v2

def rX4_sumOf : Room := { frames := 1, cells := 0, slots := 0, locals := 25 }
set_option maxRecDepth 100000 in
set_option maxHeartbeats 4000000 in
theorem c_X4_sumOf (l : Launch) (G : Gx) (n0 : Nat) {t : Nat} {x1 : Int32} (hk : lay[t]? = some (tK 4)) {M : Mem} {r : Int32} (hf : fX4_sumOf t x1 M = some r) : Ct l yX4_sumOf cX4_sumOf 2 (some .int) rX4_sumOf G n0 [.ref (n0 + t), .int x1] M (some (.int r)) M := by
  refine ct_int (cc := cX4_sumOf) (maxL := 2) rfl (Nat.le_of_ble_eq_true rfl) ?_
  intro K C hret
  have C : Ok K l rX4_sumOf cX4_sumOf RX4 G n0 2 := C
  show J K M 0 [(0, .ref (n0 + t)), (1, .int x1)] []
  unfold fX4_sumOf at hf
  refine j_aload_n C 0 dX4_sumOf_0 rfl rfl ?_
  refine g_X4_rows C tw1_59 hk (t + 1) rfl dX4_sumOf_1 ?_
  refine j_aload_n C 0 dX4_sumOf_4 rfl rfl ?_
  refine g_X4_count C tw1_60 hk dX4_sumOf_5 ?_
  refine j_iload_n C 1 dX4_sumOf_8 rfl rfl ?_
  obtain ⟨v2, e1, hf⟩ := bd hf
  refine j_callV C 2 (k4_1 hk).1 (ent_T _ _ _ _ _ _) rfl (c_X7_sum l G n0 (k4_1 hk) e1) gv_RX4_32 ⟨rfl, rfl⟩ (by decide +kernel) ⟨Nat.le_of_ble_eq_true rfl, Nat.le_of_ble_eq_true rfl⟩ rfl rfl (Nat.le_of_ble_eq_true rfl) dX4_sumOf_9 ?_
  obtain rfl := Option.some.inj hf
  exact hret _ _ dX4_sumOf_12
def fX6_pale (t : Nat) (M : Mem) : Option Int32 :=
  some (M.1 t 2)

def rX6_pale : Room := { frames := 0, cells := 0, slots := 0, locals := 0 }
set_option maxRecDepth 100000 in
set_option maxHeartbeats 4000000 in
theorem c_X6_pale (l : Launch) (G : Gx) (n0 : Nat) {t : Nat} (hk : lay[t]? = some (tK 6)) {M : Mem} {r : Int32} (hf : fX6_pale t M = some r) : Ct l yX6_pale cX6_pale 1 (some .int) rX6_pale G n0 [.ref (n0 + t)] M (some (.int r)) M := by
  refine ct_int (cc := cX6_pale) (maxL := 1) rfl (Nat.le_of_ble_eq_true rfl) ?_
  intro K C hret
  have C : Ok K l rX6_pale cX6_pale RX6 G n0 1 := C
  show J K M 0 [(0, .ref (n0 + t))] []
  unfold fX6_pale at hf
  refine j_aload_n C 0 dX6_pale_0 rfl rfl ?_
  refine g_X6_pale C tw1_106 hk dX6_pale_1 ?_
  obtain rfl := Option.some.inj hf
  exact hret _ _ dX6_pale_4
def lX6_countWithOthers_4 (t : Nat) (M : Mem) : Nat → Int32 → Int32 → Option Int32
  | 0, _, _ => none
  | n + 1, a1, a2 =>
  (fX6_kept t M).bind fun v4 =>
  if v4 ≤ a2 then (some a1)
  else ((fX7_get (t + 1) 7 200 a2 (5 : Int32) M).bind fun v7 =>
  if v7 = (-1 : Int32) then (lX6_countWithOthers_4 t M n a1 (a2 + 1))
  else (if v7 = (8 : Int32) then (lX6_countWithOthers_4 t M n a1 (a2 + 1))
  else ((fX7_get (t + 1) 7 200 a2 (0 : Int32) M).bind fun v11 =>
  if v7 = v11 then (lX6_countWithOthers_4 t M n a1 (a2 + 1))
  else (lX6_countWithOthers_4 t M n (a1 + 1) (a2 + 1)))))

def fX6_countWithOthers (t : Nat) (M : Mem) : Option Int32 :=
  (lX6_countWithOthers_4 t M FUEL (0 : Int32) (0 : Int32)).bind (fun a13 => some a13)

def rX6_countWithOthers : Room := { frames := 2, cells := 0, slots := 0, locals := 33 }
set_option maxRecDepth 100000 in
set_option maxHeartbeats 4000000 in
theorem c_X6_countWithOthers (l : Launch) (G : Gx) (n0 : Nat) {t : Nat} (hk : lay[t]? = some (tK 6)) {M : Mem} {r : Int32} (hf : fX6_countWithOthers t M = some r) : Ct l yX6_countWithOthers cX6_countWithOthers 4 (some .int) rX6_countWithOthers G n0 [.ref (n0 + t)] M (some (.int r)) M := by
  refine ct_int (cc := cX6_countWithOthers) (maxL := 4) rfl (Nat.le_of_ble_eq_true rfl) ?_
  intro K C hret
  have C : Ok K l rX6_countWithOthers cX6_countWithOthers RX6 G n0 4 := C
  show J K M 0 [(0, .ref (n0 + t))] []
  unfold fX6_countWithOthers at hf
  refine j_iconst C (0 : Int32) rfl dX6_countWithOthers_0 ?_
  refine j_istore_n C [(1, .int (0 : Int32)), (0, .ref (n0 + t))] dX6_countWithOthers_1 rfl (Nat.le_of_ble_eq_true rfl) rfl ?_
  refine j_iconst C (0 : Int32) rfl dX6_countWithOthers_2 ?_
  refine j_istore_n C [(2, .int (0 : Int32)), (1, .int (0 : Int32)), (0, .ref (n0 + t))] dX6_countWithOthers_3 rfl (Nat.le_of_ble_eq_true rfl) rfl ?_
  obtain ⟨a13, e14, hf⟩ := bd hf
  have hx15 : J K M 55 [(1, .int a13)] [] := by
    refine j_iload_n C 0 dX6_countWithOthers_55 rfl rfl ?_
    obtain rfl := Option.some.inj hf
    exact hret _ _ dX6_countWithOthers_56
  clear hf
  have hl16 : ∀ (n : Nat) (a1 : Int32) (a2 : Int32), lX6_countWithOthers_4 t M n a1 a2 = some a13 → J K M 4 [(0, .ref (n0 + t)), (1, .int a1), (2, .int a2)] [] := by
    intro n
    induction n with
    | zero =>
      intro a1 a2 hf
      exact absurd hf (by rw [lX6_countWithOthers_4]; exact fun h => by cases h)
    | succ n ih =>
      intro a1 a2 hf
      rw [lX6_countWithOthers_4] at hf
      refine j_iload_n C 2 dX6_countWithOthers_4 rfl rfl ?_
      refine j_aload_n C 0 dX6_countWithOthers_5 rfl rfl ?_
      obtain ⟨v4, e3, hf⟩ := bd hf
      refine j_callV C 0 hk (ent_K _ _ _ _ _ _) rfl (c_X6_kept l G n0 hk e3) gv_RX6_20 ⟨rfl, rfl⟩ (by decide +kernel) ⟨Nat.le_of_ble_eq_true rfl, Nat.le_of_ble_eq_true rfl⟩ rfl rfl (Nat.le_of_ble_eq_true rfl) dX6_countWithOthers_6 ?_
      refine j_icmp_ge C 55 dX6_countWithOthers_9 (by decide) (fun c5 => ?_) (fun c5 => ?_)
      · replace hf := ip c5 hf
        refine j_sub [1] rfl ?_
        cases hf
        exact hx15
      · replace hf := ine c5 hf
        refine j_aload_n C 0 dX6_countWithOthers_12 rfl rfl ?_
        refine g_X6_rows C tw1_104 hk (t + 1) rfl dX6_countWithOthers_13 ?_
        refine j_iload_n C 2 dX6_countWithOthers_16 rfl rfl ?_
        refine j_iconst C (5 : Int32) rfl dX6_countWithOthers_17 ?_
        obtain ⟨v7, e6, hf⟩ := bd hf
        refine j_callV C 2 (k6_1 hk).1 (ent_T _ _ _ _ _ _) rfl (c_X7_get l G n0 (k6_1 hk) e6) gv_RX6_44 ⟨rfl, rfl⟩ (by decide +kernel) ⟨Nat.le_of_ble_eq_true rfl, Nat.le_of_ble_eq_true rfl⟩ rfl rfl (Nat.le_of_ble_eq_true rfl) dX6_countWithOthers_18 ?_
        refine j_istore_n C [(3, .int v7), (0, .ref (n0 + t)), (1, .int a1), (2, .int a2)] dX6_countWithOthers_21 rfl (Nat.le_of_ble_eq_true rfl) rfl ?_
        refine j_iload_n C 0 dX6_countWithOthers_22 rfl rfl ?_
        refine j_iconst C (-1 : Int32) rfl dX6_countWithOthers_23 ?_
        refine j_icmp_eq C 49 dX6_countWithOthers_24 (by decide) (fun c8 => ?_) (fun c8 => ?_)
        · replace hf := ip c8 hf
          refine j_iinc C 3 (a2 + 1) [(2, .int (a2 + 1)), (3, .int v7), (0, .ref (n0 + t)), (1, .int a1)] dX6_countWithOthers_49 rfl rfl (Nat.le_of_ble_eq_true rfl) rfl ?_
          refine j_goto C 4 dX6_countWithOthers_52 (by decide) ?_
          refine j_sub [2, 3, 0] rfl ?_
          exact ih _ _ hf
        · replace hf := ine c8 hf
          refine j_iload_n C 0 dX6_countWithOthers_27 rfl rfl ?_
          refine j_bipush C (8 : Int32) rfl dX6_countWithOthers_28 ?_
          refine j_icmp_eq C 49 dX6_countWithOthers_30 (by decide) (fun c9 => ?_) (fun c9 => ?_)
          · replace hf := ip c9 hf
            refine j_iinc C 3 (a2 + 1) [(2, .int (a2 + 1)), (3, .int v7), (0, .ref (n0 + t)), (1, .int a1)] dX6_countWithOthers_49 rfl rfl (Nat.le_of_ble_eq_true rfl) rfl ?_
            refine j_goto C 4 dX6_countWithOthers_52 (by decide) ?_
            refine j_sub [2, 3, 0] rfl ?_
            exact ih _ _ hf
          · replace hf := ine c9 hf
            refine j_iload_n C 0 dX6_countWithOthers_33 rfl rfl ?_
            refine j_aload_n C 1 dX6_countWithOthers_34 rfl rfl ?_
            refine g_X6_rows C tw1_104 hk (t + 1) rfl dX6_countWithOthers_35 ?_
            refine j_iload_n C 3 dX6_countWithOthers_38 rfl rfl ?_
            refine j_iconst C (0 : Int32) rfl dX6_countWithOthers_39 ?_
            obtain ⟨v11, e10, hf⟩ := bd hf
            refine j_callV C 2 (k6_1 hk).1 (ent_T _ _ _ _ _ _) rfl (c_X7_get l G n0 (k6_1 hk) e10) gv_RX6_44 ⟨rfl, rfl⟩ (by decide +kernel) ⟨Nat.le_of_ble_eq_true rfl, Nat.le_of_ble_eq_true rfl⟩ rfl rfl (Nat.le_of_ble_eq_true rfl) dX6_countWithOthers_40 ?_
            refine j_icmp_eq C 49 dX6_countWithOthers_43 (by decide) (fun c12 => ?_) (fun c12 => ?_)
            · replace hf := ip c12 hf
              refine j_iinc C 3 (a2 + 1) [(2, .int (a2 + 1)), (3, .int v7), (0, .ref (n0 + t)), (1, .int a1)] dX6_countWithOthers_49 rfl rfl (Nat.le_of_ble_eq_true rfl) rfl ?_
              refine j_goto C 4 dX6_countWithOthers_52 (by decide) ?_
              refine j_sub [2, 3, 0] rfl ?_
              exact ih _ _ hf
            · replace hf := ine c12 hf
              refine j_iinc C 2 (a1 + 1) [(1, .int (a1 + 1)), (3, .int v7), (0, .ref (n0 + t)), (2, .int a2)] dX6_countWithOthers_46 rfl rfl (Nat.le_of_ble_eq_true rfl) rfl ?_
              refine j_iinc C 3 (a2 + 1) [(2, .int (a2 + 1)), (1, .int (a1 + 1)), (3, .int v7), (0, .ref (n0 + t))] dX6_countWithOthers_49 rfl rfl (Nat.le_of_ble_eq_true rfl) rfl ?_
              refine j_goto C 4 dX6_countWithOthers_52 (by decide) ?_
              refine j_sub [3, 1, 0] rfl ?_
              exact ih _ _ hf
  refine j_sub [2, 1, 0] rfl ?_
  exact hl16 FUEL (0 : Int32) (0 : Int32) e14
def fX4_alike (x0 : Int32) (x1 : Int32) : Option Bool :=
  (fX11_contains x0 x1).bind fun b2 =>
  if b2 = true then (some true)
  else ((fX11_contains x1 x0).bind fun b5 =>
  if b5 = true then (some true)
  else (some false))

def rX4_alike : Room := { frames := 1, cells := 0, slots := 0, locals := 21 }
set_option maxRecDepth 100000 in
set_option maxHeartbeats 4000000 in
theorem c_X4_alike (l : Launch) (G : Gx) (n0 : Nat) {x0 : Int32} {x1 : Int32} {M : Mem} {r : Bool} (hf : fX4_alike x0 x1 = some r) : Ct l yX4_alike cX4_alike 2 (some .boolean) rX4_alike G n0 [.int x0, .int x1] M (some (.int (bI r))) M := by
  refine ct_bool (cc := cX4_alike) (maxL := 2) rfl (Nat.le_of_ble_eq_true rfl) ?_
  intro K C hret
  have C : Ok K l rX4_alike cX4_alike RX4 G n0 2 := C
  show J K M 0 [(0, .int x0), (1, .int x1)] []
  unfold fX4_alike at hf
  refine j_iload_n C 0 dX4_alike_0 rfl rfl ?_
  refine j_iload_n C 1 dX4_alike_1 rfl rfl ?_
  obtain ⟨b2, e1, hf⟩ := bd hf
  refine j_callSN C 2 (c_X11_contains l G n0 (M := M) e1) nxm_RX4_50 tw1_1 tw4_100 tw4_101 ⟨rfl, rfl⟩ (by decide +kernel) ⟨Nat.le_of_ble_eq_true rfl, Nat.le_of_ble_eq_true rfl⟩ rfl rfl (Nat.le_of_ble_eq_true rfl) dX4_alike_2 ?_
  refine j_ifz_ne C 16 dX4_alike_5 (by decide) (fun c3 => ?_) (fun c3 => ?_)
  · replace hf := ip c3 hf
    refine j_iconst C (1 : Int32) rfl dX4_alike_16 ?_
    refine j_goto C 21 dX4_alike_17 (by decide) ?_
    obtain rfl := Option.some.inj hf
    exact hret _ _ dX4_alike_21
  · replace hf := ine c3 hf
    refine j_iload_n C 1 dX4_alike_8 rfl rfl ?_
    refine j_iload_n C 0 dX4_alike_9 rfl rfl ?_
    obtain ⟨b5, e4, hf⟩ := bd hf
    refine j_callSN C 2 (c_X11_contains l G n0 (M := M) e4) nxm_RX4_50 tw1_1 tw4_100 tw4_101 ⟨rfl, rfl⟩ (by decide +kernel) ⟨Nat.le_of_ble_eq_true rfl, Nat.le_of_ble_eq_true rfl⟩ rfl rfl (Nat.le_of_ble_eq_true rfl) dX4_alike_10 ?_
    refine j_ifz_eq C 20 dX4_alike_13 (by decide) (fun c6 => ?_) (fun c6 => ?_)
    · replace hf := ine c6 hf
      refine j_iconst C (0 : Int32) rfl dX4_alike_20 ?_
      obtain rfl := Option.some.inj hf
      exact hret _ _ dX4_alike_21
    · replace hf := ip c6 hf
      refine j_iconst C (1 : Int32) rfl dX4_alike_16 ?_
      refine j_goto C 21 dX4_alike_17 (by decide) ?_
      obtain rfl := Option.some.inj hf
      exact hret _ _ dX4_alike_21
def lX4_likePairs_16 (t : Nat) (M : Mem) (a2 : Int32) : Nat → Int32 → Int32 → Option Int32
  | 0, _, _ => none
  | n + 1, a4, a5 =>
  if (M.1 t 1) ≤ a5 then (some a4)
  else ((fX7_get (t + 1) 4 8 a2 (0 : Int32) M).bind fun v8 =>
  (fX7_get (t + 1) 4 8 a5 (0 : Int32) M).bind fun v10 =>
  (fX4_alike v8 v10).bind fun b12 =>
  if b12 = true then (lX4_likePairs_16 t M a2 n (a4 + 1) (a5 + 1))
  else (lX4_likePairs_16 t M a2 n a4 (a5 + 1)))

def lX4_likePairs_4 (t : Nat) (M : Mem) : Nat → Int32 → Int32 → Option Int32
  | 0, _, _ => none
  | n + 1, a1, a2 =>
  if (M.1 t 1) ≤ a2 then (some a1)
  else ((lX4_likePairs_16 t M a2 FUEL a1 (a2 + (1 : Int32))).bind (fun a14 => lX4_likePairs_4 t M n a14 (a2 + 1)))

def fX4_likePairs (t : Nat) (M : Mem) : Option Int32 :=
  (lX4_likePairs_4 t M FUEL (0 : Int32) (0 : Int32)).bind (fun a15 => some a15)

def rX4_likePairs : Room := { frames := 2, cells := 0, slots := 0, locals := 42 }
set_option maxRecDepth 100000 in
set_option maxHeartbeats 4000000 in
theorem c_X4_likePairs (l : Launch) (G : Gx) (n0 : Nat) {t : Nat} (hk : lay[t]? = some (tK 4)) {M : Mem} {r : Int32} (hf : fX4_likePairs t M = some r) : Ct l yX4_likePairs cX4_likePairs 4 (some .int) rX4_likePairs G n0 [.ref (n0 + t)] M (some (.int r)) M := by
  refine ct_int (cc := cX4_likePairs) (maxL := 4) rfl (Nat.le_of_ble_eq_true rfl) ?_
  intro K C hret
  have C : Ok K l rX4_likePairs cX4_likePairs RX4 G n0 4 := C
  show J K M 0 [(0, .ref (n0 + t))] []
  unfold fX4_likePairs at hf
  refine j_iconst C (0 : Int32) rfl dX4_likePairs_0 ?_
  refine j_istore_n C [(1, .int (0 : Int32)), (0, .ref (n0 + t))] dX4_likePairs_1 rfl (Nat.le_of_ble_eq_true rfl) rfl ?_
  refine j_iconst C (0 : Int32) rfl dX4_likePairs_2 ?_
  refine j_istore_n C [(2, .int (0 : Int32)), (1, .int (0 : Int32)), (0, .ref (n0 + t))] dX4_likePairs_3 rfl (Nat.le_of_ble_eq_true rfl) rfl ?_
  obtain ⟨a15, e16, hf⟩ := bd hf
  have hx17 : J K M 63 [(1, .int a15)] [] := by
    refine j_iload_n C 0 dX4_likePairs_63 rfl rfl ?_
    obtain rfl := Option.some.inj hf
    exact hret _ _ dX4_likePairs_64
  clear hf
  have hl18 : ∀ (n : Nat) (a1 : Int32) (a2 : Int32), lX4_likePairs_4 t M n a1 a2 = some a15 → J K M 4 [(0, .ref (n0 + t)), (1, .int a1), (2, .int a2)] [] := by
    intro n
    induction n with
    | zero =>
      intro a1 a2 hf
      exact absurd hf (by rw [lX4_likePairs_4]; exact fun h => by cases h)
    | succ n ih =>
      intro a1 a2 hf
      rw [lX4_likePairs_4] at hf
      refine j_iload_n C 2 dX4_likePairs_4 rfl rfl ?_
      refine j_aload_n C 0 dX4_likePairs_5 rfl rfl ?_
      refine g_X4_count C tw1_60 hk dX4_likePairs_6 ?_
      refine j_icmp_ge C 63 dX4_likePairs_9 (by decide) (fun c3 => ?_) (fun c3 => ?_)
      · replace hf := ip c3 hf
        refine j_sub [1] rfl ?_
        cases hf
        exact hx17
      · replace hf := ine c3 hf
        refine j_iload_n C 2 dX4_likePairs_12 rfl rfl ?_
        refine j_iconst C (1 : Int32) rfl dX4_likePairs_13 ?_
        refine j_iadd C dX4_likePairs_14 ?_
        refine j_istore_n C [(3, .int (a2 + (1 : Int32))), (0, .ref (n0 + t)), (1, .int a1), (2, .int a2)] dX4_likePairs_15 rfl (Nat.le_of_ble_eq_true rfl) rfl ?_
        obtain ⟨a14, e21, hf⟩ := bd hf
        have hx22 : J K M 57 [(0, .ref (n0 + t)), (1, .int a14), (2, .int a2)] [] := by
          refine j_iinc C 2 (a2 + 1) [(2, .int (a2 + 1)), (0, .ref (n0 + t)), (1, .int a14)] dX4_likePairs_57 rfl rfl (Nat.le_of_ble_eq_true rfl) rfl ?_
          refine j_goto C 4 dX4_likePairs_60 (by decide) ?_
          refine j_sub [1, 2, 0] rfl ?_
          exact ih _ _ hf
        clear hf
        have hl23 : ∀ (n : Nat) (a4 : Int32) (a5 : Int32), lX4_likePairs_16 t M a2 n a4 a5 = some a14 → J K M 16 [(0, .ref (n0 + t)), (1, .int a4), (2, .int a2), (3, .int a5)] [] := by
          intro n
          induction n with
          | zero =>
            intro a4 a5 hf
            exact absurd hf (by rw [lX4_likePairs_16]; exact fun h => by cases h)
          | succ n ih =>
            intro a4 a5 hf
            rw [lX4_likePairs_16] at hf
            refine j_iload_n C 3 dX4_likePairs_16 rfl rfl ?_
            refine j_aload_n C 0 dX4_likePairs_17 rfl rfl ?_
            refine g_X4_count C tw1_60 hk dX4_likePairs_18 ?_
            refine j_icmp_ge C 57 dX4_likePairs_21 (by decide) (fun c6 => ?_) (fun c6 => ?_)
            · replace hf := ip c6 hf
              refine j_sub [0, 1, 2] rfl ?_
              cases hf
              exact hx22
            · replace hf := ine c6 hf
              refine j_aload_n C 0 dX4_likePairs_24 rfl rfl ?_
              refine g_X4_rows C tw1_59 hk (t + 1) rfl dX4_likePairs_25 ?_
              refine j_iload_n C 2 dX4_likePairs_28 rfl rfl ?_
              refine j_iconst C (0 : Int32) rfl dX4_likePairs_29 ?_
              obtain ⟨v8, e7, hf⟩ := bd hf
              refine j_callV C 2 (k4_1 hk).1 (ent_T _ _ _ _ _ _) rfl (c_X7_get l G n0 (k4_1 hk) e7) gv_RX4_28 ⟨rfl, rfl⟩ (by decide +kernel) ⟨Nat.le_of_ble_eq_true rfl, Nat.le_of_ble_eq_true rfl⟩ rfl rfl (Nat.le_of_ble_eq_true rfl) dX4_likePairs_30 ?_
              refine j_aload_n C 0 dX4_likePairs_33 rfl rfl ?_
              refine g_X4_rows C tw1_59 hk (t + 1) rfl dX4_likePairs_34 ?_
              refine j_iload_n C 3 dX4_likePairs_37 rfl rfl ?_
              refine j_iconst C (0 : Int32) rfl dX4_likePairs_38 ?_
              obtain ⟨v10, e9, hf⟩ := bd hf
              refine j_callV C 2 (k4_1 hk).1 (ent_T _ _ _ _ _ _) rfl (c_X7_get l G n0 (k4_1 hk) e9) gv_RX4_28 ⟨rfl, rfl⟩ (by decide +kernel) ⟨Nat.le_of_ble_eq_true rfl, Nat.le_of_ble_eq_true rfl⟩ rfl rfl (Nat.le_of_ble_eq_true rfl) dX4_likePairs_39 ?_
              obtain ⟨b12, e11, hf⟩ := bd hf
              refine j_callS C 2 (c_X4_alike l G n0 (M := M) e11) gs_RX4_60 ⟨rfl, rfl⟩ (by decide +kernel) ⟨Nat.le_of_ble_eq_true rfl, Nat.le_of_ble_eq_true rfl⟩ rfl rfl (Nat.le_of_ble_eq_true rfl) dX4_likePairs_42 ?_
              refine j_ifz_eq C 51 dX4_likePairs_45 (by decide) (fun c13 => ?_) (fun c13 => ?_)
              · replace hf := ine c13 hf
                refine j_iinc C 3 (a5 + 1) [(3, .int (a5 + 1)), (0, .ref (n0 + t)), (1, .int a4), (2, .int a2)] dX4_likePairs_51 rfl rfl (Nat.le_of_ble_eq_true rfl) rfl ?_
                refine j_goto C 16 dX4_likePairs_54 (by decide) ?_
                refine j_sub [1, 2, 3, 0] rfl ?_
                exact ih _ _ hf
              · replace hf := ip c13 hf
                refine j_iinc C 1 (a4 + 1) [(1, .int (a4 + 1)), (0, .ref (n0 + t)), (2, .int a2), (3, .int a5)] dX4_likePairs_48 rfl rfl (Nat.le_of_ble_eq_true rfl) rfl ?_
                refine j_iinc C 3 (a5 + 1) [(3, .int (a5 + 1)), (1, .int (a4 + 1)), (0, .ref (n0 + t)), (2, .int a2)] dX4_likePairs_51 rfl rfl (Nat.le_of_ble_eq_true rfl) rfl ?_
                refine j_goto C 16 dX4_likePairs_54 (by decide) ?_
                refine j_sub [2, 1, 3, 0] rfl ?_
                exact ih _ _ hf
        refine j_sub [1, 2, 3, 0] rfl ?_
        exact hl23 FUEL a1 (a2 + (1 : Int32)) e21
  refine j_sub [2, 1, 0] rfl ?_
  exact hl18 FUEL (0 : Int32) (0 : Int32) e16
def lX4_hasLike_2 (t : Nat) (x1 : Int32) (M : Mem) : Nat → Int32 → Option (Bool ⊕ Unit)
  | 0, _ => none
  | n + 1, a1 =>
  if (M.1 t 1) ≤ a1 then (some (Sum.inr ()))
  else ((fX7_get (t + 1) 4 8 a1 (0 : Int32) M).bind fun v4 =>
  (fX4_alike x1 v4).bind fun b6 =>
  if b6 = true then (some (Sum.inl true))
  else (lX4_hasLike_2 t x1 M n (a1 + 1)))

def fX4_hasLike (t : Nat) (x1 : Int32) (M : Mem) : Option Bool :=
  (lX4_hasLike_2 t x1 M FUEL (0 : Int32)).bind fun o => s0 o (fun _ => some false)

def rX4_hasLike : Room := { frames := 2, cells := 0, slots := 0, locals := 42 }
set_option maxRecDepth 100000 in
set_option maxHeartbeats 4000000 in
theorem c_X4_hasLike (l : Launch) (G : Gx) (n0 : Nat) {t : Nat} {x1 : Int32} (hk : lay[t]? = some (tK 4)) {M : Mem} {r : Bool} (hf : fX4_hasLike t x1 M = some r) : Ct l yX4_hasLike cX4_hasLike 3 (some .boolean) rX4_hasLike G n0 [.ref (n0 + t), .int x1] M (some (.int (bI r))) M := by
  refine ct_bool (cc := cX4_hasLike) (maxL := 3) rfl (Nat.le_of_ble_eq_true rfl) ?_
  intro K C hret
  have C : Ok K l rX4_hasLike cX4_hasLike RX4 G n0 3 := C
  show J K M 0 [(0, .ref (n0 + t)), (1, .int x1)] []
  unfold fX4_hasLike at hf
  refine j_iconst C (0 : Int32) rfl dX4_hasLike_0 ?_
  refine j_istore_n C [(2, .int (0 : Int32)), (0, .ref (n0 + t)), (1, .int x1)] dX4_hasLike_1 rfl (Nat.le_of_ble_eq_true rfl) rfl ?_
  obtain ⟨o12, e8, hg11⟩ := bd hf
  have hx9 : o12 = Sum.inr () → J K M 34 [] [] := by
    intro ho
    rw [ho] at hg11
    replace hf := s0r hg11
    refine j_iconst C (0 : Int32) rfl dX4_hasLike_34 ?_
    obtain rfl := Option.some.inj hf
    exact hret _ _ dX4_hasLike_35
  have hl10 : ∀ (n : Nat) (a1 : Int32), lX4_hasLike_2 t x1 M n a1 = some o12 → J K M 2 [(0, .ref (n0 + t)), (1, .int x1), (2, .int a1)] [] := by
    intro n
    induction n with
    | zero =>
      intro a1 hf
      exact absurd hf (by rw [lX4_hasLike_2]; exact fun h => by cases h)
    | succ n ih =>
      intro a1 hf
      rw [lX4_hasLike_2] at hf
      refine j_iload_n C 2 dX4_hasLike_2 rfl rfl ?_
      refine j_aload_n C 0 dX4_hasLike_3 rfl rfl ?_
      refine g_X4_count C tw1_60 hk dX4_hasLike_4 ?_
      refine j_icmp_ge C 34 dX4_hasLike_7 (by decide) (fun c2 => ?_) (fun c2 => ?_)
      · replace hf := ip c2 hf
        refine j_sub [] rfl ?_
        exact hx9 (Option.some.inj hf).symm
      · replace hf := ine c2 hf
        refine j_iload_n C 1 dX4_hasLike_10 rfl rfl ?_
        refine j_aload_n C 0 dX4_hasLike_11 rfl rfl ?_
        refine g_X4_rows C tw1_59 hk (t + 1) rfl dX4_hasLike_12 ?_
        refine j_iload_n C 2 dX4_hasLike_15 rfl rfl ?_
        refine j_iconst C (0 : Int32) rfl dX4_hasLike_16 ?_
        obtain ⟨v4, e3, hf⟩ := bd hf
        refine j_callV C 2 (k4_1 hk).1 (ent_T _ _ _ _ _ _) rfl (c_X7_get l G n0 (k4_1 hk) e3) gv_RX4_28 ⟨rfl, rfl⟩ (by decide +kernel) ⟨Nat.le_of_ble_eq_true rfl, Nat.le_of_ble_eq_true rfl⟩ rfl rfl (Nat.le_of_ble_eq_true rfl) dX4_hasLike_17 ?_
        obtain ⟨b6, e5, hf⟩ := bd hf
        refine j_callS C 2 (c_X4_alike l G n0 (M := M) e5) gs_RX4_60 ⟨rfl, rfl⟩ (by decide +kernel) ⟨Nat.le_of_ble_eq_true rfl, Nat.le_of_ble_eq_true rfl⟩ rfl rfl (Nat.le_of_ble_eq_true rfl) dX4_hasLike_20 ?_
        refine j_ifz_eq C 28 dX4_hasLike_23 (by decide) (fun c7 => ?_) (fun c7 => ?_)
        · replace hf := ine c7 hf
          refine j_iinc C 2 (a1 + 1) [(2, .int (a1 + 1)), (0, .ref (n0 + t)), (1, .int x1)] dX4_hasLike_28 rfl rfl (Nat.le_of_ble_eq_true rfl) rfl ?_
          refine j_goto C 2 dX4_hasLike_31 (by decide) ?_
          refine j_sub [1, 2, 0] rfl ?_
          exact ih _ hf
        · replace hf := ip c7 hf
          refine j_iconst C (1 : Int32) rfl dX4_hasLike_26 ?_
          rw [← Option.some.inj hf] at hg11
          have hf := hg11
          replace hf : some _ = some _ := hf
          obtain rfl := Option.some.inj hf
          exact hret _ _ dX4_hasLike_27
  refine j_sub [1, 2, 0] rfl ?_
  exact hl10 FUEL (0 : Int32) e8
