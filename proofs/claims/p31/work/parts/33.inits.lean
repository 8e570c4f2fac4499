def kX9 (G : Gx) (n0 T : Nat) : List va_E := .inr (8, [.ref (n0 + (T + 1)), .ref (n0 + (T + 8)), .ref (n0 + (T + 14)), .ref (n0 + (T + 22)), .int 20, .int 1, .int 0, .int 0]) :: (((((kX4 G n0 (T + 1))) ++ (kX1 G n0 (T + 8))) ++ (kX5 G n0 (T + 14))) ++ (kX6 G n0 (T + 22)))
def rX9i : Room := { frames := 3, cells := 31, slots := 1628, locals := 62 }
set_option maxRecDepth 100000 in
set_option maxHeartbeats 4000000 in
theorem ci_X9 (l : Launch) (G : Gx) (n0 : Nat) {pre : List va_E} {T : Nat} (hT : pre.length = T) : CtC l yX9_init cX9_init 1 rX9i 31 1628 G n0 [.ref (n0 + T)] (pre ++ [.inr (8, bX9)]) (pre ++ kX9 G n0 T) := by
  refine ctc (cc := cX9_init) (maxL := 1) rfl rfl (Nat.le_of_ble_eq_true rfl) ?_
  intro K C Z hret
  have C : Ok K l rX9i cX9_init RX9 G n0 1 := C
  have Z : Hz K (T + 1) := by rw [List.length_append, hT] at Z; exact Z
  show JC K 0 0 (pre ++ [.inr (8, [.null, .null, .null, .null, .int 0, .int 0, .int 0, .int 0])]) 0 [(0, .ref (n0 + T))] []
  refine jc_aload_n C 0 dX9_init_0 rfl rfl ?_
  refine jc_obj C tw1_33 ⟨Nat.le_of_ble_eq_true rfl, Nat.le_of_ble_eq_true rfl⟩ (Nat.le_of_ble_eq_true rfl) dX9_init_1 ?_
  refine jc_aload_n C 0 dX9_init_4 rfl rfl ?_
  refine jp_new (xs1 := (.inr (8, [.null, .null, .null, .null, .int 0, .int 0, .int 0, .int 0]) :: [.inr (3, bX4)])) (j := 1) (ci := 3) hT C Z tyX4 bX4 rfl rfl rfl inT4 tyX4_ok tw1_34 tw1_35 tw1_3 rfl bdX4 ⟨Nat.le_of_ble_eq_true rfl, Nat.le_of_ble_eq_true rfl⟩ dX9_init_5 ?_
  refine jc_dup C rfl dX9_init_8 ?_
  refine jp_init (cz := 1) (sz := 2) (st := [.ref (n0 + (T + 1)), .ref (n0 + T)]) (a := n0 + (T + 1)) (xs1 := [.inr (8, [.null, .null, .null, .null, .int 0, .int 0, .int 0, .int 0]), .inr (3, bX4)]) (xs2 := (.inr (8, [.null, .null, .null, .null, .int 0, .int 0, .int 0, .int 0]) :: (kX4 G n0 (T + 1)))) (b0 := .inr (3, bX4)) (bk := (kX4 G n0 (T + 1))) hT C Z 0 [.inr (8, [.null, .null, .null, .null, .int 0, .int 0, .int 0, .int 0])] (ci_X4 l G n0 (pre := pre ++ [.inr (8, [.null, .null, .null, .null, .int 0, .int 0, .int 0, .int 0])]) (T := T + 1) (by rw [List.length_append, hT]; rfl)) rfl rfl rfl (Or.inr nxi_RX9_11) tw1_37 tw1_3 tw1_38 rfl ⟨rfl, rfl⟩ (by decide +kernel) ⟨Nat.le_of_ble_eq_true rfl, Nat.le_of_ble_eq_true rfl⟩ ⟨Nat.le_of_ble_eq_true rfl, Nat.le_of_ble_eq_true rfl⟩ rfl rfl (Nat.le_of_ble_eq_true rfl) dX9_init_9 ?_
  refine jp_put (fs1 := [.ref (n0 + (T + 1)), .null, .null, .null, .int 0, .int 0, .int 0, .int 0]) (ci := 8) hT C Z tyX9 0 inT9 rfl (by decide) tyX9_ok nmX9 rfl rfl tw1_114 rfl rfl rfl (Nat.le_of_ble_eq_true rfl) rfl dX9_init_12 ?_
  refine jc_aload_n C 0 dX9_init_15 rfl rfl ?_
  refine jp_new (xs1 := (.inr (8, [.ref (n0 + (T + 1)), .null, .null, .null, .int 0, .int 0, .int 0, .int 0]) :: (((kX4 G n0 (T + 1))) ++ [.inr (0, bX1)]))) (j := 8) (ci := 0) hT C Z tyX1 bX1 rfl rfl rfl inT1 tyX1_ok tw1_66 tw1_67 tw1_6 rfl bdX1 ⟨Nat.le_of_ble_eq_true rfl, Nat.le_of_ble_eq_true rfl⟩ dX9_init_16 ?_
  refine jc_dup C rfl dX9_init_19 ?_
  refine jp_init (cz := 8) (sz := 42) (st := [.ref (n0 + (T + 8)), .ref (n0 + T)]) (a := n0 + (T + 8)) (xs1 := (.inr (8, [.ref (n0 + (T + 1)), .null, .null, .null, .int 0, .int 0, .int 0, .int 0]) :: (((kX4 G n0 (T + 1))) ++ [.inr (0, bX1)]))) (xs2 := (.inr (8, [.ref (n0 + (T + 1)), .null, .null, .null, .int 0, .int 0, .int 0, .int 0]) :: (((kX4 G n0 (T + 1))) ++ (kX1 G n0 (T + 8))))) (b0 := .inr (0, bX1)) (bk := (kX1 G n0 (T + 8))) hT C Z 0 (.inr (8, [.ref (n0 + (T + 1)), .null, .null, .null, .int 0, .int 0, .int 0, .int 0]) :: ((kX4 G n0 (T + 1)))) (ci_X1 l G n0 (pre := pre ++ (.inr (8, [.ref (n0 + (T + 1)), .null, .null, .null, .int 0, .int 0, .int 0, .int 0]) :: ((kX4 G n0 (T + 1))))) (T := T + 8) (by rw [List.length_append, hT]; rfl)) rfl rfl rfl (Or.inr nxi_RX9_20) tw1_69 tw1_6 tw1_70 rfl ⟨rfl, rfl⟩ (by decide +kernel) ⟨Nat.le_of_ble_eq_true rfl, Nat.le_of_ble_eq_true rfl⟩ ⟨Nat.le_of_ble_eq_true rfl, Nat.le_of_ble_eq_true rfl⟩ rfl rfl (Nat.le_of_ble_eq_true rfl) dX9_init_20 ?_
  refine jp_put (fs1 := [.ref (n0 + (T + 1)), .ref (n0 + (T + 8)), .null, .null, .int 0, .int 0, .int 0, .int 0]) (ci := 8) hT C Z tyX9 1 inT9 rfl (by decide) tyX9_ok nmX9 rfl rfl tw1_116 rfl rfl rfl (Nat.le_of_ble_eq_true rfl) rfl dX9_init_23 ?_
  refine jc_aload_n C 0 dX9_init_26 rfl rfl ?_
  refine jp_new (xs1 := (.inr (8, [.ref (n0 + (T + 1)), .ref (n0 + (T + 8)), .null, .null, .int 0, .int 0, .int 0, .int 0]) :: ((((kX4 G n0 (T + 1))) ++ (kX1 G n0 (T + 8))) ++ [.inr (4, bX5)]))) (j := 14) (ci := 4) hT C Z tyX5 bX5 rfl rfl rfl inT5 tyX5_ok tw1_81 tw1_82 tw1_7 rfl bdX5 ⟨Nat.le_of_ble_eq_true rfl, Nat.le_of_ble_eq_true rfl⟩ dX9_init_27 ?_
  refine jc_dup C rfl dX9_init_30 ?_
  refine jp_init (cz := 14) (sz := 109) (st := [.ref (n0 + (T + 14)), .ref (n0 + T)]) (a := n0 + (T + 14)) (xs1 := (.inr (8, [.ref (n0 + (T + 1)), .ref (n0 + (T + 8)), .null, .null, .int 0, .int 0, .int 0, .int 0]) :: ((((kX4 G n0 (T + 1))) ++ (kX1 G n0 (T + 8))) ++ [.inr (4, bX5)]))) (xs2 := (.inr (8, [.ref (n0 + (T + 1)), .ref (n0 + (T + 8)), .null, .null, .int 0, .int 0, .int 0, .int 0]) :: ((((kX4 G n0 (T + 1))) ++ (kX1 G n0 (T + 8))) ++ (kX5 G n0 (T + 14))))) (b0 := .inr (4, bX5)) (bk := (kX5 G n0 (T + 14))) hT C Z 0 (.inr (8, [.ref (n0 + (T + 1)), .ref (n0 + (T + 8)), .null, .null, .int 0, .int 0, .int 0, .int 0]) :: (((kX4 G n0 (T + 1))) ++ (kX1 G n0 (T + 8)))) (ci_X5 l G n0 (pre := pre ++ (.inr (8, [.ref (n0 + (T + 1)), .ref (n0 + (T + 8)), .null, .null, .int 0, .int 0, .int 0, .int 0]) :: (((kX4 G n0 (T + 1))) ++ (kX1 G n0 (T + 8))))) (T := T + 14) (by rw [List.length_append, hT]; rfl)) rfl rfl rfl (Or.inr nxi_RX9_27) tw1_84 tw1_7 tw1_85 rfl ⟨rfl, rfl⟩ (by decide +kernel) ⟨Nat.le_of_ble_eq_true rfl, Nat.le_of_ble_eq_true rfl⟩ ⟨Nat.le_of_ble_eq_true rfl, Nat.le_of_ble_eq_true rfl⟩ rfl rfl (Nat.le_of_ble_eq_true rfl) dX9_init_31 ?_
  refine jp_put (fs1 := [.ref (n0 + (T + 1)), .ref (n0 + (T + 8)), .ref (n0 + (T + 14)), .null, .int 0, .int 0, .int 0, .int 0]) (ci := 8) hT C Z tyX9 2 inT9 rfl (by decide) tyX9_ok nmX9 rfl rfl tw1_118 rfl rfl rfl (Nat.le_of_ble_eq_true rfl) rfl dX9_init_34 ?_
  refine jc_aload_n C 0 dX9_init_37 rfl rfl ?_
  refine jp_new (xs1 := (.inr (8, [.ref (n0 + (T + 1)), .ref (n0 + (T + 8)), .ref (n0 + (T + 14)), .null, .int 0, .int 0, .int 0, .int 0]) :: (((((kX4 G n0 (T + 1))) ++ (kX1 G n0 (T + 8))) ++ (kX5 G n0 (T + 14))) ++ [.inr (5, bX6)]))) (j := 22) (ci := 5) hT C Z tyX6 bX6 rfl rfl rfl inT6 tyX6_ok tw1_96 tw1_97 tw1_8 rfl bdX6 ⟨Nat.le_of_ble_eq_true rfl, Nat.le_of_ble_eq_true rfl⟩ dX9_init_38 ?_
  refine jc_dup C rfl dX9_init_41 ?_
  refine jp_init (cz := 22) (sz := 219) (st := [.ref (n0 + (T + 22)), .ref (n0 + T)]) (a := n0 + (T + 22)) (xs1 := (.inr (8, [.ref (n0 + (T + 1)), .ref (n0 + (T + 8)), .ref (n0 + (T + 14)), .null, .int 0, .int 0, .int 0, .int 0]) :: (((((kX4 G n0 (T + 1))) ++ (kX1 G n0 (T + 8))) ++ (kX5 G n0 (T + 14))) ++ [.inr (5, bX6)]))) (xs2 := (.inr (8, [.ref (n0 + (T + 1)), .ref (n0 + (T + 8)), .ref (n0 + (T + 14)), .null, .int 0, .int 0, .int 0, .int 0]) :: (((((kX4 G n0 (T + 1))) ++ (kX1 G n0 (T + 8))) ++ (kX5 G n0 (T + 14))) ++ (kX6 G n0 (T + 22))))) (b0 := .inr (5, bX6)) (bk := (kX6 G n0 (T + 22))) hT C Z 0 (.inr (8, [.ref (n0 + (T + 1)), .ref (n0 + (T + 8)), .ref (n0 + (T + 14)), .null, .int 0, .int 0, .int 0, .int 0]) :: ((((kX4 G n0 (T + 1))) ++ (kX1 G n0 (T + 8))) ++ (kX5 G n0 (T + 14)))) (ci_X6 l G n0 (pre := pre ++ (.inr (8, [.ref (n0 + (T + 1)), .ref (n0 + (T + 8)), .ref (n0 + (T + 14)), .null, .int 0, .int 0, .int 0, .int 0]) :: ((((kX4 G n0 (T + 1))) ++ (kX1 G n0 (T + 8))) ++ (kX5 G n0 (T + 14))))) (T := T + 22) (by rw [List.length_append, hT]; rfl)) rfl rfl rfl (Or.inr nxi_RX9_34) tw1_99 tw1_8 tw1_100 rfl ⟨rfl, rfl⟩ (by decide +kernel) ⟨Nat.le_of_ble_eq_true rfl, Nat.le_of_ble_eq_true rfl⟩ ⟨Nat.le_of_ble_eq_true rfl, Nat.le_of_ble_eq_true rfl⟩ rfl rfl (Nat.le_of_ble_eq_true rfl) dX9_init_42 ?_
  refine jp_put (fs1 := [.ref (n0 + (T + 1)), .ref (n0 + (T + 8)), .ref (n0 + (T + 14)), .ref (n0 + (T + 22)), .int 0, .int 0, .int 0, .int 0]) (ci := 8) hT C Z tyX9 3 inT9 rfl (by decide) tyX9_ok nmX9 rfl rfl tw1_120 rfl rfl rfl (Nat.le_of_ble_eq_true rfl) rfl dX9_init_45 ?_
  refine jc_aload_n C 0 dX9_init_48 rfl rfl ?_
  refine jc_bipush C (20 : Int32) rfl dX9_init_49 ?_
  refine jp_put (fs1 := [.ref (n0 + (T + 1)), .ref (n0 + (T + 8)), .ref (n0 + (T + 14)), .ref (n0 + (T + 22)), .int 20, .int 0, .int 0, .int 0]) (ci := 8) hT C Z tyX9 4 inT9 rfl (by decide) tyX9_ok nmX9 rfl rfl tw1_122 rfl rfl rfl (Nat.le_of_ble_eq_true rfl) rfl dX9_init_51 ?_
  refine jc_aload_n C 0 dX9_init_54 rfl rfl ?_
  refine jc_iconst C (1 : Int32) rfl dX9_init_55 ?_
  refine jp_put (fs1 := [.ref (n0 + (T + 1)), .ref (n0 + (T + 8)), .ref (n0 + (T + 14)), .ref (n0 + (T + 22)), .int 20, .int 1, .int 0, .int 0]) (ci := 8) hT C Z tyX9 5 inT9 rfl (by decide) tyX9_ok nmX9 rfl rfl tw1_124 rfl rfl rfl (Nat.le_of_ble_eq_true rfl) rfl dX9_init_56 ?_
  exact hret _ _ dX9_init_59
def kX3 (G : Gx) (n0 T : Nat) : List va_E := .inr (2, [.ref (n0 + (T + 1)), .ref (n0 + (T + 2)), .ref (n0 + (T + 3)), .ref (n0 + (T + 4)), .int 0, .int 0, .int 0]) :: (((([.inl (G.2.1 0, (20, .inl (fun _ => 0)))]) ++ [.inl (G.2.1 0, (20, .inl (fun _ => 0)))]) ++ [.inl (G.2.1 0, (3, .inl (fun _ => 0)))]) ++ (kX5 G n0 (T + 4)))
def rX3i : Room := { frames := 3, cells := 11, slots := 152, locals := 62 }
set_option maxRecDepth 100000 in
set_option maxHeartbeats 4000000 in
theorem ci_X3 (l : Launch) (G : Gx) (n0 : Nat) {pre : List va_E} {T : Nat} (hT : pre.length = T) : CtC l yX3_init cX3_init 1 rX3i 11 152 G n0 [.ref (n0 + T)] (pre ++ [.inr (2, bX3)]) (pre ++ kX3 G n0 T) := by
  refine ctc (cc := cX3_init) (maxL := 1) rfl rfl (Nat.le_of_ble_eq_true rfl) ?_
  intro K C Z hret
  have C : Ok K l rX3i cX3_init RX3 G n0 1 := C
  have Z : Hz K (T + 1) := by rw [List.length_append, hT] at Z; exact Z
  show JC K 0 0 (pre ++ [.inr (2, [.null, .null, .null, .null, .int 0, .int 0, .int 0])]) 0 [(0, .ref (n0 + T))] []
  refine jc_aload_n C 0 dX3_init_0 rfl rfl ?_
  refine jc_obj C tw1_152 ⟨Nat.le_of_ble_eq_true rfl, Nat.le_of_ble_eq_true rfl⟩ (Nat.le_of_ble_eq_true rfl) dX3_init_1 ?_
  refine jc_aload_n C 0 dX3_init_4 rfl rfl ?_
  refine jc_bipush C (20 : Int32) rfl dX3_init_5 ?_
  refine jp_newa (xs1 := (.inr (2, [.null, .null, .null, .null, .int 0, .int 0, .int 0]) :: [.inl (G.2.1 0, (20, .inl (fun _ => 0)))])) (j := 1) (N := 20) (t0 := 0) (ty := .int) hT C Z (20, .inl (fun _ => 0)) rfl rfl rfl rfl tw1_58 rfl (fun _ _ h => h) (fun _ => rfl) (by decide) (by decide) (by decide) ⟨Nat.le_of_ble_eq_true rfl, Nat.le_of_ble_eq_true rfl⟩ dX3_init_7 ?_
  refine jp_put (fs1 := [.ref (n0 + (T + 1)), .null, .null, .null, .int 0, .int 0, .int 0]) (ci := 2) hT C Z tyX3 0 inT3 rfl (by decide) tyX3_ok nmX3 rfl rfl tw1_155 rfl rfl rfl (Nat.le_of_ble_eq_true rfl) rfl dX3_init_9 ?_
  refine jc_aload_n C 0 dX3_init_12 rfl rfl ?_
  refine jc_bipush C (20 : Int32) rfl dX3_init_13 ?_
  refine jp_newa (xs1 := (.inr (2, [.ref (n0 + (T + 1)), .null, .null, .null, .int 0, .int 0, .int 0]) :: (([.inl (G.2.1 0, (20, .inl (fun _ => 0)))]) ++ [.inl (G.2.1 0, (20, .inl (fun _ => 0)))]))) (j := 2) (N := 20) (t0 := 0) (ty := .int) hT C Z (20, .inl (fun _ => 0)) rfl rfl rfl rfl tw1_58 rfl (fun _ _ h => h) (fun _ => rfl) (by decide) (by decide) (by decide) ⟨Nat.le_of_ble_eq_true rfl, Nat.le_of_ble_eq_true rfl⟩ dX3_init_15 ?_
  refine jp_put (fs1 := [.ref (n0 + (T + 1)), .ref (n0 + (T + 2)), .null, .null, .int 0, .int 0, .int 0]) (ci := 2) hT C Z tyX3 1 inT3 rfl (by decide) tyX3_ok nmX3 rfl rfl tw1_156 rfl rfl rfl (Nat.le_of_ble_eq_true rfl) rfl dX3_init_17 ?_
  refine jc_aload_n C 0 dX3_init_20 rfl rfl ?_
  refine jc_iconst C (3 : Int32) rfl dX3_init_21 ?_
  refine jp_newa (xs1 := (.inr (2, [.ref (n0 + (T + 1)), .ref (n0 + (T + 2)), .null, .null, .int 0, .int 0, .int 0]) :: ((([.inl (G.2.1 0, (20, .inl (fun _ => 0)))]) ++ [.inl (G.2.1 0, (20, .inl (fun _ => 0)))]) ++ [.inl (G.2.1 0, (3, .inl (fun _ => 0)))]))) (j := 3) (N := 3) (t0 := 0) (ty := .int) hT C Z (3, .inl (fun _ => 0)) rfl rfl rfl rfl tw1_58 rfl (fun _ _ h => h) (fun _ => rfl) (by decide) (by decide) (by decide) ⟨Nat.le_of_ble_eq_true rfl, Nat.le_of_ble_eq_true rfl⟩ dX3_init_22 ?_
  refine jp_put (fs1 := [.ref (n0 + (T + 1)), .ref (n0 + (T + 2)), .ref (n0 + (T + 3)), .null, .int 0, .int 0, .int 0]) (ci := 2) hT C Z tyX3 2 inT3 rfl (by decide) tyX3_ok nmX3 rfl rfl tw1_157 rfl rfl rfl (Nat.le_of_ble_eq_true rfl) rfl dX3_init_24 ?_
  refine jc_aload_n C 0 dX3_init_27 rfl rfl ?_
  refine jp_new (xs1 := (.inr (2, [.ref (n0 + (T + 1)), .ref (n0 + (T + 2)), .ref (n0 + (T + 3)), .null, .int 0, .int 0, .int 0]) :: (((([.inl (G.2.1 0, (20, .inl (fun _ => 0)))]) ++ [.inl (G.2.1 0, (20, .inl (fun _ => 0)))]) ++ [.inl (G.2.1 0, (3, .inl (fun _ => 0)))]) ++ [.inr (4, bX5)]))) (j := 4) (ci := 4) hT C Z tyX5 bX5 rfl rfl rfl inT5 tyX5_ok tw1_153 tw1_82 tw1_7 rfl bdX5 ⟨Nat.le_of_ble_eq_true rfl, Nat.le_of_ble_eq_true rfl⟩ dX3_init_28 ?_
  refine jc_dup C rfl dX3_init_31 ?_
  refine jp_init (cz := 4) (sz := 45) (st := [.ref (n0 + (T + 4)), .ref (n0 + T)]) (a := n0 + (T + 4)) (xs1 := (.inr (2, [.ref (n0 + (T + 1)), .ref (n0 + (T + 2)), .ref (n0 + (T + 3)), .null, .int 0, .int 0, .int 0]) :: (((([.inl (G.2.1 0, (20, .inl (fun _ => 0)))]) ++ [.inl (G.2.1 0, (20, .inl (fun _ => 0)))]) ++ [.inl (G.2.1 0, (3, .inl (fun _ => 0)))]) ++ [.inr (4, bX5)]))) (xs2 := (.inr (2, [.ref (n0 + (T + 1)), .ref (n0 + (T + 2)), .ref (n0 + (T + 3)), .null, .int 0, .int 0, .int 0]) :: (((([.inl (G.2.1 0, (20, .inl (fun _ => 0)))]) ++ [.inl (G.2.1 0, (20, .inl (fun _ => 0)))]) ++ [.inl (G.2.1 0, (3, .inl (fun _ => 0)))]) ++ (kX5 G n0 (T + 4))))) (b0 := .inr (4, bX5)) (bk := (kX5 G n0 (T + 4))) hT C Z 0 (.inr (2, [.ref (n0 + (T + 1)), .ref (n0 + (T + 2)), .ref (n0 + (T + 3)), .null, .int 0, .int 0, .int 0]) :: ((([.inl (G.2.1 0, (20, .inl (fun _ => 0)))]) ++ [.inl (G.2.1 0, (20, .inl (fun _ => 0)))]) ++ [.inl (G.2.1 0, (3, .inl (fun _ => 0)))])) (ci_X5 l G n0 (pre := pre ++ (.inr (2, [.ref (n0 + (T + 1)), .ref (n0 + (T + 2)), .ref (n0 + (T + 3)), .null, .int 0, .int 0, .int 0]) :: ((([.inl (G.2.1 0, (20, .inl (fun _ => 0)))]) ++ [.inl (G.2.1 0, (20, .inl (fun _ => 0)))]) ++ [.inl (G.2.1 0, (3, .inl (fun _ => 0)))]))) (T := T + 4) (by rw [List.length_append, hT]; rfl)) rfl rfl rfl (Or.inr nxi_RX3_23) tw1_84 tw1_7 tw1_85 rfl ⟨rfl, rfl⟩ (by decide +kernel) ⟨Nat.le_of_ble_eq_true rfl, Nat.le_of_ble_eq_true rfl⟩ ⟨Nat.le_of_ble_eq_true rfl, Nat.le_of_ble_eq_true rfl⟩ rfl rfl (Nat.le_of_ble_eq_true rfl) dX3_init_32 ?_
  refine jp_put (fs1 := [.ref (n0 + (T + 1)), .ref (n0 + (T + 2)), .ref (n0 + (T + 3)), .ref (n0 + (T + 4)), .int 0, .int 0, .int 0]) (ci := 2) hT C Z tyX3 3 inT3 rfl (by decide) tyX3_ok nmX3 rfl rfl tw1_158 rfl rfl rfl (Nat.le_of_ble_eq_true rfl) rfl dX3_init_35 ?_
  exact hret _ _ dX3_init_38
def kX8 (G : Gx) (n0 T : Nat) : List va_E := .inr (7, [.ref (n0 + (T + 1)), .int 0, .int 0]) :: ((((([.inl (G.2.1 4, 4, .inr (.inr (.inr (.inr (fun i => some (n0 + ((T + 1) + (1 + 32 * i))))))))]) ++ (kX9 G n0 (T + 2))) ++ (kX9 G n0 (T + 34))) ++ (kX9 G n0 (T + 66))) ++ (kX9 G n0 (T + 98)))
def rX8i : Room := { frames := 4, cells := 129, slots := 6548, locals := 82 }
set_option maxRecDepth 100000 in
set_option maxHeartbeats 4000000 in
theorem ci_X8 (l : Launch) (G : Gx) (n0 : Nat) {pre : List va_E} {T : Nat} (hT : pre.length = T) : CtC l yX8_init cX8_init 2 rX8i 129 6548 G n0 [.ref (n0 + T)] (pre ++ [.inr (7, bX8)]) (pre ++ kX8 G n0 T) := by
  refine ctc (cc := cX8_init) (maxL := 2) rfl rfl (Nat.le_of_ble_eq_true rfl) ?_
  intro K C Z hret
  have C : Ok K l rX8i cX8_init RX8 G n0 2 := C
  have Z : Hz K (T + 1) := by rw [List.length_append, hT] at Z; exact Z
  show JC K 0 0 (pre ++ [.inr (7, [.null, .int 0, .int 0])]) 0 [(0, .ref (n0 + T))] []
  refine jc_aload_n C 0 dX8_init_0 rfl rfl ?_
  refine jc_obj C tw1_182 ⟨Nat.le_of_ble_eq_true rfl, Nat.le_of_ble_eq_true rfl⟩ (Nat.le_of_ble_eq_true rfl) dX8_init_1 ?_
  refine jc_aload_n C 0 dX8_init_4 rfl rfl ?_
  refine jc_iconst C (4 : Int32) rfl dX8_init_5 ?_
  refine jp_anew (xs1 := (.inr (7, [.null, .int 0, .int 0]) :: [.inl (G.2.1 4, 4, .inr (.inr (.inr (.inr (fun _ => none)))))])) (j := 1) hT C Z rfl rfl rfl tw1_183 ⟨Nat.le_of_ble_eq_true rfl, Nat.le_of_ble_eq_true rfl⟩ dX8_init_6 ?_
  refine jp_put (fs1 := [.ref (n0 + (T + 1)), .int 0, .int 0]) (ci := 7) hT C Z tyX8 0 inT8 rfl (by decide) tyX8_ok nmX8 rfl rfl tw1_186 rfl rfl rfl (Nat.le_of_ble_eq_true rfl) rfl dX8_init_9 ?_
  refine jc_iconst C (0 : Int32) rfl dX8_init_12 ?_
  refine jc_istore_n C [(1, .int 0), (0, .ref (n0 + T))] dX8_init_13 rfl (by decide) rfl ?_
  refine jc_iload_n C 0 dX8_init_14 rfl rfl ?_
  refine jc_iconst C (4 : Int32) rfl dX8_init_15 ?_
  refine jc_icmp_ge C 38 dX8_init_16 (by decide) (fun c => absurd c (by decide)) (fun _ => ?_)
  refine jc_aload_n C 1 dX8_init_19 rfl rfl ?_
  refine jc_getf (ci := 7) C 0 inT8 rfl (by decide) rfl tw1_186 (px_at (j := 0) hT rfl) rfl dX8_init_20 ?_
  refine jc_iload_n C 0 dX8_init_23 rfl rfl ?_
  refine jp_new (xs1 := (.inr (7, [.ref (n0 + (T + 1)), .int 0, .int 0]) :: (([.inl (G.2.1 4, 4, .inr (.inr (.inr (.inr (fun _ => none)))))]) ++ [.inr (8, bX9)]))) (j := 2) (ci := 8) hT C Z tyX9 bX9 rfl rfl rfl inT9 tyX9_ok tw1_183 tw1_29 tw1_2 rfl bdX9 ⟨Nat.le_of_ble_eq_true rfl, Nat.le_of_ble_eq_true rfl⟩ dX8_init_24 ?_
  refine jc_dup C rfl dX8_init_27 ?_
  refine jp_init (cz := 2) (sz := 12) (st := [.ref (n0 + (T + 2)), .int 0, .ref (n0 + (T + 1))]) (a := n0 + (T + 2)) (xs1 := (.inr (7, [.ref (n0 + (T + 1)), .int 0, .int 0]) :: (([.inl (G.2.1 4, 4, .inr (.inr (.inr (.inr (fun _ => none)))))]) ++ [.inr (8, bX9)]))) (xs2 := (.inr (7, [.ref (n0 + (T + 1)), .int 0, .int 0]) :: (([.inl (G.2.1 4, 4, .inr (.inr (.inr (.inr (fun _ => none)))))]) ++ (kX9 G n0 (T + 2))))) (b0 := .inr (8, bX9)) (bk := (kX9 G n0 (T + 2))) hT C Z 0 (.inr (7, [.ref (n0 + (T + 1)), .int 0, .int 0]) :: ([.inl (G.2.1 4, 4, .inr (.inr (.inr (.inr (fun _ => none)))))])) (ci_X9 l G n0 (pre := pre ++ (.inr (7, [.ref (n0 + (T + 1)), .int 0, .int 0]) :: ([.inl (G.2.1 4, 4, .inr (.inr (.inr (.inr (fun _ => none)))))]))) (T := T + 2) (by rw [List.length_append, hT]; rfl)) rfl rfl rfl (Or.inr nxi_RX8_15) tw1_31 tw1_2 tw1_32 rfl ⟨rfl, rfl⟩ (by decide +kernel) ⟨Nat.le_of_ble_eq_true rfl, Nat.le_of_ble_eq_true rfl⟩ ⟨Nat.le_of_ble_eq_true rfl, Nat.le_of_ble_eq_true rfl⟩ rfl rfl (Nat.le_of_ble_eq_true rfl) dX8_init_28 ?_
  refine jc_aast (t := T + 1) (tv := T + 2) (es1 := pre ++ (.inr (7, [.ref (n0 + (T + 1)), .int 0, .int 0]) :: (([.inl (G.2.1 4, 4, .inr (.inr (.inr (.inr (va_up (fun _ => none) 0 (some (n0 + (T + 2))))))))]) ++ (kX9 G n0 (T + 2))))) C (px_at hT rfl) (px_at hT rfl) (by show ¬ (_ < _ ∨ _ ≤ _); decide) (px_set hT) dX8_init_31 ?_
  refine jc_iinc C 0 1 [(1, .int 1), (0, .ref (n0 + T))] dX8_init_32 rfl (by decide) (by decide) rfl ?_
  refine jc_goto C 14 dX8_init_35 (by decide) ?_
  refine jc_iload_n C 0 dX8_init_14 rfl rfl ?_
  refine jc_iconst C (4 : Int32) rfl dX8_init_15 ?_
  refine jc_icmp_ge C 38 dX8_init_16 (by decide) (fun c => absurd c (by decide)) (fun _ => ?_)
  refine jc_aload_n C 1 dX8_init_19 rfl rfl ?_
  refine jc_getf (ci := 7) C 0 inT8 rfl (by decide) rfl tw1_186 (px_at (j := 0) hT rfl) rfl dX8_init_20 ?_
  refine jc_iload_n C 0 dX8_init_23 rfl rfl ?_
  refine jp_new (xs1 := (.inr (7, [.ref (n0 + (T + 1)), .int 0, .int 0]) :: ((([.inl (G.2.1 4, 4, .inr (.inr (.inr (.inr (va_up (fun _ => none) 0 (some (n0 + (T + 2))))))))]) ++ (kX9 G n0 (T + 2))) ++ [.inr (8, bX9)]))) (j := 34) (ci := 8) hT C Z tyX9 bX9 rfl rfl rfl inT9 tyX9_ok tw1_183 tw1_29 tw1_2 rfl bdX9 ⟨Nat.le_of_ble_eq_true rfl, Nat.le_of_ble_eq_true rfl⟩ dX8_init_24 ?_
  refine jc_dup C rfl dX8_init_27 ?_
  refine jp_init (cz := 34) (sz := 1648) (st := [.ref (n0 + (T + 34)), .int 1, .ref (n0 + (T + 1))]) (a := n0 + (T + 34)) (xs1 := (.inr (7, [.ref (n0 + (T + 1)), .int 0, .int 0]) :: ((([.inl (G.2.1 4, 4, .inr (.inr (.inr (.inr (va_up (fun _ => none) 0 (some (n0 + (T + 2))))))))]) ++ (kX9 G n0 (T + 2))) ++ [.inr (8, bX9)]))) (xs2 := (.inr (7, [.ref (n0 + (T + 1)), .int 0, .int 0]) :: ((([.inl (G.2.1 4, 4, .inr (.inr (.inr (.inr (va_up (fun _ => none) 0 (some (n0 + (T + 2))))))))]) ++ (kX9 G n0 (T + 2))) ++ (kX9 G n0 (T + 34))))) (b0 := .inr (8, bX9)) (bk := (kX9 G n0 (T + 34))) hT C Z 0 (.inr (7, [.ref (n0 + (T + 1)), .int 0, .int 0]) :: (([.inl (G.2.1 4, 4, .inr (.inr (.inr (.inr (va_up (fun _ => none) 0 (some (n0 + (T + 2))))))))]) ++ (kX9 G n0 (T + 2)))) (ci_X9 l G n0 (pre := pre ++ (.inr (7, [.ref (n0 + (T + 1)), .int 0, .int 0]) :: (([.inl (G.2.1 4, 4, .inr (.inr (.inr (.inr (va_up (fun _ => none) 0 (some (n0 + (T + 2))))))))]) ++ (kX9 G n0 (T + 2))))) (T := T + 34) (by rw [List.length_append, hT]; rfl)) rfl rfl rfl (Or.inr nxi_RX8_15) tw1_31 tw1_2 tw1_32 rfl ⟨rfl, rfl⟩ (by decide +kernel) ⟨Nat.le_of_ble_eq_true rfl, Nat.le_of_ble_eq_true rfl⟩ ⟨Nat.le_of_ble_eq_true rfl, Nat.le_of_ble_eq_true rfl⟩ rfl rfl (Nat.le_of_ble_eq_true rfl) dX8_init_28 ?_
  refine jc_aast (t := T + 1) (tv := T + 34) (es1 := pre ++ (.inr (7, [.ref (n0 + (T + 1)), .int 0, .int 0]) :: ((([.inl (G.2.1 4, 4, .inr (.inr (.inr (.inr (va_up (va_up (fun _ => none) 0 (some (n0 + (T + 2)))) 1 (some (n0 + (T + 34))))))))]) ++ (kX9 G n0 (T + 2))) ++ (kX9 G n0 (T + 34))))) C (px_at hT rfl) (px_at hT rfl) (by show ¬ (_ < _ ∨ _ ≤ _); decide) (px_set hT) dX8_init_31 ?_
  refine jc_iinc C 0 2 [(1, .int 2), (0, .ref (n0 + T))] dX8_init_32 rfl (by decide) (by decide) rfl ?_
  refine jc_goto C 14 dX8_init_35 (by decide) ?_
  refine jc_iload_n C 0 dX8_init_14 rfl rfl ?_
  refine jc_iconst C (4 : Int32) rfl dX8_init_15 ?_
  refine jc_icmp_ge C 38 dX8_init_16 (by decide) (fun c => absurd c (by decide)) (fun _ => ?_)
  refine jc_aload_n C 1 dX8_init_19 rfl rfl ?_
  refine jc_getf (ci := 7) C 0 inT8 rfl (by decide) rfl tw1_186 (px_at (j := 0) hT rfl) rfl dX8_init_20 ?_
  refine jc_iload_n C 0 dX8_init_23 rfl rfl ?_
  refine jp_new (xs1 := (.inr (7, [.ref (n0 + (T + 1)), .int 0, .int 0]) :: (((([.inl (G.2.1 4, 4, .inr (.inr (.inr (.inr (va_up (va_up (fun _ => none) 0 (some (n0 + (T + 2)))) 1 (some (n0 + (T + 34))))))))]) ++ (kX9 G n0 (T + 2))) ++ (kX9 G n0 (T + 34))) ++ [.inr (8, bX9)]))) (j := 66) (ci := 8) hT C Z tyX9 bX9 rfl rfl rfl inT9 tyX9_ok tw1_183 tw1_29 tw1_2 rfl bdX9 ⟨Nat.le_of_ble_eq_true rfl, Nat.le_of_ble_eq_true rfl⟩ dX8_init_24 ?_
  refine jc_dup C rfl dX8_init_27 ?_
  refine jp_init (cz := 66) (sz := 3284) (st := [.ref (n0 + (T + 66)), .int 2, .ref (n0 + (T + 1))]) (a := n0 + (T + 66)) (xs1 := (.inr (7, [.ref (n0 + (T + 1)), .int 0, .int 0]) :: (((([.inl (G.2.1 4, 4, .inr (.inr (.inr (.inr (va_up (va_up (fun _ => none) 0 (some (n0 + (T + 2)))) 1 (some (n0 + (T + 34))))))))]) ++ (kX9 G n0 (T + 2))) ++ (kX9 G n0 (T + 34))) ++ [.inr (8, bX9)]))) (xs2 := (.inr (7, [.ref (n0 + (T + 1)), .int 0, .int 0]) :: (((([.inl (G.2.1 4, 4, .inr (.inr (.inr (.inr (va_up (va_up (fun _ => none) 0 (some (n0 + (T + 2)))) 1 (some (n0 + (T + 34))))))))]) ++ (kX9 G n0 (T + 2))) ++ (kX9 G n0 (T + 34))) ++ (kX9 G n0 (T + 66))))) (b0 := .inr (8, bX9)) (bk := (kX9 G n0 (T + 66))) hT C Z 0 (.inr (7, [.ref (n0 + (T + 1)), .int 0, .int 0]) :: ((([.inl (G.2.1 4, 4, .inr (.inr (.inr (.inr (va_up (va_up (fun _ => none) 0 (some (n0 + (T + 2)))) 1 (some (n0 + (T + 34))))))))]) ++ (kX9 G n0 (T + 2))) ++ (kX9 G n0 (T + 34)))) (ci_X9 l G n0 (pre := pre ++ (.inr (7, [.ref (n0 + (T + 1)), .int 0, .int 0]) :: ((([.inl (G.2.1 4, 4, .inr (.inr (.inr (.inr (va_up (va_up (fun _ => none) 0 (some (n0 + (T + 2)))) 1 (some (n0 + (T + 34))))))))]) ++ (kX9 G n0 (T + 2))) ++ (kX9 G n0 (T + 34))))) (T := T + 66) (by rw [List.length_append, hT]; rfl)) rfl rfl rfl (Or.inr nxi_RX8_15) tw1_31 tw1_2 tw1_32 rfl ⟨rfl, rfl⟩ (by decide +kernel) ⟨Nat.le_of_ble_eq_true rfl, Nat.le_of_ble_eq_true rfl⟩ ⟨Nat.le_of_ble_eq_true rfl, Nat.le_of_ble_eq_true rfl⟩ rfl rfl (Nat.le_of_ble_eq_true rfl) dX8_init_28 ?_
  refine jc_aast (t := T + 1) (tv := T + 66) (es1 := pre ++ (.inr (7, [.ref (n0 + (T + 1)), .int 0, .int 0]) :: (((([.inl (G.2.1 4, 4, .inr (.inr (.inr (.inr (va_up (va_up (va_up (fun _ => none) 0 (some (n0 + (T + 2)))) 1 (some (n0 + (T + 34)))) 2 (some (n0 + (T + 66))))))))]) ++ (kX9 G n0 (T + 2))) ++ (kX9 G n0 (T + 34))) ++ (kX9 G n0 (T + 66))))) C (px_at hT rfl) (px_at hT rfl) (by show ¬ (_ < _ ∨ _ ≤ _); decide) (px_set hT) dX8_init_31 ?_
  refine jc_iinc C 0 3 [(1, .int 3), (0, .ref (n0 + T))] dX8_init_32 rfl (by decide) (by decide) rfl ?_
  refine jc_goto C 14 dX8_init_35 (by decide) ?_
  refine jc_iload_n C 0 dX8_init_14 rfl rfl ?_
  refine jc_iconst C (4 : Int32) rfl dX8_init_15 ?_
  refine jc_icmp_ge C 38 dX8_init_16 (by decide) (fun c => absurd c (by decide)) (fun _ => ?_)
  refine jc_aload_n C 1 dX8_init_19 rfl rfl ?_
  refine jc_getf (ci := 7) C 0 inT8 rfl (by decide) rfl tw1_186 (px_at (j := 0) hT rfl) rfl dX8_init_20 ?_
  refine jc_iload_n C 0 dX8_init_23 rfl rfl ?_
  refine jp_new (xs1 := (.inr (7, [.ref (n0 + (T + 1)), .int 0, .int 0]) :: ((((([.inl (G.2.1 4, 4, .inr (.inr (.inr (.inr (va_up (va_up (va_up (fun _ => none) 0 (some (n0 + (T + 2)))) 1 (some (n0 + (T + 34)))) 2 (some (n0 + (T + 66))))))))]) ++ (kX9 G n0 (T + 2))) ++ (kX9 G n0 (T + 34))) ++ (kX9 G n0 (T + 66))) ++ [.inr (8, bX9)]))) (j := 98) (ci := 8) hT C Z tyX9 bX9 rfl rfl rfl inT9 tyX9_ok tw1_183 tw1_29 tw1_2 rfl bdX9 ⟨Nat.le_of_ble_eq_true rfl, Nat.le_of_ble_eq_true rfl⟩ dX8_init_24 ?_
  refine jc_dup C rfl dX8_init_27 ?_
  refine jp_init (cz := 98) (sz := 4920) (st := [.ref (n0 + (T + 98)), .int 3, .ref (n0 + (T + 1))]) (a := n0 + (T + 98)) (xs1 := (.inr (7, [.ref (n0 + (T + 1)), .int 0, .int 0]) :: ((((([.inl (G.2.1 4, 4, .inr (.inr (.inr (.inr (va_up (va_up (va_up (fun _ => none) 0 (some (n0 + (T + 2)))) 1 (some (n0 + (T + 34)))) 2 (some (n0 + (T + 66))))))))]) ++ (kX9 G n0 (T + 2))) ++ (kX9 G n0 (T + 34))) ++ (kX9 G n0 (T + 66))) ++ [.inr (8, bX9)]))) (xs2 := (.inr (7, [.ref (n0 + (T + 1)), .int 0, .int 0]) :: ((((([.inl (G.2.1 4, 4, .inr (.inr (.inr (.inr (va_up (va_up (va_up (fun _ => none) 0 (some (n0 + (T + 2)))) 1 (some (n0 + (T + 34)))) 2 (some (n0 + (T + 66))))))))]) ++ (kX9 G n0 (T + 2))) ++ (kX9 G n0 (T + 34))) ++ (kX9 G n0 (T + 66))) ++ (kX9 G n0 (T + 98))))) (b0 := .inr (8, bX9)) (bk := (kX9 G n0 (T + 98))) hT C Z 0 (.inr (7, [.ref (n0 + (T + 1)), .int 0, .int 0]) :: (((([.inl (G.2.1 4, 4, .inr (.inr (.inr (.inr (va_up (va_up (va_up (fun _ => none) 0 (some (n0 + (T + 2)))) 1 (some (n0 + (T + 34)))) 2 (some (n0 + (T + 66))))))))]) ++ (kX9 G n0 (T + 2))) ++ (kX9 G n0 (T + 34))) ++ (kX9 G n0 (T + 66)))) (ci_X9 l G n0 (pre := pre ++ (.inr (7, [.ref (n0 + (T + 1)), .int 0, .int 0]) :: (((([.inl (G.2.1 4, 4, .inr (.inr (.inr (.inr (va_up (va_up (va_up (fun _ => none) 0 (some (n0 + (T + 2)))) 1 (some (n0 + (T + 34)))) 2 (some (n0 + (T + 66))))))))]) ++ (kX9 G n0 (T + 2))) ++ (kX9 G n0 (T + 34))) ++ (kX9 G n0 (T + 66))))) (T := T + 98) (by rw [List.length_append, hT]; rfl)) rfl rfl rfl (Or.inr nxi_RX8_15) tw1_31 tw1_2 tw1_32 rfl ⟨rfl, rfl⟩ (by decide +kernel) ⟨Nat.le_of_ble_eq_true rfl, Nat.le_of_ble_eq_true rfl⟩ ⟨Nat.le_of_ble_eq_true rfl, Nat.le_of_ble_eq_true rfl⟩ rfl rfl (Nat.le_of_ble_eq_true rfl) dX8_init_28 ?_
  refine jc_aast (t := T + 1) (tv := T + 98) (es1 := pre ++ (.inr (7, [.ref (n0 + (T + 1)), .int 0, .int 0]) :: ((((([.inl (G.2.1 4, 4, .inr (.inr (.inr (.inr (va_up (va_up (va_up (va_up (fun _ => none) 0 (some (n0 + (T + 2)))) 1 (some (n0 + (T + 34)))) 2 (some (n0 + (T + 66)))) 3 (some (n0 + (T + 98))))))))]) ++ (kX9 G n0 (T + 2))) ++ (kX9 G n0 (T + 34))) ++ (kX9 G n0 (T + 66))) ++ (kX9 G n0 (T + 98))))) C (px_at hT rfl) (px_at hT rfl) (by show ¬ (_ < _ ∨ _ ≤ _); decide) (px_set hT) dX8_init_31 ?_
  refine jc_iinc C 0 4 [(1, .int 4), (0, .ref (n0 + T))] dX8_init_32 rfl (by decide) (by decide) rfl ?_
  refine jc_goto C 14 dX8_init_35 (by decide) ?_
  refine jc_iload_n C 0 dX8_init_14 rfl rfl ?_
  refine jc_iconst C (4 : Int32) rfl dX8_init_15 ?_
  refine jc_icmp_ge C 38 dX8_init_16 (by decide) (fun _ => ?_) (fun c => absurd (by decide) c)
  refine jc_conv (es1 := pre ++ (.inr (7, [.ref (n0 + (T + 1)), .int 0, .int 0]) :: ((((([.inl (G.2.1 4, 4, .inr (.inr (.inr (.inr (fun i => some (n0 + ((T + 1) + (1 + 32 * i))))))))]) ++ (kX9 G n0 (T + 2))) ++ (kX9 G n0 (T + 34))) ++ (kX9 G n0 (T + 66))) ++ (kX9 G n0 (T + 98))))) (fun H hP => ?_) C ?_
  · exact conv_st hT rfl hP
  exact hret _ _ dX8_init_38
def kX2 (G : Gx) (n0 T : Nat) : List va_E := .inr (1, [.ref (n0 + (T + 1)), .ref (n0 + (T + 2)), .null, .int 0, .int 0, .int (-1)]) :: (([.inl (G.2.1 1, (150, .inl (fun _ => 0)))]) ++ [.inl (G.2.1 0, (3, .inl (fun _ => 0)))])
def rX2i : Room := { frames := 1, cells := 2, slots := 153, locals := 20 }
set_option maxRecDepth 100000 in
set_option maxHeartbeats 4000000 in
theorem ci_X2 (l : Launch) (G : Gx) (n0 : Nat) {pre : List va_E} {T : Nat} (hT : pre.length = T) : CtC l yX2_init cX2_init 1 rX2i 2 153 G n0 [.ref (n0 + T)] (pre ++ [.inr (1, bX2)]) (pre ++ kX2 G n0 T) := by
  refine ctc (cc := cX2_init) (maxL := 1) rfl rfl (Nat.le_of_ble_eq_true rfl) ?_
  intro K C Z hret
  have C : Ok K l rX2i cX2_init RX2 G n0 1 := C
  have Z : Hz K (T + 1) := by rw [List.length_append, hT] at Z; exact Z
  show JC K 0 0 (pre ++ [.inr (1, [.null, .null, .null, .int 0, .int 0, .int 0])]) 0 [(0, .ref (n0 + T))] []
  refine jc_aload_n C 0 dX2_init_0 rfl rfl ?_
  refine jc_obj C tw1_201 ⟨Nat.le_of_ble_eq_true rfl, Nat.le_of_ble_eq_true rfl⟩ (Nat.le_of_ble_eq_true rfl) dX2_init_1 ?_
  refine jc_aload_n C 0 dX2_init_4 rfl rfl ?_
  refine jc_sipush C (150 : Int32) rfl dX2_init_5 ?_
  refine jp_newa (xs1 := (.inr (1, [.null, .null, .null, .int 0, .int 0, .int 0]) :: [.inl (G.2.1 1, (150, .inl (fun _ => 0)))])) (j := 1) (N := 150) (t0 := 1) (ty := .byte) hT C Z (150, .inl (fun _ => 0)) rfl rfl rfl rfl tw1_219 rfl (fun _ _ h => h) (fun _ => rfl) (by decide) (by decide) (by decide) ⟨Nat.le_of_ble_eq_true rfl, Nat.le_of_ble_eq_true rfl⟩ dX2_init_8 ?_
  refine jp_put (fs1 := [.ref (n0 + (T + 1)), .null, .null, .int 0, .int 0, .int 0]) (ci := 1) hT C Z tyX2 0 inT2 rfl (by decide) tyX2_ok nmX2 rfl rfl tw1_202 rfl rfl rfl (Nat.le_of_ble_eq_true rfl) rfl dX2_init_10 ?_
  refine jc_aload_n C 0 dX2_init_13 rfl rfl ?_
  refine jc_iconst C (3 : Int32) rfl dX2_init_14 ?_
  refine jp_newa (xs1 := (.inr (1, [.ref (n0 + (T + 1)), .null, .null, .int 0, .int 0, .int 0]) :: (([.inl (G.2.1 1, (150, .inl (fun _ => 0)))]) ++ [.inl (G.2.1 0, (3, .inl (fun _ => 0)))]))) (j := 2) (N := 3) (t0 := 0) (ty := .int) hT C Z (3, .inl (fun _ => 0)) rfl rfl rfl rfl tw1_58 rfl (fun _ _ h => h) (fun _ => rfl) (by decide) (by decide) (by decide) ⟨Nat.le_of_ble_eq_true rfl, Nat.le_of_ble_eq_true rfl⟩ dX2_init_15 ?_
  refine jp_put (fs1 := [.ref (n0 + (T + 1)), .ref (n0 + (T + 2)), .null, .int 0, .int 0, .int 0]) (ci := 1) hT C Z tyX2 1 inT2 rfl (by decide) tyX2_ok nmX2 rfl rfl tw1_203 rfl rfl rfl (Nat.le_of_ble_eq_true rfl) rfl dX2_init_17 ?_
  refine jc_aload_n C 0 dX2_init_20 rfl rfl ?_
  refine jc_iconst C (-1 : Int32) rfl dX2_init_21 ?_
  refine jp_put (fs1 := [.ref (n0 + (T + 1)), .ref (n0 + (T + 2)), .null, .int 0, .int 0, .int (-1)]) (ci := 1) hT C Z tyX2 5 inT2 rfl (by decide) tyX2_ok nmX2 rfl rfl tw1_205 rfl rfl rfl (Nat.le_of_ble_eq_true rfl) rfl dX2_init_22 ?_
  exact hret _ _ dX2_init_25
def kX11 (G : Gx) (n0 T : Nat) : List va_E := .inr (9, [.ref (n0 + (T + 1)), .ref (n0 + (T + 33)), .ref (n0 + (T + 45)), .ref (n0 + (T + 175)), .int 0]) :: (((((kX9 G n0 (T + 1))) ++ (kX3 G n0 (T + 33))) ++ (kX8 G n0 (T + 45))) ++ (kX2 G n0 (T + 175)))
def rX11i : Room := { frames := 5, cells := 177, slots := 8505, locals := 103 }
set_option maxRecDepth 100000 in
set_option maxHeartbeats 4000000 in
theorem ci_X11 (l : Launch) (G : Gx) (n0 : Nat) {pre : List va_E} {T : Nat} (hT : pre.length = T) : CtC l yX11_init cX11_init 1 rX11i 177 8505 G n0 [.ref (n0 + T)] (pre ++ [.inr (9, bX11)]) (pre ++ kX11 G n0 T) := by
  refine ctc (cc := cX11_init) (maxL := 1) rfl rfl (Nat.le_of_ble_eq_true rfl) ?_
  intro K C Z hret
  have C : Ok K l rX11i cX11_init RX11 G n0 1 := C
  have Z : Hz K (T + 1) := by rw [List.length_append, hT] at Z; exact Z
  show JC K 0 0 (pre ++ [.inr (9, [.null, .null, .null, .null, .int 0])]) 0 [(0, .ref (n0 + T))] []
  refine jc_aload_n C 0 dX11_init_0 rfl rfl ?_
  refine jc_obj C tw1_25 ⟨Nat.le_of_ble_eq_true rfl, Nat.le_of_ble_eq_true rfl⟩ (Nat.le_of_ble_eq_true rfl) dX11_init_1 ?_
  refine jc_aload_n C 0 dX11_init_4 rfl rfl ?_
  refine jp_new (xs1 := (.inr (9, [.null, .null, .null, .null, .int 0]) :: [.inr (8, bX9)])) (j := 1) (ci := 8) hT C Z tyX9 bX9 rfl rfl rfl inT9 tyX9_ok tw1_28 tw1_29 tw1_2 rfl bdX9 ⟨Nat.le_of_ble_eq_true rfl, Nat.le_of_ble_eq_true rfl⟩ dX11_init_5 ?_
  refine jc_dup C rfl dX11_init_8 ?_
  refine jp_init (cz := 1) (sz := 8) (st := [.ref (n0 + (T + 1)), .ref (n0 + T)]) (a := n0 + (T + 1)) (xs1 := [.inr (9, [.null, .null, .null, .null, .int 0]), .inr (8, bX9)]) (xs2 := (.inr (9, [.null, .null, .null, .null, .int 0]) :: (kX9 G n0 (T + 1)))) (b0 := .inr (8, bX9)) (bk := (kX9 G n0 (T + 1))) hT C Z 0 [.inr (9, [.null, .null, .null, .null, .int 0])] (ci_X9 l G n0 (pre := pre ++ [.inr (9, [.null, .null, .null, .null, .int 0])]) (T := T + 1) (by rw [List.length_append, hT]; rfl)) rfl rfl rfl (Or.inr nxi_RX11_9) tw1_31 tw1_2 tw1_32 rfl ⟨rfl, rfl⟩ (by decide +kernel) ⟨Nat.le_of_ble_eq_true rfl, Nat.le_of_ble_eq_true rfl⟩ ⟨Nat.le_of_ble_eq_true rfl, Nat.le_of_ble_eq_true rfl⟩ rfl rfl (Nat.le_of_ble_eq_true rfl) dX11_init_9 ?_
  refine jp_put (fs1 := [.ref (n0 + (T + 1)), .null, .null, .null, .int 0]) (ci := 9) hT C Z tyX11 0 inT11 rfl (by decide) tyX11_ok nmX11 rfl rfl tw1_220 rfl rfl rfl (Nat.le_of_ble_eq_true rfl) rfl dX11_init_12 ?_
  refine jc_aload_n C 0 dX11_init_15 rfl rfl ?_
  refine jp_new (xs1 := (.inr (9, [.ref (n0 + (T + 1)), .null, .null, .null, .int 0]) :: (((kX9 G n0 (T + 1))) ++ [.inr (2, bX3)]))) (j := 33) (ci := 2) hT C Z tyX3 bX3 rfl rfl rfl inT3 tyX3_ok tw1_147 tw1_148 tw1_9 rfl bdX3 ⟨Nat.le_of_ble_eq_true rfl, Nat.le_of_ble_eq_true rfl⟩ dX11_init_16 ?_
  refine jc_dup C rfl dX11_init_19 ?_
  refine jp_init (cz := 33) (sz := 1643) (st := [.ref (n0 + (T + 33)), .ref (n0 + T)]) (a := n0 + (T + 33)) (xs1 := (.inr (9, [.ref (n0 + (T + 1)), .null, .null, .null, .int 0]) :: (((kX9 G n0 (T + 1))) ++ [.inr (2, bX3)]))) (xs2 := (.inr (9, [.ref (n0 + (T + 1)), .null, .null, .null, .int 0]) :: (((kX9 G n0 (T + 1))) ++ (kX3 G n0 (T + 33))))) (b0 := .inr (2, bX3)) (bk := (kX3 G n0 (T + 33))) hT C Z 0 (.inr (9, [.ref (n0 + (T + 1)), .null, .null, .null, .int 0]) :: ((kX9 G n0 (T + 1)))) (ci_X3 l G n0 (pre := pre ++ (.inr (9, [.ref (n0 + (T + 1)), .null, .null, .null, .int 0]) :: ((kX9 G n0 (T + 1))))) (T := T + 33) (by rw [List.length_append, hT]; rfl)) rfl rfl rfl (Or.inr nxi_RX11_18) tw1_150 tw1_9 tw1_151 rfl ⟨rfl, rfl⟩ (by decide +kernel) ⟨Nat.le_of_ble_eq_true rfl, Nat.le_of_ble_eq_true rfl⟩ ⟨Nat.le_of_ble_eq_true rfl, Nat.le_of_ble_eq_true rfl⟩ rfl rfl (Nat.le_of_ble_eq_true rfl) dX11_init_20 ?_
  refine jp_put (fs1 := [.ref (n0 + (T + 1)), .ref (n0 + (T + 33)), .null, .null, .int 0]) (ci := 9) hT C Z tyX11 1 inT11 rfl (by decide) tyX11_ok nmX11 rfl rfl tw1_221 rfl rfl rfl (Nat.le_of_ble_eq_true rfl) rfl dX11_init_23 ?_
  refine jc_aload_n C 0 dX11_init_26 rfl rfl ?_
  refine jp_new (xs1 := (.inr (9, [.ref (n0 + (T + 1)), .ref (n0 + (T + 33)), .null, .null, .int 0]) :: ((((kX9 G n0 (T + 1))) ++ (kX3 G n0 (T + 33))) ++ [.inr (7, bX8)]))) (j := 45) (ci := 7) hT C Z tyX8 bX8 rfl rfl rfl inT8 tyX8_ok tw1_177 tw1_178 tw1_10 rfl bdX8 ⟨Nat.le_of_ble_eq_true rfl, Nat.le_of_ble_eq_true rfl⟩ dX11_init_27 ?_
  refine jc_dup C rfl dX11_init_30 ?_
  refine jp_init (cz := 45) (sz := 1798) (st := [.ref (n0 + (T + 45)), .ref (n0 + T)]) (a := n0 + (T + 45)) (xs1 := (.inr (9, [.ref (n0 + (T + 1)), .ref (n0 + (T + 33)), .null, .null, .int 0]) :: ((((kX9 G n0 (T + 1))) ++ (kX3 G n0 (T + 33))) ++ [.inr (7, bX8)]))) (xs2 := (.inr (9, [.ref (n0 + (T + 1)), .ref (n0 + (T + 33)), .null, .null, .int 0]) :: ((((kX9 G n0 (T + 1))) ++ (kX3 G n0 (T + 33))) ++ (kX8 G n0 (T + 45))))) (b0 := .inr (7, bX8)) (bk := (kX8 G n0 (T + 45))) hT C Z 0 (.inr (9, [.ref (n0 + (T + 1)), .ref (n0 + (T + 33)), .null, .null, .int 0]) :: (((kX9 G n0 (T + 1))) ++ (kX3 G n0 (T + 33)))) (ci_X8 l G n0 (pre := pre ++ (.inr (9, [.ref (n0 + (T + 1)), .ref (n0 + (T + 33)), .null, .null, .int 0]) :: (((kX9 G n0 (T + 1))) ++ (kX3 G n0 (T + 33))))) (T := T + 45) (by rw [List.length_append, hT]; rfl)) rfl rfl rfl (Or.inl tw1_179) tw1_180 tw1_10 tw1_181 rfl ⟨rfl, rfl⟩ (by decide +kernel) ⟨Nat.le_of_ble_eq_true rfl, Nat.le_of_ble_eq_true rfl⟩ ⟨Nat.le_of_ble_eq_true rfl, Nat.le_of_ble_eq_true rfl⟩ rfl rfl (Nat.le_of_ble_eq_true rfl) dX11_init_31 ?_
  refine jp_put (fs1 := [.ref (n0 + (T + 1)), .ref (n0 + (T + 33)), .ref (n0 + (T + 45)), .null, .int 0]) (ci := 9) hT C Z tyX11 2 inT11 rfl (by decide) tyX11_ok nmX11 rfl rfl tw1_222 rfl rfl rfl (Nat.le_of_ble_eq_true rfl) rfl dX11_init_34 ?_
  refine jc_aload_n C 0 dX11_init_37 rfl rfl ?_
  refine jp_new (xs1 := (.inr (9, [.ref (n0 + (T + 1)), .ref (n0 + (T + 33)), .ref (n0 + (T + 45)), .null, .int 0]) :: (((((kX9 G n0 (T + 1))) ++ (kX3 G n0 (T + 33))) ++ (kX8 G n0 (T + 45))) ++ [.inr (1, bX2)]))) (j := 175) (ci := 1) hT C Z tyX2 bX2 rfl rfl rfl inT2 tyX2_ok tw1_196 tw1_197 tw1_11 rfl bdX2 ⟨Nat.le_of_ble_eq_true rfl, Nat.le_of_ble_eq_true rfl⟩ dX11_init_38 ?_
  refine jc_dup C rfl dX11_init_41 ?_
  refine jp_init (cz := 175) (sz := 8352) (st := [.ref (n0 + (T + 175)), .ref (n0 + T)]) (a := n0 + (T + 175)) (xs1 := (.inr (9, [.ref (n0 + (T + 1)), .ref (n0 + (T + 33)), .ref (n0 + (T + 45)), .null, .int 0]) :: (((((kX9 G n0 (T + 1))) ++ (kX3 G n0 (T + 33))) ++ (kX8 G n0 (T + 45))) ++ [.inr (1, bX2)]))) (xs2 := (.inr (9, [.ref (n0 + (T + 1)), .ref (n0 + (T + 33)), .ref (n0 + (T + 45)), .null, .int 0]) :: (((((kX9 G n0 (T + 1))) ++ (kX3 G n0 (T + 33))) ++ (kX8 G n0 (T + 45))) ++ (kX2 G n0 (T + 175))))) (b0 := .inr (1, bX2)) (bk := (kX2 G n0 (T + 175))) hT C Z 0 (.inr (9, [.ref (n0 + (T + 1)), .ref (n0 + (T + 33)), .ref (n0 + (T + 45)), .null, .int 0]) :: ((((kX9 G n0 (T + 1))) ++ (kX3 G n0 (T + 33))) ++ (kX8 G n0 (T + 45)))) (ci_X2 l G n0 (pre := pre ++ (.inr (9, [.ref (n0 + (T + 1)), .ref (n0 + (T + 33)), .ref (n0 + (T + 45)), .null, .int 0]) :: ((((kX9 G n0 (T + 1))) ++ (kX3 G n0 (T + 33))) ++ (kX8 G n0 (T + 45))))) (T := T + 175) (by rw [List.length_append, hT]; rfl)) rfl rfl rfl (Or.inr nxi_RX11_32) tw1_199 tw1_11 tw1_200 rfl ⟨rfl, rfl⟩ (by decide +kernel) ⟨Nat.le_of_ble_eq_true rfl, Nat.le_of_ble_eq_true rfl⟩ ⟨Nat.le_of_ble_eq_true rfl, Nat.le_of_ble_eq_true rfl⟩ rfl rfl (Nat.le_of_ble_eq_true rfl) dX11_init_42 ?_
  refine jp_put (fs1 := [.ref (n0 + (T + 1)), .ref (n0 + (T + 33)), .ref (n0 + (T + 45)), .ref (n0 + (T + 175)), .int 0]) (ci := 9) hT C Z tyX11 3 inT11 rfl (by decide) tyX11_ok nmX11 rfl rfl tw1_223 rfl rfl rfl (Nat.le_of_ble_eq_true rfl) rfl dX11_init_45 ?_
  refine jc_aload_n C 0 dX11_init_48 rfl rfl ?_
  refine jc_iconst C (0 : Int32) rfl dX11_init_49 ?_
  refine jp_put (fs1 := [.ref (n0 + (T + 1)), .ref (n0 + (T + 33)), .ref (n0 + (T + 45)), .ref (n0 + (T + 175)), .int 0]) (ci := 9) hT C Z tyX11 4 inT11 rfl (by decide) tyX11_ok nmX11 rfl rfl tw1_224 rfl rfl rfl (Nat.le_of_ble_eq_true rfl) rfl dX11_init_50 ?_
  exact hret _ _ dX11_init_53
