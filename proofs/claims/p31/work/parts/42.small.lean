theorem j_scr' {K : Kx} {l : Launch} {R : Room} {cc : ByteArray} {own : String} {G : Gx} {n0 nL : Nat} {M : Mem} {pc : Nat} {L : List (Nat × Value)} {st : List Value} {S : Nat × (Nat → Int32)} (C : Ok K l R cc own G n0 nL) (hS : S = G.2.2.2) {i v : Int32} (hin : vp_in i S.1) (hv : S.2 i.toNatClampNeg = v) (hdg : decode cc pc = .ok (.iaload, 1)) (kk : J K M (pc + 1) L (.int v :: st)) : J K M pc L (.int i :: .ref G.2.2.1 :: st) := by
  subst hS
  exact j_scr C hin hv hdg kk
theorem j_slen' {K : Kx} {l : Launch} {R : Room} {cc : ByteArray} {own : String} {G : Gx} {n0 nL : Nat} {M : Mem} {pc : Nat} {L : List (Nat × Value)} {st : List Value} {S : Nat × (Nat → Int32)} (C : Ok K l R cc own G n0 nL) (hS : S = G.2.2.2) (hdg : decode cc pc = .ok (.arraylength, 1)) (kk : J K M (pc + 1) L (.int (Int32.ofNat S.1) :: st)) : J K M pc L (.ref G.2.2.1 :: st) := by
  subst hS
  exact j_slen C hdg kk
def lab {α β : Type} (k : α → Option β) (f : (α → Option β) → Option β) : Option β := f k
theorem lab_i {α β : Type} {k : α → Option β} {f : (α → Option β) → Option β} {x : β} {G : Prop} (P : α → Prop) (h : lab k f = some x) (h1 : ∀ a, k a = some x → P a) (h2 : ∀ k3 : α → Option β, (∀ a, k3 a = some x → P a) → f k3 = some x → G) : G := h2 k h1 h
def fL_cell (S : Nat × (Nat → Int32)) (x1 : Int32) : Option Int32 :=
  (if (Int32.ofNat S.1) ≤ x1 then (some ((916318735 : Int32) * (x1 + (3 : Int32))))
  else ((ald S.2 S.1 x1).bind fun v2 =>
  some v2)).bind (fun z5 => some (z5 ^^^ (((z5).toUInt32 >>> (((15 : Int32)).toUInt32 &&& Int32.toUInt32 31)).toInt32)))

def rL_cell : Room := { frames := 0, cells := 0, slots := 0, locals := 0 }
set_option maxRecDepth 100000 in
set_option maxHeartbeats 4000000 in
theorem c_L_cell (l : Launch) (G : Gx) (n0 : Nat) {S : Nat × (Nat → Int32)} {x1 : Int32} {M : Mem} {r : Int32} (hS : S = G.2.2.2) (hf : fL_cell S x1 = some r) : Ct l yL_cell cL_cell 3 (some .int) rL_cell G n0 [.ref G.2.2.1, .int x1] M (some (.int r)) M := by
  refine ct_int (cc := cL_cell) (maxL := 3) rfl (Nat.le_of_ble_eq_true rfl) ?_
  intro K C hret
  have C : Ok K l rL_cell cL_cell RL G n0 3 := C
  show J K M 0 [(0, .ref G.2.2.1), (1, .int x1)] []
  unfold fL_cell at hf
  refine j_iload_n C 1 dL_cell_0 rfl rfl ?_
  refine j_aload_n C 0 dL_cell_1 rfl rfl ?_
  refine j_slen' C hS dL_cell_2 ?_
  obtain ⟨z5, e6, hf⟩ := bd hf
  have hj7 : J K M 18 [] [.int z5] := by
    refine j_istore_n C [(2, .int z5)] dL_cell_18 rfl (Nat.le_of_ble_eq_true rfl) rfl ?_
    refine j_iload_n C 0 dL_cell_19 rfl rfl ?_
    refine j_iload_n C 0 dL_cell_20 rfl rfl ?_
    refine j_bipush C (15 : Int32) rfl dL_cell_21 ?_
    refine j_iushr C dL_cell_23 ?_
    refine j_ixor C dL_cell_24 ?_
    obtain rfl := Option.some.inj hf
    exact hret _ _ dL_cell_25
  clear hf
  have hf := e6
  refine j_icmp_ge C 12 dL_cell_3 (by decide) (fun c1 => ?_) (fun c1 => ?_)
  · replace hf := ip c1 hf
    refine j_ldc C tw1_239 dL_cell_12 ?_
    refine j_iload_n C 1 dL_cell_14 rfl rfl ?_
    refine j_iconst C (3 : Int32) rfl dL_cell_15 ?_
    refine j_iadd C dL_cell_16 ?_
    refine j_imul C dL_cell_17 ?_
    cases hf
    refine j_sub [] rfl ?_
    exact hj7
  · replace hf := ine c1 hf
    refine j_aload_n C 0 dL_cell_6 rfl rfl ?_
    refine j_iload_n C 1 dL_cell_7 rfl rfl ?_
    obtain ⟨v2, e3, hf⟩ := bd hf
    obtain ⟨hx4, e3⟩ := ald_some e3
    refine j_scr' C hS hx4 e3 dL_cell_8 ?_
    refine j_goto C 18 dL_cell_9 (by decide) ?_
    cases hf
    refine j_sub [] rfl ?_
    exact hj7
def fL_low (x0 : Int32) (x1 : Int32) : Option Int32 :=
  if x1 = 0 then none else
  some ((x0 &&& (2147483647 : Int32)) - (x0 &&& (2147483647 : Int32)) / x1 * x1)

def rL_low : Room := { frames := 0, cells := 0, slots := 0, locals := 0 }
set_option maxRecDepth 100000 in
set_option maxHeartbeats 4000000 in
theorem c_L_low (l : Launch) (G : Gx) (n0 : Nat) {x0 : Int32} {x1 : Int32} {M : Mem} {r : Int32} (hf : fL_low x0 x1 = some r) : Ct l yL_low cL_low 2 (some .int) rL_low G n0 [.int x0, .int x1] M (some (.int r)) M := by
  refine ct_int (cc := cL_low) (maxL := 2) rfl (Nat.le_of_ble_eq_true rfl) ?_
  intro K C hret
  have C : Ok K l rL_low cL_low RL G n0 2 := C
  show J K M 0 [(0, .int x0), (1, .int x1)] []
  unfold fL_low at hf
  refine j_iload_n C 0 dL_low_0 rfl rfl ?_
  refine j_ldc C tw2_3 dL_low_1 ?_
  refine j_iand C dL_low_3 ?_
  refine j_iload_n C 1 dL_low_4 rfl rfl ?_
  obtain ⟨hd1, hf⟩ := gd hf
  refine j_irem C hd1 dL_low_5 ?_
  obtain rfl := Option.some.inj hf
  exact hret _ _ dL_low_6
def lL_ones_4  : Nat → Int32 → Int32 → Option Int32
  | 0, _, _ => none
  | n + 1, a1, a2 =>
  if a2 ≤ 0 then (some a1)
  else (lL_ones_4  n (a1 + (a2 - a2 / (2 : Int32) * (2 : Int32))) (a2 / (2 : Int32)))

def fL_ones (x0 : Int32) : Option Int32 :=
  (lL_ones_4 FUEL (0 : Int32) x0).bind (fun a4 => some a4)

def rL_ones : Room := { frames := 0, cells := 0, slots := 0, locals := 0 }
set_option maxRecDepth 100000 in
set_option maxHeartbeats 4000000 in
theorem c_L_ones (l : Launch) (G : Gx) (n0 : Nat) {x0 : Int32} {M : Mem} {r : Int32} (hf : fL_ones x0 = some r) : Ct l yL_ones cL_ones 3 (some .int) rL_ones G n0 [.int x0] M (some (.int r)) M := by
  refine ct_int (cc := cL_ones) (maxL := 3) rfl (Nat.le_of_ble_eq_true rfl) ?_
  intro K C hret
  have C : Ok K l rL_ones cL_ones RL G n0 3 := C
  show J K M 0 [(0, .int x0)] []
  unfold fL_ones at hf
  refine j_iconst C (0 : Int32) rfl dL_ones_0 ?_
  refine j_istore_n C [(1, .int (0 : Int32)), (0, .int x0)] dL_ones_1 rfl (Nat.le_of_ble_eq_true rfl) rfl ?_
  refine j_iload_n C 1 dL_ones_2 rfl rfl ?_
  refine j_istore_n C [(2, .int x0), (1, .int (0 : Int32)), (0, .int x0)] dL_ones_3 rfl (Nat.le_of_ble_eq_true rfl) rfl ?_
  obtain ⟨a4, e5, hf⟩ := bd hf
  have hx6 : J K M 21 [(1, .int a4)] [] := by
    refine j_iload_n C 0 dL_ones_21 rfl rfl ?_
    obtain rfl := Option.some.inj hf
    exact hret _ _ dL_ones_22
  clear hf
  have hl7 : ∀ (n : Nat) (a1 : Int32) (a2 : Int32), lL_ones_4 n a1 a2 = some a4 → J K M 4 [(1, .int a1), (2, .int a2)] [] := by
    intro n
    induction n with
    | zero =>
      intro a1 a2 hf
      exact absurd hf (by rw [lL_ones_4]; exact fun h => by cases h)
    | succ n ih =>
      intro a1 a2 hf
      rw [lL_ones_4] at hf
      refine j_iload_n C 1 dL_ones_4 rfl rfl ?_
      refine j_if_le C 21 dL_ones_5 (by decide) (fun c3 => ?_) (fun c3 => ?_)
      · replace hf := ip c3 hf
        refine j_sub [0] rfl ?_
        cases hf
        exact hx6
      · replace hf := ine c3 hf
        refine j_iload_n C 0 dL_ones_8 rfl rfl ?_
        refine j_iload_n C 1 dL_ones_9 rfl rfl ?_
        refine j_iconst C (2 : Int32) rfl dL_ones_10 ?_
        refine j_irem C (by decide) dL_ones_11 ?_
        refine j_iadd C dL_ones_12 ?_
        refine j_istore_n C [(1, .int (a1 + (a2 - a2 / (2 : Int32) * (2 : Int32)))), (2, .int a2)] dL_ones_13 rfl (Nat.le_of_ble_eq_true rfl) rfl ?_
        refine j_iload_n C 1 dL_ones_14 rfl rfl ?_
        refine j_iconst C (2 : Int32) rfl dL_ones_15 ?_
        refine j_idiv C (by decide) dL_ones_16 ?_
        refine j_istore_n C [(2, .int (a2 / (2 : Int32))), (1, .int (a1 + (a2 - a2 / (2 : Int32) * (2 : Int32))))] dL_ones_17 rfl (Nat.le_of_ble_eq_true rfl) rfl ?_
        refine j_goto C 4 dL_ones_18 (by decide) ?_
        refine j_sub [1, 0] rfl ?_
        exact ih _ _ hf
  refine j_sub [1, 0] rfl ?_
  exact hl7 FUEL (0 : Int32) x0 e5
