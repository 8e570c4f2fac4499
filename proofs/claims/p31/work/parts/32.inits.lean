theorem px_at {pre xs : List va_E} {T j : Nat} {e : va_E} (hT : pre.length = T) (h : xs[j]? = some e) : (pre ++ xs)[T + j]? = some e := by
  rw [List.getElem?_append_right (by omega), hT, show T + j - T = j by omega]; exact h
theorem px_set {pre xs : List va_E} {T j : Nat} {e : va_E} (hT : pre.length = T) : (pre ++ xs).set (T + j) e = pre ++ xs.set j e := by
  rw [List.set_append_right _ _ (by omega), hT, show T + j - T = j by omega]
section JPS
variable {K : Kx} {l : Launch} {R : Room} {cc : ByteArray} {own : String} {G : Gx} {n0 nL : Nat} {cz sz : Nat} {pre xs xs1 xs2 : List va_E} {pc index T : Nat} {L : List (Nat × Value)} {st st0 : List Value}
theorem jp_new (hT : pre.length = T) (C : Ok K l R cc own G n0 nL) (Z : Hz K (T + 1)) {ci j : Nat} {D : String} {U : u_T} {N : Nat} (ty : Nat → FieldType) (fs : List Value) (hx : xs.length = cz + 1) (hj : cz + 1 = j) (hx1 : xs ++ [.inr (ci, fs)] = xs1) (hin : ∀ w ∈ u_ws D U N, w ∈ TB) (hty : ∀ k, k < N → parseFieldDescriptor (U k).2.2.1 = some (ty k)) (hcl : Cond.classLink own index D ∈ TB) (hinst : Cond.instantiable D N ∈ TB) (hini : Cond.initialized D ∈ TB) (hc : vwCl[ci]? = some (D, U, N)) (hfs : ∀ j, j < N → defaultValue (ty j) = vp_V fs j) (hR : cz + 1 ≤ R.cells ∧ sz + N ≤ R.slots) (hdg : decode cc pc = .ok (.new index, 3))
    (kk : JC K (cz + 1) (sz + N) (pre ++ xs1) (pc + 3) L (.ref (n0 + (T + j)) :: st)) : JC K cz sz (pre ++ xs) pc L st := by
  subst hx1 hj
  have e1 : (pre ++ xs).length = T + (cz + 1) := by rw [List.length_append, hT, hx]
  refine jc_new C Z ty fs hin hty hcl hinst hini hc hfs hR (by omega) hdg ?_
  rw [e1, List.append_assoc]
  exact kk
theorem jp_newa (hT : pre.length = T) (C : Ok K l R cc own G n0 nL) (Z : Hz K (T + 1)) {atype : ArrayType} {ty : FieldType} {n : Int32} {N t0 j : Nat} {cA0 : ClassId} (a0 : vp_A) (hx : xs.length = cz + 1) (hj : cz + 1 = j) (hx1 : xs ++ [.inl (cA0, a0)] = xs1) (hty : newarray.typeOf atype = ty) (harr : Cond.arrayClass ty ∈ TB) (ht0 : (tyG G)[t0]? = some (cA0, ty)) (hRA : ∀ U cA, va_RA U cA ty → U.vm.findClass ("[" ++ ty.toString) = some cA) (ha : ∀ cA : ClassId, vp_cell cA a0 = arrV cA N (fun _ => defaultValue ty)) (hn : ¬ n < 0) (hN : n.toNatClampNeg = N) (hby : N * componentBytes ty ≤ 536870912) (hR : cz + 1 ≤ R.cells ∧ sz + N ≤ R.slots) (hdg : decode cc pc = .ok (.newarray atype, 2))
    (kk : JC K (cz + 1) (sz + N) (pre ++ xs1) (pc + 2) L (.ref (n0 + (T + j)) :: st)) : JC K cz sz (pre ++ xs) pc L (.int n :: st) := by
  subst hx1 hj
  have e1 : (pre ++ xs).length = T + (cz + 1) := by rw [List.length_append, hT, hx]
  refine jc_newa C Z a0 hty harr ht0 hRA ha hn hN hby hR (by omega) hdg ?_
  rw [e1, List.append_assoc]
  exact kk
theorem jp_anew (hT : pre.length = T) (C : Ok K l R cc own G n0 nL) (Z : Hz K (T + 1)) {j : Nat} (hx : xs.length = cz + 1) (hj : cz + 1 = j) (hx1 : xs ++ [.inl (G.2.1 4, 4, .inr (.inr (.inr (.inr (fun _ => none)))))] = xs1) (hcl : Cond.classLink own index RX9 ∈ TB) (hR : cz + 1 ≤ R.cells ∧ sz + 4 ≤ R.slots) (hdg : decode cc pc = .ok (.anewarray index, 3))
    (kk : JC K (cz + 1) (sz + 4) (pre ++ xs1) (pc + 3) L (.ref (n0 + (T + j)) :: st)) : JC K cz sz (pre ++ xs) pc L (.int 4 :: st) := by
  subst hx1 hj
  have e1 : (pre ++ xs).length = T + (cz + 1) := by rw [List.length_append, hT, hx]
  refine jc_anew C Z hcl hR (by omega) hdg ?_
  rw [e1, List.append_assoc]
  exact kk
theorem jp_mna (hT : pre.length = T) (C : Ok K l R cc own G n0 nL) (Z : Hz K (T + 1)) {n k : Int32} {N r j : Nat} (hx : xs.length = cz + 1) (hj : cz + 1 = j) (hx1 : xs ++ (.inl (G.2.1 3, N, .inr (.inr (.inr (.inr (fun i => some (n0 + ((T + j) + (1 + i)))))))) :: List.replicate N (.inl (G.2.1 0, r, .inl (fun _ => 0)))) = xs1) (hcl : Cond.classLink own index "[[I" ∈ TB) (hn : ¬ n < 0) (hk : ¬ k < 0) (hN : n.toNatClampNeg = N) (hr : k.toNatClampNeg = r) (hb1 : N ≤ 134217728) (hb2 : r ≤ 134217728) (hR : cz + (1 + N) ≤ R.cells ∧ sz + (N + N * r) ≤ R.slots) (hdg : decode cc pc = .ok (.multianewarray index 2, 4))
    (kk : JC K (cz + 1 + N) (sz + N + N * r) (pre ++ xs1) (pc + 4) L (.ref (n0 + (T + j)) :: st)) : JC K cz sz (pre ++ xs) pc L (.int k :: .int n :: st) := by
  subst hx1 hj
  have e1 : (pre ++ xs).length = T + (cz + 1) := by rw [List.length_append, hT, hx]
  refine jc_mna C Z hcl hn hk hN hr hb1 hb2 hR (by omega) hdg ?_
  rw [e1, List.append_assoc]
  exact kk
theorem jp_init {y : MethodName} {rm : Room} {bytes : ByteArray} {maxL mc ms a : Nat} {As : List Value} {b0 : va_E} {bk : List va_E} (hT : pre.length = T) (C : Ok K l R cc own G n0 nL) (Z : Hz K (T + 1)) (n : Nat) (xs : List va_E) (h : CtC l y bytes maxL rm mc ms G n0 (.ref a :: As) ((pre ++ xs) ++ [b0]) ((pre ++ xs) ++ bk)) (hx : xs1.length = cz + 1) (hx1 : xs ++ [b0] = xs1) (hx2 : xs ++ bk = xs2) (hlk : Cond.methodLink own index y ∈ TB ∨ (own, index, y) ∈ nxM) (hin : Cond.instanceMethod y ∈ TB) (hini : Cond.initialized y.cls ∈ TB) (hcode : Cond.code y bytes maxL none ∈ TB) (hyn : y.name = "<init>") (hrm : rm.cells = mc ∧ rm.slots = ms)
    (hd : y.cls ≠ "java/lang/invoke/MethodHandle" ∧ y.cls ≠ "java/lang/invoke/VarHandle" ∧ (parseMethodDescriptor y.desc).map (fun d => d.parameters.length) = some n) (hR : rm.frames + 1 ≤ R.frames ∧ 8 + (maxL + 11) + rm.locals ≤ R.locals) (hRc : cz + mc ≤ R.cells ∧ sz + ms ≤ R.slots) (hn : As.length = n) (hst : st0 = As.reverse ++ .ref a :: st) (hW : (st.map fun v => v.category).sum ≤ 8) (hdg : decode cc pc = .ok (.invokespecial index, 3))
    (kk : JC K (cz + mc) (sz + ms) (pre ++ xs2) (pc + 3) L st) : JC K cz sz (pre ++ xs1) pc L st0 := by
  subst hx1 hx2
  rw [← List.append_assoc] at kk ⊢
  refine jc_init C Z n h hlk hin hini hcode hyn hrm hd hR hRc hn hst hW ?_ hdg kk
  rw [List.append_assoc, List.length_append, hT, hx]; omega
theorem jp_put (hT : pre.length = T) (C : Ok K l R cc own G n0 nL) (Z : Hz K (T + 1)) {D : String} {U : u_T} {N ci : Nat} {fs fs1 : List Value} {tl : List va_E} {v : Value} {ty : FieldType} (ty0 : Nat → FieldType) (k : Nat) (hin : ∀ w ∈ u_ws D U N, w ∈ TB) (hc : vwCl[ci]? = some (D, U, N)) (hk : k < N) (hty : ∀ k, k < N → parseFieldDescriptor (U k).2.2.1 = some (ty0 k)) (hnm : ∀ a, a < N → ∀ b, b < N → a ≠ b → (U a).2.1 ≠ (U b).2.1) (hD : (U k).1 = D) (hO : D = own) (hlk : Cond.fieldLink own index D (U k).2.1 (U k).2.2.1 ∈ TB) (hd : parseFieldDescriptor (U k).2.2.1 = some ty) (hn : narrow ty v = v) (hfit : fits ty v = true) (hl' : k < fs.length) (hf1 : fs.set k v = fs1) (hdg : decode cc pc = .ok (.putfield index, 3))
    (kk : JC K cz sz (pre ++ (.inr (ci, fs1) :: tl)) (pc + 3) L st) : JC K cz sz (pre ++ (.inr (ci, fs) :: tl)) pc L (v :: .ref (n0 + T) :: st) :=
  jc_put C ty0 k Z hin hc hk hty hnm hD hO hlk hd hn hfit (px_at (j := 0) hT rfl) hl' hf1 (px_set (j := 0) hT) hdg kk
theorem jc_conv {es es1 : List va_E} (hc : ∀ H, va_P G.1 vwCl (wz n0 es) H → va_P G.1 vwCl (wz n0 es1) H) (C : Ok K l R cc own G n0 nL) (kk : JC K cz sz es1 pc L st) : JC K cz sz es pc L st := by
  obtain ⟨p, l', e, R', s, m, args, below, meth, c, Q, G', n0', nL', cells, slots⟩ := K
  obtain ⟨rfl, rfl, rfl, rfl, rfl, hx, hb, hown, hts, hK, hml, hSt, hce, hsl⟩ := C
  intro H locs ls hP hS hl
  exact kk H locs ls (hc H hP) hS hl
end JPS
theorem conv_at {D : va_G} {cl : List vw_C} {n0 t : Nat} {es : List va_E} {e e1 : va_E} {H : Heap} (he : es[t]? = some e) (hce : ∀ q H, va_at D cl (q, e) H → va_at D cl (q, e1) H) (hP : va_P D cl (wz n0 es) H) : va_P D cl (wz n0 (es.set t e1)) H := by
  intro k q hq
  obtain ⟨q1, q2⟩ := wz_key hq
  obtain ⟨qa, qe⟩ := q
  dsimp only at q1 q2
  subst q1
  by_cases h : t = k
  · subst h
    have hl := (List.getElem?_eq_some_iff.mp he).1
    rw [List.getElem?_set_self hl] at q2
    cases q2
    exact hce _ _ (hP t _ (wz_at he))
  · rw [List.getElem?_set_ne h] at q2
    exact hP k _ (wz_at q2)
theorem nxi_RX9_11 : (RX9, 11, yX4_init) ∈ nxM := by decide +kernel
theorem nxi_RX9_20 : (RX9, 20, yX1_init) ∈ nxM := by decide +kernel
theorem nxi_RX9_27 : (RX9, 27, yX5_init) ∈ nxM := by decide +kernel
theorem nxi_RX9_34 : (RX9, 34, yX6_init) ∈ nxM := by decide +kernel
theorem nxi_RX11_9 : (RX11, 9, yX9_init) ∈ nxM := by decide +kernel
theorem nxi_RX11_18 : (RX11, 18, yX3_init) ∈ nxM := by decide +kernel
theorem nxi_RX3_23 : (RX3, 23, yX5_init) ∈ nxM := by decide +kernel
theorem nxi_RX8_15 : (RX8, 15, yX9_init) ∈ nxM := by decide +kernel
theorem nxi_RX11_32 : (RX11, 32, yX2_init) ∈ nxM := by decide +kernel
def bX7 : List Value := [.null, .int 0]
theorem bdX7 : ∀ j, j < 2 → defaultValue (tyX7 j) = vp_V bX7 j := fun j hj => match j, hj with | 0, _ => rfl | 1, _ => rfl | _ + 2, h => absurd h (by omega)
def bX4 : List Value := [.null, .int 0]
theorem bdX4 : ∀ j, j < 2 → defaultValue (tyX4 j) = vp_V bX4 j := fun j hj => match j, hj with | 0, _ => rfl | 1, _ => rfl | _ + 2, h => absurd h (by omega)
def bX1 : List Value := [.null, .int 0]
theorem bdX1 : ∀ j, j < 2 → defaultValue (tyX1 j) = vp_V bX1 j := fun j hj => match j, hj with | 0, _ => rfl | 1, _ => rfl | _ + 2, h => absurd h (by omega)
def bX5 : List Value := [.null, .int 0]
theorem bdX5 : ∀ j, j < 2 → defaultValue (tyX5 j) = vp_V bX5 j := fun j hj => match j, hj with | 0, _ => rfl | 1, _ => rfl | _ + 2, h => absurd h (by omega)
def bX6 : List Value := [.null, .int 0, .int 0]
theorem bdX6 : ∀ j, j < 3 → defaultValue (tyX6 j) = vp_V bX6 j := fun j hj => match j, hj with | 0, _ => rfl | 1, _ => rfl | 2, _ => rfl | _ + 3, h => absurd h (by omega)
def bX9 : List Value := [.null, .null, .null, .null, .int 0, .int 0, .int 0, .int 0]
theorem bdX9 : ∀ j, j < 8 → defaultValue (tyX9 j) = vp_V bX9 j := fun j hj => match j, hj with | 0, _ => rfl | 1, _ => rfl | 2, _ => rfl | 3, _ => rfl | 4, _ => rfl | 5, _ => rfl | 6, _ => rfl | 7, _ => rfl | _ + 8, h => absurd h (by omega)
def bX3 : List Value := [.null, .null, .null, .null, .int 0, .int 0, .int 0]
theorem bdX3 : ∀ j, j < 7 → defaultValue (tyX3 j) = vp_V bX3 j := fun j hj => match j, hj with | 0, _ => rfl | 1, _ => rfl | 2, _ => rfl | 3, _ => rfl | 4, _ => rfl | 5, _ => rfl | 6, _ => rfl | _ + 7, h => absurd h (by omega)
def bX8 : List Value := [.null, .int 0, .int 0]
theorem bdX8 : ∀ j, j < 3 → defaultValue (tyX8 j) = vp_V bX8 j := fun j hj => match j, hj with | 0, _ => rfl | 1, _ => rfl | 2, _ => rfl | _ + 3, h => absurd h (by omega)
def bX2 : List Value := [.null, .null, .null, .int 0, .int 0, .int 0]
theorem bdX2 : ∀ j, j < 6 → defaultValue (tyX2 j) = vp_V bX2 j := fun j hj => match j, hj with | 0, _ => rfl | 1, _ => rfl | 2, _ => rfl | 3, _ => rfl | 4, _ => rfl | 5, _ => rfl | _ + 6, h => absurd h (by omega)
def bX11 : List Value := [.null, .null, .null, .null, .int 0]
theorem bdX11 : ∀ j, j < 5 → defaultValue (tyX11 j) = vp_V bX11 j := fun j hj => match j, hj with | 0, _ => rfl | 1, _ => rfl | 2, _ => rfl | 3, _ => rfl | 4, _ => rfl | _ + 5, h => absurd h (by omega)
theorem conv_st {D : va_G} {n0 T : Nat} {pre tl : List va_E} {o : va_E} {cA : ClassId} {H : Heap} (hT : pre.length = T) {e0 : va_E} (he : e0 = .inl (cA, 4, .inr (.inr (.inr (.inr (va_up (va_up (va_up (va_up (fun _ => none) 0 (some (n0 + (T + 2)))) 1 (some (n0 + (T + 34)))) 2 (some (n0 + (T + 66)))) 3 (some (n0 + (T + 98)))))))))
    (hP : va_P D vwCl (wz n0 (pre ++ (o :: (e0 :: tl)))) H) : va_P D vwCl (wz n0 (pre ++ (o :: (.inl (cA, 4, .inr (.inr (.inr (.inr (fun i => some (n0 + ((T + 1) + (1 + 32 * i)))))))) :: tl)))) H := by
  have h1 := conv_at (e1 := .inl (cA, 4, .inr (.inr (.inr (.inr (fun i => some (n0 + ((T + 1) + (1 + 32 * i))))))))) (px_at (j := 1) hT (xs := o :: (e0 :: tl)) rfl) (fun q H h => ?_) hP
  · rw [px_set hT] at h1
    exact h1
  · subst he
    have h2 : H[q]? = some (vp_cell _ _) := h
    show H[q]? = some (vp_cell _ _)
    rw [h2]
    simp only [vp_cell_q]
    unfold arrV
    congr 2
def kX7 (G : Gx) (n0 T N r : Nat) (k : Int32) : List va_E := .inr (6, [.ref (n0 + (T + 1)), .int k]) :: ((.inl (G.2.1 3, N, .inr (.inr (.inr (.inr (fun i => some (n0 + ((T + 1) + (1 + i)))))))) :: List.replicate N (.inl (G.2.1 0, r, .inl (fun _ => 0)))))
def rX7i (N r : Nat) : Room := { frames := 1, cells := 1 + N, slots := N + N * r, locals := 20 }
set_option maxRecDepth 100000 in
set_option maxHeartbeats 4000000 in
theorem ci_X7 (l : Launch) (G : Gx) (n0 : Nat) {pre : List va_E} {T : Nat} (hT : pre.length = T) {n k : Int32} {N r : Nat} (hn : ¬ n < 0) (hk : ¬ k < 0) (hN : n.toNatClampNeg = N) (hr : k.toNatClampNeg = r) (hb1 : N ≤ 134217728) (hb2 : r ≤ 134217728) : CtC l yX7_init cX7_init 3 (rX7i N r) (1 + N) (N + N * r) G n0 [.ref (n0 + T), .int n, .int k] (pre ++ [.inr (6, bX7)]) (pre ++ kX7 G n0 T N r k) := by
  refine ctc (cc := cX7_init) (maxL := 3) rfl rfl (Nat.le_of_ble_eq_true rfl) ?_
  intro K C Z hret
  have C : Ok K l (rX7i N r) cX7_init RX7 G n0 3 := C
  have Z : Hz K (T + 1) := by rw [List.length_append, hT] at Z; exact Z
  have hret : ∀ pc L, decode cX7_init pc = .ok (.return_, 1) → JC K (0 + 1 + N) (0 + N + N * r) (pre ++ kX7 G n0 T N r k) pc L [] := by
    intro pc L h
    rw [show 0 + 1 + N = 1 + N by omega, show 0 + N + N * r = N + N * r by omega]
    exact hret pc L h
  show JC K 0 0 (pre ++ [.inr (6, [.null, .int 0])]) 0 [(0, .ref (n0 + T)), (1, .int n), (2, .int k)] []
  refine jc_aload_n C 0 dX7_init_0 rfl rfl ?_
  refine jc_obj C tw1_45 ⟨Nat.le_of_ble_eq_true rfl, Nat.le_of_ble_eq_true rfl⟩ (Nat.le_of_ble_eq_true rfl) dX7_init_1 ?_
  refine jc_aload_n C 0 dX7_init_4 rfl rfl ?_
  refine jc_iconst C (0 : Int32) rfl dX7_init_5 ?_
  refine jc_iload_n C 2 dX7_init_6 rfl rfl ?_
  refine jc_mmax0 C (Nat.zero_le _) (Nat.zero_le _) hk tw1_46 tw1_47 tw1_5 tw1_48 ⟨Nat.le_of_ble_eq_true rfl, Nat.le_of_ble_eq_true rfl⟩ dX7_init_7 ?_
  refine jp_put (fs1 := [.null, .int k]) (ci := 6) hT C Z tyX7 1 inT7 rfl (by decide) tyX7_ok nmX7 rfl rfl tw1_52 rfl rfl rfl (Nat.le_of_ble_eq_true rfl) rfl dX7_init_10 ?_
  refine jc_aload_n C 0 dX7_init_13 rfl rfl ?_
  refine jc_iconst C (0 : Int32) rfl dX7_init_14 ?_
  refine jc_iload_n C 1 dX7_init_15 rfl rfl ?_
  refine jc_mmax0 C (Nat.zero_le _) (Nat.zero_le _) hn tw1_46 tw1_47 tw1_5 tw1_48 ⟨Nat.le_of_ble_eq_true rfl, Nat.le_of_ble_eq_true rfl⟩ dX7_init_16 ?_
  refine jc_aload_n C 0 dX7_init_19 rfl rfl ?_
  refine jc_getf (ci := 6) C 1 inT7 rfl (by decide) rfl tw1_52 (px_at (j := 0) hT rfl) rfl dX7_init_20 ?_
  refine jp_mna (xs1 := (.inr (6, [.null, .int k]) :: (.inl (G.2.1 3, N, .inr (.inr (.inr (.inr (fun i => some (n0 + ((T + 1) + (1 + i)))))))) :: List.replicate N (.inl (G.2.1 0, r, .inl (fun _ => 0)))))) (j := 1) hT C Z rfl rfl rfl tw1_49 hn hk hN hr hb1 hb2 ⟨by show 0 + (1 + N) ≤ 1 + N; omega, by show 0 + (N + N * r) ≤ N + N * r; omega⟩ dX7_init_23 ?_
  refine jp_put (fs1 := [.ref (n0 + (T + 1)), .int k]) (ci := 6) hT C Z tyX7 0 inT7 rfl (by decide) tyX7_ok nmX7 rfl rfl tw1_51 rfl rfl rfl (Nat.le_of_ble_eq_true rfl) rfl dX7_init_27 ?_
  exact hret _ _ dX7_init_30
def kX4 (G : Gx) (n0 T : Nat) : List va_E := .inr (3, [.ref (n0 + (T + 1)), .int 0]) :: ((kX7 G n0 (T + 1) 4 8 8))
def rX4i : Room := { frames := 2, cells := 6, slots := 38, locals := 42 }
set_option maxRecDepth 100000 in
set_option maxHeartbeats 4000000 in
theorem ci_X4 (l : Launch) (G : Gx) (n0 : Nat) {pre : List va_E} {T : Nat} (hT : pre.length = T) : CtC l yX4_init cX4_init 1 rX4i 6 38 G n0 [.ref (n0 + T)] (pre ++ [.inr (3, bX4)]) (pre ++ kX4 G n0 T) := by
  refine ctc (cc := cX4_init) (maxL := 1) rfl rfl (Nat.le_of_ble_eq_true rfl) ?_
  intro K C Z hret
  have C : Ok K l rX4i cX4_init RX4 G n0 1 := C
  have Z : Hz K (T + 1) := by rw [List.length_append, hT] at Z; exact Z
  show JC K 0 0 (pre ++ [.inr (3, [.null, .int 0])]) 0 [(0, .ref (n0 + T))] []
  refine jc_aload_n C 0 dX4_init_0 rfl rfl ?_
  refine jc_obj C tw1_39 ⟨Nat.le_of_ble_eq_true rfl, Nat.le_of_ble_eq_true rfl⟩ (Nat.le_of_ble_eq_true rfl) dX4_init_1 ?_
  refine jc_aload_n C 0 dX4_init_4 rfl rfl ?_
  refine jp_new (xs1 := (.inr (3, [.null, .int 0]) :: [.inr (6, bX7)])) (j := 1) (ci := 6) hT C Z tyX7 bX7 rfl rfl rfl inT7 tyX7_ok tw1_40 tw1_41 tw1_4 rfl bdX7 ⟨Nat.le_of_ble_eq_true rfl, Nat.le_of_ble_eq_true rfl⟩ dX4_init_5 ?_
  refine jc_dup C rfl dX4_init_8 ?_
  refine jc_iconst C (4 : Int32) rfl dX4_init_9 ?_
  refine jc_bipush C (8 : Int32) rfl dX4_init_10 ?_
  refine jp_init (cz := 1) (sz := 2) (st := [.ref (n0 + (T + 1)), .ref (n0 + T)]) (a := n0 + (T + 1)) (xs1 := [.inr (3, [.null, .int 0]), .inr (6, bX7)]) (xs2 := (.inr (3, [.null, .int 0]) :: (kX7 G n0 (T + 1) 4 8 8))) (b0 := .inr (6, bX7)) (bk := (kX7 G n0 (T + 1) 4 8 8)) hT C Z 2 [.inr (3, [.null, .int 0])] (ci_X7 l G n0 (pre := pre ++ [.inr (3, [.null, .int 0])]) (T := T + 1) (by rw [List.length_append, hT]; rfl) (n := 4) (k := 8) (by decide) (by decide) (by decide) (by decide) (by decide) (by decide)) rfl rfl rfl (Or.inl tw1_42) tw1_43 tw1_4 tw1_44 rfl ⟨rfl, rfl⟩ (by decide +kernel) ⟨Nat.le_of_ble_eq_true rfl, Nat.le_of_ble_eq_true rfl⟩ ⟨Nat.le_of_ble_eq_true rfl, Nat.le_of_ble_eq_true rfl⟩ rfl rfl (Nat.le_of_ble_eq_true rfl) dX4_init_12 ?_
  refine jp_put (fs1 := [.ref (n0 + (T + 1)), .int 0]) (ci := 3) hT C Z tyX4 0 inT4 rfl (by decide) tyX4_ok nmX4 rfl rfl tw1_59 rfl rfl rfl (Nat.le_of_ble_eq_true rfl) rfl dX4_init_15 ?_
  exact hret _ _ dX4_init_18
def kX1 (G : Gx) (n0 T : Nat) : List va_E := .inr (0, [.ref (n0 + (T + 1)), .int 0]) :: ((kX7 G n0 (T + 1) 3 20 20))
def rX1i : Room := { frames := 2, cells := 5, slots := 65, locals := 42 }
set_option maxRecDepth 100000 in
set_option maxHeartbeats 4000000 in
theorem ci_X1 (l : Launch) (G : Gx) (n0 : Nat) {pre : List va_E} {T : Nat} (hT : pre.length = T) : CtC l yX1_init cX1_init 1 rX1i 5 65 G n0 [.ref (n0 + T)] (pre ++ [.inr (0, bX1)]) (pre ++ kX1 G n0 T) := by
  refine ctc (cc := cX1_init) (maxL := 1) rfl rfl (Nat.le_of_ble_eq_true rfl) ?_
  intro K C Z hret
  have C : Ok K l rX1i cX1_init RX1 G n0 1 := C
  have Z : Hz K (T + 1) := by rw [List.length_append, hT] at Z; exact Z
  show JC K 0 0 (pre ++ [.inr (0, [.null, .int 0])]) 0 [(0, .ref (n0 + T))] []
  refine jc_aload_n C 0 dX1_init_0 rfl rfl ?_
  refine jc_obj C tw1_71 ⟨Nat.le_of_ble_eq_true rfl, Nat.le_of_ble_eq_true rfl⟩ (Nat.le_of_ble_eq_true rfl) dX1_init_1 ?_
  refine jc_aload_n C 0 dX1_init_4 rfl rfl ?_
  refine jp_new (xs1 := (.inr (0, [.null, .int 0]) :: [.inr (6, bX7)])) (j := 1) (ci := 6) hT C Z tyX7 bX7 rfl rfl rfl inT7 tyX7_ok tw1_72 tw1_41 tw1_4 rfl bdX7 ⟨Nat.le_of_ble_eq_true rfl, Nat.le_of_ble_eq_true rfl⟩ dX1_init_5 ?_
  refine jc_dup C rfl dX1_init_8 ?_
  refine jc_iconst C (3 : Int32) rfl dX1_init_9 ?_
  refine jc_bipush C (20 : Int32) rfl dX1_init_10 ?_
  refine jp_init (cz := 1) (sz := 2) (st := [.ref (n0 + (T + 1)), .ref (n0 + T)]) (a := n0 + (T + 1)) (xs1 := [.inr (0, [.null, .int 0]), .inr (6, bX7)]) (xs2 := (.inr (0, [.null, .int 0]) :: (kX7 G n0 (T + 1) 3 20 20))) (b0 := .inr (6, bX7)) (bk := (kX7 G n0 (T + 1) 3 20 20)) hT C Z 2 [.inr (0, [.null, .int 0])] (ci_X7 l G n0 (pre := pre ++ [.inr (0, [.null, .int 0])]) (T := T + 1) (by rw [List.length_append, hT]; rfl) (n := 3) (k := 20) (by decide) (by decide) (by decide) (by decide) (by decide) (by decide)) rfl rfl rfl (Or.inl tw1_73) tw1_43 tw1_4 tw1_44 rfl ⟨rfl, rfl⟩ (by decide +kernel) ⟨Nat.le_of_ble_eq_true rfl, Nat.le_of_ble_eq_true rfl⟩ ⟨Nat.le_of_ble_eq_true rfl, Nat.le_of_ble_eq_true rfl⟩ rfl rfl (Nat.le_of_ble_eq_true rfl) dX1_init_12 ?_
  refine jp_put (fs1 := [.ref (n0 + (T + 1)), .int 0]) (ci := 0) hT C Z tyX1 0 inT1 rfl (by decide) tyX1_ok nmX1 rfl rfl tw1_74 rfl rfl rfl (Nat.le_of_ble_eq_true rfl) rfl dX1_init_15 ?_
  exact hret _ _ dX1_init_18
def kX5 (G : Gx) (n0 T : Nat) : List va_E := .inr (4, [.ref (n0 + (T + 1)), .int 0]) :: ((kX7 G n0 (T + 1) 5 20 20))
def rX5i : Room := { frames := 2, cells := 7, slots := 107, locals := 42 }
set_option maxRecDepth 100000 in
set_option maxHeartbeats 4000000 in
theorem ci_X5 (l : Launch) (G : Gx) (n0 : Nat) {pre : List va_E} {T : Nat} (hT : pre.length = T) : CtC l yX5_init cX5_init 1 rX5i 7 107 G n0 [.ref (n0 + T)] (pre ++ [.inr (4, bX5)]) (pre ++ kX5 G n0 T) := by
  refine ctc (cc := cX5_init) (maxL := 1) rfl rfl (Nat.le_of_ble_eq_true rfl) ?_
  intro K C Z hret
  have C : Ok K l rX5i cX5_init RX5 G n0 1 := C
  have Z : Hz K (T + 1) := by rw [List.length_append, hT] at Z; exact Z
  show JC K 0 0 (pre ++ [.inr (4, [.null, .int 0])]) 0 [(0, .ref (n0 + T))] []
  refine jc_aload_n C 0 dX5_init_0 rfl rfl ?_
  refine jc_obj C tw1_86 ⟨Nat.le_of_ble_eq_true rfl, Nat.le_of_ble_eq_true rfl⟩ (Nat.le_of_ble_eq_true rfl) dX5_init_1 ?_
  refine jc_aload_n C 0 dX5_init_4 rfl rfl ?_
  refine jp_new (xs1 := (.inr (4, [.null, .int 0]) :: [.inr (6, bX7)])) (j := 1) (ci := 6) hT C Z tyX7 bX7 rfl rfl rfl inT7 tyX7_ok tw1_87 tw1_41 tw1_4 rfl bdX7 ⟨Nat.le_of_ble_eq_true rfl, Nat.le_of_ble_eq_true rfl⟩ dX5_init_5 ?_
  refine jc_dup C rfl dX5_init_8 ?_
  refine jc_iconst C (5 : Int32) rfl dX5_init_9 ?_
  refine jc_bipush C (20 : Int32) rfl dX5_init_10 ?_
  refine jp_init (cz := 1) (sz := 2) (st := [.ref (n0 + (T + 1)), .ref (n0 + T)]) (a := n0 + (T + 1)) (xs1 := [.inr (4, [.null, .int 0]), .inr (6, bX7)]) (xs2 := (.inr (4, [.null, .int 0]) :: (kX7 G n0 (T + 1) 5 20 20))) (b0 := .inr (6, bX7)) (bk := (kX7 G n0 (T + 1) 5 20 20)) hT C Z 2 [.inr (4, [.null, .int 0])] (ci_X7 l G n0 (pre := pre ++ [.inr (4, [.null, .int 0])]) (T := T + 1) (by rw [List.length_append, hT]; rfl) (n := 5) (k := 20) (by decide) (by decide) (by decide) (by decide) (by decide) (by decide)) rfl rfl rfl (Or.inl tw1_88) tw1_43 tw1_4 tw1_44 rfl ⟨rfl, rfl⟩ (by decide +kernel) ⟨Nat.le_of_ble_eq_true rfl, Nat.le_of_ble_eq_true rfl⟩ ⟨Nat.le_of_ble_eq_true rfl, Nat.le_of_ble_eq_true rfl⟩ rfl rfl (Nat.le_of_ble_eq_true rfl) dX5_init_12 ?_
  refine jp_put (fs1 := [.ref (n0 + (T + 1)), .int 0]) (ci := 4) hT C Z tyX5 0 inT5 rfl (by decide) tyX5_ok nmX5 rfl rfl tw1_89 rfl rfl rfl (Nat.le_of_ble_eq_true rfl) rfl dX5_init_15 ?_
  exact hret _ _ dX5_init_18
def kX6 (G : Gx) (n0 T : Nat) : List va_E := .inr (5, [.ref (n0 + (T + 1)), .int 0, .int 0]) :: ((kX7 G n0 (T + 1) 7 200 200))
def rX6i : Room := { frames := 2, cells := 9, slots := 1409, locals := 42 }
set_option maxRecDepth 100000 in
set_option maxHeartbeats 4000000 in
theorem ci_X6 (l : Launch) (G : Gx) (n0 : Nat) {pre : List va_E} {T : Nat} (hT : pre.length = T) : CtC l yX6_init cX6_init 1 rX6i 9 1409 G n0 [.ref (n0 + T)] (pre ++ [.inr (5, bX6)]) (pre ++ kX6 G n0 T) := by
  refine ctc (cc := cX6_init) (maxL := 1) rfl rfl (Nat.le_of_ble_eq_true rfl) ?_
  intro K C Z hret
  have C : Ok K l rX6i cX6_init RX6 G n0 1 := C
  have Z : Hz K (T + 1) := by rw [List.length_append, hT] at Z; exact Z
  show JC K 0 0 (pre ++ [.inr (5, [.null, .int 0, .int 0])]) 0 [(0, .ref (n0 + T))] []
  refine jc_aload_n C 0 dX6_init_0 rfl rfl ?_
  refine jc_obj C tw1_101 ⟨Nat.le_of_ble_eq_true rfl, Nat.le_of_ble_eq_true rfl⟩ (Nat.le_of_ble_eq_true rfl) dX6_init_1 ?_
  refine jc_aload_n C 0 dX6_init_4 rfl rfl ?_
  refine jp_new (xs1 := (.inr (5, [.null, .int 0, .int 0]) :: [.inr (6, bX7)])) (j := 1) (ci := 6) hT C Z tyX7 bX7 rfl rfl rfl inT7 tyX7_ok tw1_102 tw1_41 tw1_4 rfl bdX7 ⟨Nat.le_of_ble_eq_true rfl, Nat.le_of_ble_eq_true rfl⟩ dX6_init_5 ?_
  refine jc_dup C rfl dX6_init_8 ?_
  refine jc_bipush C (7 : Int32) rfl dX6_init_9 ?_
  refine jc_sipush C (200 : Int32) rfl dX6_init_11 ?_
  refine jp_init (cz := 1) (sz := 2) (st := [.ref (n0 + (T + 1)), .ref (n0 + T)]) (a := n0 + (T + 1)) (xs1 := [.inr (5, [.null, .int 0, .int 0]), .inr (6, bX7)]) (xs2 := (.inr (5, [.null, .int 0, .int 0]) :: (kX7 G n0 (T + 1) 7 200 200))) (b0 := .inr (6, bX7)) (bk := (kX7 G n0 (T + 1) 7 200 200)) hT C Z 2 [.inr (5, [.null, .int 0, .int 0])] (ci_X7 l G n0 (pre := pre ++ [.inr (5, [.null, .int 0, .int 0])]) (T := T + 1) (by rw [List.length_append, hT]; rfl) (n := 7) (k := 200) (by decide) (by decide) (by decide) (by decide) (by decide) (by decide)) rfl rfl rfl (Or.inl tw1_103) tw1_43 tw1_4 tw1_44 rfl ⟨rfl, rfl⟩ (by decide +kernel) ⟨Nat.le_of_ble_eq_true rfl, Nat.le_of_ble_eq_true rfl⟩ ⟨Nat.le_of_ble_eq_true rfl, Nat.le_of_ble_eq_true rfl⟩ rfl rfl (Nat.le_of_ble_eq_true rfl) dX6_init_14 ?_
  refine jp_put (fs1 := [.ref (n0 + (T + 1)), .int 0, .int 0]) (ci := 5) hT C Z tyX6 0 inT6 rfl (by decide) tyX6_ok nmX6 rfl rfl tw1_104 rfl rfl rfl (Nat.le_of_ble_eq_true rfl) rfl dX6_init_17 ?_
  exact hret _ _ dX6_init_20
