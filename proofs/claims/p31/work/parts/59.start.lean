def Hs (K : Kx) (z0 : Nat) : Prop := match K with
  | (p, l, e, R, s, m, args, below, meth, c, Q, G, n0, nL, _, _) => s.heap.size = n0 + z0
section JLS
variable {K : Kx} {l : Launch} {R : Room} {cc : ByteArray} {own : String} {G : Gx} {n0 nL : Nat} {cz sz : Nat} {es : List va_E} {pc index z0 : Nat} {L : List (Nat × Value)} {st st0 : List Value}
theorem jl_new (C : Ok K l R cc own G n0 nL) (Z : Hs K z0) {ci : Nat} {D : String} {T : u_T} {N : Nat} (ty : Nat → FieldType) (fs : List Value) (hin : ∀ w ∈ u_ws D T N, w ∈ TB) (hty : ∀ k, k < N → parseFieldDescriptor (T k).2.2.1 = some (ty k)) (hcl : Cond.classLink own index D ∈ TB) (hinst : Cond.instantiable D N ∈ TB) (hini : Cond.initialized D ∈ TB) (hc : vwCl[ci]? = some (D, T, N)) (hfs : ∀ j, j < N → defaultValue (ty j) = vp_V fs j) (hR : cz + 1 ≤ R.cells ∧ sz + N ≤ R.slots) (hlen : es.length = z0 + cz) (hdg : decode cc pc = .ok (.new index, 3))
    (kk : JC K (cz + 1) (sz + N) (es ++ [.inr (ci, fs)]) (pc + 3) L (.ref (n0 + es.length) :: st)) : JC K cz sz es pc L st := by
  obtain ⟨p, l', e, R', s, m, args, below, meth, c, Q, G', n0', nL', cells, slots⟩ := K
  obtain ⟨rfl, rfl, rfl, rfl, rfl, hx, hb, hown, hts, hK, hml, hSt, hce, hsl⟩ := C
  intro H locs ls hP hS hl T hT X
  have hz := hz_size hP hS Z hlen hT X
  refine (?_ : W _ _ _ _ _ _ _ _ _ _ H locs cz sz Q (F0 m pc ls st)) T hT X
  have hKn := hK.1 ci _ hc
  refine W.newcK hx hb hown (hts _ hcl) (hts _ hinst) (hts _ hini) rfl hdg hR.1 hR.2 hKn.2.1 rfl fun H1 kC hkC e1 z1 o1 => ?_
  have hk : ∀ (k : Nat) (x : Nat × va_E), (wz n0' es)[k]? = some x → H1[x.1]? = H[x.1]? := fun k x hx => o1 x.1 ((hP k x hx).lt)
  have hP1 : va_P G'.1 vwCl (wz n0' (es ++ [.inr (ci, fs)])) H1 := by
    rw [wz_app]
    refine (hP.kept hk).app (fun k x hx => ?_)
    have hz0 : k < 1 := (List.getElem?_eq_some_iff.mp hx).1
    rw [show k = 0 by omega] at hx
    cases hx
    rw [← hz]
    exact ⟨_, hc, (u_born ty (fun w hw => hts w hw) hin hKn hkC e1 hty).to hfs⟩
  have := kk H1 locs ls hP1 ⟨Nat.le_trans hS.1 (by omega), fun x h1 h2 => (o1 x (Nat.lt_of_lt_of_le h1 hS.1)).trans (hS.2.1 x h1 h2), hS.2.2⟩ hl
  rw [hz]
  exact this
theorem jl_newa (C : Ok K l R cc own G n0 nL) (Z : Hs K z0) {atype : ArrayType} {ty : FieldType} {n : Int32} {N t0 : Nat} {cA0 : ClassId} (a0 : vp_A) (hty : newarray.typeOf atype = ty) (harr : Cond.arrayClass ty ∈ TB) (ht0 : (tyG G)[t0]? = some (cA0, ty)) (hRA : ∀ U cA, va_RA U cA ty → U.vm.findClass ("[" ++ ty.toString) = some cA) (ha : ∀ cA : ClassId, vp_cell cA a0 = arrV cA N (fun _ => defaultValue ty)) (hn : ¬ n < 0) (hN : n.toNatClampNeg = N) (hby : N * componentBytes ty ≤ 536870912) (hR : cz + 1 ≤ R.cells ∧ sz + N ≤ R.slots) (hlen : es.length = z0 + cz) (hdg : decode cc pc = .ok (.newarray atype, 2))
    (kk : JC K (cz + 1) (sz + N) (es ++ [.inl (cA0, a0)]) (pc + 2) L (.ref (n0 + es.length) :: st)) : JC K cz sz es pc L (.int n :: st) := by
  obtain ⟨p, l', e, R', s, m, args, below, meth, c, Q, G', n0', nL', cells, slots⟩ := K
  obtain ⟨rfl, rfl, rfl, rfl, rfl, hx, hb, hown, hts, hK, hml, hSt, hce, hsl⟩ := C
  subst hty
  intro H locs ls hP hS hl T hT X
  have hz := hz_size hP hS Z hlen hT X
  refine (?_ : W _ _ _ _ _ _ _ _ _ _ H locs cz sz Q (F0 m pc ls (.int n :: st))) T hT X
  refine va_newaK hx hb (hts _ harr) rfl hdg rfl hn hN hby hR.1 hR.2 rfl fun H1 cA e1 z1 o1 hAr hNm => ?_
  have hcA : cA = cA0 := Option.some.inj (hNm.symm.trans (hRA _ _ (hK.2 t0 _ ht0).2))
  subst hcA
  have hk : ∀ (k : Nat) (x : Nat × va_E), (wz n0' es)[k]? = some x → H1[x.1]? = H[x.1]? := fun k x hx => o1 x.1 ((hP k x hx).lt)
  have hP1 : va_P G'.1 vwCl (wz n0' (es ++ [.inl (cA, a0)])) H1 := by
    rw [wz_app]
    refine (hP.kept hk).app (fun k x hx => ?_)
    have hz0 : k < 1 := (List.getElem?_eq_some_iff.mp hx).1
    rw [show k = 0 by omega] at hx
    cases hx
    rw [← hz]
    show H1[H.size]? = some (vp_cell _ _)
    rw [ha]
    exact e1
  have := kk H1 locs ls hP1 ⟨Nat.le_trans hS.1 (by omega), fun x h1 h2 => (o1 x (Nat.lt_of_lt_of_le h1 hS.1)).trans (hS.2.1 x h1 h2), hS.2.2⟩ hl
  rw [← hz] at this
  exact this
theorem jl_init {y : MethodName} {rm : Room} {bytes : ByteArray} {maxL mc ms a : Nat} {As : List Value} {es' : List va_E} (C : Ok K l R cc own G n0 nL) (Z : Hs K z0) (n : Nat) (h : CtC l y bytes maxL rm mc ms G n0 (.ref a :: As) es es') (hlk : Cond.methodLink own index y ∈ TB ∨ (own, index, y) ∈ nxM) (hin : Cond.instanceMethod y ∈ TB) (hini : Cond.initialized y.cls ∈ TB) (hcode : Cond.code y bytes maxL none ∈ TB) (hyn : y.name = "<init>") (hrm : rm.cells = mc ∧ rm.slots = ms)
    (hd : y.cls ≠ "java/lang/invoke/MethodHandle" ∧ y.cls ≠ "java/lang/invoke/VarHandle" ∧ (parseMethodDescriptor y.desc).map (fun d => d.parameters.length) = some n) (hR : rm.frames + 1 ≤ R.frames ∧ 8 + (maxL + 11) + rm.locals ≤ R.locals) (hRc : cz + mc ≤ R.cells ∧ sz + ms ≤ R.slots) (hn : As.length = n) (hst : st0 = As.reverse ++ .ref a :: st) (hW : (st.map fun v => v.category).sum ≤ 8) (hlen : es.length = z0 + cz) (hdg : decode cc pc = .ok (.invokespecial index, 3))
    (kk : JC K (cz + mc) (sz + ms) es' (pc + 3) L st) : JC K cz sz es pc L st0 := by
  obtain ⟨p, l', e, R', s, m, args, below, meth, c, Q, G', n0', nL', cells, slots⟩ := K
  obtain ⟨rfl, rfl, rfl, rfl, rfl, hx, hb, hown, hts, hK, hml, hSt, hce, hsl⟩ := C
  subst hst
  intro H locs ls hP hS hl T hT X
  have hz := hz_size hP hS Z hlen hT X
  have hpre : PreS s H (va_Pc (.ref a :: As) (RlS G' n0' es)) (.ref a :: As) := ⟨RlS_blind, fun U hU hW => ⟨rfl, ⟨by rw [hU]; exact hP, va_K.moved hW.alike hK, hSt.step hW (hS.F hU)⟩, by rw [hU]; exact hz⟩⟩
  have hr : va_Run p l' e R' s m args below meth c H locs cz sz mc ms (F0 m pc ls (As.reverse ++ .ref a :: st)) st (QRC G' n0' es' (Value.ref a :: As).toArray) (fun q => n0' ≤ q) := by
    rcases hlk with hlk | hlk
    · exact va_runI ⟨hx, hb, hml, hown, hts⟩ h (cwI n hts (good_T hcode) rfl hrm.1 hrm.2 (hts _ hini) (hts _ hlk) (hts _ hin) hyn hd hR) hpre rfl hn hl.1 rfl (lv_room hW) hdg hRc
    · exact va_runIN ⟨hx, hb, hml, hown, hts⟩ h ⟨va_cnB n hts (good_T hcode) rfl hrm.1 hrm.2 (hSt.2.1 _ hlk) (hts _ hini) hd hR, hyn, hts _ hin⟩ hpre rfl hn hl.1 rfl (lv_room hW) hdg hRc
  obtain ⟨v', st₀, t, T', L', h0, X', hL, e1, e2, ⟨hv, ⟨hP1, hK1, hSt1⟩, hz1, hk1⟩, stp⟩ := hr T hT X
  cases hv
  rw [h0] at hz1 hk1
  obtain ⟨t2, a1, b1⟩ := kk T'.heap (locs ++ L') ls (by rw [e1]; exact hP1)
    ⟨Nat.le_trans hS.1 (by rw [e1]; exact hz1), fun q h1 h2 => by rw [e1, hk1 q (Nat.lt_of_lt_of_le h1 hS.1) h2]; exact hS.2.1 q h1 h2, fun q hq => by
      rcases List.mem_append.mp hq with h | h
      · exact hS.2.2 q h
      · exact hL q h⟩ hl T' rfl X'
  exact ⟨t2, stp t2 a1, b1⟩
theorem jl_astore_n (C : Ok K l R cc own G n0 nL) {k : Fin 4} {i : Nat} {x : Nat} (L' : List (Nat × Value)) (hdg : decode cc pc = .ok (.astore_n k, 1)) (hi : (k : Nat) = i) (hn : i < nL) (hL : (i, Value.ref x) :: L.filter (fun q => !(q.1 == i) && !(q.1 + 1 == i && q.2.category == 2)) = L') (kk : JC K cz sz es (pc + 1) L' st) : JC K cz sz es pc L (Value.ref x :: st) := by
  obtain ⟨p, l', e, R', s, m, args, below, meth, c, Q, G', n0', nL', cells, slots⟩ := K
  obtain ⟨rfl, rfl, rfl, rfl, rfl, hx, hb, hown, hts, hK, hml, hSt, hce, hsl⟩ := C
  intro H locs ls hP hS hl
  exact lv_astore_n hx hb hdg hi hl hn hL (fun ls' hl' => kk H locs ls' hP hS hl')
theorem jl_istore (C : Ok K l R cc own G n0 nL) {i : Nat} {x : Int32} (L' : List (Nat × Value)) (hdg : decode cc pc = .ok (.istore i, 2)) (hn : i < nL) (hL : (i, Value.int x) :: L.filter (fun q => !(q.1 == i) && !(q.1 + 1 == i && q.2.category == 2)) = L') (kk : JC K cz sz es (pc + 2) L' st) : JC K cz sz es pc L (Value.int x :: st) := by
  obtain ⟨p, l', e, R', s, m, args, below, meth, c, Q, G', n0', nL', cells, slots⟩ := K
  obtain ⟨rfl, rfl, rfl, rfl, rfl, hx, hb, hown, hts, hK, hml, hSt, hce, hsl⟩ := C
  intro H locs ls hP hS hl
  exact lv_istore hx hb hdg hl hn hL (fun ls' hl' => kk H locs ls' hP hS hl')
theorem jl_to {M : Mem} (hw : wz n0 es = wld G n0 M) (C : Ok K l R cc own G n0 nL) (kk : J (kup K cz sz) M pc L st) (hz : ∀ p l e R s m args below meth c Q G n0 nL x y, K = (p, l, e, R, s, m, args, below, meth, c, Q, G, n0, nL, x, y) → x = 0 ∧ y = 0) : JC K cz sz es pc L st := by
  obtain ⟨p, l', e, R', s, m, args, below, meth, c, Q, G', n0', nL', cells, slots⟩ := K
  obtain ⟨rfl, rfl⟩ := hz _ _ _ _ _ _ _ _ _ _ _ _ _ _ _ _ rfl
  obtain ⟨rfl, rfl, rfl, rfl, rfl, hx, hb, hown, hts, hK, hml, hSt, hce, hsl⟩ := C
  intro H locs ls hP hS hl
  rw [hw] at hP
  have := kk H locs ls hP hS hl
  simpa only [Nat.zero_add] using this
end JLS
theorem tyI {args : Array Value} {s : State} {ty : FieldType} (h : (Cond.arrayClass ty).before args s = true) : ∃ cA : ClassId, ArrOfT s cA ty ∧ s.vm.findClass ("[" ++ ty.toString) = some cA := by
  obtain ⟨cA, kA, comp, h1, h2, h3⟩ := Cond.arrayClass_spec h
  exact ⟨cA, fun n z => ⟨fun k h => (by cases h), kA, h2, comp, h3⟩, h1⟩
theorem st_known {args : Array Value} {s : State} (hT : ∀ w ∈ TB, w.before args s = true) (hts : ∀ w ∈ lw_tbl, w.before args s = true) : ∃ (D : va_G) (a2 : Nat → ClassId), ∀ g, va_K D vwCl (tyG (D, a2, g)) s := by
  obtain ⟨c0, i0, hK0⟩ := u_known (C := RX1) (T := TX1) (N := 2) (n := 2) hT inT1 (hT _ tw1_67)
  obtain ⟨c1, i1, hK1⟩ := u_known (C := RX2) (T := TX2) (N := 6) (n := 6) hT inT2 (hT _ tw1_197)
  obtain ⟨c2, i2, hK2⟩ := u_known (C := RX3) (T := TX3) (N := 7) (n := 7) hT inT3 (hT _ tw1_148)
  obtain ⟨c3, i3, hK3⟩ := u_known (C := RX4) (T := TX4) (N := 2) (n := 2) hT inT4 (hT _ tw1_35)
  obtain ⟨c4, i4, hK4⟩ := u_known (C := RX5) (T := TX5) (N := 2) (n := 2) hT inT5 (hT _ tw1_82)
  obtain ⟨c5, i5, hK5⟩ := u_known (C := RX6) (T := TX6) (N := 3) (n := 3) hT inT6 (hT _ tw1_97)
  obtain ⟨c6, i6, hK6⟩ := u_known (C := RX7) (T := TX7) (N := 2) (n := 2) hT inT7 (hT _ tw1_41)
  obtain ⟨c7, i7, hK7⟩ := u_known (C := RX8) (T := TX8) (N := 3) (n := 3) hT inT8 (hT _ tw1_178)
  obtain ⟨c8, i8, hK8⟩ := u_known (C := RX9) (T := TX9) (N := 8) (n := 8) hT inT9 (hT _ tw1_29)
  obtain ⟨c9, i9, hK9⟩ := u_known (C := RX11) (T := TX11) (N := 5) (n := 5) hT inT11 (hT _ tw1_21)
  obtain ⟨dC, dI, hKc⟩ : ∃ (dC : Nat → ClassId) (dI : Nat → Nat → Nat), ∀ (k : Nat) (q : vw_C), vwCl[k]? = some q → u_Kn s q.1 q.2.1 q.2.2 (dC k) (dI k) := by
    refine ⟨fun k => if k = 0 then c0 else if k = 1 then c1 else if k = 2 then c2 else if k = 3 then c3 else if k = 4 then c4 else if k = 5 then c5 else if k = 6 then c6 else if k = 7 then c7 else if k = 8 then c8 else c9, fun k => if k = 0 then i0 else if k = 1 then i1 else if k = 2 then i2 else if k = 3 then i3 else if k = 4 then i4 else if k = 5 then i5 else if k = 6 then i6 else if k = 7 then i7 else if k = 8 then i8 else i9, ?_⟩
    intro k q hq
    match k, hq with
    | 0, hq => cases hq; exact hK0
    | 1, hq => cases hq; exact hK1
    | 2, hq => cases hq; exact hK2
    | 3, hq => cases hq; exact hK3
    | 4, hq => cases hq; exact hK4
    | 5, hq => cases hq; exact hK5
    | 6, hq => cases hq; exact hK6
    | 7, hq => cases hq; exact hK7
    | 8, hq => cases hq; exact hK8
    | 9, hq => cases hq; exact hK9
    | k + 10, hq => simp at hq
  obtain ⟨a0, x0, y0⟩ := tyI (hT _ tw1_58)
  obtain ⟨a1, x1, y1⟩ := tyI (hT _ tw1_219)
  obtain ⟨q3, a3, k3, z1, z2, z3, z4⟩ := Cond.arrayOver_specA (hts (.arrayOver (.array .int)) (lwm1 50 rfl))
  obtain ⟨q4, a4, k4, w1, -, w3, w4, w5⟩ := Cond.arrayOver_spec (hts (.arrayOver (.object RX9)) (lwm1 184 rfl))
  refine ⟨(dC, dI), fun k => if k = 0 then a0 else if k = 1 then a1 else if k = 3 then a3 else a4, fun g => ⟨hKc, fun k q hq => ?_⟩⟩
  match k, hq with
  | 0, hq => cases hq; exact ⟨x0, y0⟩
  | 1, hq => cases hq; exact ⟨x1, y1⟩
  | 2, hq => cases hq; exact ⟨x0, y0⟩
  | 3, hq => cases hq; exact ⟨fun n z => ⟨fun k h => (by cases h), k3, z2, q3, z3⟩, z4⟩
  | 4, hq => cases hq; exact ⟨fun n z => ⟨fun k h => (by cases h), k4, w3, q4, w4⟩, k4, q4, w3, w4, w1, w5⟩
  | k + 5, hq => simp [tyG] at hq
set_option maxRecDepth 100000 in
set_option maxHeartbeats 2000000 in
theorem kX11_len (G : Gx) (n0 : Nat) : (kX11 G n0 0).length = 178 := by with_unfolding_all rfl
set_option maxRecDepth 100000 in
set_option maxHeartbeats 1000000 in
theorem start_of {p : Program} {e : Env} {s : State} {m : MethodId} {below : List Frame} {meth : Method} {c : Code} (l : Launch) (hflags : l.flags = flags0) {b L : Nat} {xs : Nat → Int32} (hlaw : ∃ M', fL_law (L, xs) M0 = some (true, M')) (C0 : lw_At p s m meth c b L xs) : W p l e room_1 s m #[Value.ref b] below meth c s.heap [] 0 0 (lw_Z below #[Value.ref b] s) (entryFrame m ([Value.ref b] : List Value).toArray 10) := by
  obtain ⟨M', hlaw⟩ := hlaw
  obtain ⟨hx, hb, hr, hml, hown, hts, hX, hbl, hlocks, hgv⟩ := id C0
  have hT : ∀ w ∈ TB, w.before #[Value.ref b] s = true := fun w hw => hts w (List.mem_filter.mp hw).1
  obtain ⟨D, a2, hK⟩ := st_known hT hts
  have hfx := st_fx hts hgv
  have hK := hK (b, L, xs)
  have hSt : St (D, a2, (b, L, xs)) s.heap.size s := ⟨⟨s, b, ⟨rfl, hgv, hts, hfx, rfl, hX, hbl⟩, Vm.Alike.refl _, ⟨Nat.le_refl _, fun _ _ _ => rfl⟩⟩, st_nx hts hgv⟩
  have hfl : l.stackTraces = false := by first | exact (by rw [Launch.stackTraces, hflags]; rfl) | (simp [Launch.stackTraces, hflags, flags0])
  have hl := lv_entry ([.ref b]) (n := 10) (Nat.le_of_ble_eq_true rfl)
  rw [lg_entry_eq]
  obtain ⟨K, hK0⟩ : ∃ K : Kx, K = ((p, l, e, room_1, s, m, #[Value.ref b], below, meth, c, lw_Z below #[Value.ref b] s, (D, a2, (b, L, xs)), s.heap.size, 10, 0, 0) : Kx) := ⟨_, rfl⟩
  have hC : ∀ x y, x ≤ 685404 → y ≤ 7045257 → Ok (kup K x y) l room_1 cL_law RL (D, a2, (b, L, xs)) s.heap.size 10 := by
    intro x y h1 h2
    subst hK0
    exact ⟨rfl, rfl, rfl, rfl, rfl, hx, hb, hown, hT, hK, hml, hSt, by show 0 + x ≤ 685404; omega, by show 0 + y ≤ 7045257; omega⟩
  have C : Ok K l room_1 cL_law RL (D, a2, (b, L, xs)) s.heap.size 10 := by have := hC 0 0 (by decide) (by decide); rw [kup_z] at this; exact this
  have Z : Hs K 0 := by subst hK0; rfl
  obtain ⟨E, hE⟩ : ∃ E, E = kX11 (D, a2, (b, L, xs)) s.heap.size 0 := ⟨_, rfl⟩
  have hEl : E.length = 178 := by rw [hE]; exact kX11_len _ _
  have cA : CtC l yX11_init cX11_init 1 rX11i 177 8505 (D, a2, (b, L, xs)) s.heap.size [.ref (s.heap.size + 0)] [.inr (9, bX11)] E := by rw [hE]; exact ci_X11 l (D, a2, (b, L, xs)) s.heap.size (pre := []) (T := 0) rfl
  have hEw : wz s.heap.size E = wld (D, a2, (b, L, xs)) s.heap.size M0 := by rw [hE]; exact wz0 _ _
  have key : JC K 0 0 [] 0 [(0, .ref b)] [] := by
    refine jl_new (es := []) C Z tyX11 bX11 inT11 tyX11_ok tw1_20 tw1_21 tw1_1 (ci := 9) rfl bdX11 ⟨Nat.le_of_ble_eq_true rfl, Nat.le_of_ble_eq_true rfl⟩ rfl dL_law_0 ?_
    refine jc_dup C rfl dL_law_3 ?_
    refine jl_init (cz := 1) (sz := 5) (a := s.heap.size + 0) (As := []) (es := [.inr (9, bX11)]) (es' := E) (st := [.ref (s.heap.size + 0)]) C Z 0 cA (Or.inl tw1_22) tw1_23 tw1_1 tw1_24 rfl ⟨rfl, rfl⟩ (by decide +kernel) ⟨Nat.le_of_ble_eq_true rfl, Nat.le_of_ble_eq_true rfl⟩ ⟨Nat.le_of_ble_eq_true rfl, Nat.le_of_ble_eq_true rfl⟩ rfl rfl (Nat.le_of_ble_eq_true rfl) rfl dL_law_4 ?_
    refine jl_astore_n C [(1, .ref (s.heap.size + 0)), (0, .ref b)] dL_law_7 rfl (by decide) rfl ?_
    refine jl_to (M := M0) hEw C ?_ (by subst hK0; intro p l e R s m args below meth c Q G n0 nL x y h; cases h; exact ⟨rfl, rfl⟩)
    have hkc : ∀ a, kc (kup K 178 8510) a = kup K (178 + a) (8510 + 6 * a) := fun a => kup_kup K 178 8510 a (6 * a)
    have h0 := c_L_law (K := kup K 178 8510) hfl (G := (D, a2, (b, L, xs))) (n0 := s.heap.size) (S := (L, xs)) rfl hlaw (fun a ha => by rw [hkc]; exact hC _ _ (by omega) (by omega)) (fun pc Lx a ha hd => by
      rw [hkc]
      subst hK0
      intro H locs ls hP hS hl
      exact W.widen (show 0 + (178 + a) ≤ 685404 by omega) (show 0 + (8510 + 6 * a) ≤ 7045257 by omega) (va_forget (fun q hq => hS.2.2 q hq) (lw_ret hx hb hr hlocks hd)))
    rw [kc_0] at h0
    exact h0
  subst hK0
  exact key s.heap [] _ (fun k q h => by simp [wz] at h) va_S.rf hl
