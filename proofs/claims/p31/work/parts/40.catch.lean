/-! calls that are caught, calls with a cost -/
def wsW (y : MethodName) (cc : ByteArray) (n : Nat) (r : Option FieldType) (hh : List (Nat × Nat × Nat × Nat)) : List Cond := Cond.codeWith y cc n r hh :: TB
def Hx (K : Kx) (hh : List (Nat × Nat × Nat × Nat)) : Prop := match K with
  | (p, l, e, R, s, m, args, below, meth, c, Q, G, n0, nL, _, _) => c.exceptionTable.toList = tableOf hh
def kup (K : Kx) (a b : Nat) : Kx := match K with
  | (p, l, e, R, s, m, args, below, meth, c, Q, G, n0, nL, cells, slots) => (p, l, e, R, s, m, args, below, meth, c, Q, G, n0, nL, cells + a, slots + b)
theorem vx_to {l : Launch} {y : MethodName} {ws : List Cond} {rm : Room} {Pc : Array Value → State → Prop} {Qc : Array Value → State → Outcome → State → Prop} {mc ms : Nat} {free : Addr → Prop} (h : vx_Met l y ws rm Pc Qc (fun _ _ _ => False) mc ms free) : Met l y ws rm Pc Qc mc ms free := by
  intro p e ha hc hk s m args below hf happ hP hK
  obtain ⟨n, o, h1, h2, h3, h4⟩ := h p e ha hc hk s m args below hf happ hP hK
  refine ⟨n, o, h1, h2, h3, ?_⟩
  rcases h4 with h4 | ⟨q, -, E, ce, L, hx, -⟩
  · exact h4
  · exact hx.elim
theorem kup_kup (K : Kx) (a b c d : Nat) : kup (kup K a b) c d = kup K (a + c) (b + d) := by
  obtain ⟨p, l', e, R', s, m, args, below, meth, c, Q, G', n0', nL', cells, slots⟩ := K
  simp only [kup, Nat.add_assoc]
  rfl
theorem kup_z (K : Kx) : kup K 0 0 = K := by
  obtain ⟨p, l', e, R', s, m, args, below, meth, c, Q, G', n0', nL', cells, slots⟩ := K
  rfl
/-- a exceptions so far -/
def kc (K : Kx) (a : Nat) : Kx := kup K a (6 * a)
theorem kc_kup (K : Kx) (a b : Nat) : kup (kc K a) b (6 * b) = kc K (a + b) := by
  unfold kc
  rw [kup_kup, Nat.mul_add]
theorem kc_0 (K : Kx) : kc K 0 = K := kup_z K
theorem kc_kc (K : Kx) (a b : Nat) : kc (kc K a) b = kc K (a + b) := kc_kup K a b
theorem j_wid {K : Kx} {M : Mem} {pc : Nat} {L : List (Nat × Value)} {st : List Value} {a b : Nat} (h : a ≤ b) (kk : J (kc K b) M pc L st) : J (kc K a) M pc L st := by
  obtain ⟨p, l', e, R', s, m, args, below, meth, c, Q, G', n0', nL', cells, slots⟩ := K
  intro H locs ls hP hS hl
  exact W.widen (by omega) (by omega) (kk H locs ls hP hS hl)
def CtK (l : Launch) (y : MethodName) (cc : ByteArray) (maxL : Nat) (ret : Option FieldType) (rm : Room) (G : Gx) (n0 : Nat) (av : List Value) (M : Mem) (v : Option Value) (M' : Mem) (k : Nat) : Prop := Met l y (wsT y cc maxL ret) rm (va_Pc av (Rl G n0 M)) (QR G n0 v M') k (6 * k) (fun q => n0 ≤ q)
def CtV (l : Launch) (y : MethodName) (cc : ByteArray) (maxL : Nat) (ret : Option FieldType) (hh : List (Nat × Nat × Nat × Nat)) (rm : Room) (G : Gx) (n0 : Nat) (av : List Value) (M : Mem) (v : Option Value) (M' : Mem) (k : Nat) : Prop := Met l y (wsW y cc maxL ret hh) rm (va_Pc av (Rl G n0 M)) (QR G n0 v M') k (6 * k) (fun q => n0 ≤ q)
theorem ctk_int {l : Launch} {y : MethodName} {rm : Room} {cc : ByteArray} {maxL : Nat} {G : Gx} {n0 : Nat} {av : List Value} {M M' : Mem} {r : Int32} {k : Nat} (hy : plainName y.cls = true) (hn : (lg_sl av).length ≤ maxL) (hrm : rm.cells = k ∧ rm.slots = 6 * k)
    (body : ∀ K, (∀ a, a ≤ k → Ok (kc K a) l rm cc y.cls G n0 maxL) → (∀ pc L a, a ≤ k → decode cc pc = .ok (.ireturn, 1) → J (kc K a) M' pc L [.int r]) → J (kc K 0) M 0 (lv_args 0 av) []) : CtK l y cc maxL (some .int) rm G n0 av M (some (.int r)) M' k := by
  refine Met.ofW (cc := cc) (maxL := maxL) (ret := some .int) hy rfl ?_
  intro p e s m args below meth c s₁ B hml hv
  obtain ⟨rfl, hP, hK, hSt⟩ := hv
  have hts := fun w hw => atoms_spec (ws := wsT y cc maxL (some .int)) B.pre w (List.mem_cons_of_mem _ hw)
  have hown : s.vm.findClass y.cls = some m.cls := findClass_of_methodNamed B.named
  have hl := lv_entry av (n := maxL) hn
  rw [lg_entry_eq]
  refine body (p, l, e, rm, s, m, av.toArray, below, meth, c, MQ below (QR G n0 (some (.int r)) M') av.toArray s k (6 * k) (fun q => n0 ≤ q), G, n0, maxL, 0, 0)
    (fun a ha => ⟨rfl, rfl, rfl, rfl, rfl, B.exec, B.bytes, hown, hts, hK, hml, hSt, by rw [hrm.1]; show 0 + a ≤ k; omega, by rw [hrm.2]; show 0 + 6 * a ≤ 6 * k; omega⟩) ?_ s.heap [] _ hP va_S.rf hl
  intro pc L a ha hd H locs ls hP1 hS1 _
  exact W.widen (show 0 + a ≤ k by omega) (show 0 + 6 * a ≤ 6 * k by omega) (W.iret B.exec B.bytes B.returns (fun t ht hW => ⟨rfl, Rl_end hP1 hK hSt hS1 ht hW⟩) hS1.2.2 hd B.notSynchronized)
theorem ctv_int {l : Launch} {y : MethodName} {rm : Room} {cc : ByteArray} {maxL : Nat} {hh : List (Nat × Nat × Nat × Nat)} {G : Gx} {n0 : Nat} {av : List Value} {M M' : Mem} {r : Int32} {k : Nat} (hy : plainName y.cls = true) (hn : (lg_sl av).length ≤ maxL) (hrm : rm.cells = k ∧ rm.slots = 6 * k)
    (body : ∀ K, (∀ a, a ≤ k → Ok (kc K a) l rm cc y.cls G n0 maxL) → Hx K hh → (∀ pc L a, a ≤ k → decode cc pc = .ok (.ireturn, 1) → J (kc K a) M' pc L [.int r]) → J (kc K 0) M 0 (lv_args 0 av) []) : CtV l y cc maxL (some .int) hh rm G n0 av M (some (.int r)) M' k := by
  refine vx_to (vx_ofWH (cc := cc) (maxL := maxL) (ret := some .int) (hh := hh) hy rfl ?_)
  intro p e s m args below meth c s₁ B hml hv
  obtain ⟨rfl, hP, hK, hSt⟩ := hv
  have hts0 := atoms_spec (ws := wsW y cc maxL (some .int) hh) B.pre
  have hts := fun w hw => hts0 w (List.mem_cons_of_mem _ hw)
  have htab : c.exceptionTable.toList = tableOf hh := vx_table (x := y) B (hts0 _ List.mem_cons_self)
  have hown : s.vm.findClass y.cls = some m.cls := findClass_of_methodNamed B.named
  have hl := lv_entry av (n := maxL) hn
  rw [lg_entry_eq]
  refine vx_ret ?_
  refine body (p, l, e, rm, s, m, av.toArray, below, meth, c, MQ below (QR G n0 (some (.int r)) M') av.toArray s k (6 * k) (fun q => n0 ≤ q), G, n0, maxL, 0, 0)
    (fun a ha => ⟨rfl, rfl, rfl, rfl, rfl, B.exec, B.bytes, hown, hts, hK, hml, hSt, by rw [hrm.1]; show 0 + a ≤ k; omega, by rw [hrm.2]; show 0 + 6 * a ≤ 6 * k; omega⟩) htab ?_ s.heap [] _ hP va_S.rf hl
  intro pc L a ha hd H locs ls hP1 hS1 _
  exact W.widen (show 0 + a ≤ k by omega) (show 0 + 6 * a ≤ 6 * k by omega) (W.iret B.exec B.bytes B.returns (fun t ht hW => ⟨rfl, Rl_end hP1 hK hSt hS1 ht hW⟩) hS1.2.2 hd B.notSynchronized)
theorem ctk_long {l : Launch} {y : MethodName} {rm : Room} {cc : ByteArray} {maxL : Nat} {G : Gx} {n0 : Nat} {av : List Value} {M M' : Mem} {r : Int64} {k : Nat} (hy : plainName y.cls = true) (hn : (lg_sl av).length ≤ maxL) (hrm : rm.cells = k ∧ rm.slots = 6 * k)
    (body : ∀ K, (∀ a, a ≤ k → Ok (kc K a) l rm cc y.cls G n0 maxL) → (∀ pc L a, a ≤ k → decode cc pc = .ok (.lreturn, 1) → J (kc K a) M' pc L [.long r]) → J (kc K 0) M 0 (lv_args 0 av) []) : CtK l y cc maxL (some .long) rm G n0 av M (some (.long r)) M' k := by
  refine Met.ofW (cc := cc) (maxL := maxL) (ret := some .long) hy rfl ?_
  intro p e s m args below meth c s₁ B hml hv
  obtain ⟨rfl, hP, hK, hSt⟩ := hv
  have hts := fun w hw => atoms_spec (ws := wsT y cc maxL (some .long)) B.pre w (List.mem_cons_of_mem _ hw)
  have hown : s.vm.findClass y.cls = some m.cls := findClass_of_methodNamed B.named
  have hl := lv_entry av (n := maxL) hn
  rw [lg_entry_eq]
  refine body (p, l, e, rm, s, m, av.toArray, below, meth, c, MQ below (QR G n0 (some (.long r)) M') av.toArray s k (6 * k) (fun q => n0 ≤ q), G, n0, maxL, 0, 0)
    (fun a ha => ⟨rfl, rfl, rfl, rfl, rfl, B.exec, B.bytes, hown, hts, hK, hml, hSt, by rw [hrm.1]; show 0 + a ≤ k; omega, by rw [hrm.2]; show 0 + 6 * a ≤ 6 * k; omega⟩) ?_ s.heap [] _ hP va_S.rf hl
  intro pc L a ha hd H locs ls hP1 hS1 _
  exact W.widen (show 0 + a ≤ k by omega) (show 0 + 6 * a ≤ 6 * k by omega) (W.lret B.exec B.bytes B.returns (fun t ht hW => ⟨rfl, Rl_end hP1 hK hSt hS1 ht hW⟩) hS1.2.2 hd B.notSynchronized)
theorem ctv_long {l : Launch} {y : MethodName} {rm : Room} {cc : ByteArray} {maxL : Nat} {hh : List (Nat × Nat × Nat × Nat)} {G : Gx} {n0 : Nat} {av : List Value} {M M' : Mem} {r : Int64} {k : Nat} (hy : plainName y.cls = true) (hn : (lg_sl av).length ≤ maxL) (hrm : rm.cells = k ∧ rm.slots = 6 * k)
    (body : ∀ K, (∀ a, a ≤ k → Ok (kc K a) l rm cc y.cls G n0 maxL) → Hx K hh → (∀ pc L a, a ≤ k → decode cc pc = .ok (.lreturn, 1) → J (kc K a) M' pc L [.long r]) → J (kc K 0) M 0 (lv_args 0 av) []) : CtV l y cc maxL (some .long) hh rm G n0 av M (some (.long r)) M' k := by
  refine vx_to (vx_ofWH (cc := cc) (maxL := maxL) (ret := some .long) (hh := hh) hy rfl ?_)
  intro p e s m args below meth c s₁ B hml hv
  obtain ⟨rfl, hP, hK, hSt⟩ := hv
  have hts0 := atoms_spec (ws := wsW y cc maxL (some .long) hh) B.pre
  have hts := fun w hw => hts0 w (List.mem_cons_of_mem _ hw)
  have htab : c.exceptionTable.toList = tableOf hh := vx_table (x := y) B (hts0 _ List.mem_cons_self)
  have hown : s.vm.findClass y.cls = some m.cls := findClass_of_methodNamed B.named
  have hl := lv_entry av (n := maxL) hn
  rw [lg_entry_eq]
  refine vx_ret ?_
  refine body (p, l, e, rm, s, m, av.toArray, below, meth, c, MQ below (QR G n0 (some (.long r)) M') av.toArray s k (6 * k) (fun q => n0 ≤ q), G, n0, maxL, 0, 0)
    (fun a ha => ⟨rfl, rfl, rfl, rfl, rfl, B.exec, B.bytes, hown, hts, hK, hml, hSt, by rw [hrm.1]; show 0 + a ≤ k; omega, by rw [hrm.2]; show 0 + 6 * a ≤ 6 * k; omega⟩) htab ?_ s.heap [] _ hP va_S.rf hl
  intro pc L a ha hd H locs ls hP1 hS1 _
  exact W.widen (show 0 + a ≤ k by omega) (show 0 + 6 * a ≤ 6 * k by omega) (W.lret B.exec B.bytes B.returns (fun t ht hW => ⟨rfl, Rl_end hP1 hK hSt hS1 ht hW⟩) hS1.2.2 hd B.notSynchronized)
theorem ctk_bool {l : Launch} {y : MethodName} {rm : Room} {cc : ByteArray} {maxL : Nat} {G : Gx} {n0 : Nat} {av : List Value} {M M' : Mem} {r : Bool} {k : Nat} (hy : plainName y.cls = true) (hn : (lg_sl av).length ≤ maxL) (hrm : rm.cells = k ∧ rm.slots = 6 * k)
    (body : ∀ K, (∀ a, a ≤ k → Ok (kc K a) l rm cc y.cls G n0 maxL) → (∀ pc L a, a ≤ k → decode cc pc = .ok (.ireturn, 1) → J (kc K a) M' pc L [.int (bI r)]) → J (kc K 0) M 0 (lv_args 0 av) []) : CtK l y cc maxL (some .boolean) rm G n0 av M (some (.int (bI r))) M' k := by
  refine Met.ofW (cc := cc) (maxL := maxL) (ret := some .boolean) hy rfl ?_
  intro p e s m args below meth c s₁ B hml hv
  obtain ⟨rfl, hP, hK, hSt⟩ := hv
  have hts := fun w hw => atoms_spec (ws := wsT y cc maxL (some .boolean)) B.pre w (List.mem_cons_of_mem _ hw)
  have hown : s.vm.findClass y.cls = some m.cls := findClass_of_methodNamed B.named
  have hl := lv_entry av (n := maxL) hn
  rw [lg_entry_eq]
  refine body (p, l, e, rm, s, m, av.toArray, below, meth, c, MQ below (QR G n0 (some (.int (bI r))) M') av.toArray s k (6 * k) (fun q => n0 ≤ q), G, n0, maxL, 0, 0)
    (fun a ha => ⟨rfl, rfl, rfl, rfl, rfl, B.exec, B.bytes, hown, hts, hK, hml, hSt, by rw [hrm.1]; show 0 + a ≤ k; omega, by rw [hrm.2]; show 0 + 6 * a ≤ 6 * k; omega⟩) ?_ s.heap [] _ hP va_S.rf hl
  intro pc L a ha hd H locs ls hP1 hS1 _
  exact W.widen (show 0 + a ≤ k by omega) (show 0 + 6 * a ≤ 6 * k by omega) (W.zret B.exec B.bytes B.returns (bI_nar r) (fun t ht hW => ⟨rfl, Rl_end hP1 hK hSt hS1 ht hW⟩) hS1.2.2 hd B.notSynchronized)
/-- behind a call that costs something -/
theorem j_retK {p : Program} {l : Launch} {e : Env} {R : Room} {s : State} {m : MethodId} {args : Array Value} {below : List Frame} {meth : Method} {c : Code} {H : Heap} {locs : List Loc} {cells slots mc ms : Nat} {Q : State → Prop} {pc n0 : Nat} {ls : Array Slot} {st rest : List Value} {a : Array Value} {G : Gx} {v : Option Value} {M' : Mem}
    (hr : va_Run p l e R s m args below meth c H locs cells slots mc ms (F0 m pc ls st) rest (QR G n0 v M' a) (fun q => n0 ≤ q)) (hS : va_S (fun q => n0 ≤ q) s.heap H locs)
    (kk : ∀ (H1 : Heap) (locs1 : List Loc), va_P G.1 vwCl (wld G n0 M') H1 → va_S (fun q => n0 ≤ q) s.heap H1 locs1 → W p l e R s m args below meth c H1 locs1 (cells + mc) (slots + ms) Q (F0 m (pc + 3) ls (v.toList ++ rest))) : W p l e R s m args below meth c H locs cells slots Q (F0 m pc ls st) := by
  intro T hT X
  obtain ⟨v', st₀, t, T', L, h0, X', hL, e1, e2, ⟨hv, ⟨hP, hK, hSt⟩, hz, hk⟩, st⟩ := hr T hT X
  cases hv
  rw [h0] at hz hk
  obtain ⟨t2, a1, b1⟩ := kk T'.heap (locs ++ L) (by rw [e1]; exact hP)
    ⟨Nat.le_trans hS.1 (by rw [e1]; exact hz), fun q h1 h2 => by rw [e1, hk q (Nat.lt_of_lt_of_le h1 hS.1) h2]; exact hS.2.1 q h1 h2, fun q hq => by
      rcases List.mem_append.mp hq with h | h
      · exact hS.2.2 q h
      · exact hL q h⟩ T' rfl X'
  exact ⟨t2, st t2 a1, b1⟩
theorem GWm {own : String} {idx n : Nat} {y : MethodName} {cc : ByteArray} {r : Option FieldType} {hh : List (Nat × Nat × Nat × Nat)} (h1 : Cond.methodLink own idx y ∈ TB) (h2 : Cond.static y ∈ TB) (h3 : Cond.initialized y.cls ∈ TB) (h4 : Cond.codeWith y cc n r hh ∈ TB) : GoodIn TB (va_wsS own idx y (wsW y cc n r hh)) := by
  refine good_mem fun w hw => ?_
  rcases List.mem_append.mp hw with hw | hw
  · simp only [List.mem_cons, List.not_mem_nil, or_false] at hw
    rcases hw with rfl | rfl | rfl
    · exact h1
    · exact h2
    · exact h3
  · rcases List.mem_cons.mp hw with rfl | hw
    · exact h4
    · exact hw
def GW (own : String) (idx : Nat) (y : MethodName) (cc : ByteArray) (n : Nat) (r : Option FieldType) (hh : List (Nat × Nat × Nat × Nat)) : Prop := Cond.methodLink own idx y ∈ TB ∧ Cond.static y ∈ TB ∧ Cond.initialized y.cls ∈ TB ∧ Cond.codeWith y cc n r hh ∈ TB
section JK
variable {K : Kx} {l : Launch} {R : Room} {cc : ByteArray} {own : String} {G : Gx} {n0 nL : Nat} {M M' : Mem} {pc index : Nat} {L : List (Nat × Value)} {st st0 : List Value} {y : MethodName} {rm : Room} {bytes : ByteArray} {maxL : Nat} {ret : Option FieldType} {v : Option Value} {As : List Value} {k a : Nat}
theorem j_callK0 (C : Ok K l R cc own G n0 nL) (C2 : Ok (kup K k (6 * k)) l R cc own G n0 nL) (n : Nat) (h : CtK l y bytes maxL ret rm G n0 As M v M' k) (hg : GS own index y bytes maxL ret) (hrm : rm.cells = k ∧ rm.slots = 6 * k)
    (hd : y.cls ≠ "java/lang/invoke/MethodHandle" ∧ y.cls ≠ "java/lang/invoke/VarHandle" ∧ (parseMethodDescriptor y.desc).map (fun d => d.parameters.length) = some n) (hR : rm.frames + 1 ≤ R.frames ∧ 8 + (maxL + 11) + rm.locals ≤ R.locals) (hn : As.length = n) (hst : st0 = As.reverse ++ st) (hW : (st.map fun v => v.category).sum ≤ 8) (hdg : decode cc pc = .ok (.invokestatic index, 3))
    (kk : J (kup K k (6 * k)) M' (pc + 3) L (v.toList ++ st)) : J K M pc L st0 := by
  obtain ⟨p, l', e, R', s, m, args, below, meth, c, Q, G', n0', nL', cells, slots⟩ := K
  obtain ⟨rfl, rfl, rfl, rfl, rfl, hx, hb, hown, hts, hK, hml, hSt, hce, hsl⟩ := C
  obtain ⟨-, -, -, -, -, -, -, -, -, -, -, -, hce2, hsl2⟩ := C2
  intro H locs ls hP hS hl
  subst hst
  exact j_retK (va_runS (As := As) (rest := st) ⟨hx, hb, hml, hown, hts⟩ h (va_cwS n hts hg.good rfl hrm.1 hrm.2 hd hR) ⟨Rl_blind, fun U hU hW => ⟨rfl, by rw [hU]; exact hP, va_K.moved hW.alike hK, hSt.step hW (hS.F hU)⟩⟩ rfl hn hl.1 rfl (lv_room hW) hdg ⟨hce2, hsl2⟩) hS (fun H1 locs1 hP1 hS1 => kk H1 locs1 ls hP1 hS1 hl)
theorem j_callW0 {hh : List (Nat × Nat × Nat × Nat)} (C : Ok K l R cc own G n0 nL) (C2 : Ok (kup K k (6 * k)) l R cc own G n0 nL) (n : Nat) (h : CtV l y bytes maxL ret hh rm G n0 As M v M' k) (hg : GW own index y bytes maxL ret hh) (hrm : rm.cells = k ∧ rm.slots = 6 * k)
    (hd : y.cls ≠ "java/lang/invoke/MethodHandle" ∧ y.cls ≠ "java/lang/invoke/VarHandle" ∧ (parseMethodDescriptor y.desc).map (fun d => d.parameters.length) = some n) (hR : rm.frames + 1 ≤ R.frames ∧ 8 + (maxL + 11) + rm.locals ≤ R.locals) (hn : As.length = n) (hst : st0 = As.reverse ++ st) (hW : (st.map fun v => v.category).sum ≤ 8) (hdg : decode cc pc = .ok (.invokestatic index, 3))
    (kk : J (kup K k (6 * k)) M' (pc + 3) L (v.toList ++ st)) : J K M pc L st0 := by
  obtain ⟨p, l', e, R', s, m, args, below, meth, c, Q, G', n0', nL', cells, slots⟩ := K
  obtain ⟨rfl, rfl, rfl, rfl, rfl, hx, hb, hown, hts, hK, hml, hSt, hce, hsl⟩ := C
  obtain ⟨-, -, -, -, -, -, -, -, -, -, -, -, hce2, hsl2⟩ := C2
  intro H locs ls hP hS hl
  subst hst
  exact j_retK (vx_runSW (p := p) (e := e) (below := below) (meth := meth) (hh := hh) (locs := locs) (H := H) (As := As) (rest := st) ⟨hx, hb, hml, hown, hts⟩ h (vx_cwSW n hts (GWm hg.1 hg.2.1 hg.2.2.1 hg.2.2.2) rfl hrm.1 hrm.2 hd hR) ⟨Rl_blind, fun U hU hW => ⟨rfl, by rw [hU]; exact hP, va_K.moved hW.alike hK, hSt.step hW (hS.F hU)⟩⟩ (g := F0 m pc ls (As.reverse ++ st)) rfl hn hl.1 rfl (lv_room hW) hdg ⟨hce2, hsl2⟩) hS (fun H1 locs1 hP1 hS1 => kk H1 locs1 ls hP1 hS1 hl)
theorem j_callK (C : Ok (kc K a) l R cc own G n0 nL) (C2 : Ok (kc K (a + k)) l R cc own G n0 nL) (n : Nat) (h : CtK l y bytes maxL ret rm G n0 As M v M' k) (hg : GS own index y bytes maxL ret) (hrm : rm.cells = k ∧ rm.slots = 6 * k)
    (hd : y.cls ≠ "java/lang/invoke/MethodHandle" ∧ y.cls ≠ "java/lang/invoke/VarHandle" ∧ (parseMethodDescriptor y.desc).map (fun d => d.parameters.length) = some n) (hR : rm.frames + 1 ≤ R.frames ∧ 8 + (maxL + 11) + rm.locals ≤ R.locals) (hn : As.length = n) (hst : st0 = As.reverse ++ st) (hW : (st.map fun v => v.category).sum ≤ 8) (hdg : decode cc pc = .ok (.invokestatic index, 3))
    (kk : J (kc K (a + k)) M' (pc + 3) L (v.toList ++ st)) : J (kc K a) M pc L st0 := by
  rw [← kc_kup] at C2 kk
  exact j_callK0 C C2 n h hg hrm hd hR hn hst hW hdg kk
theorem j_callW {hh : List (Nat × Nat × Nat × Nat)} (C : Ok (kc K a) l R cc own G n0 nL) (C2 : Ok (kc K (a + k)) l R cc own G n0 nL) (n : Nat) (h : CtV l y bytes maxL ret hh rm G n0 As M v M' k) (hg : GW own index y bytes maxL ret hh) (hrm : rm.cells = k ∧ rm.slots = 6 * k)
    (hd : y.cls ≠ "java/lang/invoke/MethodHandle" ∧ y.cls ≠ "java/lang/invoke/VarHandle" ∧ (parseMethodDescriptor y.desc).map (fun d => d.parameters.length) = some n) (hR : rm.frames + 1 ≤ R.frames ∧ 8 + (maxL + 11) + rm.locals ≤ R.locals) (hn : As.length = n) (hst : st0 = As.reverse ++ st) (hW : (st.map fun v => v.category).sum ≤ 8) (hdg : decode cc pc = .ok (.invokestatic index, 3))
    (kk : J (kc K (a + k)) M' (pc + 3) L (v.toList ++ st)) : J (kc K a) M pc L st0 := by
  rw [← kc_kup] at C2 kk
  exact j_callW0 C C2 n h hg hrm hd hR hn hst hW hdg kk
end JK
section JT
variable {K : Kx} {l : Launch} {R : Room} {cc : ByteArray} {own : String} {G : Gx} {n0 nL : Nat} {M M' : Mem} {pc index : Nat} {L : List (Nat × Value)} {st st0 : List Value}
theorem j_catch {y : MethodName} {rm : Room} {bytes : ByteArray} {maxL k : Nat} {ret : Option FieldType} {As : List Value} {hh : List (Nat × Nat × Nat × Nat)} {E : String} (C : Ok K l R cc own G n0 nL) (hX : Hx K hh) (n : Nat) (h : CtT l y bytes maxL ret rm G n0 (.ref (n0 + 0) :: As) M k) (hg : GV own index RX11 y bytes maxL ret) (hrm : rm.cells = 1 ∧ rm.slots = 6)
    (hd : y.cls = RX11 ∧ y.cls ≠ "java/lang/invoke/MethodHandle" ∧ y.cls ≠ "java/lang/invoke/VarHandle" ∧ (parseMethodDescriptor y.desc).map (fun d => d.parameters.length) = some n) (hR : rm.frames + 1 ≤ R.frames ∧ 8 + (maxL + 11) + rm.locals ≤ R.locals) (hC2 : Ok (kup K 1 6) l R cc own G n0 nL) (hn : As.length = n) (hst : st0 = As.reverse ++ .ref (n0 + 0) :: st) (hW : (st.map fun v => v.category).sum ≤ 8)
    (hE : exN k = E) (hEn : E ∈ nxC) (pre : List ExceptionTableEntry) (x : ExceptionTableEntry) (suf : List ExceptionTableEntry) (hsp : tableOf hh = pre ++ x :: suf) (hpass : ∀ z ∈ pre, z.catchType ≠ 0 ∧ ∃ nm : String, Cond.classLink own z.catchType nm ∈ TB ∧ nm ∈ nxC ∧ E ≠ nm) (hcov : covers x pc = true) (h0 : x.catchType ≠ 0) (hlink : Cond.classLink own x.catchType E ∈ TB) (hdg : decode cc pc = .ok (.invokevirtual index, 3))
    (kk : ∀ q : Nat, J (kup K 1 6) M x.handlerPc L [.ref q]) : J K M pc L st0 := by
  obtain ⟨p, l', e, R', s, m, args, below, meth, c, Q, G', n0', nL', cells, slots⟩ := K
  obtain ⟨rfl, rfl, rfl, rfl, rfl, hx, hb, hown, hts, hK, hml, hSt, hce, hsl⟩ := C
  subst hst hE
  obtain ⟨-, -, -, -, -, -, -, -, -, -, -, -, hce2, hsl2⟩ := hC2
  intro H locs ls hP hS hl T hT0 X
  have hat : (wld G' n0' M)[0]? = some (n0' + 0, ent G' n0' (tK 11) 0 (M.1 0) (M.2 0)) := wld_at rfl
  have hr := vx_runV (p := p) (e := e) (below := below) (meth := meth) (locs := locs) (H := H) (mc := 1) (ms := 6) (As := As) (rest := st) ⟨hx, hb, hml, hown, hts⟩ h (cwV n hts hg.good rfl hrm.1 hrm.2 hd hR) ⟨Rl_blind, va_recv (ci := 9) (q := (RX11, TX11, 5)) hK hP rfl (by rw [hat, ent_K]; rfl), fun U hU hW => ⟨rfl, by rw [hU]; exact hP, va_K.moved hW.alike hK, hSt.step hW (hS.F hU)⟩⟩ (g := F0 m pc ls (As.reverse ++ .ref (n0' + 0) :: st)) rfl hn hl.1 rfl (lv_room hW) hdg ⟨hce2, hsl2⟩
  rcases hr T hT0 X with ⟨v, st₀, t, T', L', h0', X', hL, e1, e2, hq, -⟩ | ⟨q, st₀, t, T', L', E, ce, h0', X', hL, e1, e2, ⟨hE2, hP1, hF⟩, hce', hcv, hcl, st'⟩
  · exact hq.elim
  · subst hE2
    obtain ⟨hz, hk⟩ := hF
    rw [h0'] at hz hk
    have hS1 : va_S (fun q => n0' ≤ q) s.heap T'.heap (locs ++ L') := ⟨Nat.le_trans hS.1 (by rw [e1]; exact hz), fun q h1 h2 => by rw [e1, hk q (Nat.lt_of_lt_of_le h1 hS.1) h2]; exact hS.2.1 q h1 h2, fun q hq => by
        rcases List.mem_append.mp hq with h | h
        · exact hS.2.2 q h
        · exact hL q h⟩
    obtain ⟨t2, a1, b1⟩ := vx_catch (p := p) (l := l') (e := e) (R := R') (below := below) (meth := meth) (Q := Q) (ls := ls) (rest := st) (locs := locs ++ L') (cells := cells + 1) (slots := slots + 6) (H := T'.heap) (q := q) (ce := ce) hown pre x suf (by rw [← hsp]; exact hX) (fun z hz => Or.inr ⟨(hpass z hz).1, by
        obtain ⟨nm, g1, g2, g3⟩ := (hpass z hz).2
        exact ⟨nm, hts _ g1, hSt.2.2.2.2.2.1 _ hEn _ g2 g3⟩⟩) hcov h0 (hts _ hlink) (va_Nw.use rfl (hSt.2.2.2.2.1 _ hEn)) (by rw [e1]; exact hce') hcv hcl (kk q T'.heap (locs ++ L') ls (by rw [e1]; exact hP1) hS1 hl) T' rfl X'
    exact ⟨t2, st'.trans a1, b1⟩
theorem j_catchK {y : MethodName} {rm : Room} {bytes : ByteArray} {maxL k a : Nat} {ret : Option FieldType} {As : List Value} {hh : List (Nat × Nat × Nat × Nat)} {E : String} (C : Ok (kc K a) l R cc own G n0 nL) (hX : Hx K hh) (n : Nat) (h : CtT l y bytes maxL ret rm G n0 (.ref (n0 + 0) :: As) M k) (hg : GV own index RX11 y bytes maxL ret) (hrm : rm.cells = 1 ∧ rm.slots = 6)
    (hd : y.cls = RX11 ∧ y.cls ≠ "java/lang/invoke/MethodHandle" ∧ y.cls ≠ "java/lang/invoke/VarHandle" ∧ (parseMethodDescriptor y.desc).map (fun d => d.parameters.length) = some n) (hR : rm.frames + 1 ≤ R.frames ∧ 8 + (maxL + 11) + rm.locals ≤ R.locals) (hC2 : Ok (kc K (a + 1)) l R cc own G n0 nL) (hn : As.length = n) (hst : st0 = As.reverse ++ .ref (n0 + 0) :: st) (hW : (st.map fun v => v.category).sum ≤ 8)
    (hE : exN k = E) (hEn : E ∈ nxC) (pre : List ExceptionTableEntry) (x : ExceptionTableEntry) (suf : List ExceptionTableEntry) (hsp : tableOf hh = pre ++ x :: suf) (hpass : ∀ z ∈ pre, z.catchType ≠ 0 ∧ ∃ nm : String, Cond.classLink own z.catchType nm ∈ TB ∧ nm ∈ nxC ∧ E ≠ nm) (hcov : covers x pc = true) (h0 : x.catchType ≠ 0) (hlink : Cond.classLink own x.catchType E ∈ TB) (hdg : decode cc pc = .ok (.invokevirtual index, 3))
    (kk : ∀ q : Nat, J (kc K (a + 1)) M x.handlerPc L [.ref q]) : J (kc K a) M pc L st0 := by
  have hX' : Hx (kc K a) hh := by
    obtain ⟨p, l', e, R', s, m, args, below, meth, c, Q, G', n0', nL', cells, slots⟩ := K
    exact hX
  have e1 : ∀ q : Nat, J (kup (kc K a) 1 6) M x.handlerPc L [.ref q] := fun q => by
    rw [show kup (kc K a) 1 6 = kc K (a + 1) from kc_kup K a 1]; exact kk q
  rw [← kc_kup] at hC2
  exact j_catch C hX' n h hg hrm hd hR hC2 hn hst hW hE hEn pre x suf hsp hpass hcov h0 hlink hdg e1
end JT
section JSC
variable {K : Kx} {l : Launch} {R : Room} {cc : ByteArray} {own : String} {G : Gx} {n0 nL : Nat} {M : Mem} {pc : Nat} {L : List (Nat × Value)} {st : List Value}
theorem j_scr (C : Ok K l R cc own G n0 nL) {i v : Int32} (hin : vp_in i G.2.2.2.1) (hv : G.2.2.2.2 i.toNatClampNeg = v) (hdg : decode cc pc = .ok (.iaload, 1)) (kk : J K M (pc + 1) L (.int v :: st)) : J K M pc L (.int i :: .ref G.2.2.1 :: st) := by
  obtain ⟨p, l', e, R', s, m, args, below, meth, c, Q, G', n0', nL', cells, slots⟩ := K
  obtain ⟨rfl, rfl, rfl, rfl, rfl, hx, hb, hown, hts, hK, hml, hSt, hce, hsl⟩ := C
  subst hv
  intro H locs ls hP hS hl
  exact va_sld hx hb hSt.sc.1 hSt.sc.2.1 (Nat.not_le.mpr hSt.sc.2.2) hS hin hdg (kk H locs ls hP hS hl)
theorem j_slen (C : Ok K l R cc own G n0 nL) (hdg : decode cc pc = .ok (.arraylength, 1)) (kk : J K M (pc + 1) L (.int (Int32.ofNat G.2.2.2.1) :: st)) : J K M pc L (.ref G.2.2.1 :: st) := by
  obtain ⟨p, l', e, R', s, m, args, below, meth, c, Q, G', n0', nL', cells, slots⟩ := K
  obtain ⟨rfl, rfl, rfl, rfl, rfl, hx, hb, hown, hts, hK, hml, hSt, hce, hsl⟩ := C
  intro H locs ls hP hS hl
  exact va_slen hx hb hSt.sc.1 hSt.sc.2.1 (Nat.not_le.mpr hSt.sc.2.2) hS hdg (kk H locs ls hP hS hl)
end JSC
