/-! calls that are caught -/
def wsW (y : MethodName) (cc : ByteArray) (n : Nat) (r : Option FieldType) (hh : List (Nat × Nat × Nat × Nat)) : List Cond := Cond.codeWith y cc n r hh :: TB
def CtW (l : Launch) (y : MethodName) (cc : ByteArray) (maxL : Nat) (hh : List (Nat × Nat × Nat × Nat)) (rm : Room) (G : Gx) (n0 : Nat) (av : List Value) (M : Mem) (v : Int32) (M' : Mem) : Prop := Met l y (wsW y cc maxL (some .int) hh) rm (va_Pc av (Rl G n0 M)) (QR G n0 (some (.int v)) M') 1 6 (fun q => n0 ≤ q)
def Hx (K : Kx) (hh : List (Nat × Nat × Nat × Nat)) : Prop := match K with
  | (p, l, e, R, s, m, args, below, meth, c, Q, G, n0, nL, _, _) => c.exceptionTable.toList = tableOf hh
def kup (K : Kx) (a b : Nat) : Kx := match K with
  | (p, l, e, R, s, m, args, below, meth, c, Q, G, n0, nL, cells, slots) => (p, l, e, R, s, m, args, below, meth, c, Q, G, n0, nL, cells + a, slots + b)
theorem vx_to {l : Launch} {y : MethodName} {ws : List Cond} {rm : Room} {Pc : Array Value → State → Prop} {Qc : Array Value → State → Outcome → State → Prop} {mc ms : Nat} {free : Addr → Prop} (h : vx_Met l y ws rm Pc Qc (fun _ _ _ => False) mc ms free) : Met l y ws rm Pc Qc mc ms free := by
  intro p e ha hc hk s m args below hf happ hP hK
  obtain ⟨n, o, h1, h2, h3, h4⟩ := h p e ha hc hk s m args below hf happ hP hK
  refine ⟨n, o, h1, h2, h3, ?_⟩
  rcases h4 with h4 | ⟨q, -, E, ce, L, hx, -⟩
  · exact h4
  · exact hx.elim
theorem ctw {l : Launch} {y : MethodName} {rm : Room} {cc : ByteArray} {maxL : Nat} {hh : List (Nat × Nat × Nat × Nat)} {G : Gx} {n0 : Nat} {av : List Value} {M M' : Mem} {r : Int32} (hy : plainName y.cls = true) (hn : (lg_sl av).length ≤ maxL) (hrm : rm.cells = 1 ∧ rm.slots = 6)
    (body : ∀ K, Ok K l rm cc y.cls G n0 maxL → Ok (kup K 1 6) l rm cc y.cls G n0 maxL → Hx K hh → (∀ pc L, decode cc pc = .ok (.ireturn, 1) → J K M' pc L [.int r] ∧ J (kup K 1 6) M' pc L [.int r]) → J K M 0 (lv_args 0 av) []) : CtW l y cc maxL hh rm G n0 av M r M' := by
  refine vx_to (vx_ofWH (cc := cc) (maxL := maxL) (ret := some .int) (hh := hh) hy rfl ?_)
  intro p e s m args below meth c s₁ B hml hv
  obtain ⟨rfl, hP, hK, hSt⟩ := hv
  have hts0 := atoms_spec (ws := wsW y cc maxL (some .int) hh) B.pre
  have hts := fun w hw => hts0 w (List.mem_cons_of_mem _ hw)
  have htab : c.exceptionTable.toList = tableOf hh := vx_table (x := y) B (hts0 _ List.mem_cons_self)
  have hown : s.vm.findClass y.cls = some m.cls := findClass_of_methodNamed B.named
  have hl := lv_entry av (n := maxL) hn
  rw [lg_entry_eq]
  refine vx_ret ?_
  refine body (p, l, e, rm, s, m, av.toArray, below, meth, c, MQ below (QR G n0 (some (.int r)) M') av.toArray s 1 6 (fun q => n0 ≤ q), G, n0, maxL, 0, 0)
    ⟨rfl, rfl, rfl, rfl, rfl, B.exec, B.bytes, hown, hts, hK, hml, hSt, Nat.zero_le _, Nat.zero_le _⟩
    ⟨rfl, rfl, rfl, rfl, rfl, B.exec, B.bytes, hown, hts, hK, hml, hSt, by rw [hrm.1]; exact Nat.le_refl _, by rw [hrm.2]; exact Nat.le_refl _⟩ htab ?_ s.heap [] _ hP va_S.rf hl
  have key : ∀ (H : Heap) (locs : List Loc) (ls : Array Slot) (pc : Nat), decode cc pc = .ok (.ireturn, 1) → va_P G.1 vwCl (wld G n0 M') H → va_S (fun q => n0 ≤ q) s.heap H locs → W p l e rm s m av.toArray below meth c H locs 1 6 (MQ below (QR G n0 (some (.int r)) M') av.toArray s 1 6 (fun q => n0 ≤ q)) (F0 m pc ls [.int r]) :=
    fun H locs ls pc hd hP1 hS1 => W.iret B.exec B.bytes B.returns (fun t ht hW => ⟨rfl, Rl_end hP1 hK hSt hS1 ht hW⟩) hS1.2.2 hd B.notSynchronized
  exact fun pc L hd => ⟨fun H locs ls hP1 hS1 _ => W.widen (Nat.zero_le _) (Nat.zero_le _) (key H locs ls pc hd hP1 hS1), fun H locs ls hP1 hS1 _ => key H locs ls pc hd hP1 hS1⟩
section JT
variable {K : Kx} {l : Launch} {R : Room} {cc : ByteArray} {own : String} {G : Gx} {n0 nL : Nat} {M M' : Mem} {pc index : Nat} {L : List (Nat × Value)} {st st0 : List Value}
theorem j_last (C : Ok K l R cc own G n0 nL) {x : Int64} {M' : Mem} (hM : mputL M 185 0 x = M') (hdg : decode cc pc = .ok (.lastore, 1)) (kk : J K M' (pc + 1) L st) : J K M pc L (.long x :: .int 0 :: .ref (n0 + 185) :: st) := by
  obtain ⟨p, l', e, R', s, m, args, below, meth, c, Q, G', n0', nL', cells, slots⟩ := K
  obtain ⟨rfl, rfl, rfl, rfl, rfl, hx, hb, hown, hts, hK, hml, hSt, hce, hsl⟩ := C
  subst hM
  intro H locs ls hP hS hl
  have hat : (wld G' n0' M)[185]? = some (n0' + 185, .inl (G'.2.1 2, 1, .inr (.inl (M.2 185)))) := by rw [wld_at (tag := tK 15) rfl, ent_K]; rfl
  refine va_last hx hb hK hP (wld_D _ _ _) hS 185 2 hat rfl (by show ¬ (_ < _ ∨ _ ≤ _); decide) hdg (fun H1 locs1 hP1 _ hS1 => ?_)
  rw [wld_set (M := M) (M' := mputL M 185 0 x) (tag := tK 15) rfl (by rw [ent_K, mputL_row]; rfl) (fun a _ => rfl) (fun a ha => mputL_ne M x ha)] at hP1
  exact kk H1 locs1 ls hP1 hS1 hl
theorem j_lald (C : Ok K l R cc own G n0 nL) (hdg : decode cc pc = .ok (.laload, 1)) (kk : J K M (pc + 1) L (.long (M.2 185 0) :: st)) : J K M pc L (.int 0 :: .ref (n0 + 185) :: st) := by
  obtain ⟨p, l', e, R', s, m, args, below, meth, c, Q, G', n0', nL', cells, slots⟩ := K
  obtain ⟨rfl, rfl, rfl, rfl, rfl, hx, hb, hown, hts, hK, hml, hSt, hce, hsl⟩ := C
  intro H locs ls hP hS hl
  have hat : (wld G' n0' M)[185]? = some (n0' + 185, .inl (G'.2.1 2, 1, .inr (.inl (M.2 185)))) := by rw [wld_at (tag := tK 15) rfl, ent_K]; rfl
  exact va_lald hx hb hK hP 185 2 hat rfl (by show ¬ (_ < _ ∨ _ ≤ _); decide) hdg (kk H locs ls hP hS hl)
theorem j_catch {y : MethodName} {rm : Room} {bytes : ByteArray} {maxL k : Nat} {ret : Option FieldType} {As : List Value} {hh : List (Nat × Nat × Nat × Nat)} {E : String} (C : Ok K l R cc own G n0 nL) (hX : Hx K hh) (n : Nat) (h : CtT l y bytes maxL ret rm G n0 (.ref (n0 + 0) :: As) M k) (hg : GV own index RX11 y bytes maxL ret) (hrm : rm.cells = 1 ∧ rm.slots = 6)
    (hd : y.cls = RX11 ∧ y.cls ≠ "java/lang/invoke/MethodHandle" ∧ y.cls ≠ "java/lang/invoke/VarHandle" ∧ (parseMethodDescriptor y.desc).map (fun d => d.parameters.length) = some n) (hR : rm.frames + 1 ≤ R.frames ∧ 8 + (maxL + 11) + rm.locals ≤ R.locals) (hC2 : Ok (kup K 1 6) l R cc own G n0 nL) (hn : As.length = n) (hst : st0 = As.reverse ++ .ref (n0 + 0) :: st) (hW : (st.map fun v => v.category).sum ≤ 8)
    (hE : exN k = E) (hEn : E ∈ nxC) (pre : List ExceptionTableEntry) (x : ExceptionTableEntry) (suf : List ExceptionTableEntry) (hsp : tableOf hh = pre ++ x :: suf) (hpass : ∀ z ∈ pre, z.catchType ≠ 0 ∧ ∃ nm : String, Cond.classLink own z.catchType nm ∈ TB ∧ nm ∈ nxC ∧ E ≠ nm) (hcov : covers x pc = true) (h0 : x.catchType ≠ 0) (hlink : Cond.classLink own x.catchType E ∈ TB) (hdg : decode cc pc = .ok (.invokevirtual index, 3))
    (kk : ∀ q : Nat, J (kup K 1 6) M x.handlerPc L [.ref q]) : J K M pc L st0 := by
  obtain ⟨p, l', e, R', s, m, args, below, meth, c, Q, G', n0', nL', cells, slots⟩ := K
  obtain ⟨rfl, rfl, rfl, rfl, rfl, hx, hb, hown, hts, hK, hml, hSt, hce, hsl⟩ := C
  subst hst hE
  obtain ⟨-, -, -, -, -, -, -, -, -, -, -, -, hce2, hsl2⟩ := hC2
  intro H locs ls hP hS hl T hT0 X
  have hat : (wld G' n0' M)[0]? = some (n0' + 0, ent G' n0' (tK 11) 0 (M.1 0) (M.2 0)) := wld_at rfl
  have hr := vx_runV (p := p) (e := e) (below := below) (meth := meth) (locs := locs) (H := H) (mc := 1) (ms := 6) (As := As) (rest := st) ⟨hx, hb, hml, hown, hts⟩ h (cwV n hts hg.good rfl hrm.1 hrm.2 hd hR) ⟨Rl_blind, va_recv (ci := 9) (q := (RX11, TX11, 5)) hK hP rfl (by rw [hat, ent_K]; rfl), fun U hU hW => ⟨rfl, by rw [hU]; exact hP, va_K.moved hW.alike hK, hSt.step hW (hS.F hU)⟩⟩ (g := F0 m pc ls (As.reverse ++ .ref (n0' + 0) :: st)) rfl hn hl.1 rfl (lv_room hW) hdg ⟨hce2, hsl2⟩
  rcases hr T hT0 X with ⟨v, st₀, t, T', L', h0', X', hL, e1, e2, hq, -⟩ | ⟨q, st₀, t, T', L', E, ce, h0', X', hL, e1, e2, ⟨hE2, hP1, hF⟩, hce', hcv, hcl, st'⟩
  · exact hq.elim
  · subst hE2
    obtain ⟨hz, hk⟩ := hF
    rw [h0'] at hz hk
    have hS1 : va_S (fun q => n0' ≤ q) s.heap T'.heap (locs ++ L') := ⟨Nat.le_trans hS.1 (by rw [e1]; exact hz), fun q h1 h2 => by rw [e1, hk q (Nat.lt_of_lt_of_le h1 hS.1) h2]; exact hS.2.1 q h1 h2, fun q hq => by
        rcases List.mem_append.mp hq with h | h
        · exact hS.2.2 q h
        · exact hL q h⟩
    obtain ⟨t2, a1, b1⟩ := vx_catch (p := p) (l := l') (e := e) (R := R') (below := below) (meth := meth) (Q := Q) (ls := ls) (rest := st) (locs := locs ++ L') (cells := cells + 1) (slots := slots + 6) (H := T'.heap) (q := q) (ce := ce) hown pre x suf (by rw [← hsp]; exact hX) (fun z hz => Or.inr ⟨(hpass z hz).1, by
        obtain ⟨nm, g1, g2, g3⟩ := (hpass z hz).2
        exact ⟨nm, hts _ g1, hSt.2.2.2.2.2.1 _ hEn _ g2 g3⟩⟩) hcov h0 (hts _ hlink) (va_Nw.use rfl (hSt.2.2.2.2.1 _ hEn)) (by rw [e1]; exact hce') hcv hcl (kk q T'.heap (locs ++ L') ls (by rw [e1]; exact hP1) hS1 hl) T' rfl X'
    exact ⟨t2, st'.trans a1, b1⟩
end JT
