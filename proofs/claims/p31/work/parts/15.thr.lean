/-- the exceptions by their numbers -/
def exN (k : Nat) : String := if k = 1 then "java/lang/IndexOutOfBoundsException" else if k = 2 then "java/lang/IllegalArgumentException" else "java/lang/IllegalStateException"
def XT (G : Gx) (n0 : Nat) (M : Mem) (k : Nat) : String → State → State → Prop := fun E st t => E = exN k ∧ va_P G.1 vwCl (wld G n0 M) t.heap ∧ va_F (fun q => n0 ≤ q) st t
/-- a method throws, and changes nothing -/
def CtT (l : Launch) (y : MethodName) (cc : ByteArray) (maxL : Nat) (ret : Option FieldType) (rm : Room) (G : Gx) (n0 : Nat) (av : List Value) (M : Mem) (k : Nat) : Prop := vx_Met l y (wsT y cc maxL ret) rm (va_Pc av (Rl G n0 M)) (fun _ _ _ _ => False) (XT G n0 M k) 1 6 (fun q => n0 ≤ q)
def TX (K : Kx) (M : Mem) (k : Nat) : Prop := match K with
  | (p, l, e, R, s, m, args, below, meth, c, Q, G, n0, nL, cells, slots) => (cells + 1 ≤ R.cells ∧ slots + 6 ≤ R.slots) ∧ ∀ (H : Heap) (locs : List Loc) (ls : Array Slot) (pc : Nat) (rest : List Value) (q : Addr) (ce : Cell), va_P G.1 vwCl (wld G n0 M) H → va_S (fun q => n0 ≤ q) s.heap H locs → H[q]? = some ce → ce.vm = .none → s.vm.findClass (exN k) = some ce.cls → vx_W p l e R s m args below meth c H locs (cells + 1) (slots + 6) Q (F0 m pc ls rest) q
theorem ct_thr {l : Launch} {y : MethodName} {rm : Room} {cc : ByteArray} {maxL : Nat} {ret : Option FieldType} {G : Gx} {n0 : Nat} {av : List Value} {M : Mem} {k : Nat} (hy : plainName y.cls = true) (hn : (lg_sl av).length ≤ maxL) (hrm : 1 ≤ rm.cells ∧ 6 ≤ rm.slots)
    (body : ∀ K, Ok K l rm cc y.cls G n0 maxL → TX K M k → J K M 0 (lv_args 0 av) []) : CtT l y cc maxL ret rm G n0 av M k := by
  refine vx_ofW (cc := cc) (maxL := maxL) (ret := ret) hy rfl ?_
  intro p e s m args below meth c s₁ B hml hex hv
  obtain ⟨rfl, hP, hK, hSt⟩ := hv
  have hts := fun w hw => atoms_spec (ws := wsT y cc maxL ret) B.pre w (List.mem_cons_of_mem _ hw)
  have hown : s.vm.findClass y.cls = some m.cls := findClass_of_methodNamed B.named
  have hl := lv_entry av (n := maxL) hn
  rw [lg_entry_eq]
  refine body (p, l, e, rm, s, m, av.toArray, below, meth, c, vx_MQ below (fun _ _ _ _ => False) (XT G n0 M k) av.toArray s 1 6 (fun q => n0 ≤ q), G, n0, maxL, 0, 0)
    ⟨rfl, rfl, rfl, rfl, rfl, B.exec, B.bytes, hown, hts, hK, hml, hSt, Nat.zero_le _, Nat.zero_le _⟩ ⟨⟨hrm.1, hrm.2⟩, ?_⟩ s.heap [] _ hP va_S.rf hl
  intro H locs ls pc rest q ce hP1 hS1 hc hv hcl
  exact vx_out (fun x hx => (hex x hx).elim) B.notSynchronized hc hv hcl (fun t ht hA => ⟨rfl, by rw [ht]; exact hP1, hS1.F ht⟩) hS1.2.2 (Nat.le_refl _) (Nat.le_refl _)
theorem j_callTS {K : Kx} {l : Launch} {R : Room} {cc : ByteArray} {own : String} {G : Gx} {n0 nL : Nat} {M : Mem} {pc k : Nat} {L : List (Nat × Value)} {st st0 : List Value} {y : MethodName} {rm : Room} {bytes : ByteArray} {maxL index : Nat} {ret : Option FieldType} {As : List Value}
    (C : Ok K l R cc own G n0 nL) (n : Nat) (hT : TX K M k) (h : CtT l y bytes maxL ret rm G n0 As M k) (hg : GS own index y bytes maxL ret) (hrm : rm.cells = 1 ∧ rm.slots = 6)
    (hd : y.cls ≠ "java/lang/invoke/MethodHandle" ∧ y.cls ≠ "java/lang/invoke/VarHandle" ∧ (parseMethodDescriptor y.desc).map (fun d => d.parameters.length) = some n) (hR : rm.frames + 1 ≤ R.frames ∧ 8 + (maxL + 11) + rm.locals ≤ R.locals) (hn : As.length = n) (hst : st0 = As.reverse ++ st) (hW : (st.map fun v => v.category).sum ≤ 8) (hdg : decode cc pc = .ok (.invokestatic index, 3)) : J K M pc L st0 := by
  obtain ⟨p, l', e, R', s, m, args, below, meth, c, Q, G', n0', nL', cells, slots⟩ := K
  obtain ⟨rfl, rfl, rfl, rfl, rfl, hx, hb, hown, hts, hK, hml, hSt, hce, hsl⟩ := C
  intro H locs ls hP hS hl
  subst hst
  intro T hT0 X
  have hr := vx_runS (p := p) (e := e) (below := below) (meth := meth) (locs := locs) (H := H) (mc := 1) (ms := 6) (As := As) (rest := st) ⟨hx, hb, hml, hown, hts⟩ h (va_cwS n hts hg.good rfl hrm.1 hrm.2 hd hR) ⟨Rl_blind, fun U hU hW => ⟨rfl, by rw [hU]; exact hP, va_K.moved hW.alike hK, hSt.step hW (hS.F hU)⟩⟩ (g := F0 m pc ls (As.reverse ++ st)) rfl hn hl.1 rfl (lv_room hW) hdg hT.1
  rcases hr T hT0 X with ⟨v, st₀, t, T', L', h0, X', hL, e1, e2, hq, -⟩ | ⟨q, st₀, t, T', L', E, ce, h0, X', hL, e1, e2, ⟨hE, hP1, hF⟩, hce, hcv, hcl, st'⟩
  · exact hq.elim
  · subst hE
    obtain ⟨hz, hk⟩ := hF
    rw [h0] at hz hk
    obtain ⟨t2, a1, b1⟩ := hT.2 T'.heap (locs ++ L') ls pc st q ce (by rw [e1]; exact hP1)
      ⟨Nat.le_trans hS.1 (by rw [e1]; exact hz), fun q h1 h2 => by rw [e1, hk q (Nat.lt_of_lt_of_le h1 hS.1) h2]; exact hS.2.1 q h1 h2, fun q hq => by
        rcases List.mem_append.mp hq with h | h
        · exact hS.2.2 q h
        · exact hL q h⟩ (by rw [e1]; exact hce) hcv hcl T' rfl X'
    exact ⟨t2, st'.trans a1, b1⟩
def fX11_refuse (x0 : Int32) : Option (Nat ⊕ Unit) := if x0 = 1 then some (.inl 1) else if x0 = 2 then some (.inl 2) else if x0 = 3 then some (.inl 3) else some (.inr ())
def rX11_refuse : Room := { frames := 0, cells := 0, slots := 0, locals := 0 }
def qX11_refuse : Room := { frames := 6, cells := 1, slots := 6, locals := 90 }
set_option maxRecDepth 100000 in
set_option maxHeartbeats 4000000 in
theorem c_X11_refuse (l : Launch) (G : Gx) (n0 : Nat) {x0 : Int32} {M : Mem} (hf : fX11_refuse x0 = some (Sum.inr ())) : Ct l yX11_refuse cX11_refuse 1 none rX11_refuse G n0 [.int x0] M none M := by
  refine ct_void (cc := cX11_refuse) (maxL := 1) rfl (Nat.le_of_ble_eq_true rfl) ?_
  intro K C hret
  have C : Ok K l rX11_refuse cX11_refuse RX11 G n0 1 := C
  show J K M 0 [(0, .int x0)] []
  unfold fX11_refuse at hf
  refine j_iload_n C 0 dX11_refuse_0 rfl rfl ?_
  refine j_iconst C (1 : Int32) rfl dX11_refuse_1 ?_
  refine j_icmp_ne C 16 dX11_refuse_2 (by decide) (fun c1 => ?_) (fun c1 => ?_)
  · replace hf := ine c1 hf
    refine j_iload_n C 0 dX11_refuse_16 rfl rfl ?_
    refine j_iconst C (2 : Int32) rfl dX11_refuse_17 ?_
    refine j_icmp_ne C 32 dX11_refuse_18 (by decide) (fun c2 => ?_) (fun c2 => ?_)
    · replace hf := ine c2 hf
      refine j_iload_n C 0 dX11_refuse_32 rfl rfl ?_
      refine j_iconst C (3 : Int32) rfl dX11_refuse_33 ?_
      refine j_icmp_ne C 48 dX11_refuse_34 (by decide) (fun c3 => ?_) (fun c3 => ?_)
      · exact hret _ _ dX11_refuse_48
      · cases ip c3 hf
    · cases ip c2 hf
  · cases ip c1 hf
theorem at_x0 : ∀ w ∈ (vx_atS RX11 285 "java/lang/IndexOutOfBoundsException" ["java/lang/RuntimeException", "java/lang/Exception"]).filter goodWord, w ∈ lw_tbl := by decide +kernel
theorem at_x1 : ∀ w ∈ (vx_atS RX11 292 "java/lang/IllegalArgumentException" ["java/lang/RuntimeException", "java/lang/Exception"]).filter goodWord, w ∈ lw_tbl := by decide +kernel
theorem at_x2 : ∀ w ∈ (vx_atS RX11 297 "java/lang/IllegalStateException" ["java/lang/RuntimeException", "java/lang/Exception"]).filter goodWord, w ∈ lw_tbl := by decide +kernel
theorem at_y0 : ∀ w ∈ (vx_atS RX11 285 "java/lang/IndexOutOfBoundsException" ["java/lang/RuntimeException", "java/lang/Exception"]).filter (fun w => !goodWord w), w ∈ Cond.castable "java/lang/IndexOutOfBoundsException" "java/lang/IndexOutOfBoundsException" :: nxD.map Cond.declares := by decide +kernel
theorem at_y1 : ∀ w ∈ (vx_atS RX11 292 "java/lang/IllegalArgumentException" ["java/lang/RuntimeException", "java/lang/Exception"]).filter (fun w => !goodWord w), w ∈ Cond.castable "java/lang/IllegalArgumentException" "java/lang/IllegalArgumentException" :: nxD.map Cond.declares := by decide +kernel
theorem at_y2 : ∀ w ∈ (vx_atS RX11 297 "java/lang/IllegalStateException" ["java/lang/RuntimeException", "java/lang/Exception"]).filter (fun w => !goodWord w), w ∈ Cond.castable "java/lang/IllegalStateException" "java/lang/IllegalStateException" :: nxD.map Cond.declares := by decide +kernel
/-- new X(text), thrown out of the method -/
theorem j_throw {p : Program} {l : Launch} {e : Env} {rm : Room} {s : State} {m : MethodId} {av : Array Value} {below : List Frame} {meth : Method} {c : Code} {cc : ByteArray} {G : Gx} {n0 maxL : Nat} {M : Mem} {k : Nat} (hfl : l.stackTraces = false) (hrm : 6 ≤ rm.frames ∧ 1 ≤ rm.cells ∧ 6 ≤ rm.slots ∧ 90 ≤ rm.locals) (hlocks : meth.locks = false) (hex : ∀ x ∈ c.exceptionTable.toList, False)
    (C : Ok (p, l, e, rm, s, m, av, below, meth, c, vx_MQ below (fun _ _ _ _ => False) (XT G n0 M k) av s 1 6 (fun q => n0 ≤ q), G, n0, maxL, 0, 0) l rm cc RX11 G n0 maxL) {ik is ic pc : Nat} {cls text : String} {L : List (Nat × Value)} (hcls : exN k = cls) (hfit : Bundle.fit cls = true) (hC : cls ∈ nxC)
    (h1 : ∀ w ∈ (vx_atS RX11 ic cls ["java/lang/RuntimeException", "java/lang/Exception"]).filter goodWord, w ∈ lw_tbl) (h2 : ∀ w ∈ (vx_atS RX11 ic cls ["java/lang/RuntimeException", "java/lang/Exception"]).filter (fun w => !goodWord w), w ∈ Cond.castable cls cls :: nxD.map Cond.declares)
    (hgood : ∀ w ∈ Cond.classLink RX11 ik cls :: Cond.initialized cls :: vx_atS RX11 ic cls ["java/lang/RuntimeException", "java/lang/Exception"], vx_ot w = true)
    (hk : Cond.classLink RX11 ik cls ∈ TB) (hini : Cond.initialized cls ∈ TB) (hs : (RX11, is, text) ∈ nxS)
    (d0 : decode cc pc = .ok (.new ik, 3)) (d3 : decode cc (pc + 3) = .ok (.dup, 1)) (d4 : decode cc (pc + 4) = .ok (.ldc_w is, 3)) (d7 : decode cc (pc + 7) = .ok (.invokespecial ic, 3)) (d10 : decode cc (pc + 10) = .ok (.athrow, 1)) :
    J (p, l, e, rm, s, m, av, below, meth, c, vx_MQ below (fun _ _ _ _ => False) (XT G n0 M k) av s 1 6 (fun q => n0 ≤ q), G, n0, maxL, 0, 0) M pc L [] := by
  obtain ⟨-, -, -, -, -, hx, hb, hown, hts, hK, hml, hSt, hce, hsl⟩ := C
  intro H locs ls hP hS hl
  obtain ⟨sa, hsa⟩ := hSt.2.2.2.1 _ hs
  refine vx_throwSW hx hb hfl hown hfit (by decide +kernel) (hts _ hk) (hts _ hini) hsa (vx_hat (fun w hw => hts w (List.mem_filter.mpr ⟨h1 w hw, (List.mem_filter.mp hw).2⟩)) h2 (vx_c (va_Nw.use rfl (hSt.2.2.2.2.1 _ hC)) (fun w hw => by
    obtain ⟨q, hq, rfl⟩ := List.mem_map.mp hw
    exact va_Nw.use rfl (hSt.2.2.2.2.2.2 _ hq)))) hgood hSt.fx.2.2.2.1 hSt.fx.2.2.2.2 hS (hl.1.trans hml.symm) d0 d3 d4 d7 d10 (fun x hx => (hex x hx).elim) ?_ ?_ hrm.2.1 hrm.2.2.1 hlocks ?_ hS.2.2 (Nat.le_refl _) (Nat.le_refl _)
  · exact hrm.1
  · exact Nat.le_trans (Nat.le_of_ble_eq_true rfl) hrm.2.2.2
  · intro t hA hz hq
    exact ⟨hcls.symm, hP.kept (fun k q hk => hq q.1 (hP k q hk).lt), ⟨Nat.le_trans hS.1 hz, fun q h1 h2 => (hq q (Nat.lt_of_lt_of_le h1 hS.1)).trans (hS.2.1 q h1 h2)⟩⟩
set_option maxRecDepth 100000 in
set_option maxHeartbeats 4000000 in
theorem t_X11_refuse (l : Launch) (hfl : l.stackTraces = false) (G : Gx) (n0 : Nat) {x0 : Int32} {M : Mem} {k : Nat} (hf : fX11_refuse x0 = some (Sum.inl k)) : CtT l yX11_refuse cX11_refuse 1 none qX11_refuse G n0 [.int x0] M k := by
  refine vx_ofW (cc := cX11_refuse) (maxL := 1) (ret := none) rfl rfl ?_
  intro p e s m args below meth c s₁ B hml hex hv
  obtain ⟨rfl, hP, hK, hSt⟩ := hv
  have hts := fun w hw => atoms_spec (ws := wsT yX11_refuse cX11_refuse 1 none) B.pre w (List.mem_cons_of_mem _ hw)
  have hown : s.vm.findClass RX11 = some m.cls := findClass_of_methodNamed B.named
  have hl := lv_entry [.int x0] (n := 1) (Nat.le_of_ble_eq_true rfl)
  rw [lg_entry_eq]
  have C : Ok (p, l, e, qX11_refuse, s, m, [Value.int x0].toArray, below, meth, c, vx_MQ below (fun _ _ _ _ => False) (XT G n0 M k) [Value.int x0].toArray s 1 6 (fun q => n0 ≤ q), G, n0, 1, 0, 0) l qX11_refuse cX11_refuse RX11 G n0 1 :=
    ⟨rfl, rfl, rfl, rfl, rfl, B.exec, B.bytes, hown, hts, hK, hml, hSt, Nat.zero_le _, Nat.zero_le _⟩
  have hrm : 6 ≤ qX11_refuse.frames ∧ 1 ≤ qX11_refuse.cells ∧ 6 ≤ qX11_refuse.slots ∧ 90 ≤ qX11_refuse.locals := ⟨Nat.le_of_ble_eq_true rfl, Nat.le_of_ble_eq_true rfl, Nat.le_of_ble_eq_true rfl, Nat.le_of_ble_eq_true rfl⟩
  refine (?_ : J (p, l, e, qX11_refuse, s, m, [Value.int x0].toArray, below, meth, c, vx_MQ below (fun _ _ _ _ => False) (XT G n0 M k) [Value.int x0].toArray s 1 6 (fun q => n0 ≤ q), G, n0, 1, 0, 0) M 0 [(0, .int x0)] []) s.heap [] _ hP va_S.rf hl
  unfold fX11_refuse at hf
  refine j_iload_n C 0 dX11_refuse_0 rfl rfl ?_
  refine j_iconst C (1 : Int32) rfl dX11_refuse_1 ?_
  refine j_icmp_ne C 16 dX11_refuse_2 (by decide) (fun c1 => ?_) (fun c1 => ?_)
  · replace hf := ine c1 hf
    refine j_iload_n C 0 dX11_refuse_16 rfl rfl ?_
    refine j_iconst C (2 : Int32) rfl dX11_refuse_17 ?_
    refine j_icmp_ne C 32 dX11_refuse_18 (by decide) (fun c2 => ?_) (fun c2 => ?_)
    · replace hf := ine c2 hf
      refine j_iload_n C 0 dX11_refuse_32 rfl rfl ?_
      refine j_iconst C (3 : Int32) rfl dX11_refuse_33 ?_
      refine j_icmp_ne C 48 dX11_refuse_34 (by decide) (fun c3 => ?_) (fun c3 => ?_)
      · cases ine c3 hf
      · obtain rfl : 3 = k := by have h := ip c3 hf; cases h; rfl
        exact j_throw (text := "this cannot be done now") hfl hrm B.notSynchronized hex C rfl (by decide +kernel) (by decide +kernel) at_x2 at_y2 (by decide +kernel) tw2_104 tw1_17 (by decide +kernel) dX11_refuse_37 dX11_refuse_40 dX11_refuse_41 dX11_refuse_44 dX11_refuse_47
    · obtain rfl : 2 = k := by have h := ip c2 hf; cases h; rfl
      exact j_throw (text := "a value is out of its range") hfl hrm B.notSynchronized hex C rfl (by decide +kernel) (by decide +kernel) at_x1 at_y1 (by decide +kernel) tw2_88 tw1_16 (by decide +kernel) dX11_refuse_21 dX11_refuse_24 dX11_refuse_25 dX11_refuse_28 dX11_refuse_31
  · obtain rfl : 1 = k := by have h := ip c1 hf; cases h; rfl
    exact j_throw (text := "there is none with this number") hfl hrm B.notSynchronized hex C rfl (by decide +kernel) (by decide +kernel) at_x0 at_y0 (by decide +kernel) tw2_21 tw1_15 (by decide +kernel) dX11_refuse_5 dX11_refuse_8 dX11_refuse_9 dX11_refuse_12 dX11_refuse_15
