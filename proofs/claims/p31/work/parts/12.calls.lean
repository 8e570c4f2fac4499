/-- a method returns v and leaves the memory M' -/
def QR (G : Gx) (n0 : Nat) (v : Option Value) (M' : Mem) : Array Value → State → Outcome → State → Prop := fun _ st oc t => oc = .returned v ∧ Rl G n0 M' t ∧ va_F (fun q => n0 ≤ q) st t
def Ct (l : Launch) (y : MethodName) (cc : ByteArray) (maxL : Nat) (ret : Option FieldType) (rm : Room) (G : Gx) (n0 : Nat) (av : List Value) (M : Mem) (v : Option Value) (M' : Mem) : Prop := Met l y (wsT y cc maxL ret) rm (va_Pc av (Rl G n0 M)) (QR G n0 v M') 0 0 (fun q => n0 ≤ q)
def bI : Bool → Int32 | true => 1 | false => 0
theorem bI_nar (b : Bool) : narrow .boolean (.int (bI b)) = .int (bI b) := by cases b <;> decide
theorem Rl_blind {G : Gx} {n0 : Nat} {M : Mem} {av : List Value} : FrameBlind (va_Pc av (Rl G n0 M)) := by
  intro a U g mk q
  obtain ⟨q0, qP, qK, qS⟩ := q
  exact ⟨q0, qP, va_K.moved (u := U) (U := U.calling g mk a) (Vm.Alike.refl U.vm) qK, St.same qS rfl rfl⟩
theorem Rl_end {G : Gx} {n0 : Nat} {M : Mem} {s t : State} {H : Heap} {locs : List Loc} (hP : va_P G.1 vwCl (wld G n0 M) H) (hK : va_K G.1 vwCl (tyG G) s) (hSt : St G n0 s) (hS : va_S (fun q => n0 ≤ q) s.heap H locs) (ht : t.heap = H) (hW : s.WarmedH t.vm) : Rl G n0 M t ∧ va_F (fun q => n0 ≤ q) s t := by
  have hF := hS.F ht
  exact ⟨⟨by rw [ht]; exact hP, va_K.moved hW.alike hK, hSt.step hW hF⟩, hF⟩
theorem ct_int {l : Launch} {y : MethodName} {rm : Room} {cc : ByteArray} {maxL : Nat} {G : Gx} {n0 : Nat} {av : List Value} {M M' : Mem} {r : Int32} (hy : plainName y.cls = true) (hn : (lg_sl av).length ≤ maxL)
    (body : ∀ K, Ok K l rm cc y.cls G n0 maxL → (∀ pc L, decode cc pc = .ok (.ireturn, 1) → J K M' pc L [.int r]) → J K M 0 (lv_args 0 av) []) : Ct l y cc maxL (some .int) rm G n0 av M (some (.int r)) M' := by
  refine Met.ofW (cc := cc) (maxL := maxL) (ret := some .int) hy rfl ?_
  intro p e s m args below meth c s₁ B hml hv
  obtain ⟨rfl, hP, hK, hSt⟩ := hv
  have hts := fun w hw => atoms_spec (ws := wsT y cc maxL (some .int)) B.pre w (List.mem_cons_of_mem _ hw)
  have hown : s.vm.findClass y.cls = some m.cls := findClass_of_methodNamed B.named
  have hl := lv_entry av (n := maxL) hn
  rw [lg_entry_eq]
  exact body (p, l, e, rm, s, m, av.toArray, below, meth, c, MQ below (QR G n0 (some (.int r)) M') av.toArray s 0 0 (fun q => n0 ≤ q), G, n0, maxL, 0, 0)
    ⟨rfl, rfl, rfl, rfl, rfl, B.exec, B.bytes, hown, hts, hK, hml, hSt, Nat.zero_le _, Nat.zero_le _⟩
    (fun pc L hd H locs ls hP1 hS1 _ => W.iret B.exec B.bytes B.returns (fun t ht hW => ⟨rfl, Rl_end hP1 hK hSt hS1 ht hW⟩) hS1.2.2 hd B.notSynchronized) s.heap [] _ hP va_S.rf hl
theorem ct_bool {l : Launch} {y : MethodName} {rm : Room} {cc : ByteArray} {maxL : Nat} {G : Gx} {n0 : Nat} {av : List Value} {M M' : Mem} {r : Bool} (hy : plainName y.cls = true) (hn : (lg_sl av).length ≤ maxL)
    (body : ∀ K, Ok K l rm cc y.cls G n0 maxL → (∀ pc L, decode cc pc = .ok (.ireturn, 1) → J K M' pc L [.int (bI r)]) → J K M 0 (lv_args 0 av) []) : Ct l y cc maxL (some .boolean) rm G n0 av M (some (.int (bI r))) M' := by
  refine Met.ofW (cc := cc) (maxL := maxL) (ret := some .boolean) hy rfl ?_
  intro p e s m args below meth c s₁ B hml hv
  obtain ⟨rfl, hP, hK, hSt⟩ := hv
  have hts := fun w hw => atoms_spec (ws := wsT y cc maxL (some .boolean)) B.pre w (List.mem_cons_of_mem _ hw)
  have hown : s.vm.findClass y.cls = some m.cls := findClass_of_methodNamed B.named
  have hl := lv_entry av (n := maxL) hn
  rw [lg_entry_eq]
  exact body (p, l, e, rm, s, m, av.toArray, below, meth, c, MQ below (QR G n0 (some (.int (bI r))) M') av.toArray s 0 0 (fun q => n0 ≤ q), G, n0, maxL, 0, 0)
    ⟨rfl, rfl, rfl, rfl, rfl, B.exec, B.bytes, hown, hts, hK, hml, hSt, Nat.zero_le _, Nat.zero_le _⟩
    (fun pc L hd H locs ls hP1 hS1 _ => W.zret B.exec B.bytes B.returns (bI_nar r) (fun t ht hW => ⟨rfl, Rl_end hP1 hK hSt hS1 ht hW⟩) hS1.2.2 hd B.notSynchronized) s.heap [] _ hP va_S.rf hl
theorem ct_long {l : Launch} {y : MethodName} {rm : Room} {cc : ByteArray} {maxL : Nat} {G : Gx} {n0 : Nat} {av : List Value} {M M' : Mem} {r : Int64} (hy : plainName y.cls = true) (hn : (lg_sl av).length ≤ maxL)
    (body : ∀ K, Ok K l rm cc y.cls G n0 maxL → (∀ pc L, decode cc pc = .ok (.lreturn, 1) → J K M' pc L [.long r]) → J K M 0 (lv_args 0 av) []) : Ct l y cc maxL (some .long) rm G n0 av M (some (.long r)) M' := by
  refine Met.ofW (cc := cc) (maxL := maxL) (ret := some .long) hy rfl ?_
  intro p e s m args below meth c s₁ B hml hv
  obtain ⟨rfl, hP, hK, hSt⟩ := hv
  have hts := fun w hw => atoms_spec (ws := wsT y cc maxL (some .long)) B.pre w (List.mem_cons_of_mem _ hw)
  have hown : s.vm.findClass y.cls = some m.cls := findClass_of_methodNamed B.named
  have hl := lv_entry av (n := maxL) hn
  rw [lg_entry_eq]
  exact body (p, l, e, rm, s, m, av.toArray, below, meth, c, MQ below (QR G n0 (some (.long r)) M') av.toArray s 0 0 (fun q => n0 ≤ q), G, n0, maxL, 0, 0)
    ⟨rfl, rfl, rfl, rfl, rfl, B.exec, B.bytes, hown, hts, hK, hml, hSt, Nat.zero_le _, Nat.zero_le _⟩
    (fun pc L hd H locs ls hP1 hS1 _ => W.lret B.exec B.bytes B.returns (fun t ht hW => ⟨rfl, Rl_end hP1 hK hSt hS1 ht hW⟩) hS1.2.2 hd B.notSynchronized) s.heap [] _ hP va_S.rf hl
theorem ct_void {l : Launch} {y : MethodName} {rm : Room} {cc : ByteArray} {maxL : Nat} {G : Gx} {n0 : Nat} {av : List Value} {M M' : Mem} (hy : plainName y.cls = true) (hn : (lg_sl av).length ≤ maxL)
    (body : ∀ K, Ok K l rm cc y.cls G n0 maxL → (∀ pc L, decode cc pc = .ok (.return_, 1) → J K M' pc L []) → J K M 0 (lv_args 0 av) []) : Ct l y cc maxL none rm G n0 av M none M' := by
  refine Met.ofW (cc := cc) (maxL := maxL) (ret := none) hy rfl ?_
  intro p e s m args below meth c s₁ B hml hv
  obtain ⟨rfl, hP, hK, hSt⟩ := hv
  have hts := fun w hw => atoms_spec (ws := wsT y cc maxL none) B.pre w (List.mem_cons_of_mem _ hw)
  have hown : s.vm.findClass y.cls = some m.cls := findClass_of_methodNamed B.named
  have hl := lv_entry av (n := maxL) hn
  rw [lg_entry_eq]
  exact body (p, l, e, rm, s, m, av.toArray, below, meth, c, MQ below (QR G n0 none M') av.toArray s 0 0 (fun q => n0 ≤ q), G, n0, maxL, 0, 0)
    ⟨rfl, rfl, rfl, rfl, rfl, B.exec, B.bytes, hown, hts, hK, hml, hSt, Nat.zero_le _, Nat.zero_le _⟩
    (fun pc L hd H locs ls hP1 hS1 _ => W.vret B.exec B.bytes B.returns (fun t ht hW => ⟨rfl, Rl_end hP1 hK hSt hS1 ht hW⟩) hS1.2.2 hd B.notSynchronized) s.heap [] _ hP va_S.rf hl
/-- a reference or null is returned -/
theorem ct_ref {l : Launch} {y : MethodName} {rm : Room} {cc : ByteArray} {maxL : Nat} {G : Gx} {n0 : Nat} {av : List Value} {M M' : Mem} {r : Option Nat} {rt : FieldType} (hrt : (∃ n, rt = .object n) ∨ ∃ t, rt = .array t) (hy : plainName y.cls = true) (hn : (lg_sl av).length ≤ maxL)
    (body : ∀ K, Ok K l rm cc y.cls G n0 maxL → (∀ pc L, decode cc pc = .ok (.areturn, 1) → J K M' pc L [va_rf r]) → J K M 0 (lv_args 0 av) []) : Ct l y cc maxL (some rt) rm G n0 av M (some (va_rf r)) M' := by
  refine Met.ofW (cc := cc) (maxL := maxL) (ret := some rt) hy rfl ?_
  intro p e s m args below meth c s₁ B hml hv
  obtain ⟨rfl, hP, hK, hSt⟩ := hv
  have hts := fun w hw => atoms_spec (ws := wsT y cc maxL (some rt)) B.pre w (List.mem_cons_of_mem _ hw)
  have hown : s.vm.findClass y.cls = some m.cls := findClass_of_methodNamed B.named
  have hl := lv_entry av (n := maxL) hn
  rw [lg_entry_eq]
  exact body (p, l, e, rm, s, m, av.toArray, below, meth, c, MQ below (QR G n0 (some (va_rf r)) M') av.toArray s 0 0 (fun q => n0 ≤ q), G, n0, maxL, 0, 0)
    ⟨rfl, rfl, rfl, rfl, rfl, B.exec, B.bytes, hown, hts, hK, hml, hSt, Nat.zero_le _, Nat.zero_le _⟩
    (fun pc L hd H locs ls hP1 hS1 _ => W.aret B.exec B.bytes B.returns hrt (va_rf_or r) (fun t ht hW => ⟨rfl, Rl_end hP1 hK hSt hS1 ht hW⟩) hS1.2.2 hd B.notSynchronized) s.heap [] _ hP va_S.rf hl
/-- behind a call -/
theorem j_ret {p : Program} {l : Launch} {e : Env} {R : Room} {s : State} {m : MethodId} {args : Array Value} {below : List Frame} {meth : Method} {c : Code} {H : Heap} {locs : List Loc} {cells slots : Nat} {Q : State → Prop} {pc n0 : Nat} {ls : Array Slot} {st rest : List Value} {a : Array Value} {G : Gx} {v : Option Value} {M' : Mem}
    (hr : va_Run p l e R s m args below meth c H locs cells slots 0 0 (F0 m pc ls st) rest (QR G n0 v M' a) (fun q => n0 ≤ q)) (hS : va_S (fun q => n0 ≤ q) s.heap H locs)
    (kk : ∀ (H1 : Heap) (locs1 : List Loc), va_P G.1 vwCl (wld G n0 M') H1 → va_S (fun q => n0 ≤ q) s.heap H1 locs1 → W p l e R s m args below meth c H1 locs1 cells slots Q (F0 m (pc + 3) ls (v.toList ++ rest))) : W p l e R s m args below meth c H locs cells slots Q (F0 m pc ls st) := by
  intro T hT X
  obtain ⟨v', st₀, t, T', L, h0, X', hL, e1, e2, ⟨hv, ⟨hP, hK, hSt⟩, hz, hk⟩, st⟩ := hr T hT X
  cases hv
  rw [h0] at hz hk
  obtain ⟨t2, a1, b1⟩ := kk T'.heap (locs ++ L) (by rw [e1]; exact hP)
    ⟨Nat.le_trans hS.1 (by rw [e1]; exact hz), fun q h1 h2 => by rw [e1, hk q (Nat.lt_of_lt_of_le h1 hS.1) h2]; exact hS.2.1 q h1 h2, fun q hq => by
      rcases List.mem_append.mp hq with h | h
      · exact hS.2.2 q h
      · exact hL q h⟩ T' rfl X'
  exact ⟨t2, st t2 a1, b1⟩
section JCALLS
variable {K : Kx} {l : Launch} {R : Room} {cc : ByteArray} {own : String} {G : Gx} {n0 nL : Nat} {M M' : Mem} {pc : Nat} {L : List (Nat × Value)} {st st0 : List Value}
variable {y : MethodName} {rm : Room} {bytes : ByteArray} {maxL index : Nat} {ret : Option FieldType} {v : Option Value} {As : List Value}
theorem j_callS (C : Ok K l R cc own G n0 nL) (n : Nat) (h : Ct l y bytes maxL ret rm G n0 As M v M') (hg : GS own index y bytes maxL ret) (hrm : rm.cells = 0 ∧ rm.slots = 0)
    (hd : y.cls ≠ "java/lang/invoke/MethodHandle" ∧ y.cls ≠ "java/lang/invoke/VarHandle" ∧ (parseMethodDescriptor y.desc).map (fun d => d.parameters.length) = some n) (hR : rm.frames + 1 ≤ R.frames ∧ 8 + (maxL + 11) + rm.locals ≤ R.locals) (hn : As.length = n) (hst : st0 = As.reverse ++ st) (hW : (st.map fun v => v.category).sum ≤ 8) (hdg : decode cc pc = .ok (.invokestatic index, 3))
    (kk : J K M' (pc + 3) L (v.toList ++ st)) : J K M pc L st0 := by
  obtain ⟨p, l', e, R', s, m, args, below, meth, c, Q, G', n0', nL', cells, slots⟩ := K
  obtain ⟨rfl, rfl, rfl, rfl, rfl, hx, hb, hown, hts, hK, hml, hSt, hce, hsl⟩ := C
  intro H locs ls hP hS hl
  subst hst
  exact j_ret (va_runS (As := As) (rest := st) ⟨hx, hb, hml, hown, hts⟩ h (va_cwS n hts hg.good rfl hrm.1 hrm.2 hd hR) ⟨Rl_blind, fun U hU hW => ⟨rfl, by rw [hU]; exact hP, va_K.moved hW.alike hK, hSt.step hW (hS.F hU)⟩⟩ rfl hn hl.1 rfl (lv_room hW) hdg ⟨hce, hsl⟩) hS (fun H1 locs1 hP1 hS1 => kk H1 locs1 ls hP1 hS1 hl)
theorem j_callV (C : Ok K l R cc own G n0 nL) {t tag ci : Nat} {fs : List Value} {r : vw_C} (n : Nat) (ht : lay[t]? = some tag) (he : ent G n0 tag t (M.1 t) (M.2 t) = .inr (ci, fs)) (hc : vwCl[ci]? = some r) (h : Ct l y bytes maxL ret rm G n0 (.ref (n0 + t) :: As) M v M') (hg : GV own index r.1 y bytes maxL ret) (hrm : rm.cells = 0 ∧ rm.slots = 0)
    (hd : y.cls = r.1 ∧ y.cls ≠ "java/lang/invoke/MethodHandle" ∧ y.cls ≠ "java/lang/invoke/VarHandle" ∧ (parseMethodDescriptor y.desc).map (fun d => d.parameters.length) = some n) (hR : rm.frames + 1 ≤ R.frames ∧ 8 + (maxL + 11) + rm.locals ≤ R.locals) (hn : As.length = n) (hst : st0 = As.reverse ++ .ref (n0 + t) :: st) (hW : (st.map fun v => v.category).sum ≤ 8) (hdg : decode cc pc = .ok (.invokevirtual index, 3))
    (kk : J K M' (pc + 3) L (v.toList ++ st)) : J K M pc L st0 := by
  obtain ⟨p, l', e, R', s, m, args, below, meth, c, Q, G', n0', nL', cells, slots⟩ := K
  obtain ⟨rfl, rfl, rfl, rfl, rfl, hx, hb, hown, hts, hK, hml, hSt, hce, hsl⟩ := C
  intro H locs ls hP hS hl
  subst hst
  have hat : (wld G' n0' M)[t]? = some (n0' + t, .inr (ci, fs)) := by rw [wld_at ht, he]
  exact j_ret (va_runV (As := As) (rest := st) ⟨hx, hb, hml, hown, hts⟩ h (cwV n hts hg.good rfl hrm.1 hrm.2 hd hR) ⟨Rl_blind, va_recv hK hP hc hat, fun U hU hW => ⟨rfl, by rw [hU]; exact hP, va_K.moved hW.alike hK, hSt.step hW (hS.F hU)⟩⟩ rfl hn hl.1 rfl (lv_room hW) hdg ⟨hce, hsl⟩) hS (fun H1 locs1 hP1 hS1 => kk H1 locs1 ls hP1 hS1 hl)
end JCALLS
