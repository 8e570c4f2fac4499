/-! THE MAKING: the objects of the first places -/
def wz (n0 : Nat) (es : List va_E) : va_W := es.mapIdx (fun i e => (n0 + i, e))
theorem wz_len (n0 : Nat) (es : List va_E) : (wz n0 es).length = es.length := by simp [wz]
theorem wz_at {n0 t : Nat} {es : List va_E} {e : va_E} (h : es[t]? = some e) : (wz n0 es)[t]? = some (n0 + t, e) := by simp [wz, List.getElem?_mapIdx, h]
theorem wz_app (n0 : Nat) (es : List va_E) (e : va_E) : wz n0 (es ++ [e]) = wz n0 es ++ [(n0 + es.length, e)] := by simp [wz, List.mapIdx_append]
theorem wz_set (n0 t : Nat) (es : List va_E) (e : va_E) : (wz n0 es).set t (n0 + t, e) = wz n0 (es.set t e) := by
  apply List.ext_getElem?
  intro i
  simp only [wz, List.getElem?_set, List.getElem?_mapIdx, List.length_mapIdx]
  by_cases h : t = i
  · subst h
    by_cases h2 : t < es.length <;> simp [h2]
  · simp [h]
theorem wz_key {n0 k : Nat} {es : List va_E} {q : Nat × va_E} (h : (wz n0 es)[k]? = some q) : q.1 = n0 + k ∧ es[k]? = some q.2 := by
  simp only [wz, List.getElem?_mapIdx, Option.map_eq_some_iff] at h
  obtain ⟨e, h1, h2⟩ := h
  subst h2
  exact ⟨rfl, h1⟩
theorem wz_D (n0 : Nat) (es : List va_E) : va_D (fun q => n0 ≤ q) (wz n0 es) := by
  refine ⟨fun i j p q hi hj hpq => ?_, fun k q hk => ?_⟩
  · rw [(wz_key hi).1, (wz_key hj).1] at hpq; omega
  · show n0 ≤ q.1
    rw [(wz_key hk).1]; exact Nat.le_add_right _ _
theorem wz_lt {D : va_G} {cl : List vw_C} {n0 : Nat} {es : List va_E} {H : Heap} (hP : va_P D cl (wz n0 es) H) (h : es ≠ []) : n0 + es.length ≤ H.size := by
  have hl : es.length - 1 < es.length := Nat.sub_lt (List.length_pos_iff.mpr h) Nat.one_pos
  have h1 : (wz n0 es)[es.length - 1]? = some (n0 + (es.length - 1), es[es.length - 1]) := wz_at (List.getElem?_eq_getElem hl)
  have h2 := (hP _ _ h1).lt
  have h3 : n0 + (es.length - 1) < H.size := h2
  omega
def JC (K : Kx) (cz sz : Nat) (es : List va_E) (pc : Nat) (L : List (Nat × Value)) (st : List Value) : Prop := match K with
  | (p, l, e, R, s, m, args, below, meth, c, Q, G, n0, nL, _, _) => ∀ (H : Heap) (locs : List Loc) (ls : Array Slot), va_P G.1 vwCl (wz n0 es) H → va_S (fun q => n0 ≤ q) s.heap H locs → lv_has ls nL L → W p l e R s m args below meth c H locs cz sz Q (F0 m pc ls st)
/-- at the entry the first z0 places are taken; the method is a constructor -/
def Hz (K : Kx) (z0 : Nat) : Prop := match K with
  | (p, l, e, R, s, m, args, below, meth, c, Q, G, n0, nL, _, _) => s.heap.size = n0 + z0 ∧ meth.name = "<init>"
theorem hz_size {p : Program} {l : Launch} {e : Env} {R : Room} {s : State} {m : MethodId} {args : Array Value} {below : List Frame} {meth : Method} {c : Code} {H : Heap} {locs locs2 : List Loc} {cz sz n0 z0 : Nat} {es : List va_E} {T : State} {D : va_G} {cl : List vw_C} (hP : va_P D cl (wz n0 es) H) (hS : va_S (fun q => n0 ≤ q) s.heap H locs) (h0 : s.heap.size = n0 + z0) (hl : es.length = z0 + cz) (hT : T.heap = H) (X : Stand p l e R s m args below meth c T locs2 cz sz) : H.size = n0 + es.length := by
  have h1 := X.heapSize
  rw [hT, h0] at h1
  have h2 := hS.1
  rw [h0] at h2
  have h3 : n0 + es.length ≤ H.size := by
    by_cases he : es = []
    · subst he; simp at hl ⊢; omega
    · exact wz_lt hP he
  omega
def RlC (G : Gx) (n0 : Nat) (es : List va_E) (U : State) : Prop := va_P G.1 vwCl (wz n0 es) U.heap ∧ va_K G.1 vwCl (tyG G) U ∧ St G n0 U
def RlS (G : Gx) (n0 : Nat) (es : List va_E) (U : State) : Prop := RlC G n0 es U ∧ U.heap.size = n0 + es.length
def QRC (G : Gx) (n0 : Nat) (es : List va_E) : Array Value → State → Outcome → State → Prop := fun _ st oc t => oc = .returned none ∧ RlC G n0 es t ∧ va_F (fun q => n0 ≤ q) st t
def CtC (l : Launch) (y : MethodName) (cc : ByteArray) (maxL : Nat) (rm : Room) (mc ms : Nat) (G : Gx) (n0 : Nat) (av : List Value) (es es' : List va_E) : Prop := Met l y (wsT y cc maxL none) rm (va_Pc av (RlS G n0 es)) (QRC G n0 es') mc ms (fun q => n0 ≤ q)
theorem RlS_blind {G : Gx} {n0 : Nat} {es : List va_E} {av : List Value} : FrameBlind (va_Pc av (RlS G n0 es)) := by
  intro a U g mk q
  obtain ⟨q0, ⟨qP, qK, qS⟩, qz⟩ := q
  exact ⟨q0, ⟨qP, va_K.moved (u := U) (U := U.calling g mk a) (Vm.Alike.refl U.vm) qK, St.same qS rfl rfl⟩, qz⟩
theorem ctc {l : Launch} {y : MethodName} {rm : Room} {cc : ByteArray} {maxL mc ms : Nat} {G : Gx} {n0 : Nat} {av : List Value} {es es' : List va_E} (hy : plainName y.cls = true) (hyn : y.name = "<init>") (hn : (lg_sl av).length ≤ maxL)
    (body : ∀ K, Ok K l rm cc y.cls G n0 maxL → Hz K es.length → (∀ pc L, decode cc pc = .ok (.return_, 1) → JC K mc ms es' pc L []) → JC K 0 0 es 0 (lv_args 0 av) []) : CtC l y cc maxL rm mc ms G n0 av es es' := by
  refine Met.ofW (cc := cc) (maxL := maxL) (ret := none) hy rfl ?_
  intro p e s m args below meth c s₁ B hml hv
  obtain ⟨rfl, ⟨hP, hK, hSt⟩, hsz⟩ := hv
  have hts := fun w hw => atoms_spec (ws := wsT y cc maxL none) B.pre w (List.mem_cons_of_mem _ hw)
  have hown : s.vm.findClass y.cls = some m.cls := findClass_of_methodNamed B.named
  have hl := lv_entry av (n := maxL) hn
  rw [lg_entry_eq]
  exact body (p, l, e, rm, s, m, av.toArray, below, meth, c, MQ below (QRC G n0 es') av.toArray s mc ms (fun q => n0 ≤ q), G, n0, maxL, 0, 0)
    ⟨rfl, rfl, rfl, rfl, rfl, B.exec, B.bytes, hown, hts, hK, hml, hSt, Nat.zero_le _, Nat.zero_le _⟩
    ⟨hsz, (name_of_methodNamed B.named B.method).1.trans hyn⟩
    (fun pc L hd H locs ls hP1 hS1 _ => W.vret B.exec B.bytes B.returns (fun t ht hW => by
      have hF := hS1.F ht
      exact ⟨rfl, ⟨by rw [ht]; exact hP1, va_K.moved hW.alike hK, hSt.step hW hF⟩, hF⟩) hS1.2.2 hd B.notSynchronized) s.heap [] _ hP va_S.rf hl
def AOA (U : State) : Prop := (Cond.arrayOver (.array .int)).before #[] U = true
theorem AOA.moved {u U : State} (hvm : u.vm.Alike U.vm) (h : AOA u) : AOA U := by
  unfold AOA Cond.before Cond.holds at h ⊢
  simp only [Cond.value, beq_iff_eq] at h ⊢
  rw [hvm.findClass]
  cases h1 : u.vm.findClass (FieldType.array .int).toString with
  | none => simp [h1] at h
  | some comp =>
    simp only [h1, Option.bind_some, Option.bind_eq_some_iff, Option.map_eq_some_iff] at h ⊢
    obtain ⟨c, hi, k, hk, hb⟩ := h
    obtain ⟨k', hk', he⟩ := hvm.2.2 _ _ hk
    refine ⟨c, ?_, k', hk', ?_⟩
    · have hbq : U.vm.bare = u.vm.bare := by first | exact hvm.bare_eq | exact hvm.bare_eq.symm
      have e1 := va_idx_bare U.vm comp
      have e2 := va_idx_bare u.vm comp
      rw [hbq] at e1
      exact (e1.symm.trans e2).trans hi
    · have hkind : k'.kind = k.kind := by rw [he]
      rw [hkind, hvm.findClass]
      exact hb
theorem St.aoa {G : Gx} {n0 : Nat} {s : State} (h : St G n0 s) : AOA s := by
  obtain ⟨⟨s0, b, h1, h2, h3⟩, h4⟩ := h
  exact AOA.moved h2 (u := s0) (h1.2.2.1 (.arrayOver (.array .int)) (List.mem_append_right _ (List.mem_append_left _ (List.mem_of_getElem? (i := 50) rfl))))
theorem St.aov {G : Gx} {n0 : Nat} {s : State} (h : St G n0 s) : va_AO RX9 s := by
  obtain ⟨⟨s0, b, h1, h2, h3⟩, h4⟩ := h
  exact va_AO.moved h2 (u := s0) (h1.2.2.1 (.arrayOver (.object RX9)) (List.mem_append_right _ (List.mem_append_left _ (List.mem_of_getElem? (i := 184) rfl))))
section JCS
variable {K : Kx} {l : Launch} {R : Room} {cc : ByteArray} {own : String} {G : Gx} {n0 nL : Nat} {cz sz : Nat} {es : List va_E} {pc index z0 : Nat} {L : List (Nat × Value)} {st st0 : List Value}
theorem jc_iconst (C : Ok K l R cc own G n0 nL) {n : Int} (v : Int32) (hv : Int32.ofInt n = v) (hdg : decode cc pc = .ok (.iconst n, 1)) (kk : JC K cz sz es (pc + 1) L (.int v :: st)) : JC K cz sz es pc L (st) := by
  obtain ⟨p, l', e, R', s, m, args, below, meth, c, Q, G', n0', nL', cells, slots⟩ := K
  obtain ⟨rfl, rfl, rfl, rfl, rfl, hx, hb, hown, hts, hK, hml, hSt, hce, hsl⟩ := C
  intro H locs ls hP hS hl
  exact lv_iconst hx hb hdg hv (kk H locs ls hP hS hl)
theorem jc_bipush (C : Ok K l R cc own G n0 nL) {n : Int} (v : Int32) (hv : (Int8.ofInt n).toInt32 = v) (hdg : decode cc pc = .ok (.bipush n, 2)) (kk : JC K cz sz es (pc + 2) L (.int v :: st)) : JC K cz sz es pc L (st) := by
  obtain ⟨p, l', e, R', s, m, args, below, meth, c, Q, G', n0', nL', cells, slots⟩ := K
  obtain ⟨rfl, rfl, rfl, rfl, rfl, hx, hb, hown, hts, hK, hml, hSt, hce, hsl⟩ := C
  intro H locs ls hP hS hl
  exact lv_bipush hx hb hdg hv (kk H locs ls hP hS hl)
theorem jc_sipush (C : Ok K l R cc own G n0 nL) {n : Int} (v : Int32) (hv : (Int16.ofInt n).toInt32 = v) (hdg : decode cc pc = .ok (.sipush n, 3)) (kk : JC K cz sz es (pc + 3) L (.int v :: st)) : JC K cz sz es pc L (st) := by
  obtain ⟨p, l', e, R', s, m, args, below, meth, c, Q, G', n0', nL', cells, slots⟩ := K
  obtain ⟨rfl, rfl, rfl, rfl, rfl, hx, hb, hown, hts, hK, hml, hSt, hce, hsl⟩ := C
  intro H locs ls hP hS hl
  exact lv_sipush hx hb hdg hv (kk H locs ls hP hS hl)
theorem jc_iload_n (C : Ok K l R cc own G n0 nL) {k : Fin 4} {i : Nat} {x : Int32} (q : Nat) (hdg : decode cc pc = .ok (.iload_n k, 1)) (hi : (k : Nat) = i) (hq : L[q]? = some (i, .int x)) (kk : JC K cz sz es (pc + 1) L (.int x :: st)) : JC K cz sz es pc L st := by
  obtain ⟨p, l', e, R', s, m, args, below, meth, c, Q, G', n0', nL', cells, slots⟩ := K
  obtain ⟨rfl, rfl, rfl, rfl, rfl, hx, hb, hown, hts, hK, hml, hSt, hce, hsl⟩ := C
  intro H locs ls hP hS hl
  exact lv_iload_n hx hb hdg hi (lv_at hl q hq) (kk H locs ls hP hS hl)
theorem jc_aload_n (C : Ok K l R cc own G n0 nL) {k : Fin 4} {i : Nat} {x : Nat} (q : Nat) (hdg : decode cc pc = .ok (.aload_n k, 1)) (hi : (k : Nat) = i) (hq : L[q]? = some (i, .ref x)) (kk : JC K cz sz es (pc + 1) L (.ref x :: st)) : JC K cz sz es pc L st := by
  obtain ⟨p, l', e, R', s, m, args, below, meth, c, Q, G', n0', nL', cells, slots⟩ := K
  obtain ⟨rfl, rfl, rfl, rfl, rfl, hx, hb, hown, hts, hK, hml, hSt, hce, hsl⟩ := C
  intro H locs ls hP hS hl
  exact lv_aload_n hx hb hdg hi (lv_at hl q hq) (kk H locs ls hP hS hl)
theorem jc_istore_n (C : Ok K l R cc own G n0 nL) {k : Fin 4} {i : Nat} {x : Int32} (L' : List (Nat × Value)) (hdg : decode cc pc = .ok (.istore_n k, 1)) (hi : (k : Nat) = i) (hn : i < nL) (hL : (i, Value.int x) :: L.filter (fun q => !(q.1 == i) && !(q.1 + 1 == i && q.2.category == 2)) = L') (kk : JC K cz sz es (pc + 1) L' st) : JC K cz sz es pc L (Value.int x :: st) := by
  obtain ⟨p, l', e, R', s, m, args, below, meth, c, Q, G', n0', nL', cells, slots⟩ := K
  obtain ⟨rfl, rfl, rfl, rfl, rfl, hx, hb, hown, hts, hK, hml, hSt, hce, hsl⟩ := C
  intro H locs ls hP hS hl
  exact lv_istore_n hx hb hdg hi hl hn hL (fun ls' hl' => kk H locs ls' hP hS hl')
theorem jc_iinc (C : Ok K l R cc own G n0 nL) {i : Nat} {n : Int} {x : Int32} (q : Nat) (v : Int32) (L' : List (Nat × Value)) (hdg : decode cc pc = .ok (.iinc i n, 3)) (hq : L[q]? = some (i, .int x)) (hv : x + Int32.ofInt n = v) (hn : i < nL) (hL : (i, Value.int v) :: L.filter (fun q => !(q.1 == i) && !(q.1 + 1 == i && q.2.category == 2)) = L') (kk : JC K cz sz es (pc + 3) L' st) : JC K cz sz es pc L st := by
  obtain ⟨p, l', e, R', s, m, args, below, meth, c, Q, G', n0', nL', cells, slots⟩ := K
  obtain ⟨rfl, rfl, rfl, rfl, rfl, hx, hb, hown, hts, hK, hml, hSt, hce, hsl⟩ := C
  intro H locs ls hP hS hl
  exact lv_iinc hx hb hdg hl hq hv hn hL (fun ls' hl' => kk H locs ls' hP hS hl')
theorem jc_icmp_ge (C : Ok K l R cc own G n0 nL) {x y : Int32} {off : Int} (tgt : Nat) (hdg : decode cc pc = .ok (.if_icmp .ge off, 3)) (ht : (pc : Int) + off = (tgt : Int)) (kt : y ≤ x → JC K cz sz es tgt L st) (kf : ¬ y ≤ x → JC K cz sz es (pc + 3) L st) : JC K cz sz es pc L (.int y :: .int x :: st) := by
  obtain ⟨p, l', e, R', s, m, args, below, meth, c, Q, G', n0', nL', cells, slots⟩ := K
  obtain ⟨rfl, rfl, rfl, rfl, rfl, hx, hb, hown, hts, hK, hml, hSt, hce, hsl⟩ := C
  intro H locs ls hP hS hl
  exact lv_icmp_ge hx hb hdg ht (fun h => kt h H locs ls hP hS hl) (fun h => kf h H locs ls hP hS hl)
theorem jc_goto (C : Ok K l R cc own G n0 nL) {off : Int} (tgt : Nat) (hdg : decode cc pc = .ok (.goto off, 3)) (ht : (pc : Int) + off = (tgt : Int)) (kk : JC K cz sz es tgt L st) : JC K cz sz es pc L st := by
  obtain ⟨p, l', e, R', s, m, args, below, meth, c, Q, G', n0', nL', cells, slots⟩ := K
  obtain ⟨rfl, rfl, rfl, rfl, rfl, hx, hb, hown, hts, hK, hml, hSt, hce, hsl⟩ := C
  intro H locs ls hP hS hl
  exact lv_goto hx hb hdg ht (kk H locs ls hP hS hl)
theorem jc_dup (C : Ok K l R cc own G n0 nL) {a : Value} (ha : a.category = 1) (hdg : decode cc pc = .ok (.dup, 1)) (kk : JC K cz sz es (pc + 1) L (a :: a :: st)) : JC K cz sz es pc L (a :: st) := by
  obtain ⟨p, l', e, R', s, m, args, below, meth, c, Q, G', n0', nL', cells, slots⟩ := K
  obtain ⟨rfl, rfl, rfl, rfl, rfl, hx, hb, hown, hts, hK, hml, hSt, hce, hsl⟩ := C
  intro H locs ls hP hS hl
  exact lv_dup hx hb hdg ha (kk H locs ls hP hS hl)
theorem jc_pop (C : Ok K l R cc own G n0 nL) {a : Value} (ha : a.category = 1) (hdg : decode cc pc = .ok (.pop, 1)) (kk : JC K cz sz es (pc + 1) L (st)) : JC K cz sz es pc L (a :: st) := by
  obtain ⟨p, l', e, R', s, m, args, below, meth, c, Q, G', n0', nL', cells, slots⟩ := K
  obtain ⟨rfl, rfl, rfl, rfl, rfl, hx, hb, hown, hts, hK, hml, hSt, hce, hsl⟩ := C
  intro H locs ls hP hS hl
  exact lv_pop hx hb hdg ha (kk H locs ls hP hS hl)
theorem jc_mmax (C : Ok K l R cc own G n0 nL) (hcz : cz ≤ R.cells) (hsz : sz ≤ R.slots) {x y : Int32} (w1 : Cond.methodLink own index Lib.Math.max.name ∈ TB) (w2 : Cond.static Lib.Math.max.name ∈ TB) (w3 : Cond.initialized "java/lang/Math" ∈ TB) (w4 : Cond.code Lib.Math.max.name Lib.Math.max.code 2 (some .int) ∈ TB) (hR : 1 ≤ R.frames ∧ (st.map fun v => v.category).sum + 13 ≤ R.locals) (hdg : decode cc pc = .ok (.invokestatic index, 3)) (kk : JC K cz sz es (pc + 3) L (.int (if x < y then y else x) :: st)) : JC K cz sz es pc L (.int y :: .int x :: st) := by
  obtain ⟨p, l', e, R', s, m, args, below, meth, c, Q, G', n0', nL', cells, slots⟩ := K
  obtain ⟨rfl, rfl, rfl, rfl, rfl, hx, hb, hown, hts, hK, hml, hSt, hce, hsl⟩ := C
  intro H locs ls hP hS hl
  exact va_mmax hx hb (hml.trans hl.1.symm) hown (hts _ w1) (hts _ w2) (hts _ w3) (hts _ w4) hR.1 hR.2 hcz hsz hdg (kk H locs ls hP hS hl)
theorem max0 {y : Int32} (h : ¬ y < 0) : (if (0 : Int32) < y then y else 0) = y := by
  split
  · rfl
  · next h0 => exact Int32.le_antisymm (Int32.not_lt.mp h) (Int32.not_lt.mp h0)
theorem jc_mmax0 (C : Ok K l R cc own G n0 nL) (hcz : cz ≤ R.cells) (hsz : sz ≤ R.slots) {y : Int32} (h : ¬ y < 0) (w1 : Cond.methodLink own index Lib.Math.max.name ∈ TB) (w2 : Cond.static Lib.Math.max.name ∈ TB) (w3 : Cond.initialized "java/lang/Math" ∈ TB) (w4 : Cond.code Lib.Math.max.name Lib.Math.max.code 2 (some .int) ∈ TB) (hR : 1 ≤ R.frames ∧ (st.map fun v => v.category).sum + 13 ≤ R.locals) (hdg : decode cc pc = .ok (.invokestatic index, 3)) (kk : JC K cz sz es (pc + 3) L (.int y :: st)) : JC K cz sz es pc L (.int y :: .int 0 :: st) := by
  refine jc_mmax C hcz hsz w1 w2 w3 w4 hR hdg ?_
  rw [max0 h]
  exact kk
theorem jc_obj (C : Ok K l R cc own G n0 nL) {a : Nat} (hlk : Cond.methodLink own index ⟨"java/lang/Object", "<init>", "()V"⟩ ∈ TB) (hR : 1 ≤ R.frames ∧ 20 ≤ R.locals) (hW : (st.map fun v => v.category).sum ≤ 8) (hdg : decode cc pc = .ok (.invokespecial index, 3)) (kk : JC K cz sz es (pc + 3) L st) : JC K cz sz es pc L (.ref a :: st) := by
  obtain ⟨p, l', e, R', s, m, args, below, meth, c, Q, G', n0', nL', cells, slots⟩ := K
  obtain ⟨rfl, rfl, rfl, rfl, rfl, hx, hb, hown, hts, hK, hml, hSt, hce, hsl⟩ := C
  intro H locs ls hP hS hl
  exact W.objInit hx hb hown (hts _ hlk) (hts _ tw1_26) (hts _ tw1_27) rfl (by rw [hml]; exact hl.1) rfl hdg hR.1 (by show 2 * 0 + _ + 12 ≤ _; have := hR.2; omega) (kk H locs ls hP hS hl)
theorem jc_new (C : Ok K l R cc own G n0 nL) (Z : Hz K z0) {ci : Nat} {D : String} {T : u_T} {N : Nat} (ty : Nat → FieldType) (fs : List Value) (hin : ∀ w ∈ u_ws D T N, w ∈ TB) (hty : ∀ k, k < N → parseFieldDescriptor (T k).2.2.1 = some (ty k)) (hcl : Cond.classLink own index D ∈ TB) (hinst : Cond.instantiable D N ∈ TB) (hini : Cond.initialized D ∈ TB) (hc : vwCl[ci]? = some (D, T, N)) (hfs : ∀ j, j < N → defaultValue (ty j) = vp_V fs j) (hR : cz + 1 ≤ R.cells ∧ sz + N ≤ R.slots) (hlen : es.length = z0 + cz) (hdg : decode cc pc = .ok (.new index, 3))
    (kk : JC K (cz + 1) (sz + N) (es ++ [.inr (ci, fs)]) (pc + 3) L (.ref (n0 + es.length) :: st)) : JC K cz sz es pc L st := by
  obtain ⟨p, l', e, R', s, m, args, below, meth, c, Q, G', n0', nL', cells, slots⟩ := K
  obtain ⟨rfl, rfl, rfl, rfl, rfl, hx, hb, hown, hts, hK, hml, hSt, hce, hsl⟩ := C
  intro H locs ls hP hS hl T hT X
  have hz := hz_size hP hS Z.1 hlen hT X
  refine (?_ : W _ _ _ _ _ _ _ _ _ _ H locs cz sz Q (F0 m pc ls st)) T hT X
  have hKn := hK.1 ci _ hc
  refine W.newcK hx hb hown (hts _ hcl) (hts _ hinst) (hts _ hini) rfl hdg hR.1 hR.2 hKn.2.1 rfl fun H1 kC hkC e1 z1 o1 => ?_
  have hk : ∀ (k : Nat) (x : Nat × va_E), (wz n0' es)[k]? = some x → H1[x.1]? = H[x.1]? := fun k x hx => o1 x.1 ((hP k x hx).lt)
  have hP1 : va_P G'.1 vwCl (wz n0' (es ++ [.inr (ci, fs)])) H1 := by
    rw [wz_app]
    refine (hP.kept hk).app (fun k x hx => ?_)
    have hz0 : k < 1 := (List.getElem?_eq_some_iff.mp hx).1
    rw [show k = 0 by omega] at hx
    cases hx
    rw [← hz]
    exact ⟨_, hc, (u_born ty (fun w hw => hts w hw) hin hKn hkC e1 hty).to hfs⟩
  have := kk H1 locs ls hP1 ⟨Nat.le_trans hS.1 (by omega), fun x h1 h2 => (o1 x (Nat.lt_of_lt_of_le h1 hS.1)).trans (hS.2.1 x h1 h2), hS.2.2⟩ hl
  rw [hz]
  exact this
theorem jc_newa (C : Ok K l R cc own G n0 nL) (Z : Hz K z0) {atype : ArrayType} {ty : FieldType} {n : Int32} {N t0 : Nat} {cA0 : ClassId} (a0 : vp_A) (hty : newarray.typeOf atype = ty) (harr : Cond.arrayClass ty ∈ TB) (ht0 : (tyG G)[t0]? = some (cA0, ty)) (hRA : ∀ U cA, va_RA U cA ty → U.vm.findClass ("[" ++ ty.toString) = some cA) (ha : ∀ cA : ClassId, vp_cell cA a0 = arrV cA N (fun _ => defaultValue ty)) (hn : ¬ n < 0) (hN : n.toNatClampNeg = N) (hby : N * componentBytes ty ≤ 536870912) (hR : cz + 1 ≤ R.cells ∧ sz + N ≤ R.slots) (hlen : es.length = z0 + cz) (hdg : decode cc pc = .ok (.newarray atype, 2))
    (kk : JC K (cz + 1) (sz + N) (es ++ [.inl (cA0, a0)]) (pc + 2) L (.ref (n0 + es.length) :: st)) : JC K cz sz es pc L (.int n :: st) := by
  obtain ⟨p, l', e, R', s, m, args, below, meth, c, Q, G', n0', nL', cells, slots⟩ := K
  obtain ⟨rfl, rfl, rfl, rfl, rfl, hx, hb, hown, hts, hK, hml, hSt, hce, hsl⟩ := C
  subst hty
  intro H locs ls hP hS hl T hT X
  have hz := hz_size hP hS Z.1 hlen hT X
  refine (?_ : W _ _ _ _ _ _ _ _ _ _ H locs cz sz Q (F0 m pc ls (.int n :: st))) T hT X
  refine va_newaK hx hb (hts _ harr) rfl hdg rfl hn hN hby hR.1 hR.2 rfl fun H1 cA e1 z1 o1 hAr hNm => ?_
  have hcA : cA = cA0 := Option.some.inj (hNm.symm.trans (hRA _ _ (hK.2 t0 _ ht0).2))
  subst hcA
  have hk : ∀ (k : Nat) (x : Nat × va_E), (wz n0' es)[k]? = some x → H1[x.1]? = H[x.1]? := fun k x hx => o1 x.1 ((hP k x hx).lt)
  have hP1 : va_P G'.1 vwCl (wz n0' (es ++ [.inl (cA, a0)])) H1 := by
    rw [wz_app]
    refine (hP.kept hk).app (fun k x hx => ?_)
    have hz0 : k < 1 := (List.getElem?_eq_some_iff.mp hx).1
    rw [show k = 0 by omega] at hx
    cases hx
    rw [← hz]
    show H1[H.size]? = some (vp_cell _ _)
    rw [ha]
    exact e1
  have := kk H1 locs ls hP1 ⟨Nat.le_trans hS.1 (by omega), fun x h1 h2 => (o1 x (Nat.lt_of_lt_of_le h1 hS.1)).trans (hS.2.1 x h1 h2), hS.2.2⟩ hl
  rw [← hz] at this
  exact this
theorem jc_put (C : Ok K l R cc own G n0 nL) {D : String} {T : u_T} {N ci t : Nat} {fs fs1 : List Value} {v : Value} {ty : FieldType} {es1 : List va_E} (ty0 : Nat → FieldType) (k : Nat) (Z : Hz K z0) (hin : ∀ w ∈ u_ws D T N, w ∈ TB) (hc : vwCl[ci]? = some (D, T, N)) (hk : k < N) (hty : ∀ k, k < N → parseFieldDescriptor (T k).2.2.1 = some (ty0 k)) (hnm : ∀ a, a < N → ∀ b, b < N → a ≠ b → (T a).2.1 ≠ (T b).2.1) (hD : (T k).1 = D) (hO : D = own) (hlk : Cond.fieldLink own index D (T k).2.1 (T k).2.2.1 ∈ TB) (hd : parseFieldDescriptor (T k).2.2.1 = some ty) (hn : narrow ty v = v) (hfit : fits ty v = true) (he : es[t]? = some (.inr (ci, fs))) (hl' : k < fs.length) (hf1 : fs.set k v = fs1) (he1 : es.set t (.inr (ci, fs1)) = es1) (hdg : decode cc pc = .ok (.putfield index, 3))
    (kk : JC K cz sz es1 (pc + 3) L st) : JC K cz sz es pc L (v :: .ref (n0 + t) :: st) := by
  obtain ⟨p, l', e, R', s, m, args, below, meth, c, Q, G', n0', nL', cells, slots⟩ := K
  obtain ⟨rfl, rfl, rfl, rfl, rfl, hx, hb, hown, hts, hK, hml, hSt, hce, hsl⟩ := C
  subst hf1 he1
  intro H locs ls hP hS hl
  have key : ∀ (H1 : Heap) (locs1 : List Loc), va_P G'.1 vwCl ((wz n0' es).set t (n0' + t, .inr (ci, fs.set k v))) H1 → va_D (fun q => n0' ≤ q) ((wz n0' es).set t (n0' + t, .inr (ci, fs.set k v))) → va_S (fun q => n0' ≤ q) s.heap H1 locs1 → W p l' e R' s m args below meth c H1 locs1 cz sz Q (F0 m (pc + 3) ls st) := fun H1 locs1 hP1 _ hS1 => by
    rw [wz_set] at hP1
    exact kk H1 locs1 ls hP1 hS1 hl
  cases hfin : (T k).2.2.2 with
  | false => exact va_put hx hb hts hin ty0 hty hnm hown hK hP (wz_D _ _) hS t (wz_at he) hc k hk (hts _ hlk) (fun x h => by rw [hD] at h; exact h) hfin hd hn hfit hl' hdg key
  | true => exact va_putF hx hb hts hin ty0 hty hnm hown hK hP (wz_D _ _) hS t (wz_at he) hc k hk (hts _ hlk) (fun x h => by rw [hD] at h; exact h) hfin Z.2 (hD.trans hO) hd hn hfit hl' hdg key
theorem jc_getf (C : Ok K l R cc own G n0 nL) {D : String} {T : u_T} {N ci t : Nat} {fs : List Value} {v : Value} (k : Nat) (hin : ∀ w ∈ u_ws D T N, w ∈ TB) (hc : vwCl[ci]? = some (D, T, N)) (hk : k < N) (hD : (T k).1 = D) (hlk : Cond.fieldLink own index D (T k).2.1 (T k).2.2.1 ∈ TB) (he : es[t]? = some (.inr (ci, fs))) (hv : fs[k]? = some v) (hdg : decode cc pc = .ok (.getfield index, 3))
    (kk : JC K cz sz es (pc + 3) L (v :: st)) : JC K cz sz es pc L (.ref (n0 + t) :: st) := by
  obtain ⟨p, l', e, R', s, m, args, below, meth, c, Q, G', n0', nL', cells, slots⟩ := K
  obtain ⟨rfl, rfl, rfl, rfl, rfl, hx, hb, hown, hts, hK, hml, hSt, hce, hsl⟩ := C
  intro H locs ls hP hS hl
  exact va_get hx hb hts hin hown hK hP t (wz_at he) hc k hk (hts _ hlk) (fun x h => by rw [hD] at h; exact h) hv hdg (kk H locs ls hP hS hl)
theorem jc_iast (C : Ok K l R cc own G n0 nL) {t n : Nat} {f f1 : Nat → Int32} {i x : Int32} {es1 : List va_E} (he : es[t]? = some (.inl (G.2.1 0, n, .inl f))) (hin : vp_in i n) (hf1 : upd f i.toNatClampNeg x = f1) (he1 : es.set t (.inl (G.2.1 0, n, .inl f1)) = es1) (hdg : decode cc pc = .ok (.iastore, 1))
    (kk : JC K cz sz es1 (pc + 1) L st) : JC K cz sz es pc L (.int x :: .int i :: .ref (n0 + t) :: st) := by
  obtain ⟨p, l', e, R', s, m, args, below, meth, c, Q, G', n0', nL', cells, slots⟩ := K
  obtain ⟨rfl, rfl, rfl, rfl, rfl, hx, hb, hown, hts, hK, hml, hSt, hce, hsl⟩ := C
  subst hf1 he1
  intro H locs ls hP hS hl
  refine va_iast hx hb hK hP (wz_D _ _) hS t 0 (wz_at he) rfl hin hdg (fun H1 locs1 hP1 _ hS1 => ?_)
  rw [wz_set] at hP1
  exact kk H1 locs1 ls hP1 hS1 hl
theorem jc_aast (C : Ok K l R cc own G n0 nL) {t n tv : Nat} {fs : List Value} {f : Nat → Option Nat} {i : Int32} {es1 : List va_E} (he : es[t]? = some (.inl (G.2.1 4, n, .inr (.inr (.inr (.inr f)))))) (hv : es[tv]? = some (.inr (8, fs))) (hin : vp_in i n) (he1 : es.set t (.inl (G.2.1 4, n, .inr (.inr (.inr (.inr (va_up f i.toNatClampNeg (some (n0 + tv)))))))) = es1) (hdg : decode cc pc = .ok (.aastore, 1))
    (kk : JC K cz sz es1 (pc + 1) L st) : JC K cz sz es pc L (.ref (n0 + tv) :: .int i :: .ref (n0 + t) :: st) := by
  obtain ⟨p, l', e, R', s, m, args, below, meth, c, Q, G', n0', nL', cells, slots⟩ := K
  obtain ⟨rfl, rfl, rfl, rfl, rfl, hx, hb, hown, hts, hK, hml, hSt, hce, hsl⟩ := C
  subst he1
  intro H locs ls hP hS hl
  refine va_astq (r := (RX9, TX9, 8)) hx hb hK hP (wz_D _ _) hS t 4 tv 8 (wz_at he) rfl (wz_at hv) rfl hin hdg (fun H1 locs1 hP1 _ hS1 => ?_)
  rw [wz_set] at hP1
  exact kk H1 locs1 ls hP1 hS1 hl
theorem jc_anew (C : Ok K l R cc own G n0 nL) (Z : Hz K z0) (hcl : Cond.classLink own index RX9 ∈ TB) (hR : cz + 1 ≤ R.cells ∧ sz + 4 ≤ R.slots) (hlen : es.length = z0 + cz) (hdg : decode cc pc = .ok (.anewarray index, 3))
    (kk : JC K (cz + 1) (sz + 4) (es ++ [.inl (G.2.1 4, 4, .inr (.inr (.inr (.inr (fun _ => none)))))]) (pc + 3) L (.ref (n0 + es.length) :: st)) : JC K cz sz es pc L (.int 4 :: st) := by
  obtain ⟨p, l', e, R', s, m, args, below, meth, c, Q, G', n0', nL', cells, slots⟩ := K
  obtain ⟨rfl, rfl, rfl, rfl, rfl, hx, hb, hown, hts, hK, hml, hSt, hce, hsl⟩ := C
  intro H locs ls hP hS hl T hT X
  have hz := hz_size hP hS Z.1 hlen hT X
  refine (?_ : W _ _ _ _ _ _ _ _ _ _ H locs cz sz Q (F0 m pc ls (.int 4 :: st))) T hT X
  refine W.anew hx hb hown (hts _ hcl) (va_AO.use hSt.aov) rfl hdg rfl (by decide) (by decide) hR.1 hR.2 fun cA kA comp f1 f2 f3 f4 => ?_
  obtain ⟨kA', comp', g2, g3, g4, g1⟩ := (hK.2 4 _ rfl).2
  have hcA : cA = G'.2.1 4 := Option.some.inj (f1.symm.trans g1)
  subst hcA
  generalize hH1 : H.push ({ cls := G'.2.1 4, slots := Array.replicate (4 : Int32).toNatClampNeg .null, vm := .none } : Cell) = H1
  have z1 : H1.size = H.size + 1 := by rw [← hH1, Array.size_push]
  have e1 : H1[H.size]? = some (arrV (G'.2.1 4) 4 (fun _ => .null)) := by rw [← hH1, Array.getElem?_push_size]; exact congrArg some (arrV_new _ _ _)
  have o1 : ∀ q : Nat, q < H.size → H1[q]? = H[q]? := fun q hq => by rw [← hH1, Array.getElem?_push, if_neg (Nat.ne_of_lt hq)]
  have hk : ∀ (k : Nat) (x : Nat × va_E), (wz n0' es)[k]? = some x → H1[x.1]? = H[x.1]? := fun k x hx => o1 x.1 ((hP k x hx).lt)
  have hP1 : va_P G'.1 vwCl (wz n0' (es ++ [.inl (G'.2.1 4, 4, .inr (.inr (.inr (.inr (fun _ => none)))))])) H1 := by
    rw [wz_app]
    refine (hP.kept hk).app (fun k x hx => ?_)
    have hz0 : k < 1 := (List.getElem?_eq_some_iff.mp hx).1
    rw [show k = 0 by omega] at hx
    cases hx
    rw [← hz]
    exact e1
  have := kk H1 locs ls hP1 ⟨Nat.le_trans hS.1 (by omega), fun x h1 h2 => (o1 x (Nat.lt_of_lt_of_le h1 hS.1)).trans (hS.2.1 x h1 h2), hS.2.2⟩ hl
  rw [← hz] at this
  exact this
theorem jc_mna (C : Ok K l R cc own G n0 nL) (Z : Hz K z0) {n k : Int32} {N r : Nat} (hcl : Cond.classLink own index "[[I" ∈ TB) (hn : ¬ n < 0) (hk : ¬ k < 0) (hN : n.toNatClampNeg = N) (hr : k.toNatClampNeg = r) (hb1 : N ≤ 134217728) (hb2 : r ≤ 134217728) (hR : cz + (1 + N) ≤ R.cells ∧ sz + (N + N * r) ≤ R.slots) (hlen : es.length = z0 + cz) (hdg : decode cc pc = .ok (.multianewarray index 2, 4))
    (kk : JC K (cz + 1 + N) (sz + N + N * r) (es ++ (.inl (G.2.1 3, N, .inr (.inr (.inr (.inr (fun i => some (n0 + (es.length + (1 + i)))))))) :: List.replicate N (.inl (G.2.1 0, r, .inl (fun _ => 0))))) (pc + 4) L (.ref (n0 + es.length) :: st)) : JC K cz sz es pc L (.int k :: .int n :: st) := by
  obtain ⟨p, l', e, R', s, m, args, below, meth, c, Q, G', n0', nL', cells, slots⟩ := K
  obtain ⟨rfl, rfl, rfl, rfl, rfl, hx, hb, hown, hts, hK, hml, hSt, hce, hsl⟩ := C
  intro H locs ls hP hS hl T hT X
  have hz := hz_size hP hS Z.1 hlen hT X
  refine (?_ : W _ _ _ _ _ _ _ _ _ _ H locs cz sz Q (F0 m pc ls (.int k :: .int n :: st))) T hT X
  refine W_mna hx hb hown (hts _ hcl) (show (Cond.arrayOver (.array .int)).before args s = true from hSt.aoa) (hts _ tw1_58) hn hk hN hr hb1 hb2 hR.1 hR.2 hdg fun H1 cA comp fA fC z1 o1 e1 e2 => ?_
  have hcA : cA = G'.2.1 3 := Option.some.inj (fA.symm.trans (hK.2 3 _ rfl).2)
  have hcC : comp = G'.2.1 0 := Option.some.inj (fC.symm.trans (hK.2 0 _ rfl).2)
  subst hcA hcC
  have hP1 : va_P G'.1 vwCl (wz n0' (es ++ (.inl (G'.2.1 3, N, .inr (.inr (.inr (.inr (fun i => some (n0' + (es.length + (1 + i)))))))) :: List.replicate N (.inl (G'.2.1 0, r, .inl (fun _ => 0)))))) H1 := by
    intro j q hq
    obtain ⟨q1, q2⟩ := wz_key hq
    obtain ⟨qa, qe⟩ := q
    dsimp only at q1 q2
    subst q1
    by_cases hj : j < es.length
    · rw [List.getElem?_append_left hj] at q2
      exact (hP j _ (wz_at q2)).kept (o1 _ (by rw [hz]; omega))
    · rw [List.getElem?_append_right (by omega)] at q2
      cases hd : j - es.length with
      | zero =>
        rw [hd] at q2
        cases q2
        show H1[n0' + j]? = some (vp_cell _ _)
        rw [show n0' + j = H.size by omega, e1, vp_cell_q]
        congr 2
        funext i
        show Value.ref _ = va_rf (some _)
        rw [show H.size + 1 + i = n0' + (es.length + (1 + i)) by omega]
        rfl
      | succ i =>
        rw [hd] at q2
        have hi : i < N := by
          have := (List.getElem?_eq_some_iff.mp q2).1
          simp at this; omega
        have q3 : (List.replicate N (Sum.inl (G'.2.1 0, r, Sum.inl (fun _ => (0 : Int32)))) : List va_E)[i]? = some qe := q2
        rw [List.getElem?_replicate, if_pos hi] at q3
        cases q3
        show H1[n0' + j]? = some (vp_cell _ _)
        rw [show n0' + j = H.size + 1 + i by omega, e2 i hi]
        rfl
  have := kk H1 locs ls hP1 ⟨Nat.le_trans hS.1 (by omega), fun x h1 h2 => (o1 x (Nat.lt_of_lt_of_le h1 hS.1)).trans (hS.2.1 x h1 h2), hS.2.2⟩ hl
  rw [← hz] at this
  exact this
theorem jc_init {y : MethodName} {rm : Room} {bytes : ByteArray} {maxL mc ms a : Nat} {As : List Value} {es' : List va_E} (C : Ok K l R cc own G n0 nL) (Z : Hz K z0) (n : Nat) (h : CtC l y bytes maxL rm mc ms G n0 (.ref a :: As) es es') (hlk : Cond.methodLink own index y ∈ TB ∨ (own, index, y) ∈ nxM) (hin : Cond.instanceMethod y ∈ TB) (hini : Cond.initialized y.cls ∈ TB) (hcode : Cond.code y bytes maxL none ∈ TB) (hyn : y.name = "<init>") (hrm : rm.cells = mc ∧ rm.slots = ms)
    (hd : y.cls ≠ "java/lang/invoke/MethodHandle" ∧ y.cls ≠ "java/lang/invoke/VarHandle" ∧ (parseMethodDescriptor y.desc).map (fun d => d.parameters.length) = some n) (hR : rm.frames + 1 ≤ R.frames ∧ 8 + (maxL + 11) + rm.locals ≤ R.locals) (hRc : cz + mc ≤ R.cells ∧ sz + ms ≤ R.slots) (hn : As.length = n) (hst : st0 = As.reverse ++ .ref a :: st) (hW : (st.map fun v => v.category).sum ≤ 8) (hlen : es.length = z0 + cz) (hdg : decode cc pc = .ok (.invokespecial index, 3))
    (kk : JC K (cz + mc) (sz + ms) es' (pc + 3) L st) : JC K cz sz es pc L st0 := by
  obtain ⟨p, l', e, R', s, m, args, below, meth, c, Q, G', n0', nL', cells, slots⟩ := K
  obtain ⟨rfl, rfl, rfl, rfl, rfl, hx, hb, hown, hts, hK, hml, hSt, hce, hsl⟩ := C
  subst hst
  intro H locs ls hP hS hl T hT X
  have hz := hz_size hP hS Z.1 hlen hT X
  have hpre : PreS s H (va_Pc (.ref a :: As) (RlS G' n0' es)) (.ref a :: As) := ⟨RlS_blind, fun U hU hW => ⟨rfl, ⟨by rw [hU]; exact hP, va_K.moved hW.alike hK, hSt.step hW (hS.F hU)⟩, by rw [hU]; exact hz⟩⟩
  have hr : va_Run p l' e R' s m args below meth c H locs cz sz mc ms (F0 m pc ls (As.reverse ++ .ref a :: st)) st (QRC G' n0' es' (Value.ref a :: As).toArray) (fun q => n0' ≤ q) := by
    rcases hlk with hlk | hlk
    · exact va_runI ⟨hx, hb, hml, hown, hts⟩ h (cwI n hts (good_T hcode) rfl hrm.1 hrm.2 (hts _ hini) (hts _ hlk) (hts _ hin) hyn hd hR) hpre rfl hn hl.1 rfl (lv_room hW) hdg hRc
    · exact va_runIN ⟨hx, hb, hml, hown, hts⟩ h ⟨va_cnB n hts (good_T hcode) rfl hrm.1 hrm.2 (hSt.2.1 _ hlk) (hts _ hini) hd hR, hyn, hts _ hin⟩ hpre rfl hn hl.1 rfl (lv_room hW) hdg hRc
  obtain ⟨v', st₀, t, T', L', h0, X', hL, e1, e2, ⟨hv, ⟨hP1, hK1, hSt1⟩, hz1, hk1⟩, stp⟩ := hr T hT X
  cases hv
  rw [h0] at hz1 hk1
  obtain ⟨t2, a1, b1⟩ := kk T'.heap (locs ++ L') ls (by rw [e1]; exact hP1)
    ⟨Nat.le_trans hS.1 (by rw [e1]; exact hz1), fun q h1 h2 => by rw [e1, hk1 q (Nat.lt_of_lt_of_le h1 hS.1) h2]; exact hS.2.1 q h1 h2, fun q hq => by
      rcases List.mem_append.mp hq with h | h
      · exact hS.2.2 q h
      · exact hL q h⟩ hl T' rfl X'
  exact ⟨t2, stp t2 a1, b1⟩
end JCS
