section JROWS
variable {K : Kx} {l : Launch} {R : Room} {cc : ByteArray} {own : String} {G : Gx} {n0 nL : Nat} {M : Mem} {pc : Nat} {L : List (Nat × Value)} {st : List Value}
theorem j_iconst (C : Ok K l R cc own G n0 nL) {n : Int} (v : Int32) (hv : Int32.ofInt n = v) (hdg : decode cc pc = .ok (.iconst n, 1)) (kk : J K M (pc + 1) L (.int v :: st)) : J K M pc L (st) := by
  obtain ⟨p, l', e, R', s, m, args, below, meth, c, Q, G', n0', nL', cells, slots⟩ := K
  obtain ⟨rfl, rfl, rfl, rfl, rfl, hx, hb, hown, hts, hK, hml, hSt, hce, hsl⟩ := C
  intro H locs ls hP hS hl
  exact lv_iconst hx hb hdg hv (kk H locs ls hP hS hl)
theorem j_bipush (C : Ok K l R cc own G n0 nL) {n : Int} (v : Int32) (hv : (Int8.ofInt n).toInt32 = v) (hdg : decode cc pc = .ok (.bipush n, 2)) (kk : J K M (pc + 2) L (.int v :: st)) : J K M pc L (st) := by
  obtain ⟨p, l', e, R', s, m, args, below, meth, c, Q, G', n0', nL', cells, slots⟩ := K
  obtain ⟨rfl, rfl, rfl, rfl, rfl, hx, hb, hown, hts, hK, hml, hSt, hce, hsl⟩ := C
  intro H locs ls hP hS hl
  exact lv_bipush hx hb hdg hv (kk H locs ls hP hS hl)
theorem j_sipush (C : Ok K l R cc own G n0 nL) {n : Int} (v : Int32) (hv : (Int16.ofInt n).toInt32 = v) (hdg : decode cc pc = .ok (.sipush n, 3)) (kk : J K M (pc + 3) L (.int v :: st)) : J K M pc L (st) := by
  obtain ⟨p, l', e, R', s, m, args, below, meth, c, Q, G', n0', nL', cells, slots⟩ := K
  obtain ⟨rfl, rfl, rfl, rfl, rfl, hx, hb, hown, hts, hK, hml, hSt, hce, hsl⟩ := C
  intro H locs ls hP hS hl
  exact lv_sipush hx hb hdg hv (kk H locs ls hP hS hl)
theorem j_lconst (C : Ok K l R cc own G n0 nL) {n : Fin 2} (v : Int64) (hv : Int64.ofNat (n : Nat) = v) (hdg : decode cc pc = .ok (.lconst n, 1)) (kk : J K M (pc + 1) L (.long v :: st)) : J K M pc L (st) := by
  obtain ⟨p, l', e, R', s, m, args, below, meth, c, Q, G', n0', nL', cells, slots⟩ := K
  obtain ⟨rfl, rfl, rfl, rfl, rfl, hx, hb, hown, hts, hK, hml, hSt, hce, hsl⟩ := C
  intro H locs ls hP hS hl
  exact lv_lconst hx hb hdg hv (kk H locs ls hP hS hl)
theorem j_iload_n (C : Ok K l R cc own G n0 nL) {k : Fin 4} {i : Nat} {x : Int32} (q : Nat) (hdg : decode cc pc = .ok (.iload_n k, 1)) (hi : (k : Nat) = i) (hq : L[q]? = some (i, .int x)) (kk : J K M (pc + 1) L (.int x :: st)) : J K M pc L st := by
  obtain ⟨p, l', e, R', s, m, args, below, meth, c, Q, G', n0', nL', cells, slots⟩ := K
  obtain ⟨rfl, rfl, rfl, rfl, rfl, hx, hb, hown, hts, hK, hml, hSt, hce, hsl⟩ := C
  intro H locs ls hP hS hl
  exact lv_iload_n hx hb hdg hi (lv_at hl q hq) (kk H locs ls hP hS hl)
theorem j_iload (C : Ok K l R cc own G n0 nL) {i : Nat} {x : Int32} (q : Nat) (hdg : decode cc pc = .ok (.iload i, 2)) (hq : L[q]? = some (i, .int x)) (kk : J K M (pc + 2) L (.int x :: st)) : J K M pc L st := by
  obtain ⟨p, l', e, R', s, m, args, below, meth, c, Q, G', n0', nL', cells, slots⟩ := K
  obtain ⟨rfl, rfl, rfl, rfl, rfl, hx, hb, hown, hts, hK, hml, hSt, hce, hsl⟩ := C
  intro H locs ls hP hS hl
  exact lv_iload hx hb hdg (lv_at hl q hq) (kk H locs ls hP hS hl)
theorem j_lload_n (C : Ok K l R cc own G n0 nL) {k : Fin 4} {i : Nat} {x : Int64} (q : Nat) (hdg : decode cc pc = .ok (.lload_n k, 1)) (hi : (k : Nat) = i) (hq : L[q]? = some (i, .long x)) (kk : J K M (pc + 1) L (.long x :: st)) : J K M pc L st := by
  obtain ⟨p, l', e, R', s, m, args, below, meth, c, Q, G', n0', nL', cells, slots⟩ := K
  obtain ⟨rfl, rfl, rfl, rfl, rfl, hx, hb, hown, hts, hK, hml, hSt, hce, hsl⟩ := C
  intro H locs ls hP hS hl
  exact lv_lload_n hx hb hdg hi (lv_at hl q hq) (kk H locs ls hP hS hl)
theorem j_lload (C : Ok K l R cc own G n0 nL) {i : Nat} {x : Int64} (q : Nat) (hdg : decode cc pc = .ok (.lload i, 2)) (hq : L[q]? = some (i, .long x)) (kk : J K M (pc + 2) L (.long x :: st)) : J K M pc L st := by
  obtain ⟨p, l', e, R', s, m, args, below, meth, c, Q, G', n0', nL', cells, slots⟩ := K
  obtain ⟨rfl, rfl, rfl, rfl, rfl, hx, hb, hown, hts, hK, hml, hSt, hce, hsl⟩ := C
  intro H locs ls hP hS hl
  exact lv_lload hx hb hdg (lv_at hl q hq) (kk H locs ls hP hS hl)
theorem j_aload_n (C : Ok K l R cc own G n0 nL) {k : Fin 4} {i : Nat} {x : Nat} (q : Nat) (hdg : decode cc pc = .ok (.aload_n k, 1)) (hi : (k : Nat) = i) (hq : L[q]? = some (i, .ref x)) (kk : J K M (pc + 1) L (.ref x :: st)) : J K M pc L st := by
  obtain ⟨p, l', e, R', s, m, args, below, meth, c, Q, G', n0', nL', cells, slots⟩ := K
  obtain ⟨rfl, rfl, rfl, rfl, rfl, hx, hb, hown, hts, hK, hml, hSt, hce, hsl⟩ := C
  intro H locs ls hP hS hl
  exact lv_aload_n hx hb hdg hi (lv_at hl q hq) (kk H locs ls hP hS hl)
theorem j_aload (C : Ok K l R cc own G n0 nL) {i : Nat} {x : Nat} (q : Nat) (hdg : decode cc pc = .ok (.aload i, 2)) (hq : L[q]? = some (i, .ref x)) (kk : J K M (pc + 2) L (.ref x :: st)) : J K M pc L st := by
  obtain ⟨p, l', e, R', s, m, args, below, meth, c, Q, G', n0', nL', cells, slots⟩ := K
  obtain ⟨rfl, rfl, rfl, rfl, rfl, hx, hb, hown, hts, hK, hml, hSt, hce, hsl⟩ := C
  intro H locs ls hP hS hl
  exact lv_aload hx hb hdg (lv_at hl q hq) (kk H locs ls hP hS hl)
theorem j_istore_n (C : Ok K l R cc own G n0 nL) {k : Fin 4} {i : Nat} {x : Int32} (L' : List (Nat × Value)) (hdg : decode cc pc = .ok (.istore_n k, 1)) (hi : (k : Nat) = i) (hn : i < nL) (hL : (i, Value.int x) :: L.filter (fun q => !(q.1 == i) && !(q.1 + 1 == i && q.2.category == 2)) = L') (kk : J K M (pc + 1) L' st) : J K M pc L (Value.int x :: st) := by
  obtain ⟨p, l', e, R', s, m, args, below, meth, c, Q, G', n0', nL', cells, slots⟩ := K
  obtain ⟨rfl, rfl, rfl, rfl, rfl, hx, hb, hown, hts, hK, hml, hSt, hce, hsl⟩ := C
  intro H locs ls hP hS hl
  exact lv_istore_n hx hb hdg hi hl hn hL (fun ls' hl' => kk H locs ls' hP hS hl')
theorem j_istore (C : Ok K l R cc own G n0 nL) {i : Nat} {x : Int32} (L' : List (Nat × Value)) (hdg : decode cc pc = .ok (.istore i, 2)) (hn : i < nL) (hL : (i, Value.int x) :: L.filter (fun q => !(q.1 == i) && !(q.1 + 1 == i && q.2.category == 2)) = L') (kk : J K M (pc + 2) L' st) : J K M pc L (Value.int x :: st) := by
  obtain ⟨p, l', e, R', s, m, args, below, meth, c, Q, G', n0', nL', cells, slots⟩ := K
  obtain ⟨rfl, rfl, rfl, rfl, rfl, hx, hb, hown, hts, hK, hml, hSt, hce, hsl⟩ := C
  intro H locs ls hP hS hl
  exact lv_istore hx hb hdg hl hn hL (fun ls' hl' => kk H locs ls' hP hS hl')
theorem j_lstore_n (C : Ok K l R cc own G n0 nL) {k : Fin 4} {i : Nat} {x : Int64} (L' : List (Nat × Value)) (hdg : decode cc pc = .ok (.lstore_n k, 1)) (hi : (k : Nat) = i) (hn : i + 1 < nL) (hL : (i, Value.long x) :: L.filter (fun q => !(q.1 == i) && (!(q.1 == i + 1) && !(q.1 + 1 == i && q.2.category == 2))) = L') (kk : J K M (pc + 1) L' st) : J K M pc L (Value.long x :: st) := by
  obtain ⟨p, l', e, R', s, m, args, below, meth, c, Q, G', n0', nL', cells, slots⟩ := K
  obtain ⟨rfl, rfl, rfl, rfl, rfl, hx, hb, hown, hts, hK, hml, hSt, hce, hsl⟩ := C
  intro H locs ls hP hS hl
  exact lv_lstore_n hx hb hdg hi hl hn hL (fun ls' hl' => kk H locs ls' hP hS hl')
theorem j_lstore (C : Ok K l R cc own G n0 nL) {i : Nat} {x : Int64} (L' : List (Nat × Value)) (hdg : decode cc pc = .ok (.lstore i, 2)) (hn : i + 1 < nL) (hL : (i, Value.long x) :: L.filter (fun q => !(q.1 == i) && (!(q.1 == i + 1) && !(q.1 + 1 == i && q.2.category == 2))) = L') (kk : J K M (pc + 2) L' st) : J K M pc L (Value.long x :: st) := by
  obtain ⟨p, l', e, R', s, m, args, below, meth, c, Q, G', n0', nL', cells, slots⟩ := K
  obtain ⟨rfl, rfl, rfl, rfl, rfl, hx, hb, hown, hts, hK, hml, hSt, hce, hsl⟩ := C
  intro H locs ls hP hS hl
  exact lv_lstore hx hb hdg hl hn hL (fun ls' hl' => kk H locs ls' hP hS hl')
theorem j_astore_n (C : Ok K l R cc own G n0 nL) {k : Fin 4} {i : Nat} {x : Nat} (L' : List (Nat × Value)) (hdg : decode cc pc = .ok (.astore_n k, 1)) (hi : (k : Nat) = i) (hn : i < nL) (hL : (i, Value.ref x) :: L.filter (fun q => !(q.1 == i) && !(q.1 + 1 == i && q.2.category == 2)) = L') (kk : J K M (pc + 1) L' st) : J K M pc L (Value.ref x :: st) := by
  obtain ⟨p, l', e, R', s, m, args, below, meth, c, Q, G', n0', nL', cells, slots⟩ := K
  obtain ⟨rfl, rfl, rfl, rfl, rfl, hx, hb, hown, hts, hK, hml, hSt, hce, hsl⟩ := C
  intro H locs ls hP hS hl
  exact lv_astore_n hx hb hdg hi hl hn hL (fun ls' hl' => kk H locs ls' hP hS hl')
theorem j_astore (C : Ok K l R cc own G n0 nL) {i : Nat} {x : Nat} (L' : List (Nat × Value)) (hdg : decode cc pc = .ok (.astore i, 2)) (hn : i < nL) (hL : (i, Value.ref x) :: L.filter (fun q => !(q.1 == i) && !(q.1 + 1 == i && q.2.category == 2)) = L') (kk : J K M (pc + 2) L' st) : J K M pc L (Value.ref x :: st) := by
  obtain ⟨p, l', e, R', s, m, args, below, meth, c, Q, G', n0', nL', cells, slots⟩ := K
  obtain ⟨rfl, rfl, rfl, rfl, rfl, hx, hb, hown, hts, hK, hml, hSt, hce, hsl⟩ := C
  intro H locs ls hP hS hl
  exact lv_astore hx hb hdg hl hn hL (fun ls' hl' => kk H locs ls' hP hS hl')
theorem j_iinc (C : Ok K l R cc own G n0 nL) {i : Nat} {n : Int} {x : Int32} (q : Nat) (v : Int32) (L' : List (Nat × Value)) (hdg : decode cc pc = .ok (.iinc i n, 3)) (hq : L[q]? = some (i, .int x)) (hv : x + Int32.ofInt n = v) (hn : i < nL) (hL : (i, Value.int v) :: L.filter (fun q => !(q.1 == i) && !(q.1 + 1 == i && q.2.category == 2)) = L') (kk : J K M (pc + 3) L' st) : J K M pc L st := by
  obtain ⟨p, l', e, R', s, m, args, below, meth, c, Q, G', n0', nL', cells, slots⟩ := K
  obtain ⟨rfl, rfl, rfl, rfl, rfl, hx, hb, hown, hts, hK, hml, hSt, hce, hsl⟩ := C
  intro H locs ls hP hS hl
  exact lv_iinc hx hb hdg hl hq hv hn hL (fun ls' hl' => kk H locs ls' hP hS hl')
theorem j_iadd (C : Ok K l R cc own G n0 nL) {x y : Int32} (hdg : decode cc pc = .ok (.iadd, 1)) (kk : J K M (pc + 1) L (.int (x + y) :: st)) : J K M pc L (.int y :: .int x :: st) := by
  obtain ⟨p, l', e, R', s, m, args, below, meth, c, Q, G', n0', nL', cells, slots⟩ := K
  obtain ⟨rfl, rfl, rfl, rfl, rfl, hx, hb, hown, hts, hK, hml, hSt, hce, hsl⟩ := C
  intro H locs ls hP hS hl
  exact lv_iadd hx hb hdg  (kk H locs ls hP hS hl)
theorem j_isub (C : Ok K l R cc own G n0 nL) {x y : Int32} (hdg : decode cc pc = .ok (.isub, 1)) (kk : J K M (pc + 1) L (.int (x - y) :: st)) : J K M pc L (.int y :: .int x :: st) := by
  obtain ⟨p, l', e, R', s, m, args, below, meth, c, Q, G', n0', nL', cells, slots⟩ := K
  obtain ⟨rfl, rfl, rfl, rfl, rfl, hx, hb, hown, hts, hK, hml, hSt, hce, hsl⟩ := C
  intro H locs ls hP hS hl
  exact lv_isub hx hb hdg  (kk H locs ls hP hS hl)
theorem j_imul (C : Ok K l R cc own G n0 nL) {x y : Int32} (hdg : decode cc pc = .ok (.imul, 1)) (kk : J K M (pc + 1) L (.int (x * y) :: st)) : J K M pc L (.int y :: .int x :: st) := by
  obtain ⟨p, l', e, R', s, m, args, below, meth, c, Q, G', n0', nL', cells, slots⟩ := K
  obtain ⟨rfl, rfl, rfl, rfl, rfl, hx, hb, hown, hts, hK, hml, hSt, hce, hsl⟩ := C
  intro H locs ls hP hS hl
  exact lv_imul hx hb hdg  (kk H locs ls hP hS hl)
theorem j_iand (C : Ok K l R cc own G n0 nL) {x y : Int32} (hdg : decode cc pc = .ok (.iand, 1)) (kk : J K M (pc + 1) L (.int (x &&& y) :: st)) : J K M pc L (.int y :: .int x :: st) := by
  obtain ⟨p, l', e, R', s, m, args, below, meth, c, Q, G', n0', nL', cells, slots⟩ := K
  obtain ⟨rfl, rfl, rfl, rfl, rfl, hx, hb, hown, hts, hK, hml, hSt, hce, hsl⟩ := C
  intro H locs ls hP hS hl
  exact lv_iand hx hb hdg  (kk H locs ls hP hS hl)
theorem j_ior (C : Ok K l R cc own G n0 nL) {x y : Int32} (hdg : decode cc pc = .ok (.ior, 1)) (kk : J K M (pc + 1) L (.int (x ||| y) :: st)) : J K M pc L (.int y :: .int x :: st) := by
  obtain ⟨p, l', e, R', s, m, args, below, meth, c, Q, G', n0', nL', cells, slots⟩ := K
  obtain ⟨rfl, rfl, rfl, rfl, rfl, hx, hb, hown, hts, hK, hml, hSt, hce, hsl⟩ := C
  intro H locs ls hP hS hl
  exact lv_ior hx hb hdg  (kk H locs ls hP hS hl)
theorem j_ixor (C : Ok K l R cc own G n0 nL) {x y : Int32} (hdg : decode cc pc = .ok (.ixor, 1)) (kk : J K M (pc + 1) L (.int (x ^^^ y) :: st)) : J K M pc L (.int y :: .int x :: st) := by
  obtain ⟨p, l', e, R', s, m, args, below, meth, c, Q, G', n0', nL', cells, slots⟩ := K
  obtain ⟨rfl, rfl, rfl, rfl, rfl, hx, hb, hown, hts, hK, hml, hSt, hce, hsl⟩ := C
  intro H locs ls hP hS hl
  exact lv_ixor hx hb hdg  (kk H locs ls hP hS hl)
theorem j_idiv (C : Ok K l R cc own G n0 nL) {x y : Int32} (hne : ¬ y = 0) (hdg : decode cc pc = .ok (.idiv, 1)) (kk : J K M (pc + 1) L (.int (x / y) :: st)) : J K M pc L (.int y :: .int x :: st) := by
  obtain ⟨p, l', e, R', s, m, args, below, meth, c, Q, G', n0', nL', cells, slots⟩ := K
  obtain ⟨rfl, rfl, rfl, rfl, rfl, hx, hb, hown, hts, hK, hml, hSt, hce, hsl⟩ := C
  intro H locs ls hP hS hl
  exact lv_idiv hx hb hdg hne (kk H locs ls hP hS hl)
theorem j_irem (C : Ok K l R cc own G n0 nL) {x y : Int32} (hne : ¬ y = 0) (hdg : decode cc pc = .ok (.irem, 1)) (kk : J K M (pc + 1) L (.int (x - x / y * y) :: st)) : J K M pc L (.int y :: .int x :: st) := by
  obtain ⟨p, l', e, R', s, m, args, below, meth, c, Q, G', n0', nL', cells, slots⟩ := K
  obtain ⟨rfl, rfl, rfl, rfl, rfl, hx, hb, hown, hts, hK, hml, hSt, hce, hsl⟩ := C
  intro H locs ls hP hS hl
  exact lv_irem hx hb hdg hne (kk H locs ls hP hS hl)
theorem j_ineg (C : Ok K l R cc own G n0 nL) {x : Int32} (hdg : decode cc pc = .ok (.ineg, 1)) (kk : J K M (pc + 1) L (.int (-x) :: st)) : J K M pc L (.int x :: st) := by
  obtain ⟨p, l', e, R', s, m, args, below, meth, c, Q, G', n0', nL', cells, slots⟩ := K
  obtain ⟨rfl, rfl, rfl, rfl, rfl, hx, hb, hown, hts, hK, hml, hSt, hce, hsl⟩ := C
  intro H locs ls hP hS hl
  exact lv_ineg hx hb hdg  (kk H locs ls hP hS hl)
theorem j_ladd (C : Ok K l R cc own G n0 nL) {x y : Int64} (hdg : decode cc pc = .ok (.ladd, 1)) (kk : J K M (pc + 1) L (.long (x + y) :: st)) : J K M pc L (.long y :: .long x :: st) := by
  obtain ⟨p, l', e, R', s, m, args, below, meth, c, Q, G', n0', nL', cells, slots⟩ := K
  obtain ⟨rfl, rfl, rfl, rfl, rfl, hx, hb, hown, hts, hK, hml, hSt, hce, hsl⟩ := C
  intro H locs ls hP hS hl
  exact lv_ladd hx hb hdg  (kk H locs ls hP hS hl)
theorem j_lsub (C : Ok K l R cc own G n0 nL) {x y : Int64} (hdg : decode cc pc = .ok (.lsub, 1)) (kk : J K M (pc + 1) L (.long (x - y) :: st)) : J K M pc L (.long y :: .long x :: st) := by
  obtain ⟨p, l', e, R', s, m, args, below, meth, c, Q, G', n0', nL', cells, slots⟩ := K
  obtain ⟨rfl, rfl, rfl, rfl, rfl, hx, hb, hown, hts, hK, hml, hSt, hce, hsl⟩ := C
  intro H locs ls hP hS hl
  exact lv_lsub hx hb hdg  (kk H locs ls hP hS hl)
theorem j_lmul (C : Ok K l R cc own G n0 nL) {x y : Int64} (hdg : decode cc pc = .ok (.lmul, 1)) (kk : J K M (pc + 1) L (.long (x * y) :: st)) : J K M pc L (.long y :: .long x :: st) := by
  obtain ⟨p, l', e, R', s, m, args, below, meth, c, Q, G', n0', nL', cells, slots⟩ := K
  obtain ⟨rfl, rfl, rfl, rfl, rfl, hx, hb, hown, hts, hK, hml, hSt, hce, hsl⟩ := C
  intro H locs ls hP hS hl
  exact lv_lmul hx hb hdg  (kk H locs ls hP hS hl)
theorem j_land (C : Ok K l R cc own G n0 nL) {x y : Int64} (hdg : decode cc pc = .ok (.land, 1)) (kk : J K M (pc + 1) L (.long (x &&& y) :: st)) : J K M pc L (.long y :: .long x :: st) := by
  obtain ⟨p, l', e, R', s, m, args, below, meth, c, Q, G', n0', nL', cells, slots⟩ := K
  obtain ⟨rfl, rfl, rfl, rfl, rfl, hx, hb, hown, hts, hK, hml, hSt, hce, hsl⟩ := C
  intro H locs ls hP hS hl
  exact lv_land hx hb hdg  (kk H locs ls hP hS hl)
theorem j_lrem (C : Ok K l R cc own G n0 nL) {x y : Int64} (hne : ¬ y = 0) (hdg : decode cc pc = .ok (.lrem, 1)) (kk : J K M (pc + 1) L (.long (x - x / y * y) :: st)) : J K M pc L (.long y :: .long x :: st) := by
  obtain ⟨p, l', e, R', s, m, args, below, meth, c, Q, G', n0', nL', cells, slots⟩ := K
  obtain ⟨rfl, rfl, rfl, rfl, rfl, hx, hb, hown, hts, hK, hml, hSt, hce, hsl⟩ := C
  intro H locs ls hP hS hl
  exact lv_lrem hx hb hdg hne (kk H locs ls hP hS hl)
theorem j_ishl (C : Ok K l R cc own G n0 nL) {x y : Int32} (hdg : decode cc pc = .ok (.ishl, 1)) (kk : J K M (pc + 1) L (.int (x <<< (y &&& 31)) :: st)) : J K M pc L (.int y :: .int x :: st) := by
  obtain ⟨p, l', e, R', s, m, args, below, meth, c, Q, G', n0', nL', cells, slots⟩ := K
  obtain ⟨rfl, rfl, rfl, rfl, rfl, hx, hb, hown, hts, hK, hml, hSt, hce, hsl⟩ := C
  intro H locs ls hP hS hl
  exact lv_ishl hx hb hdg  (kk H locs ls hP hS hl)
theorem j_ishr (C : Ok K l R cc own G n0 nL) {x y : Int32} (hdg : decode cc pc = .ok (.ishr, 1)) (kk : J K M (pc + 1) L (.int (x >>> (y &&& 31)) :: st)) : J K M pc L (.int y :: .int x :: st) := by
  obtain ⟨p, l', e, R', s, m, args, below, meth, c, Q, G', n0', nL', cells, slots⟩ := K
  obtain ⟨rfl, rfl, rfl, rfl, rfl, hx, hb, hown, hts, hK, hml, hSt, hce, hsl⟩ := C
  intro H locs ls hP hS hl
  exact lv_ishr hx hb hdg  (kk H locs ls hP hS hl)
theorem j_iushr (C : Ok K l R cc own G n0 nL) {x y : Int32} (hdg : decode cc pc = .ok (.iushr, 1)) (kk : J K M (pc + 1) L (.int ((x.toUInt32 >>> (y.toUInt32 &&& Int32.toUInt32 31)).toInt32) :: st)) : J K M pc L (.int y :: .int x :: st) := by
  obtain ⟨p, l', e, R', s, m, args, below, meth, c, Q, G', n0', nL', cells, slots⟩ := K
  obtain ⟨rfl, rfl, rfl, rfl, rfl, hx, hb, hown, hts, hK, hml, hSt, hce, hsl⟩ := C
  intro H locs ls hP hS hl
  exact lv_iushr hx hb hdg rfl (kk H locs ls hP hS hl)
theorem j_i2l (C : Ok K l R cc own G n0 nL) {x : Int32} (hdg : decode cc pc = .ok (.i2l, 1)) (kk : J K M (pc + 1) L (.long x.toInt64 :: st)) : J K M pc L (.int x :: st) := by
  obtain ⟨p, l', e, R', s, m, args, below, meth, c, Q, G', n0', nL', cells, slots⟩ := K
  obtain ⟨rfl, rfl, rfl, rfl, rfl, hx, hb, hown, hts, hK, hml, hSt, hce, hsl⟩ := C
  intro H locs ls hP hS hl
  exact lv_i2l hx hb hdg rfl (kk H locs ls hP hS hl)
theorem j_l2i (C : Ok K l R cc own G n0 nL) {x : Int64} (hdg : decode cc pc = .ok (.l2i, 1)) (kk : J K M (pc + 1) L (.int x.toInt32 :: st)) : J K M pc L (.long x :: st) := by
  obtain ⟨p, l', e, R', s, m, args, below, meth, c, Q, G', n0', nL', cells, slots⟩ := K
  obtain ⟨rfl, rfl, rfl, rfl, rfl, hx, hb, hown, hts, hK, hml, hSt, hce, hsl⟩ := C
  intro H locs ls hP hS hl
  exact lv_l2i hx hb hdg rfl (kk H locs ls hP hS hl)
theorem j_i2b (C : Ok K l R cc own G n0 nL) {x : Int32} (hdg : decode cc pc = .ok (.i2b, 1)) (kk : J K M (pc + 1) L (.int x.toInt8.toInt32 :: st)) : J K M pc L (.int x :: st) := by
  obtain ⟨p, l', e, R', s, m, args, below, meth, c, Q, G', n0', nL', cells, slots⟩ := K
  obtain ⟨rfl, rfl, rfl, rfl, rfl, hx, hb, hown, hts, hK, hml, hSt, hce, hsl⟩ := C
  intro H locs ls hP hS hl
  exact lv_i2b hx hb hdg rfl (kk H locs ls hP hS hl)
theorem j_dup (C : Ok K l R cc own G n0 nL) {a : Value} (ha : a.category = 1) (hdg : decode cc pc = .ok (.dup, 1)) (kk : J K M (pc + 1) L (a :: a :: st)) : J K M pc L (a :: st) := by
  obtain ⟨p, l', e, R', s, m, args, below, meth, c, Q, G', n0', nL', cells, slots⟩ := K
  obtain ⟨rfl, rfl, rfl, rfl, rfl, hx, hb, hown, hts, hK, hml, hSt, hce, hsl⟩ := C
  intro H locs ls hP hS hl
  exact lv_dup hx hb hdg ha (kk H locs ls hP hS hl)
theorem j_pop (C : Ok K l R cc own G n0 nL) {a : Value} (ha : a.category = 1) (hdg : decode cc pc = .ok (.pop, 1)) (kk : J K M (pc + 1) L (st)) : J K M pc L (a :: st) := by
  obtain ⟨p, l', e, R', s, m, args, below, meth, c, Q, G', n0', nL', cells, slots⟩ := K
  obtain ⟨rfl, rfl, rfl, rfl, rfl, hx, hb, hown, hts, hK, hml, hSt, hce, hsl⟩ := C
  intro H locs ls hP hS hl
  exact lv_pop hx hb hdg ha (kk H locs ls hP hS hl)
theorem j_dup2_11 (C : Ok K l R cc own G n0 nL) {a b : Value} (ha : a.category = 1) (hb' : b.category = 1) (hdg : decode cc pc = .ok (.dup2, 1)) (kk : J K M (pc + 1) L (a :: b :: a :: b :: st)) : J K M pc L (a :: b :: st) := by
  obtain ⟨p, l', e, R', s, m, args, below, meth, c, Q, G', n0', nL', cells, slots⟩ := K
  obtain ⟨rfl, rfl, rfl, rfl, rfl, hx, hb, hown, hts, hK, hml, hSt, hce, hsl⟩ := C
  intro H locs ls hP hS hl
  exact lv_dup2_11 hx hb hdg ha hb' (kk H locs ls hP hS hl)
theorem j_if_eq (C : Ok K l R cc own G n0 nL) {x : Int32} {off : Int} (tgt : Nat) (hdg : decode cc pc = .ok (.ifCond .eq off, 3)) (ht : (pc : Int) + off = (tgt : Int)) (kt : x = 0 → J K M tgt L st) (kf : ¬ x = 0 → J K M (pc + 3) L st) : J K M pc L (.int x :: st) := by
  obtain ⟨p, l', e, R', s, m, args, below, meth, c, Q, G', n0', nL', cells, slots⟩ := K
  obtain ⟨rfl, rfl, rfl, rfl, rfl, hx, hb, hown, hts, hK, hml, hSt, hce, hsl⟩ := C
  intro H locs ls hP hS hl
  exact lv_if_eq hx hb hdg ht (fun h => kt h H locs ls hP hS hl) (fun h => kf h H locs ls hP hS hl)
theorem j_if_ne (C : Ok K l R cc own G n0 nL) {x : Int32} {off : Int} (tgt : Nat) (hdg : decode cc pc = .ok (.ifCond .ne off, 3)) (ht : (pc : Int) + off = (tgt : Int)) (kt : ¬ x = 0 → J K M tgt L st) (kf : x = 0 → J K M (pc + 3) L st) : J K M pc L (.int x :: st) := by
  obtain ⟨p, l', e, R', s, m, args, below, meth, c, Q, G', n0', nL', cells, slots⟩ := K
  obtain ⟨rfl, rfl, rfl, rfl, rfl, hx, hb, hown, hts, hK, hml, hSt, hce, hsl⟩ := C
  intro H locs ls hP hS hl
  exact lv_if_ne hx hb hdg ht (fun h => kt h H locs ls hP hS hl) (fun h => kf h H locs ls hP hS hl)
theorem j_if_lt (C : Ok K l R cc own G n0 nL) {x : Int32} {off : Int} (tgt : Nat) (hdg : decode cc pc = .ok (.ifCond .lt off, 3)) (ht : (pc : Int) + off = (tgt : Int)) (kt : x < 0 → J K M tgt L st) (kf : ¬ x < 0 → J K M (pc + 3) L st) : J K M pc L (.int x :: st) := by
  obtain ⟨p, l', e, R', s, m, args, below, meth, c, Q, G', n0', nL', cells, slots⟩ := K
  obtain ⟨rfl, rfl, rfl, rfl, rfl, hx, hb, hown, hts, hK, hml, hSt, hce, hsl⟩ := C
  intro H locs ls hP hS hl
  exact lv_if_lt hx hb hdg ht (fun h => kt h H locs ls hP hS hl) (fun h => kf h H locs ls hP hS hl)
theorem j_if_ge (C : Ok K l R cc own G n0 nL) {x : Int32} {off : Int} (tgt : Nat) (hdg : decode cc pc = .ok (.ifCond .ge off, 3)) (ht : (pc : Int) + off = (tgt : Int)) (kt : 0 ≤ x → J K M tgt L st) (kf : ¬ 0 ≤ x → J K M (pc + 3) L st) : J K M pc L (.int x :: st) := by
  obtain ⟨p, l', e, R', s, m, args, below, meth, c, Q, G', n0', nL', cells, slots⟩ := K
  obtain ⟨rfl, rfl, rfl, rfl, rfl, hx, hb, hown, hts, hK, hml, hSt, hce, hsl⟩ := C
  intro H locs ls hP hS hl
  exact lv_if_ge hx hb hdg ht (fun h => kt h H locs ls hP hS hl) (fun h => kf h H locs ls hP hS hl)
theorem j_if_gt (C : Ok K l R cc own G n0 nL) {x : Int32} {off : Int} (tgt : Nat) (hdg : decode cc pc = .ok (.ifCond .gt off, 3)) (ht : (pc : Int) + off = (tgt : Int)) (kt : 0 < x → J K M tgt L st) (kf : ¬ 0 < x → J K M (pc + 3) L st) : J K M pc L (.int x :: st) := by
  obtain ⟨p, l', e, R', s, m, args, below, meth, c, Q, G', n0', nL', cells, slots⟩ := K
  obtain ⟨rfl, rfl, rfl, rfl, rfl, hx, hb, hown, hts, hK, hml, hSt, hce, hsl⟩ := C
  intro H locs ls hP hS hl
  exact lv_if_gt hx hb hdg ht (fun h => kt h H locs ls hP hS hl) (fun h => kf h H locs ls hP hS hl)
theorem j_if_le (C : Ok K l R cc own G n0 nL) {x : Int32} {off : Int} (tgt : Nat) (hdg : decode cc pc = .ok (.ifCond .le off, 3)) (ht : (pc : Int) + off = (tgt : Int)) (kt : x ≤ 0 → J K M tgt L st) (kf : ¬ x ≤ 0 → J K M (pc + 3) L st) : J K M pc L (.int x :: st) := by
  obtain ⟨p, l', e, R', s, m, args, below, meth, c, Q, G', n0', nL', cells, slots⟩ := K
  obtain ⟨rfl, rfl, rfl, rfl, rfl, hx, hb, hown, hts, hK, hml, hSt, hce, hsl⟩ := C
  intro H locs ls hP hS hl
  exact lv_if_le hx hb hdg ht (fun h => kt h H locs ls hP hS hl) (fun h => kf h H locs ls hP hS hl)
theorem j_icmp_eq (C : Ok K l R cc own G n0 nL) {x y : Int32} {off : Int} (tgt : Nat) (hdg : decode cc pc = .ok (.if_icmp .eq off, 3)) (ht : (pc : Int) + off = (tgt : Int)) (kt : x = y → J K M tgt L st) (kf : ¬ x = y → J K M (pc + 3) L st) : J K M pc L (.int y :: .int x :: st) := by
  obtain ⟨p, l', e, R', s, m, args, below, meth, c, Q, G', n0', nL', cells, slots⟩ := K
  obtain ⟨rfl, rfl, rfl, rfl, rfl, hx, hb, hown, hts, hK, hml, hSt, hce, hsl⟩ := C
  intro H locs ls hP hS hl
  exact lv_icmp_eq hx hb hdg ht (fun h => kt h H locs ls hP hS hl) (fun h => kf h H locs ls hP hS hl)
theorem j_icmp_ne (C : Ok K l R cc own G n0 nL) {x y : Int32} {off : Int} (tgt : Nat) (hdg : decode cc pc = .ok (.if_icmp .ne off, 3)) (ht : (pc : Int) + off = (tgt : Int)) (kt : ¬ x = y → J K M tgt L st) (kf : x = y → J K M (pc + 3) L st) : J K M pc L (.int y :: .int x :: st) := by
  obtain ⟨p, l', e, R', s, m, args, below, meth, c, Q, G', n0', nL', cells, slots⟩ := K
  obtain ⟨rfl, rfl, rfl, rfl, rfl, hx, hb, hown, hts, hK, hml, hSt, hce, hsl⟩ := C
  intro H locs ls hP hS hl
  exact lv_icmp_ne hx hb hdg ht (fun h => kt h H locs ls hP hS hl) (fun h => kf h H locs ls hP hS hl)
theorem j_icmp_lt (C : Ok K l R cc own G n0 nL) {x y : Int32} {off : Int} (tgt : Nat) (hdg : decode cc pc = .ok (.if_icmp .lt off, 3)) (ht : (pc : Int) + off = (tgt : Int)) (kt : x < y → J K M tgt L st) (kf : ¬ x < y → J K M (pc + 3) L st) : J K M pc L (.int y :: .int x :: st) := by
  obtain ⟨p, l', e, R', s, m, args, below, meth, c, Q, G', n0', nL', cells, slots⟩ := K
  obtain ⟨rfl, rfl, rfl, rfl, rfl, hx, hb, hown, hts, hK, hml, hSt, hce, hsl⟩ := C
  intro H locs ls hP hS hl
  exact lv_icmp_lt hx hb hdg ht (fun h => kt h H locs ls hP hS hl) (fun h => kf h H locs ls hP hS hl)
theorem j_icmp_ge (C : Ok K l R cc own G n0 nL) {x y : Int32} {off : Int} (tgt : Nat) (hdg : decode cc pc = .ok (.if_icmp .ge off, 3)) (ht : (pc : Int) + off = (tgt : Int)) (kt : y ≤ x → J K M tgt L st) (kf : ¬ y ≤ x → J K M (pc + 3) L st) : J K M pc L (.int y :: .int x :: st) := by
  obtain ⟨p, l', e, R', s, m, args, below, meth, c, Q, G', n0', nL', cells, slots⟩ := K
  obtain ⟨rfl, rfl, rfl, rfl, rfl, hx, hb, hown, hts, hK, hml, hSt, hce, hsl⟩ := C
  intro H locs ls hP hS hl
  exact lv_icmp_ge hx hb hdg ht (fun h => kt h H locs ls hP hS hl) (fun h => kf h H locs ls hP hS hl)
theorem j_icmp_gt (C : Ok K l R cc own G n0 nL) {x y : Int32} {off : Int} (tgt : Nat) (hdg : decode cc pc = .ok (.if_icmp .gt off, 3)) (ht : (pc : Int) + off = (tgt : Int)) (kt : y < x → J K M tgt L st) (kf : ¬ y < x → J K M (pc + 3) L st) : J K M pc L (.int y :: .int x :: st) := by
  obtain ⟨p, l', e, R', s, m, args, below, meth, c, Q, G', n0', nL', cells, slots⟩ := K
  obtain ⟨rfl, rfl, rfl, rfl, rfl, hx, hb, hown, hts, hK, hml, hSt, hce, hsl⟩ := C
  intro H locs ls hP hS hl
  exact lv_icmp_gt hx hb hdg ht (fun h => kt h H locs ls hP hS hl) (fun h => kf h H locs ls hP hS hl)
theorem j_icmp_le (C : Ok K l R cc own G n0 nL) {x y : Int32} {off : Int} (tgt : Nat) (hdg : decode cc pc = .ok (.if_icmp .le off, 3)) (ht : (pc : Int) + off = (tgt : Int)) (kt : x ≤ y → J K M tgt L st) (kf : ¬ x ≤ y → J K M (pc + 3) L st) : J K M pc L (.int y :: .int x :: st) := by
  obtain ⟨p, l', e, R', s, m, args, below, meth, c, Q, G', n0', nL', cells, slots⟩ := K
  obtain ⟨rfl, rfl, rfl, rfl, rfl, hx, hb, hown, hts, hK, hml, hSt, hce, hsl⟩ := C
  intro H locs ls hP hS hl
  exact lv_icmp_le hx hb hdg ht (fun h => kt h H locs ls hP hS hl) (fun h => kf h H locs ls hP hS hl)
theorem j_goto (C : Ok K l R cc own G n0 nL) {off : Int} (tgt : Nat) (hdg : decode cc pc = .ok (.goto off, 3)) (ht : (pc : Int) + off = (tgt : Int)) (kk : J K M tgt L st) : J K M pc L st := by
  obtain ⟨p, l', e, R', s, m, args, below, meth, c, Q, G', n0', nL', cells, slots⟩ := K
  obtain ⟨rfl, rfl, rfl, rfl, rfl, hx, hb, hown, hts, hK, hml, hSt, hce, hsl⟩ := C
  intro H locs ls hP hS hl
  exact lv_goto hx hb hdg ht (kk H locs ls hP hS hl)
theorem j_ldc (C : Ok K l R cc own G n0 nL) {index : Nat} {v : Int32} (hw : Cond.constant own index v ∈ TB) (hdg : decode cc pc = .ok (.ldc index, 2)) (kk : J K M (pc + 2) L (.int v :: st)) : J K M pc L st := by
  obtain ⟨p, l', e, R', s, m, args, below, meth, c, Q, G', n0', nL', cells, slots⟩ := K
  obtain ⟨rfl, rfl, rfl, rfl, rfl, hx, hb, hown, hts, hK, hml, hSt, hce, hsl⟩ := C
  intro H locs ls hP hS hl
  exact lv_ldc hx hb hown (hts _ hw) hdg (kk H locs ls hP hS hl)
theorem j_ldc_w (C : Ok K l R cc own G n0 nL) {index : Nat} {v : Int32} (hw : Cond.constant own index v ∈ TB) (hdg : decode cc pc = .ok (.ldc_w index, 3)) (kk : J K M (pc + 3) L (.int v :: st)) : J K M pc L st := by
  obtain ⟨p, l', e, R', s, m, args, below, meth, c, Q, G', n0', nL', cells, slots⟩ := K
  obtain ⟨rfl, rfl, rfl, rfl, rfl, hx, hb, hown, hts, hK, hml, hSt, hce, hsl⟩ := C
  intro H locs ls hP hS hl
  exact lv_ldcw hx hb hown (hts _ hw) hdg (kk H locs ls hP hS hl)
theorem j_ldc2 (C : Ok K l R cc own G n0 nL) {index : Nat} {v : Int64} (hw : Cond.constantLong own index v ∈ TB) (hdg : decode cc pc = .ok (.ldc2_w index, 3)) (kk : J K M (pc + 3) L (.long v :: st)) : J K M pc L st := by
  obtain ⟨p, l', e, R', s, m, args, below, meth, c, Q, G', n0', nL', cells, slots⟩ := K
  obtain ⟨rfl, rfl, rfl, rfl, rfl, hx, hb, hown, hts, hK, hml, hSt, hce, hsl⟩ := C
  intro H locs ls hP hS hl
  exact lv_ldc2 hx hb hown (hts _ hw) hdg (kk H locs ls hP hS hl)
theorem j_getf (C : Ok K l R cc own G n0 nL) {D : String} {T : u_T} {N ci index t tag : Nat} {fs : List Value} {v : Value} (k : Nat) (hin : ∀ w ∈ u_ws D T N, w ∈ TB) (hc : vwCl[ci]? = some (D, T, N)) (hk : k < N) (hD : (T k).1 = D) (hlk : Cond.fieldLink own index D (T k).2.1 (T k).2.2.1 ∈ TB) (ht : lay[t]? = some tag) (he : ent G n0 tag t (M.1 t) (M.2 t) = .inr (ci, fs)) (hv : fs[k]? = some v) (hdg : decode cc pc = .ok (.getfield index, 3)) (kk : J K M (pc + 3) L (v :: st)) : J K M pc L (.ref (n0 + t) :: st) := by
  obtain ⟨p, l', e, R', s, m, args, below, meth, c, Q, G', n0', nL', cells, slots⟩ := K
  obtain ⟨rfl, rfl, rfl, rfl, rfl, hx, hb, hown, hts, hK, hml, hSt, hce, hsl⟩ := C
  intro H locs ls hP hS hl
  exact va_get hx hb hts hin hown hK hP t (by rw [wld_at ht, he]) hc k hk (hts _ hlk) (fun x h => by rw [hD] at h; exact h) hv hdg (kk H locs ls hP hS hl)
theorem j_putf (C : Ok K l R cc own G n0 nL) {D : String} {T : u_T} {N ci index t tag : Nat} {fs : List Value} {v : Value} {ty : FieldType} {M' : Mem} (ty0 : Nat → FieldType) (k : Nat) (hin : ∀ w ∈ u_ws D T N, w ∈ TB) (hc : vwCl[ci]? = some (D, T, N)) (hk : k < N) (hty : ∀ k, k < N → parseFieldDescriptor (T k).2.2.1 = some (ty0 k)) (hnm : ∀ a, a < N → ∀ b, b < N → a ≠ b → (T a).2.1 ≠ (T b).2.1) (hD : (T k).1 = D) (hlk : Cond.fieldLink own index D (T k).2.1 (T k).2.2.1 ∈ TB) (hfin : (T k).2.2.2 = false) (hd : parseFieldDescriptor (T k).2.2.1 = some ty) (hn : narrow ty v = v) (hfit : fits ty v = true) (ht : lay[t]? = some tag) (he : ent G n0 tag t (M.1 t) (M.2 t) = .inr (ci, fs)) (hl' : k < fs.length) (he' : ent G n0 tag t (M'.1 t) (M'.2 t) = .inr (ci, fs.set k v)) (ho1 : ∀ a, a ≠ t → M'.1 a = M.1 a) (ho2 : ∀ a, a ≠ t → M'.2 a = M.2 a) (hdg : decode cc pc = .ok (.putfield index, 3)) (kk : J K M' (pc + 3) L st) : J K M pc L (v :: .ref (n0 + t) :: st) := by
  obtain ⟨p, l', e, R', s, m, args, below, meth, c, Q, G', n0', nL', cells, slots⟩ := K
  obtain ⟨rfl, rfl, rfl, rfl, rfl, hx, hb, hown, hts, hK, hml, hSt, hce, hsl⟩ := C
  intro H locs ls hP hS hl
  refine va_put hx hb hts hin ty0 hty hnm hown hK hP (wld_D _ _ _) hS t (by rw [wld_at ht, he]) hc k hk (hts _ hlk) (fun x h => by rw [hD] at h; exact h) hfin hd hn hfit hl' hdg (fun H1 locs1 hP1 _ hS1 => ?_)
  rw [wld_set ht he' ho1 ho2] at hP1
  exact kk H1 locs1 ls hP1 hS1 hl
theorem j_iald (C : Ok K l R cc own G n0 nL) {t n : Nat} {i v : Int32} (ht : lay[t]? = some (tI n)) (hin : vp_in i n) (hv : M.1 t i.toNatClampNeg = v) (hdg : decode cc pc = .ok (.iaload, 1)) (kk : J K M (pc + 1) L (.int v :: st)) : J K M pc L (.int i :: .ref (n0 + t) :: st) := by
  obtain ⟨p, l', e, R', s, m, args, below, meth, c, Q, G', n0', nL', cells, slots⟩ := K
  obtain ⟨rfl, rfl, rfl, rfl, rfl, hx, hb, hown, hts, hK, hml, hSt, hce, hsl⟩ := C
  intro H locs ls hP hS hl
  subst hv
  exact va_iald hx hb hK hP t 0 (by rw [wld_at ht, ent_I]) rfl hin hdg (kk H locs ls hP hS hl)
theorem j_iast (C : Ok K l R cc own G n0 nL) {t n : Nat} {i x : Int32} {M' : Mem} (ht : lay[t]? = some (tI n)) (hin : vp_in i n) (hM : M' = mput M t i.toNatClampNeg x) (hdg : decode cc pc = .ok (.iastore, 1)) (kk : J K M' (pc + 1) L st) : J K M pc L (.int x :: .int i :: .ref (n0 + t) :: st) := by
  obtain ⟨p, l', e, R', s, m, args, below, meth, c, Q, G', n0', nL', cells, slots⟩ := K
  obtain ⟨rfl, rfl, rfl, rfl, rfl, hx, hb, hown, hts, hK, hml, hSt, hce, hsl⟩ := C
  intro H locs ls hP hS hl
  subst hM
  refine va_iast hx hb hK hP (wld_D _ _ _) hS t 0 (by rw [wld_at ht, ent_I]) rfl hin hdg (fun H1 locs1 hP1 _ hS1 => ?_)
  rw [wld_set ht (M' := mput M t i.toNatClampNeg x) (by rw [ent_I, mput_row]) (fun a ha => mput_ne M x ha) (fun a ha => rfl)] at hP1
  exact kk H1 locs1 ls hP1 hS1 hl
theorem j_alenI (C : Ok K l R cc own G n0 nL) {t n : Nat} (v : Int32) (hv : Int32.ofNat n = v) (ht : lay[t]? = some (tI n)) (hdg : decode cc pc = .ok (.arraylength, 1)) (kk : J K M (pc + 1) L (.int v :: st)) : J K M pc L (.ref (n0 + t) :: st) := by
  obtain ⟨p, l', e, R', s, m, args, below, meth, c, Q, G', n0', nL', cells, slots⟩ := K
  obtain ⟨rfl, rfl, rfl, rfl, rfl, hx, hb, hown, hts, hK, hml, hSt, hce, hsl⟩ := C
  intro H locs ls hP hS hl
  exact va_alen hx hb hK hP t 0 (by rw [wld_at ht, ent_I]) rfl hv hdg (kk H locs ls hP hS hl)
theorem j_alenC (C : Ok K l R cc own G n0 nL) {t w : Nat} (ht : lay[t]? = some (tC w)) (hdg : decode cc pc = .ok (.arraylength, 1)) (kk : J K M (pc + 1) L (.int (nI w) :: st)) : J K M pc L (.ref (n0 + t) :: st) := by
  obtain ⟨p, l', e, R', s, m, args, below, meth, c, Q, G', n0', nL', cells, slots⟩ := K
  obtain ⟨rfl, rfl, rfl, rfl, rfl, hx, hb, hown, hts, hK, hml, hSt, hce, hsl⟩ := C
  intro H locs ls hP hS hl
  have ha : (wld G' n0' M)[t]? = some (n0' + t, .inl (G'.2.1 3, w, .inr (.inr (.inr (.inr (fun i => some (n0' + (t + (1 + i))))))))) := by rw [wld_at ht, ent_C]
  exact va_alen (v := nI w) hx hb hK hP t 3 ha rfl rfl hdg (kk H locs ls hP hS hl)
theorem j_aldC (C : Ok K l R cc own G n0 nL) {t w : Nat} {i : Int32} (ht : lay[t]? = some (tC w)) (hin : vp_in i w) (hdg : decode cc pc = .ok (.aaload, 1)) (kk : J K M (pc + 1) L (.ref (n0 + (t + (1 + i.toNatClampNeg))) :: st)) : J K M pc L (.int i :: .ref (n0 + t) :: st) := by
  obtain ⟨p, l', e, R', s, m, args, below, meth, c, Q, G', n0', nL', cells, slots⟩ := K
  obtain ⟨rfl, rfl, rfl, rfl, rfl, hx, hb, hown, hts, hK, hml, hSt, hce, hsl⟩ := C
  intro H locs ls hP hS hl
  have hlt : i.toNatClampNeg < w := Nat.not_le.mp fun q => hin (Or.inr q)
  have ha : (wld G' n0' M)[t]? = some (n0' + t, .inl (G'.2.1 3, w, .inr (.inr (.inr (.inr (fun i => some (n0' + (t + (1 + i))))))))) := by rw [wld_at ht, ent_C]
  exact W.aald (v := .ref (n0' + (t + (1 + i.toNatClampNeg)))) (ty := .array .int) hx hb (hP t _ ha) ((hK.2 3 _ rfl).1 w (fun j => va_rf (some (n0' + (t + (1 + j)))))) rfl (fun q => by cases q) (by show ¬ (i < 0 ∨ (arrV _ _ _).slots.size ≤ _); rw [arrV_size]; exact hin) (by show (arrV _ _ _).slots[_]? = _; rw [arrV_read _ _ hlt]; rfl) rfl rfl hdg (kk H locs ls hP hS hl)
theorem j_bald (C : Ok K l R cc own G n0 nL) {t : Nat} {i v : Int32} (ht : lay[t]? = some (tK 14)) (hin : vp_in i 150) (hv : M.1 t i.toNatClampNeg = v) (hdg : decode cc pc = .ok (.baload, 1)) (kk : J K M (pc + 1) L (.int v :: st)) : J K M pc L (.int i :: .ref (n0 + t) :: st) := by
  obtain ⟨p, l', e, R', s, m, args, below, meth, c, Q, G', n0', nL', cells, slots⟩ := K
  obtain ⟨rfl, rfl, rfl, rfl, rfl, hx, hb, hown, hts, hK, hml, hSt, hce, hsl⟩ := C
  intro H locs ls hP hS hl
  subst hv
  exact va_bald hx hb hK hP t 1 (by rw [wld_at ht, ent_K]; rfl) rfl hin hdg (kk H locs ls hP hS hl)
theorem j_bast (C : Ok K l R cc own G n0 nL) {t : Nat} {i x : Int32} {M' : Mem} (ht : lay[t]? = some (tK 14)) (hin : vp_in i 150) (hM : M' = mput M t i.toNatClampNeg (vp_nar .byte x)) (hdg : decode cc pc = .ok (.bastore, 1)) (kk : J K M' (pc + 1) L st) : J K M pc L (.int x :: .int i :: .ref (n0 + t) :: st) := by
  obtain ⟨p, l', e, R', s, m, args, below, meth, c, Q, G', n0', nL', cells, slots⟩ := K
  obtain ⟨rfl, rfl, rfl, rfl, rfl, hx, hb, hown, hts, hK, hml, hSt, hce, hsl⟩ := C
  intro H locs ls hP hS hl
  subst hM
  refine va_bast hx hb hK hP (wld_D _ _ _) hS t 1 (by rw [wld_at ht, ent_K]; rfl) rfl hin hdg (fun H1 locs1 hP1 _ hS1 => ?_)
  rw [wld_set ht (M' := mput M t i.toNatClampNeg (vp_nar .byte x)) (by rw [ent_K, mput_row]; rfl) (fun a ha => mput_ne M _ ha) (fun a ha => rfl)] at hP1
  exact kk H1 locs1 ls hP1 hS1 hl
end JROWS
