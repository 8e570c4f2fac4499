def oc {α β : Type} (o : Option α) (a : Option β) (f : α → Option β) : Option β := match o with | none => a | some v => f v
theorem ocn {α β : Type} {a : Option β} {f : α → Option β} {x : Option β} (h : oc none a f = x) : a = x := h
theorem ocs {α β : Type} {v : α} {a : Option β} {f : α → Option β} {x : Option β} (h : oc (some v) a f = x) : f v = x := h
theorem ocd {α β : Type} {o : Option α} {a : Option β} {f : α → Option β} {r : β} (h : oc o a f = some r) : (o = none ∧ a = some r) ∨ ∃ v, o = some v ∧ f v = some r := by
  cases o with
  | none => exact Or.inl ⟨rfl, h⟩
  | some v => exact Or.inr ⟨v, rfl, h⟩
def xc {α γ : Type} (o : Nat ⊕ α) (g : Nat → Option γ) (f : α → Option γ) : Option γ := match o with | .inl k => g k | .inr v => f v
theorem xcr {α γ : Type} {v : α} {g : Nat → Option γ} {f : α → Option γ} {x : Option γ} (h : xc (.inr v) g f = x) : f v = x := h
def SA (K : Kx) (N : Nat) (f : Nat → Int32) (a : Nat) : Prop := match K with
  | (p, l, e, R, s, m, args, below, meth, c, Q, G, n0, nL, cells, slots) => va_T .int a N (fun j => .int (f j)) (fun q => n0 ≤ q) s s.heap
section JM
variable {K : Kx} {l : Launch} {R : Room} {cc : ByteArray} {own : String} {G : Gx} {n0 nL : Nat} {M M' : Mem} {pc index t : Nat} {L : List (Nat × Value)} {st : List Value}
theorem j_null (C : Ok K l R cc own G n0 nL) (hdg : decode cc pc = .ok (.aconst_null, 1)) (kk : J K M (pc + 1) L (.null :: st)) : J K M pc L st := by
  obtain ⟨p, l', e, R', s, m, args, below, meth, c, Q, G', n0', nL', cells, slots⟩ := K
  obtain ⟨rfl, rfl, rfl, rfl, rfl, hx, hb, hown, hts, hK, hml, hSt, hce, hsl⟩ := C
  intro H locs ls hP hS hl
  exact lv_null hx hb hdg (kk H locs ls hP hS hl)
theorem j_aloadN_n (C : Ok K l R cc own G n0 nL) {k : Fin 4} {i : Nat} (q : Nat) (hdg : decode cc pc = .ok (.aload_n k, 1)) (hi : (k : Nat) = i) (hq : L[q]? = some (i, .null)) (kk : J K M (pc + 1) L (.null :: st)) : J K M pc L st := by
  obtain ⟨p, l', e, R', s, m, args, below, meth, c, Q, G', n0', nL', cells, slots⟩ := K
  obtain ⟨rfl, rfl, rfl, rfl, rfl, hx, hb, hown, hts, hK, hml, hSt, hce, hsl⟩ := C
  intro H locs ls hP hS hl
  exact lv_aload_nN hx hb hdg hi (lv_at hl q hq) (kk H locs ls hP hS hl)
theorem j_aloadN (C : Ok K l R cc own G n0 nL) {i : Nat} (q : Nat) (hdg : decode cc pc = .ok (.aload i, 2)) (hq : L[q]? = some (i, .null)) (kk : J K M (pc + 2) L (.null :: st)) : J K M pc L st := by
  obtain ⟨p, l', e, R', s, m, args, below, meth, c, Q, G', n0', nL', cells, slots⟩ := K
  obtain ⟨rfl, rfl, rfl, rfl, rfl, hx, hb, hown, hts, hK, hml, hSt, hce, hsl⟩ := C
  intro H locs ls hP hS hl
  exact lv_aloadN hx hb hdg (lv_at hl q hq) (kk H locs ls hP hS hl)
theorem j_aloadO_n (C : Ok K l R cc own G n0 nL) {k : Fin 4} {i : Nat} {r : Option Nat} (q : Nat) (hdg : decode cc pc = .ok (.aload_n k, 1)) (hi : (k : Nat) = i) (hq : L[q]? = some (i, va_rf r)) (kk : J K M (pc + 1) L (va_rf r :: st)) : J K M pc L st := by
  cases r with
  | none => exact j_aloadN_n C q hdg hi hq kk
  | some a => exact j_aload_n C q hdg hi hq kk
theorem j_aloadO (C : Ok K l R cc own G n0 nL) {i : Nat} {r : Option Nat} (q : Nat) (hdg : decode cc pc = .ok (.aload i, 2)) (hq : L[q]? = some (i, va_rf r)) (kk : J K M (pc + 2) L (va_rf r :: st)) : J K M pc L st := by
  cases r with
  | none => exact j_aloadN C q hdg hq kk
  | some a => exact j_aload C q hdg hq kk
theorem j_astoreN_n (C : Ok K l R cc own G n0 nL) {k : Fin 4} {i : Nat} (L' : List (Nat × Value)) (hdg : decode cc pc = .ok (.astore_n k, 1)) (hi : (k : Nat) = i) (hn : i < nL) (hL : (i, Value.null) :: L.filter (fun q => !(q.1 == i) && !(q.1 + 1 == i && q.2.category == 2)) = L') (kk : J K M (pc + 1) L' st) : J K M pc L (.null :: st) := by
  obtain ⟨p, l', e, R', s, m, args, below, meth, c, Q, G', n0', nL', cells, slots⟩ := K
  obtain ⟨rfl, rfl, rfl, rfl, rfl, hx, hb, hown, hts, hK, hml, hSt, hce, hsl⟩ := C
  intro H locs ls hP hS hl
  exact lv_astore_nN hx hb hdg hi hl hn hL (fun ls' hl' => kk H locs ls' hP hS hl')
theorem j_astoreN (C : Ok K l R cc own G n0 nL) {i : Nat} (L' : List (Nat × Value)) (hdg : decode cc pc = .ok (.astore i, 2)) (hn : i < nL) (hL : (i, Value.null) :: L.filter (fun q => !(q.1 == i) && !(q.1 + 1 == i && q.2.category == 2)) = L') (kk : J K M (pc + 2) L' st) : J K M pc L (.null :: st) := by
  obtain ⟨p, l', e, R', s, m, args, below, meth, c, Q, G', n0', nL', cells, slots⟩ := K
  obtain ⟨rfl, rfl, rfl, rfl, rfl, hx, hb, hown, hts, hK, hml, hSt, hce, hsl⟩ := C
  intro H locs ls hP hS hl
  exact lv_astoreN hx hb hdg hl hn hL (fun ls' hl' => kk H locs ls' hP hS hl')
theorem j_ifnullT (C : Ok K l R cc own G n0 nL) {off : Int} (tgt : Nat) (hdg : decode cc pc = .ok (.ifnull off, 3)) (ht : (pc : Int) + off = (tgt : Int)) (kk : J K M tgt L st) : J K M pc L (.null :: st) := by
  obtain ⟨p, l', e, R', s, m, args, below, meth, c, Q, G', n0', nL', cells, slots⟩ := K
  obtain ⟨rfl, rfl, rfl, rfl, rfl, hx, hb, hown, hts, hK, hml, hSt, hce, hsl⟩ := C
  intro H locs ls hP hS hl
  exact lv_ifnullN hx hb hdg ht (kk H locs ls hP hS hl)
theorem j_ifnullF (C : Ok K l R cc own G n0 nL) {off : Int} {x : Nat} (hdg : decode cc pc = .ok (.ifnull off, 3)) (kk : J K M (pc + 3) L st) : J K M pc L (.ref x :: st) := by
  obtain ⟨p, l', e, R', s, m, args, below, meth, c, Q, G', n0', nL', cells, slots⟩ := K
  obtain ⟨rfl, rfl, rfl, rfl, rfl, hx, hb, hown, hts, hK, hml, hSt, hce, hsl⟩ := C
  intro H locs ls hP hS hl
  exact lv_ifnull hx hb hdg (kk H locs ls hP hS hl)
theorem j_ifnonnullT (C : Ok K l R cc own G n0 nL) {off : Int} {x : Nat} (tgt : Nat) (hdg : decode cc pc = .ok (.ifnonnull off, 3)) (ht : (pc : Int) + off = (tgt : Int)) (kk : J K M tgt L st) : J K M pc L (.ref x :: st) := by
  obtain ⟨p, l', e, R', s, m, args, below, meth, c, Q, G', n0', nL', cells, slots⟩ := K
  obtain ⟨rfl, rfl, rfl, rfl, rfl, hx, hb, hown, hts, hK, hml, hSt, hce, hsl⟩ := C
  intro H locs ls hP hS hl
  exact lv_ifnonnull hx hb hdg ht (kk H locs ls hP hS hl)
theorem j_ifnonnullF (C : Ok K l R cc own G n0 nL) {off : Int} (hdg : decode cc pc = .ok (.ifnonnull off, 3)) (kk : J K M (pc + 3) L st) : J K M pc L (.null :: st) := by
  obtain ⟨p, l', e, R', s, m, args, below, meth, c, Q, G', n0', nL', cells, slots⟩ := K
  obtain ⟨rfl, rfl, rfl, rfl, rfl, hx, hb, hown, hts, hK, hml, hSt, hce, hsl⟩ := C
  intro H locs ls hP hS hl
  exact lv_ifnonnullN hx hb hdg (kk H locs ls hP hS hl)
theorem j_getsLOWEST (C : Ok K l R cc own G n0 nL) (hlk : Cond.fieldLink own index "OvenDays$DayPlan" "LOWEST" "[I" ∈ TB) (hdg : decode cc pc = .ok (.getstatic index, 3)) (kk : ∀ a, SA K 3 sLOWEST a → J K M (pc + 3) L (.ref a :: st)) : J K M pc L st := by
  obtain ⟨p, l', e, R', s, m, args, below, meth, c, Q, G', n0', nL', cells, slots⟩ := K
  obtain ⟨rfl, rfl, rfl, rfl, rfl, hx, hb, hown, hts, hK, hml, hSt, hce, hsl⟩ := C
  intro H locs ls hP hS hl
  obtain ⟨a, h1, h2⟩ := hSt.fx.1
  exact va_gets hx hb h1 hS hown (hts _ hlk) (fun _ h => h) hdg (kk a h2 H locs ls hP hS hl)
theorem j_getsGREATEST (C : Ok K l R cc own G n0 nL) (hlk : Cond.fieldLink own index "OvenDays$DayPlan" "GREATEST" "[I" ∈ TB) (hdg : decode cc pc = .ok (.getstatic index, 3)) (kk : ∀ a, SA K 3 sGREATEST a → J K M (pc + 3) L (.ref a :: st)) : J K M pc L st := by
  obtain ⟨p, l', e, R', s, m, args, below, meth, c, Q, G', n0', nL', cells, slots⟩ := K
  obtain ⟨rfl, rfl, rfl, rfl, rfl, hx, hb, hown, hts, hK, hml, hSt, hce, hsl⟩ := C
  intro H locs ls hP hS hl
  obtain ⟨a, h1, h2⟩ := hSt.fx.2.1
  exact va_gets hx hb h1 hS hown (hts _ hlk) (fun _ h => h) hdg (kk a h2 H locs ls hP hS hl)
theorem j_getsTICKS (C : Ok K l R cc own G n0 nL) (hlk : Cond.fieldLink own index "OvenDays$DayPlan" "TICKS" "[I" ∈ TB) (hdg : decode cc pc = .ok (.getstatic index, 3)) (kk : ∀ a, SA K 3 sTICKS a → J K M (pc + 3) L (.ref a :: st)) : J K M pc L st := by
  obtain ⟨p, l', e, R', s, m, args, below, meth, c, Q, G', n0', nL', cells, slots⟩ := K
  obtain ⟨rfl, rfl, rfl, rfl, rfl, hx, hb, hown, hts, hK, hml, hSt, hce, hsl⟩ := C
  intro H locs ls hP hS hl
  obtain ⟨a, h1, h2⟩ := hSt.fx.2.2.1
  exact va_gets hx hb h1 hS hown (hts _ hlk) (fun _ h => h) hdg (kk a h2 H locs ls hP hS hl)
theorem j_sald (C : Ok K l R cc own G n0 nL) {a N : Nat} {f : Nat → Int32} {i v : Int32} (hA : SA K N f a) (hin : vp_in i N) (hv : f i.toNatClampNeg = v) (hdg : decode cc pc = .ok (.iaload, 1)) (kk : J K M (pc + 1) L (.int v :: st)) : J K M pc L (.int i :: .ref a :: st) := by
  obtain ⟨p, l', e, R', s, m, args, below, meth, c, Q, G', n0', nL', cells, slots⟩ := K
  obtain ⟨rfl, rfl, rfl, rfl, rfl, hx, hb, hown, hts, hK, hml, hSt, hce, hsl⟩ := C
  intro H locs ls hP hS hl
  exact va_ti hx hb hA hS hin (by rw [hv]) hdg (kk H locs ls hP hS hl)
theorem j_aldV (C : Ok K l R cc own G n0 nL) {i : Int32} (ht : lay[t]? = some (tK 13)) (hin : ¬ (i < 0 ∨ 4 ≤ i.toNatClampNeg)) (hdg : decode cc pc = .ok (.aaload, 1)) (kk : J K M (pc + 1) L (.ref (n0 + (t + (1 + 32 * i.toNatClampNeg))) :: st)) : J K M pc L (.int i :: .ref (n0 + t) :: st) := by
  obtain ⟨p, l', e, R', s, m, args, below, meth, c, Q, G', n0', nL', cells, slots⟩ := K
  obtain ⟨rfl, rfl, rfl, rfl, rfl, hx, hb, hown, hts, hK, hml, hSt, hce, hsl⟩ := C
  intro H locs ls hP hS hl
  exact va_aldq (f := fun i => some (n0' + (t + (1 + 32 * i)))) hx hb hK hP t 4 (by rw [wld_at ht, ent_K]; rfl) rfl hin hdg (kk H locs ls hP hS hl)
end JM
/-- the plan's loads are where they are -/
def fX3_loads (_ : Mem) : Option Unit := some ()
def rX3_loads : Room := { frames := 0, cells := 0, slots := 0, locals := 0 }
set_option maxRecDepth 100000 in
set_option maxHeartbeats 4000000 in
theorem c_X3_loads (l : Launch) (G : Gx) (n0 : Nat) {M : Mem} {u : Unit} (_ : fX3_loads M = some u) : Ct l yX3_loads cX3_loads 1 (some (.object "OvenDays$Loads")) rX3_loads G n0 [.ref (n0 + 33)] M (some (.ref (n0 + 37))) M := by
  refine ct_ref (r := some (n0 + 37)) (cc := cX3_loads) (maxL := 1) (Or.inl ⟨_, rfl⟩) rfl (Nat.le_of_ble_eq_true rfl) ?_
  intro K C hret
  have C : Ok K l rX3_loads cX3_loads RX3 G n0 1 := C
  show J K M 0 [(0, .ref (n0 + 33))] []
  refine j_aload_n C 0 dX3_loads_0 rfl rfl ?_
  refine g_X3_loads C tw1_158 lc33 37 rfl dX3_loads_1 ?_
  exact hret _ _ dX3_loads_4
