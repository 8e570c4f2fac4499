/-! THE MEMORY: all objects that the law makes lie one behind the other; a place is a number from 0, a slot a number within it -/
abbrev Mem : Type := (Nat → Nat → Int32) × (Nat → Nat → Int64)
def mput (M : Mem) (t k : Nat) (x : Int32) : Mem := (fun a b => if a = t ∧ b = k then x else M.1 a b, M.2)
def mputL (M : Mem) (t k : Nat) (x : Int64) : Mem := (M.1, fun a b => if a = t ∧ b = k then x else M.2 a b)
theorem mput_row (M : Mem) (t k : Nat) (x : Int32) : (mput M t k x).1 t = upd (M.1 t) k x := by
  funext b; by_cases h : b = k <;> simp [mput, upd, h]
theorem mput_ne (M : Mem) {t k a : Nat} (x : Int32) (h : a ≠ t) : (mput M t k x).1 a = M.1 a := by
  funext b; simp [mput, h]
theorem mputL_row (M : Mem) (t k : Nat) (x : Int64) : (mputL M t k x).2 t = vp_updL (M.2 t) k x := by
  funext b; by_cases h : b = k <;> simp [mputL, vp_updL, h]
theorem mputL_ne (M : Mem) {t k a : Nat} (x : Int64) (h : a ≠ t) : (mputL M t k x).2 a = M.2 a := by
  funext b; simp [mputL, h]
/-- the kinds: an int array of n places, a table of r rows, its outer array of w columns, the rest -/
abbrev tI (n : Nat) : Nat := 4 * n + 1
abbrev tT (r : Nat) : Nat := 4 * r + 2
abbrev tC (w : Nat) : Nat := 4 * w + 3
abbrev tK (k : Nat) : Nat := 4 * k
abbrev Gx : Type := va_G × (Nat → ClassId) × (Nat × Nat × (Nat → Int32))
/-- a word: -1 is null -/
def wo (x : Int32) : Option Nat := if x < 0 then none else some x.toNatClampNeg
def entK (G : Gx) (n0 k t : Nat) (f : Nat → Int32) (g : Nat → Int64) : va_E := match k with
  | 1 => .inr (0, [.ref (n0 + (t + 1)), .int (f 1)])
  | 2 => .inr (1, [.ref (n0 + (t + 1)), .ref (n0 + (t + 2)), .null, .int (f 3), .int (f 4), .int (f 5)])
  | 3 => .inr (2, [.ref (n0 + (t + 1)), .ref (n0 + (t + 2)), .ref (n0 + (t + 3)), .ref (n0 + (t + 4)), .int (f 4), .int (f 5), .int (f 6)])
  | 4 => .inr (3, [.ref (n0 + (t + 1)), .int (f 1)])
  | 5 => .inr (4, [.ref (n0 + (t + 1)), .int (f 1)])
  | 6 => .inr (5, [.ref (n0 + (t + 1)), .int (f 1), .int (f 2)])
  | 8 => .inr (7, [.ref (n0 + (t + 1)), .int (f 1), .int (f 2)])
  | 9 => .inr (8, [.ref (n0 + (t + 1)), .ref (n0 + (t + 8)), .ref (n0 + (t + 14)), .ref (n0 + (t + 22)), .int (f 4), .int (f 5), .int (f 6), .int (f 7)])
  | 11 => .inr (9, [.ref (n0 + (t + 1)), .ref (n0 + (t + 33)), .ref (n0 + (t + 45)), .ref (n0 + (t + 175)), .int (f 4)])
  | 12 => .inr (10, [.ref (n0 + (t + 1)), .ref (n0 + (t + 2)), .ref (n0 + (t + 3)), .int (f 3), .int (f 4), .ref (n0 + (t + 4)), .int (f 6), .int (f 7), .ref (n0 + (t + 5)), .int (f 9), .int (f 10), .int (f 11), .int (f 12), .ref (n0 + (t + 6)), .long (g 14)])
  | 13 => .inl (G.2.1 4, 4, .inr (.inr (.inr (.inr (fun i => some (n0 + (t + (1 + 32 * i))))))))
  | 14 => .inl (G.2.1 1, 150, .inl f)
  | _ => .inl (G.2.1 2, 1, .inr (.inl g))
def ent (G : Gx) (n0 tag t : Nat) (f : Nat → Int32) (g : Nat → Int64) : va_E := match tag % 4 with
  | 0 => entK G n0 (tag / 4) t f g
  | 1 => .inl (G.2.1 0, tag / 4, .inl f)
  | 2 => .inr (6, [.ref (n0 + (t + 1)), .int (nI (tag / 4))])
  | _ => .inl (G.2.1 3, tag / 4, .inr (.inr (.inr (.inr (fun i => some (n0 + (t + (1 + i))))))))
theorem ent_I (G : Gx) (n0 n t : Nat) (f : Nat → Int32) (g : Nat → Int64) : ent G n0 (tI n) t f g = .inl (G.2.1 0, n, .inl f) := by
  have h1 : (4 * n + 1) % 4 = 1 := by omega
  have h2 : (4 * n + 1) / 4 = n := by omega
  simp only [ent, tI, h1, h2]
theorem ent_T (G : Gx) (n0 r t : Nat) (f : Nat → Int32) (g : Nat → Int64) : ent G n0 (tT r) t f g = .inr (6, [.ref (n0 + (t + 1)), .int (nI r)]) := by
  have h1 : (4 * r + 2) % 4 = 2 := by omega
  have h2 : (4 * r + 2) / 4 = r := by omega
  simp only [ent, tT, h1, h2]
theorem ent_C (G : Gx) (n0 w t : Nat) (f : Nat → Int32) (g : Nat → Int64) : ent G n0 (tC w) t f g = .inl (G.2.1 3, w, .inr (.inr (.inr (.inr (fun i => some (n0 + (t + (1 + i)))))))) := by
  have h1 : (4 * w + 3) % 4 = 3 := by omega
  have h2 : (4 * w + 3) / 4 = w := by omega
  simp only [ent, tC, h1, h2]
theorem ent_K (G : Gx) (n0 k t : Nat) (f : Nat → Int32) (g : Nat → Int64) : ent G n0 (tK k) t f g = entK G n0 k t f g := by
  have h1 : (4 * k) % 4 = 0 := by omega
  have h2 : (4 * k) / 4 = k := by omega
  simp only [ent, tK, h1, h2]
def lay : List Nat := [44, 36, 16, 34, 19, 33, 33, 33, 33, 4, 82, 15, 81, 81, 81, 20, 82, 23, 81, 81, 81, 81, 81, 24, 802, 31, 801, 801, 801, 801, 801, 801, 801, 12, 81, 81, 13, 20, 82, 23, 81, 81, 81, 81, 81, 32, 52, 36, 16, 34, 19, 33, 33, 33, 33, 4, 82, 15, 81, 81, 81, 20, 82, 23, 81, 81, 81, 81, 81, 24, 802, 31, 801, 801, 801, 801, 801, 801, 801, 36, 16, 34, 19, 33, 33, 33, 33, 4, 82, 15, 81, 81, 81, 20, 82, 23, 81, 81, 81, 81, 81, 24, 802, 31, 801, 801, 801, 801, 801, 801, 801, 36, 16, 34, 19, 33, 33, 33, 33, 4, 82, 15, 81, 81, 81, 20, 82, 23, 81, 81, 81, 81, 81, 24, 802, 31, 801, 801, 801, 801, 801, 801, 801, 36, 16, 34, 19, 33, 33, 33, 33, 4, 82, 15, 81, 81, 81, 20, 82, 23, 81, 81, 81, 81, 81, 24, 802, 31, 801, 801, 801, 801, 801, 801, 801, 8, 56, 13]
def wld (G : Gx) (n0 : Nat) (M : Mem) : va_W := (List.range 178).map (fun t => (n0 + t, ent G n0 (lay.getD t 0) t (M.1 t) (M.2 t)))
theorem lay_len : lay.length = 178 := by decide +kernel
theorem lay_lt {t tag : Nat} (h : lay[t]? = some tag) : t < 178 := by
  have h1 := (List.getElem?_eq_some_iff.mp h).1
  rw [lay_len] at h1; exact h1
theorem wld_at {G : Gx} {n0 : Nat} {M : Mem} {t tag : Nat} (h : lay[t]? = some tag) : (wld G n0 M)[t]? = some (n0 + t, ent G n0 tag t (M.1 t) (M.2 t)) := by
  have h1 := lay_lt h
  have h2 : lay.getD t 0 = tag := by rw [List.getD_eq_getElem?_getD, h]; rfl
  simp only [wld, List.getElem?_map, List.getElem?_range h1, Option.map_some, h2]
theorem wld_len (G : Gx) (n0 : Nat) (M : Mem) : (wld G n0 M).length = 178 := by simp [wld]
theorem wld_get {G : Gx} {n0 : Nat} {M : Mem} {t : Nat} (h : t < 178) : (wld G n0 M)[t]? = some (n0 + t, ent G n0 (lay.getD t 0) t (M.1 t) (M.2 t)) := by
  simp only [wld, List.getElem?_map, List.getElem?_range h, Option.map_some]
theorem wld_set {G : Gx} {n0 : Nat} {M M' : Mem} {t tag : Nat} {e : va_E} (h : lay[t]? = some tag) (he : ent G n0 tag t (M'.1 t) (M'.2 t) = e) (h1 : ∀ a, a ≠ t → M'.1 a = M.1 a) (h2 : ∀ a, a ≠ t → M'.2 a = M.2 a) : (wld G n0 M).set t (n0 + t, e) = wld G n0 M' := by
  apply List.ext_getElem?
  intro i
  have hl := lay_lt h
  by_cases hi : i = t
  · subst hi
    rw [List.getElem?_set_self (by rw [wld_len]; exact hl), wld_at h, he]
  · rw [List.getElem?_set_ne (Ne.symm hi)]
    by_cases h3 : i < 178
    · rw [wld_get h3, wld_get h3, h1 i hi, h2 i hi]
    · rw [List.getElem?_eq_none (by rw [wld_len]; omega), List.getElem?_eq_none (by rw [wld_len]; omega)]
theorem wld_D (G : Gx) (n0 : Nat) (M : Mem) : va_D (fun q => n0 ≤ q) (wld G n0 M) := by
  have key : ∀ (k : Nat) (q : Nat × va_E), (wld G n0 M)[k]? = some q → q.1 = n0 + k := by
    intro k q hk
    have h1 : k < 178 := by have := (List.getElem?_eq_some_iff.mp hk).1; rwa [wld_len] at this
    rw [wld_get h1] at hk
    cases hk
    rfl
  refine ⟨fun i j p q hi hj hpq => ?_, fun k q hk => ?_⟩
  · rw [key i p hi, key j q hj] at hpq; omega
  · rw [key k q hk]; exact Nat.le_add_right _ _
/-- the arrays' kinds -/
def tyG (G : Gx) : List (ClassId × FieldType) := [(G.2.1 0, .int), (G.2.1 1, .byte), (G.2.1 0, .int), (G.2.1 3, .array .int), (G.2.1 4, .object "OvenDays$Village")]
/-- links among nest mates -/
def nxM : List (String × Nat × MethodName) := [("OvenDays", 9, ⟨"OvenDays$Village", "<init>", "()V"⟩), ("OvenDays$Village", 11, ⟨"OvenDays$Households", "<init>", "()V"⟩), ("OvenDays$Village", 20, ⟨"OvenDays$Batches", "<init>", "()V"⟩), ("OvenDays$Village", 27, ⟨"OvenDays$Loads", "<init>", "()V"⟩), ("OvenDays$Village", 34, ⟨"OvenDays$Loaves", "<init>", "()V"⟩), ("OvenDays", 18, ⟨"OvenDays$DayPlan", "<init>", "()V"⟩), ("OvenDays$DayPlan", 23, ⟨"OvenDays$Loads", "<init>", "()V"⟩), ("OvenDays$UndoStack", 15, ⟨"OvenDays$Village", "<init>", "()V"⟩), ("OvenDays", 32, ⟨"OvenDays$CommandText", "<init>", "()V"⟩), ("OvenDays$Households", 50, ⟨"OvenDays", "contains", "(II)Z"⟩), ("OvenDays$Village", 70, ⟨"OvenDays", "whyNotWithin", "(III)I"⟩), ("OvenDays$Village", 82, ⟨"OvenDays", "whyNotBelow", "(II)I"⟩), ("OvenDays$Loaves", 86, ⟨"OvenDays", "contains", "(II)Z"⟩)]
def nxF : List (String × Nat × String × String × String) := [("OvenDays", 53, "OvenDays$Village", "households", "LOvenDays$Households;"), ("OvenDays", 79, "OvenDays$Village", "batches", "LOvenDays$Batches;"), ("OvenDays", 158, "OvenDays$Village", "loads", "LOvenDays$Loads;"), ("OvenDays", 107, "OvenDays$Village", "loaves", "LOvenDays$Loaves;"), ("OvenDays", 172, "OvenDays$Village", "heat", "I"), ("OvenDays", 194, "OvenDays$Village", "s", "I"), ("OvenDays", 169, "OvenDays$Village", "days", "I"), ("OvenDays", 179, "OvenDays$Village", "dough", "I")]
/-- texts of the pool -/
def nxS : List (String × Nat × String) := [("OvenDays", 283, "there is none with this number"), ("OvenDays", 290, "a value is out of its range"), ("OvenDays", 295, "this cannot be done now")]
def nxC : List String := ["java/lang/IndexOutOfBoundsException", "java/lang/IllegalArgumentException", "java/lang/IllegalStateException"]
def nxD : List MethodName := [⟨"java/lang/RuntimeException", "<init>", "(Ljava/lang/String;)V"⟩, ⟨"java/lang/Exception", "<init>", "(Ljava/lang/String;)V"⟩, ⟨"java/lang/Throwable", "<init>", "(Ljava/lang/String;)V"⟩]
def Nx (U : State) : Prop := (∀ q ∈ nxM, va_Nw (.methodLinkNest q.1 q.2.1 q.2.2 "OvenDays") U) ∧ (∀ q ∈ nxF, va_Nw (.fieldLinkNest q.1 q.2.1 q.2.2.1 q.2.2.2.1 q.2.2.2.2 "OvenDays") U) ∧ (∀ q ∈ nxS, ∃ a, vk_R q.1 q.2.1 q.2.2 a U) ∧ (∀ q ∈ nxC, va_Nw (.castable q q) U) ∧ (∀ q ∈ nxC, ∀ r ∈ nxC, q ≠ r → va_Nc q r U) ∧ ∀ q ∈ nxD, va_Nw (.declares q) U
theorem Nx.step {s t : State} (h : Nx s) (hW : s.WarmedH t.vm) : Nx t := ⟨fun q hq => va_Nw.warmM hW (h.1 q hq), fun q hq => va_Nw.warmF hW (h.2.1 q hq), fun q hq => by
  obtain ⟨a, ha⟩ := h.2.2.1 q hq
  exact ⟨a, vk_R.warm hW ha⟩, fun q hq => va_Nw.warmC hW (h.2.2.2.1 q hq), fun q hq r hr hqr => (h.2.2.2.2.1 q hq r hr hqr).moved hW.alike, fun q hq => va_Nw.warmD hW (h.2.2.2.2.2 q hq)⟩
theorem Nx.same {s t : State} (h : Nx s) (hv : s.vm = t.vm) : Nx t := ⟨fun q hq => va_Nw.same rfl hv (h.1 q hq), fun q hq => va_Nw.same rfl hv (h.2.1 q hq), fun q hq => by
  obtain ⟨a, ha⟩ := h.2.2.1 q hq
  exact ⟨a, vk_R.same hv.symm ha⟩, fun q hq => va_Nw.same rfl hv (h.2.2.2.1 q hq), fun q hq r hr hqr => (h.2.2.2.2.1 q hq r hr hqr).moved (by rw [hv]; exact Vm.Alike.refl _), fun q hq => va_Nw.same rfl hv (h.2.2.2.2.2 q hq)⟩
/-- a static array of whole numbers -/
def Arr (n0 : Nat) (D nm : String) (N : Nat) (f : Nat → Int32) (U : State) (H : Heap) : Prop := ∃ t : Nat, va_Z D nm "[I" (.ref t) (fun q => n0 ≤ q) U H ∧ va_T .int t N (fun j => .int (f j)) (fun q => n0 ≤ q) U H
theorem Arr.moved {n0 : Nat} {D nm : String} {N : Nat} {f : Nat → Int32} {u U : State} {H : Heap} (hvm : u.vm.Alike U.vm) (h : Arr n0 D nm N f u H) : Arr n0 D nm N f U H := by
  obtain ⟨t, h1, h2⟩ := h
  exact ⟨t, h1.moved hvm, h2.moved hvm⟩
theorem Arr.kept {n0 : Nat} {D nm : String} {N : Nat} {f : Nat → Int32} {U : State} {H H1 : Heap} (h : Arr n0 D nm N f U H) (hq : ∀ a : Nat, a < H.size → ¬ n0 ≤ a → H1[a]? = H[a]?) : Arr n0 D nm N f U H1 := by
  obtain ⟨t, h1, h2⟩ := h
  exact ⟨t, h1.kept hq, h2.kept hq⟩
def sLOWEST : Nat → Int32 := fun i => if i = 0 then 260 else if i = 1 then 180 else 90
def sGREATEST : Nat → Int32 := fun i => if i = 0 then 400 else if i = 1 then 300 else 200
def sTICKS : Nat → Int32 := fun i => if i = 0 then 2 else if i = 1 then 5 else 8
def Fx (n0 : Nat) (U : State) (H : Heap) : Prop := Arr n0 "OvenDays$DayPlan" "LOWEST" 3 sLOWEST U H ∧ Arr n0 "OvenDays$DayPlan" "GREATEST" 3 sGREATEST U H ∧ Arr n0 "OvenDays$DayPlan" "TICKS" 3 sTICKS U H ∧ vx_Zq Bundle.tN "UNASSIGNED_STACK" Bundle.steD (fun q => n0 ≤ q) U H ∧ vx_Zq Bundle.tN "SUPPRESSED_SENTINEL" Bundle.listD (fun q => n0 ≤ q) U H
theorem Fx.moved {n0 : Nat} {u U : State} {H : Heap} (hvm : u.vm.Alike U.vm) (h : Fx n0 u H) : Fx n0 U H := by
  obtain ⟨h1, h2, h3, h4, h5⟩ := h
  exact ⟨h1.moved hvm, h2.moved hvm, h3.moved hvm, h4.moved hvm, h5.moved hvm⟩
theorem Fx.kept {n0 : Nat} {U : State} {H H1 : Heap} (h : Fx n0 U H) (hq : ∀ a : Nat, a < H.size → ¬ n0 ≤ a → H1[a]? = H[a]?) : Fx n0 U H1 := by
  obtain ⟨h1, h2, h3, h4, h5⟩ := h
  exact ⟨h1.kept hq, h2.kept hq, h3.kept hq, h4.kept hq, h5.kept hq⟩
/-- the law's start -/
def Ini (G : Gx) (n0 b : Nat) (s0 : State) : Prop := s0.heap.size = n0 ∧ (Jvm.Cond.and given_1 narrow_1).before #[Value.ref b] s0 = true ∧ (∀ w ∈ lw_tbl, w.before #[Value.ref b] s0 = true) ∧ Fx n0 s0 s0.heap ∧ b = G.2.2.1 ∧ va_X G.2.2.1 G.2.2.2.1 G.2.2.2.2 s0 s0.heap ∧ G.2.2.1 < n0
/-- what the start gave still holds -/
def St (G : Gx) (n0 : Nat) (U : State) : Prop := (∃ (s0 : State) (b : Nat), Ini G n0 b s0 ∧ s0.vm.Alike U.vm ∧ va_F (fun q => n0 ≤ q) s0 U) ∧ Nx U
theorem va_F.trans {A : Nat → Prop} {a b c : State} (h1 : va_F A a b) (h2 : va_F A b c) : va_F A a c :=
  ⟨Nat.le_trans h1.1 h2.1, fun q hq hA => (h2.2 q (Nat.lt_of_lt_of_le hq h1.1) hA).trans (h1.2 q hq hA)⟩
theorem St.step {G : Gx} {n0 : Nat} {s t : State} (h : St G n0 s) (hW : s.WarmedH t.vm) (hF : va_F (fun q => n0 ≤ q) s t) : St G n0 t := by
  obtain ⟨⟨s0, b, h1, h2, h3⟩, h4⟩ := h
  exact ⟨⟨s0, b, h1, h2.trans hW.alike, h3.trans hF⟩, h4.step hW⟩
theorem St.same {G : Gx} {n0 : Nat} {s t : State} (h : St G n0 s) (hv : s.vm = t.vm) (hh : t.heap = s.heap) : St G n0 t := by
  obtain ⟨⟨s0, b, h1, h2, h3⟩, h4⟩ := h
  exact ⟨⟨s0, b, h1, by rw [← hv]; exact h2, by unfold va_F at h3 ⊢; rw [hh]; exact h3⟩, h4.same hv⟩
theorem St.fx {G : Gx} {n0 : Nat} {s : State} (h : St G n0 s) : Fx n0 s s.heap := by
  obtain ⟨⟨s0, b, h1, h2, h3⟩, -⟩ := h
  exact (h1.2.2.2.1.moved h2).kept (fun a ha hn => h3.2 a ha hn)
theorem St.sc {G : Gx} {n0 : Nat} {s : State} (h : St G n0 s) : va_X G.2.2.1 G.2.2.2.1 G.2.2.2.2 s s.heap ∧ G.2.2.1 < s.heap.size ∧ G.2.2.1 < n0 := by
  obtain ⟨⟨s0, b, h1, h2, h3⟩, -⟩ := h
  obtain ⟨e1, -, -, -, -, e5, e6⟩ := h1
  have h4 : G.2.2.1 < s0.heap.size := by rw [e1]; exact e6
  exact ⟨(e5.moved h2).kept (h3.2 _ h4 (Nat.not_le.mpr e6)), Nat.lt_of_lt_of_le h4 h3.1, e6⟩
/-- a state that holds the memory -/
def Rl (G : Gx) (n0 : Nat) (M : Mem) (U : State) : Prop := va_P G.1 vwCl (wld G n0 M) U.heap ∧ va_K G.1 vwCl (tyG G) U ∧ St G n0 U
def Kx : Type := Program × Launch × Env × Room × State × MethodId × Array Value × List Frame × Method × Code × (State → Prop) × Gx × Nat × Nat × Nat × Nat
/-- the walk within a method: locals L, stack st, memory M -/
def J (K : Kx) (M : Mem) (pc : Nat) (L : List (Nat × Value)) (st : List Value) : Prop := match K with
  | (p, l, e, R, s, m, args, below, meth, c, Q, G, n0, nL, cells, slots) => ∀ (H : Heap) (locs : List Loc) (ls : Array Slot), va_P G.1 vwCl (wld G n0 M) H → va_S (fun q => n0 ≤ q) s.heap H locs → lv_has ls nL L → W p l e R s m args below meth c H locs cells slots Q (F0 m pc ls st)
def Ok (K : Kx) (l0 : Launch) (R0 : Room) (cc : ByteArray) (own : String) (G0 : Gx) (n1 nL0 : Nat) : Prop := match K with
  | (p, l, e, R, s, m, args, below, meth, c, Q, G, n0, nL, cells, slots) => l = l0 ∧ R = R0 ∧ G = G0 ∧ n0 = n1 ∧ nL = nL0 ∧ p.tables.exec = Jvm.exec ∧ c.code = cc ∧ s.vm.findClass own = some m.cls ∧ (∀ w ∈ TB, w.before args s = true) ∧ va_K G.1 vwCl (tyG G) s ∧ c.maxLocals = nL ∧ St G n0 s ∧ cells ≤ R.cells ∧ slots ≤ R.slots
