def FUEL : Nat := 100000
def ald (f : Nat → Int32) (n : Nat) (i : Int32) : Option Int32 := if i < 0 ∨ n ≤ i.toNatClampNeg then none else some (f i.toNatClampNeg)
def ast (M : Mem) (t n : Nat) (i x : Int32) : Option Mem := if i < 0 ∨ n ≤ i.toNatClampNeg then none else some (mput M t i.toNatClampNeg x)
def astB (M : Mem) (t n : Nat) (i x : Int32) : Option Mem := if i < 0 ∨ n ≤ i.toNatClampNeg then none else some (mput M t i.toNatClampNeg x.toInt8.toInt32)
def pf (M : Mem) (t k : Nat) (x : Int32) : Option Mem := some (mput M t k x)
def pfL (M : Mem) (t k : Nat) (x : Int64) : Option Mem := some (mputL M t k x)
def mcpy (M : Mem) (a d : Nat) (sp dp n : Nat) : Mem := (fun q => if q = d then va_cpy (M.1 a) (M.1 d) sp dp n else M.1 q, M.2)
def acp (M : Mem) (a na d nd : Nat) (sp dp n : Int32) : Option Mem := if sp < 0 ∨ dp < 0 ∨ n < 0 ∨ na < sp.toNatClampNeg + n.toNatClampNeg ∨ nd < dp.toNatClampNeg + n.toNatClampNeg then none else some (mcpy M a d sp.toNatClampNeg dp.toNatClampNeg n.toNatClampNeg)
def s0 {ρ τ : Type} (o : ρ ⊕ τ) (f : τ → Option ρ) : Option ρ := match o with | .inl r => some r | .inr v => f v
def sB {ρ τ τ2 : Type} (o : ρ ⊕ τ) (f : τ → Option (ρ ⊕ τ2)) : Option (ρ ⊕ τ2) := match o with | .inl r => some (.inl r) | .inr v => f v
theorem s0r {ρ τ : Type} {v : τ} {f : τ → Option ρ} {x : Option ρ} (h : s0 (.inr v) f = x) : f v = x := h
theorem sBr {ρ τ τ2 : Type} {v : τ} {f : τ → Option (ρ ⊕ τ2)} {x : Option (ρ ⊕ τ2)} (h : sB (.inr v) f = x) : f v = x := h
theorem bd {α β : Type} {o : Option α} {f : α → Option β} {r : β} (h : o.bind f = some r) : ∃ a, o = some a ∧ f a = some r := Option.bind_eq_some_iff.mp h
theorem gd {c : Prop} [Decidable c] {β : Type} {o : Option β} {r : β} (h : (if c then none else o) = some r) : ¬ c ∧ o = some r := by
  by_cases hc : c
  · rw [if_pos hc] at h; cases h
  · rw [if_neg hc] at h; exact ⟨hc, h⟩
theorem ip {c : Prop} [Decidable c] {β : Type} {a b : Option β} {r : β} (hc : c) (h : (if c then a else b) = some r) : a = some r := by rwa [if_pos hc] at h
theorem ine {c : Prop} [Decidable c] {β : Type} {a b : Option β} {r : β} (hc : ¬ c) (h : (if c then a else b) = some r) : b = some r := by rwa [if_neg hc] at h
theorem ald_some {f : Nat → Int32} {n : Nat} {i v : Int32} (h : ald f n i = some v) : vp_in i n ∧ f i.toNatClampNeg = v := by
  obtain ⟨h1, h2⟩ := gd h
  exact ⟨h1, Option.some.inj h2⟩
theorem ast_some {M M' : Mem} {t n : Nat} {i x : Int32} (h : ast M t n i x = some M') : vp_in i n ∧ M' = mput M t i.toNatClampNeg x := by
  obtain ⟨h1, h2⟩ := gd h
  exact ⟨h1, (Option.some.inj h2).symm⟩
theorem astB_some {M M' : Mem} {t n : Nat} {i x : Int32} (h : astB M t n i x = some M') : vp_in i n ∧ M' = mput M t i.toNatClampNeg (vp_nar .byte x) := by
  obtain ⟨h1, h2⟩ := gd h
  exact ⟨h1, by rw [vp_nar_byte]; exact (Option.some.inj h2).symm⟩
theorem acp_some {M M' : Mem} {a na d nd : Nat} {sp dp n : Int32} (h : acp M a na d nd sp dp n = some M') : (¬ sp < 0 ∧ ¬ dp < 0 ∧ ¬ n < 0 ∧ sp.toNatClampNeg + n.toNatClampNeg ≤ na ∧ dp.toNatClampNeg + n.toNatClampNeg ≤ nd) ∧ M' = mcpy M a d sp.toNatClampNeg dp.toNatClampNeg n.toNatClampNeg := by
  obtain ⟨h1, h2⟩ := gd h
  refine ⟨⟨fun h => h1 (Or.inl h), fun h => h1 (Or.inr (Or.inl h)), fun h => h1 (Or.inr (Or.inr (Or.inl h))), ?_, ?_⟩, (Option.some.inj h2).symm⟩
  · exact Nat.not_lt.mp fun h => h1 (Or.inr (Or.inr (Or.inr (Or.inl h))))
  · exact Nat.not_lt.mp fun h => h1 (Or.inr (Or.inr (Or.inr (Or.inr h))))
theorem lc_eq {x y : Int64} : lg_cmp x y = 0 ↔ x = y := by
  unfold lg_cmp
  by_cases h1 : y < x
  · rw [if_pos h1]; exact ⟨fun h => absurd h (by decide), fun h => by subst h; exact absurd h1 (Int64.lt_irrefl)⟩
  · rw [if_neg h1]
    by_cases h2 : x = y
    · rw [if_pos h2]; exact ⟨fun _ => h2, fun _ => rfl⟩
    · rw [if_neg h2]; exact ⟨fun h => absurd h (by decide), fun h => absurd h h2⟩
theorem lc_gt {x y : Int64} : 0 < lg_cmp x y ↔ y < x := by
  unfold lg_cmp
  by_cases h1 : y < x
  · rw [if_pos h1]; exact ⟨fun _ => h1, fun _ => by decide⟩
  · rw [if_neg h1]
    by_cases h2 : x = y
    · rw [if_pos h2]; exact ⟨fun h => absurd h (by decide), fun h => absurd h h1⟩
    · rw [if_neg h2]; exact ⟨fun h => absurd h (by decide), fun h => absurd h h1⟩
theorem lc_le {x y : Int64} : lg_cmp x y ≤ 0 ↔ x ≤ y := by
  have h := @lc_gt x y
  rw [← Int64.not_lt, ← Int32.not_lt, h]
theorem lc_lt {x y : Int64} : lg_cmp x y < 0 ↔ x < y := by
  unfold lg_cmp
  by_cases h1 : y < x
  · rw [if_pos h1]; exact ⟨fun h => absurd h (by decide), fun h => absurd h (Int64.lt_asymm h1)⟩
  · rw [if_neg h1]
    by_cases h2 : x = y
    · rw [if_pos h2]; exact ⟨fun h => absurd h (by decide), fun h => by subst h2; exact absurd h (Int64.lt_irrefl)⟩
    · rw [if_neg h2]; exact ⟨fun _ => Int64.lt_of_le_of_ne (Int64.not_lt.mp h1) h2, fun _ => by decide⟩
theorem lc_ge {x y : Int64} : 0 ≤ lg_cmp x y ↔ y ≤ x := by
  have h := @lc_lt x y
  rw [← Int64.not_lt, ← Int32.not_lt, h]
def un2 {α1 α2 β : Type} (f : α1 → α2 → β) (q : α1 × α2) : β := f q.1 q.2
theorem un2e {α1 α2 β : Type} {f : α1 → α2 → β} {a1 : α1} {a2 : α2} {x : β} (h : un2 f (a1, a2) = x) : f a1 a2 = x := h
def un3 {α1 α2 α3 β : Type} (f : α1 → α2 → α3 → β) (q : α1 × α2 × α3) : β := f q.1 q.2.1 q.2.2
theorem un3e {α1 α2 α3 β : Type} {f : α1 → α2 → α3 → β} {a1 : α1} {a2 : α2} {a3 : α3} {x : β} (h : un3 f (a1, a2, a3) = x) : f a1 a2 a3 = x := h
def un4 {α1 α2 α3 α4 β : Type} (f : α1 → α2 → α3 → α4 → β) (q : α1 × α2 × α3 × α4) : β := f q.1 q.2.1 q.2.2.1 q.2.2.2
theorem un4e {α1 α2 α3 α4 β : Type} {f : α1 → α2 → α3 → α4 → β} {a1 : α1} {a2 : α2} {a3 : α3} {a4 : α4} {x : β} (h : un4 f (a1, a2, a3, a4) = x) : f a1 a2 a3 a4 = x := h
def un5 {α1 α2 α3 α4 α5 β : Type} (f : α1 → α2 → α3 → α4 → α5 → β) (q : α1 × α2 × α3 × α4 × α5) : β := f q.1 q.2.1 q.2.2.1 q.2.2.2.1 q.2.2.2.2
theorem un5e {α1 α2 α3 α4 α5 β : Type} {f : α1 → α2 → α3 → α4 → α5 → β} {a1 : α1} {a2 : α2} {a3 : α3} {a4 : α4} {a5 : α5} {x : β} (h : un5 f (a1, a2, a3, a4, a5) = x) : f a1 a2 a3 a4 a5 = x := h
def un6 {α1 α2 α3 α4 α5 α6 β : Type} (f : α1 → α2 → α3 → α4 → α5 → α6 → β) (q : α1 × α2 × α3 × α4 × α5 × α6) : β := f q.1 q.2.1 q.2.2.1 q.2.2.2.1 q.2.2.2.2.1 q.2.2.2.2.2
theorem un6e {α1 α2 α3 α4 α5 α6 β : Type} {f : α1 → α2 → α3 → α4 → α5 → α6 → β} {a1 : α1} {a2 : α2} {a3 : α3} {a4 : α4} {a5 : α5} {a6 : α6} {x : β} (h : un6 f (a1, a2, a3, a4, a5, a6) = x) : f a1 a2 a3 a4 a5 a6 = x := h
def un7 {α1 α2 α3 α4 α5 α6 α7 β : Type} (f : α1 → α2 → α3 → α4 → α5 → α6 → α7 → β) (q : α1 × α2 × α3 × α4 × α5 × α6 × α7) : β := f q.1 q.2.1 q.2.2.1 q.2.2.2.1 q.2.2.2.2.1 q.2.2.2.2.2.1 q.2.2.2.2.2.2
theorem un7e {α1 α2 α3 α4 α5 α6 α7 β : Type} {f : α1 → α2 → α3 → α4 → α5 → α6 → α7 → β} {a1 : α1} {a2 : α2} {a3 : α3} {a4 : α4} {a5 : α5} {a6 : α6} {a7 : α7} {x : β} (h : un7 f (a1, a2, a3, a4, a5, a6, a7) = x) : f a1 a2 a3 a4 a5 a6 a7 = x := h
/-- a table with w columns of r rows stands at t -/
def isT (t w r : Nat) : Prop := lay[t]? = some (tT r) ∧ lay[t + 1]? = some (tC w) ∧ ∀ i, i < w → lay[t + (2 + i)]? = some (tI r)
theorem isT.col {t w r : Nat} (h : isT t w r) {x : Int32} (hx : ¬ (x < 0 ∨ w ≤ x.toNatClampNeg)) : lay[t + (2 + x.toNatClampNeg)]? = some (tI r) := h.2.2 _ (Nat.not_le.mp fun q => hx (Or.inr q))
theorem lay_all {P : Nat → Nat → Prop} {tag : Nat} (h : ∀ t, t < 178 → lay[t]? = some tag → P t tag) {t : Nat} (ht : lay[t]? = some tag) : P t tag := h t (lay_lt ht) ht
theorem k1_1 {t : Nat} (h : lay[t]? = some (tK 1)) : isT (t + 1) 3 20 := lay_all (P := fun t _ => isT (t + 1) 3 20) (by unfold isT; decide +kernel) h
theorem k4_1 {t : Nat} (h : lay[t]? = some (tK 4)) : isT (t + 1) 4 8 := lay_all (P := fun t _ => isT (t + 1) 4 8) (by unfold isT; decide +kernel) h
theorem k5_1 {t : Nat} (h : lay[t]? = some (tK 5)) : isT (t + 1) 5 20 := lay_all (P := fun t _ => isT (t + 1) 5 20) (by unfold isT; decide +kernel) h
theorem k6_1 {t : Nat} (h : lay[t]? = some (tK 6)) : isT (t + 1) 7 200 := lay_all (P := fun t _ => isT (t + 1) 7 200) (by unfold isT; decide +kernel) h
theorem k9_1 {t : Nat} (h : lay[t]? = some (tK 9)) : lay[t + 1]? = some (tK 4) := lay_all (P := fun t _ => lay[t + 1]? = some (tK 4)) (by decide +kernel) h
theorem k9_8 {t : Nat} (h : lay[t]? = some (tK 9)) : lay[t + 8]? = some (tK 1) := lay_all (P := fun t _ => lay[t + 8]? = some (tK 1)) (by decide +kernel) h
theorem k9_14 {t : Nat} (h : lay[t]? = some (tK 9)) : lay[t + 14]? = some (tK 5) := lay_all (P := fun t _ => lay[t + 14]? = some (tK 5)) (by decide +kernel) h
theorem k9_22 {t : Nat} (h : lay[t]? = some (tK 9)) : lay[t + 22]? = some (tK 6) := lay_all (P := fun t _ => lay[t + 22]? = some (tK 6)) (by decide +kernel) h
theorem lc0 : lay[0]? = some (tK 11) := rfl
theorem lc1 : lay[1]? = some (tK 9) := rfl
theorem lc2 : lay[2]? = some (tK 4) := rfl
theorem lc3 : lay[3]? = some (tT 8) := rfl
theorem lc4 : lay[4]? = some (tC 4) := rfl
theorem lc5 : lay[5]? = some (tI 8) := rfl
theorem lc6 : lay[6]? = some (tI 8) := rfl
theorem lc7 : lay[7]? = some (tI 8) := rfl
theorem lc8 : lay[8]? = some (tI 8) := rfl
theorem lc9 : lay[9]? = some (tK 1) := rfl
theorem lc10 : lay[10]? = some (tT 20) := rfl
theorem lc11 : lay[11]? = some (tC 3) := rfl
theorem lc12 : lay[12]? = some (tI 20) := rfl
theorem lc13 : lay[13]? = some (tI 20) := rfl
theorem lc14 : lay[14]? = some (tI 20) := rfl
theorem lc15 : lay[15]? = some (tK 5) := rfl
theorem lc16 : lay[16]? = some (tT 20) := rfl
theorem lc17 : lay[17]? = some (tC 5) := rfl
theorem lc18 : lay[18]? = some (tI 20) := rfl
theorem lc19 : lay[19]? = some (tI 20) := rfl
theorem lc20 : lay[20]? = some (tI 20) := rfl
theorem lc21 : lay[21]? = some (tI 20) := rfl
theorem lc22 : lay[22]? = some (tI 20) := rfl
theorem lc23 : lay[23]? = some (tK 6) := rfl
theorem lc24 : lay[24]? = some (tT 200) := rfl
theorem lc25 : lay[25]? = some (tC 7) := rfl
theorem lc26 : lay[26]? = some (tI 200) := rfl
theorem lc27 : lay[27]? = some (tI 200) := rfl
theorem lc28 : lay[28]? = some (tI 200) := rfl
theorem lc29 : lay[29]? = some (tI 200) := rfl
theorem lc30 : lay[30]? = some (tI 200) := rfl
theorem lc31 : lay[31]? = some (tI 200) := rfl
theorem lc32 : lay[32]? = some (tI 200) := rfl
theorem lc33 : lay[33]? = some (tK 3) := rfl
theorem lc34 : lay[34]? = some (tI 20) := rfl
theorem lc35 : lay[35]? = some (tI 20) := rfl
theorem lc36 : lay[36]? = some (tI 3) := rfl
theorem lc37 : lay[37]? = some (tK 5) := rfl
theorem lc38 : lay[38]? = some (tT 20) := rfl
theorem lc39 : lay[39]? = some (tC 5) := rfl
theorem lc40 : lay[40]? = some (tI 20) := rfl
theorem lc41 : lay[41]? = some (tI 20) := rfl
theorem lc42 : lay[42]? = some (tI 20) := rfl
theorem lc43 : lay[43]? = some (tI 20) := rfl
theorem lc44 : lay[44]? = some (tI 20) := rfl
theorem lc45 : lay[45]? = some (tK 8) := rfl
theorem lc46 : lay[46]? = some (tK 13) := rfl
theorem lc175 : lay[175]? = some (tK 2) := rfl
theorem lc176 : lay[176]? = some (tK 14) := rfl
theorem lc177 : lay[177]? = some (tI 3) := rfl
theorem lT3 : isT 3 4 8 := by unfold isT; decide +kernel
theorem lT10 : isT 10 3 20 := by unfold isT; decide +kernel
theorem lT16 : isT 16 5 20 := by unfold isT; decide +kernel
theorem lT24 : isT 24 7 200 := by unfold isT; decide +kernel
theorem lT38 : isT 38 5 20 := by unfold isT; decide +kernel
section JF
variable {K : Kx} {l : Launch} {R : Room} {cc : ByteArray} {own : String} {G : Gx} {n0 nL : Nat} {M M' : Mem} {pc index t : Nat} {L : List (Nat × Value)} {st : List Value}
theorem j_sub {L' : List (Nat × Value)} (ks : List Nat) (h : lv_pick L ks = L') (kk : J K M pc L' st) : J K M pc L st := by
  obtain ⟨p, l', e, R', s, m, args, below, meth, c, Q, G', n0', nL', cells, slots⟩ := K
  intro H locs ls hP hS hl
  exact kk H locs ls hP hS (lv_sub hl ks h)
theorem j_getfN (C : Ok K l R cc own G n0 nL) {D : String} {T : u_T} {N ci tag : Nat} {fs : List Value} {v : Value} (k : Nat) (hin : ∀ w ∈ u_ws D T N, w ∈ TB) (hc : vwCl[ci]? = some (D, T, N)) (hk : k < N) (hD : (T k).1 = D) (hq : (own, index, D, (T k).2.1, (T k).2.2.1) ∈ nxF) (ht : lay[t]? = some tag) (he : ent G n0 tag t (M.1 t) (M.2 t) = .inr (ci, fs)) (hv : fs[k]? = some v) (hdg : decode cc pc = .ok (.getfield index, 3)) (kk : J K M (pc + 3) L (v :: st)) : J K M pc L (.ref (n0 + t) :: st) := by
  obtain ⟨p, l', e, R', s, m, args, below, meth, c, Q, G', n0', nL', cells, slots⟩ := K
  obtain ⟨rfl, rfl, rfl, rfl, rfl, hx, hb, hown, hts, hK, hml, hSt, hce, hsl⟩ := C
  intro H locs ls hP hS hl
  exact va_getN hx hb hts hin hown hK hP t (by rw [wld_at ht, he]) hc k hk (va_Nw.use rfl (hSt.2.2.1 _ hq)) (fun x h => by rw [hD] at h; exact h) hv hdg (kk H locs ls hP hS hl)
theorem g_X1_rows (C : Ok K l R cc own G n0 nL) (hlk : Cond.fieldLink own index "OvenDays$Batches" "rows" "LOvenDays$Table;" ∈ TB) (ht : lay[t]? = some (tK 1)) (o : Nat) (ho : t + 1 = o) (hdg : decode cc pc = .ok (.getfield index, 3)) (kk : J K M (pc + 3) L (.ref (n0 + o) :: st)) : J K M pc L (.ref (n0 + t) :: st) := by
  subst ho
  exact j_getf (D := RX1) (T := TX1) (N := 2) (ci := 0) C 0 inT1 rfl (by decide) rfl hlk ht (ent_K _ _ _ _ _ _) rfl hdg kk
theorem g_X1_count (C : Ok K l R cc own G n0 nL) (hlk : Cond.fieldLink own index "OvenDays$Batches" "count" "I" ∈ TB) (ht : lay[t]? = some (tK 1)) (hdg : decode cc pc = .ok (.getfield index, 3)) (kk : J K M (pc + 3) L (.int (M.1 t 1) :: st)) : J K M pc L (.ref (n0 + t) :: st) :=
  j_getf (D := RX1) (T := TX1) (N := 2) (ci := 0) C 1 inT1 rfl (by decide) rfl hlk ht (ent_K _ _ _ _ _ _) rfl hdg kk
theorem p_X1_count (C : Ok K l R cc own G n0 nL) {y : Int32} (hlk : Cond.fieldLink own index "OvenDays$Batches" "count" "I" ∈ TB) (ht : lay[t]? = some (tK 1)) (hM : pf M t 1 y = some M') (hdg : decode cc pc = .ok (.putfield index, 3)) (kk : J K M' (pc + 3) L st) : J K M pc L (.int y :: .ref (n0 + t) :: st) := by
  obtain rfl := Option.some.inj hM
  refine j_putf (D := RX1) (T := TX1) (N := 2) (ci := 0) (ty := .int) (M' := mput M t 1 y) C tyX1 1 inT1 rfl (by decide) tyX1_ok nmX1 rfl hlk rfl rfl rfl rfl ht (ent_K _ _ _ _ _ _) (Nat.le_of_ble_eq_true rfl) ?_ (fun a ha => mput_ne M y ha) (fun a ha => rfl) hdg kk
  rw [ent_K, mput_row]
  rfl
theorem g_X2_bytes (C : Ok K l R cc own G n0 nL) (hlk : Cond.fieldLink own index "OvenDays$CommandText" "bytes" "[B" ∈ TB) (ht : lay[t]? = some (tK 2)) (o : Nat) (ho : t + 1 = o) (hdg : decode cc pc = .ok (.getfield index, 3)) (kk : J K M (pc + 3) L (.ref (n0 + o) :: st)) : J K M pc L (.ref (n0 + t) :: st) := by
  subst ho
  exact j_getf (D := RX2) (T := TX2) (N := 6) (ci := 1) C 0 inT2 rfl (by decide) rfl hlk ht (ent_K _ _ _ _ _ _) rfl hdg kk
theorem g_X2_numbers (C : Ok K l R cc own G n0 nL) (hlk : Cond.fieldLink own index "OvenDays$CommandText" "numbers" "[I" ∈ TB) (ht : lay[t]? = some (tK 2)) (o : Nat) (ho : t + 2 = o) (hdg : decode cc pc = .ok (.getfield index, 3)) (kk : J K M (pc + 3) L (.ref (n0 + o) :: st)) : J K M pc L (.ref (n0 + t) :: st) := by
  subst ho
  exact j_getf (D := RX2) (T := TX2) (N := 6) (ci := 1) C 1 inT2 rfl (by decide) rfl hlk ht (ent_K _ _ _ _ _ _) rfl hdg kk
theorem g_X2_length (C : Ok K l R cc own G n0 nL) (hlk : Cond.fieldLink own index "OvenDays$CommandText" "length" "I" ∈ TB) (ht : lay[t]? = some (tK 2)) (hdg : decode cc pc = .ok (.getfield index, 3)) (kk : J K M (pc + 3) L (.int (M.1 t 3) :: st)) : J K M pc L (.ref (n0 + t) :: st) :=
  j_getf (D := RX2) (T := TX2) (N := 6) (ci := 1) C 3 inT2 rfl (by decide) rfl hlk ht (ent_K _ _ _ _ _ _) rfl hdg kk
theorem p_X2_length (C : Ok K l R cc own G n0 nL) {y : Int32} (hlk : Cond.fieldLink own index "OvenDays$CommandText" "length" "I" ∈ TB) (ht : lay[t]? = some (tK 2)) (hM : pf M t 3 y = some M') (hdg : decode cc pc = .ok (.putfield index, 3)) (kk : J K M' (pc + 3) L st) : J K M pc L (.int y :: .ref (n0 + t) :: st) := by
  obtain rfl := Option.some.inj hM
  refine j_putf (D := RX2) (T := TX2) (N := 6) (ci := 1) (ty := .int) (M' := mput M t 3 y) C tyX2 3 inT2 rfl (by decide) tyX2_ok nmX2 rfl hlk rfl rfl rfl rfl ht (ent_K _ _ _ _ _ _) (Nat.le_of_ble_eq_true rfl) ?_ (fun a ha => mput_ne M y ha) (fun a ha => rfl) hdg kk
  rw [ent_K, mput_row]
  rfl
theorem g_X2_position (C : Ok K l R cc own G n0 nL) (hlk : Cond.fieldLink own index "OvenDays$CommandText" "position" "I" ∈ TB) (ht : lay[t]? = some (tK 2)) (hdg : decode cc pc = .ok (.getfield index, 3)) (kk : J K M (pc + 3) L (.int (M.1 t 4) :: st)) : J K M pc L (.ref (n0 + t) :: st) :=
  j_getf (D := RX2) (T := TX2) (N := 6) (ci := 1) C 4 inT2 rfl (by decide) rfl hlk ht (ent_K _ _ _ _ _ _) rfl hdg kk
theorem p_X2_position (C : Ok K l R cc own G n0 nL) {y : Int32} (hlk : Cond.fieldLink own index "OvenDays$CommandText" "position" "I" ∈ TB) (ht : lay[t]? = some (tK 2)) (hM : pf M t 4 y = some M') (hdg : decode cc pc = .ok (.putfield index, 3)) (kk : J K M' (pc + 3) L st) : J K M pc L (.int y :: .ref (n0 + t) :: st) := by
  obtain rfl := Option.some.inj hM
  refine j_putf (D := RX2) (T := TX2) (N := 6) (ci := 1) (ty := .int) (M' := mput M t 4 y) C tyX2 4 inT2 rfl (by decide) tyX2_ok nmX2 rfl hlk rfl rfl rfl rfl ht (ent_K _ _ _ _ _ _) (Nat.le_of_ble_eq_true rfl) ?_ (fun a ha => mput_ne M y ha) (fun a ha => rfl) hdg kk
  rw [ent_K, mput_row]
  rfl
theorem g_X2_fault (C : Ok K l R cc own G n0 nL) (hlk : Cond.fieldLink own index "OvenDays$CommandText" "fault" "I" ∈ TB) (ht : lay[t]? = some (tK 2)) (hdg : decode cc pc = .ok (.getfield index, 3)) (kk : J K M (pc + 3) L (.int (M.1 t 5) :: st)) : J K M pc L (.ref (n0 + t) :: st) :=
  j_getf (D := RX2) (T := TX2) (N := 6) (ci := 1) C 5 inT2 rfl (by decide) rfl hlk ht (ent_K _ _ _ _ _ _) rfl hdg kk
theorem p_X2_fault (C : Ok K l R cc own G n0 nL) {y : Int32} (hlk : Cond.fieldLink own index "OvenDays$CommandText" "fault" "I" ∈ TB) (ht : lay[t]? = some (tK 2)) (hM : pf M t 5 y = some M') (hdg : decode cc pc = .ok (.putfield index, 3)) (kk : J K M' (pc + 3) L st) : J K M pc L (.int y :: .ref (n0 + t) :: st) := by
  obtain rfl := Option.some.inj hM
  refine j_putf (D := RX2) (T := TX2) (N := 6) (ci := 1) (ty := .int) (M' := mput M t 5 y) C tyX2 5 inT2 rfl (by decide) tyX2_ok nmX2 rfl hlk rfl rfl rfl rfl ht (ent_K _ _ _ _ _ _) (Nat.le_of_ble_eq_true rfl) ?_ (fun a ha => mput_ne M y ha) (fun a ha => rfl) hdg kk
  rw [ent_K, mput_row]
  rfl
theorem g_X3_order (C : Ok K l R cc own G n0 nL) (hlk : Cond.fieldLink own index "OvenDays$DayPlan" "order" "[I" ∈ TB) (ht : lay[t]? = some (tK 3)) (o : Nat) (ho : t + 1 = o) (hdg : decode cc pc = .ok (.getfield index, 3)) (kk : J K M (pc + 3) L (.ref (n0 + o) :: st)) : J K M pc L (.ref (n0 + t) :: st) := by
  subst ho
  exact j_getf (D := RX3) (T := TX3) (N := 7) (ci := 2) C 0 inT3 rfl (by decide) rfl hlk ht (ent_K _ _ _ _ _ _) rfl hdg kk
theorem g_X3_loadAt (C : Ok K l R cc own G n0 nL) (hlk : Cond.fieldLink own index "OvenDays$DayPlan" "loadAt" "[I" ∈ TB) (ht : lay[t]? = some (tK 3)) (o : Nat) (ho : t + 2 = o) (hdg : decode cc pc = .ok (.getfield index, 3)) (kk : J K M (pc + 3) L (.ref (n0 + o) :: st)) : J K M pc L (.ref (n0 + t) :: st) := by
  subst ho
  exact j_getf (D := RX3) (T := TX3) (N := 7) (ci := 2) C 1 inT3 rfl (by decide) rfl hlk ht (ent_K _ _ _ _ _ _) rfl hdg kk
theorem g_X3_waiting (C : Ok K l R cc own G n0 nL) (hlk : Cond.fieldLink own index "OvenDays$DayPlan" "waiting" "[I" ∈ TB) (ht : lay[t]? = some (tK 3)) (o : Nat) (ho : t + 3 = o) (hdg : decode cc pc = .ok (.getfield index, 3)) (kk : J K M (pc + 3) L (.ref (n0 + o) :: st)) : J K M pc L (.ref (n0 + t) :: st) := by
  subst ho
  exact j_getf (D := RX3) (T := TX3) (N := 7) (ci := 2) C 2 inT3 rfl (by decide) rfl hlk ht (ent_K _ _ _ _ _ _) rfl hdg kk
theorem g_X3_loads (C : Ok K l R cc own G n0 nL) (hlk : Cond.fieldLink own index "OvenDays$DayPlan" "loads" "LOvenDays$Loads;" ∈ TB) (ht : lay[t]? = some (tK 3)) (o : Nat) (ho : t + 4 = o) (hdg : decode cc pc = .ok (.getfield index, 3)) (kk : J K M (pc + 3) L (.ref (n0 + o) :: st)) : J K M pc L (.ref (n0 + t) :: st) := by
  subst ho
  exact j_getf (D := RX3) (T := TX3) (N := 7) (ci := 2) C 3 inT3 rfl (by decide) rfl hlk ht (ent_K _ _ _ _ _ _) rfl hdg kk
theorem g_X3_count (C : Ok K l R cc own G n0 nL) (hlk : Cond.fieldLink own index "OvenDays$DayPlan" "count" "I" ∈ TB) (ht : lay[t]? = some (tK 3)) (hdg : decode cc pc = .ok (.getfield index, 3)) (kk : J K M (pc + 3) L (.int (M.1 t 4) :: st)) : J K M pc L (.ref (n0 + t) :: st) :=
  j_getf (D := RX3) (T := TX3) (N := 7) (ci := 2) C 4 inT3 rfl (by decide) rfl hlk ht (ent_K _ _ _ _ _ _) rfl hdg kk
theorem p_X3_count (C : Ok K l R cc own G n0 nL) {y : Int32} (hlk : Cond.fieldLink own index "OvenDays$DayPlan" "count" "I" ∈ TB) (ht : lay[t]? = some (tK 3)) (hM : pf M t 4 y = some M') (hdg : decode cc pc = .ok (.putfield index, 3)) (kk : J K M' (pc + 3) L st) : J K M pc L (.int y :: .ref (n0 + t) :: st) := by
  obtain rfl := Option.some.inj hM
  refine j_putf (D := RX3) (T := TX3) (N := 7) (ci := 2) (ty := .int) (M' := mput M t 4 y) C tyX3 4 inT3 rfl (by decide) tyX3_ok nmX3 rfl hlk rfl rfl rfl rfl ht (ent_K _ _ _ _ _ _) (Nat.le_of_ble_eq_true rfl) ?_ (fun a ha => mput_ne M y ha) (fun a ha => rfl) hdg kk
  rw [ent_K, mput_row]
  rfl
theorem g_X3_left (C : Ok K l R cc own G n0 nL) (hlk : Cond.fieldLink own index "OvenDays$DayPlan" "left" "I" ∈ TB) (ht : lay[t]? = some (tK 3)) (hdg : decode cc pc = .ok (.getfield index, 3)) (kk : J K M (pc + 3) L (.int (M.1 t 5) :: st)) : J K M pc L (.ref (n0 + t) :: st) :=
  j_getf (D := RX3) (T := TX3) (N := 7) (ci := 2) C 5 inT3 rfl (by decide) rfl hlk ht (ent_K _ _ _ _ _ _) rfl hdg kk
theorem p_X3_left (C : Ok K l R cc own G n0 nL) {y : Int32} (hlk : Cond.fieldLink own index "OvenDays$DayPlan" "left" "I" ∈ TB) (ht : lay[t]? = some (tK 3)) (hM : pf M t 5 y = some M') (hdg : decode cc pc = .ok (.putfield index, 3)) (kk : J K M' (pc + 3) L st) : J K M pc L (.int y :: .ref (n0 + t) :: st) := by
  obtain rfl := Option.some.inj hM
  refine j_putf (D := RX3) (T := TX3) (N := 7) (ci := 2) (ty := .int) (M' := mput M t 5 y) C tyX3 5 inT3 rfl (by decide) tyX3_ok nmX3 rfl hlk rfl rfl rfl rfl ht (ent_K _ _ _ _ _ _) (Nat.le_of_ble_eq_true rfl) ?_ (fun a ha => mput_ne M y ha) (fun a ha => rfl) hdg kk
  rw [ent_K, mput_row]
  rfl
theorem g_X3_heat (C : Ok K l R cc own G n0 nL) (hlk : Cond.fieldLink own index "OvenDays$DayPlan" "heat" "I" ∈ TB) (ht : lay[t]? = some (tK 3)) (hdg : decode cc pc = .ok (.getfield index, 3)) (kk : J K M (pc + 3) L (.int (M.1 t 6) :: st)) : J K M pc L (.ref (n0 + t) :: st) :=
  j_getf (D := RX3) (T := TX3) (N := 7) (ci := 2) C 6 inT3 rfl (by decide) rfl hlk ht (ent_K _ _ _ _ _ _) rfl hdg kk
theorem p_X3_heat (C : Ok K l R cc own G n0 nL) {y : Int32} (hlk : Cond.fieldLink own index "OvenDays$DayPlan" "heat" "I" ∈ TB) (ht : lay[t]? = some (tK 3)) (hM : pf M t 6 y = some M') (hdg : decode cc pc = .ok (.putfield index, 3)) (kk : J K M' (pc + 3) L st) : J K M pc L (.int y :: .ref (n0 + t) :: st) := by
  obtain rfl := Option.some.inj hM
  refine j_putf (D := RX3) (T := TX3) (N := 7) (ci := 2) (ty := .int) (M' := mput M t 6 y) C tyX3 6 inT3 rfl (by decide) tyX3_ok nmX3 rfl hlk rfl rfl rfl rfl ht (ent_K _ _ _ _ _ _) (Nat.le_of_ble_eq_true rfl) ?_ (fun a ha => mput_ne M y ha) (fun a ha => rfl) hdg kk
  rw [ent_K, mput_row]
  rfl
theorem g_X4_rows (C : Ok K l R cc own G n0 nL) (hlk : Cond.fieldLink own index "OvenDays$Households" "rows" "LOvenDays$Table;" ∈ TB) (ht : lay[t]? = some (tK 4)) (o : Nat) (ho : t + 1 = o) (hdg : decode cc pc = .ok (.getfield index, 3)) (kk : J K M (pc + 3) L (.ref (n0 + o) :: st)) : J K M pc L (.ref (n0 + t) :: st) := by
  subst ho
  exact j_getf (D := RX4) (T := TX4) (N := 2) (ci := 3) C 0 inT4 rfl (by decide) rfl hlk ht (ent_K _ _ _ _ _ _) rfl hdg kk
theorem g_X4_count (C : Ok K l R cc own G n0 nL) (hlk : Cond.fieldLink own index "OvenDays$Households" "count" "I" ∈ TB) (ht : lay[t]? = some (tK 4)) (hdg : decode cc pc = .ok (.getfield index, 3)) (kk : J K M (pc + 3) L (.int (M.1 t 1) :: st)) : J K M pc L (.ref (n0 + t) :: st) :=
  j_getf (D := RX4) (T := TX4) (N := 2) (ci := 3) C 1 inT4 rfl (by decide) rfl hlk ht (ent_K _ _ _ _ _ _) rfl hdg kk
theorem p_X4_count (C : Ok K l R cc own G n0 nL) {y : Int32} (hlk : Cond.fieldLink own index "OvenDays$Households" "count" "I" ∈ TB) (ht : lay[t]? = some (tK 4)) (hM : pf M t 1 y = some M') (hdg : decode cc pc = .ok (.putfield index, 3)) (kk : J K M' (pc + 3) L st) : J K M pc L (.int y :: .ref (n0 + t) :: st) := by
  obtain rfl := Option.some.inj hM
  refine j_putf (D := RX4) (T := TX4) (N := 2) (ci := 3) (ty := .int) (M' := mput M t 1 y) C tyX4 1 inT4 rfl (by decide) tyX4_ok nmX4 rfl hlk rfl rfl rfl rfl ht (ent_K _ _ _ _ _ _) (Nat.le_of_ble_eq_true rfl) ?_ (fun a ha => mput_ne M y ha) (fun a ha => rfl) hdg kk
  rw [ent_K, mput_row]
  rfl
theorem g_X5_rows (C : Ok K l R cc own G n0 nL) (hlk : Cond.fieldLink own index "OvenDays$Loads" "rows" "LOvenDays$Table;" ∈ TB) (ht : lay[t]? = some (tK 5)) (o : Nat) (ho : t + 1 = o) (hdg : decode cc pc = .ok (.getfield index, 3)) (kk : J K M (pc + 3) L (.ref (n0 + o) :: st)) : J K M pc L (.ref (n0 + t) :: st) := by
  subst ho
  exact j_getf (D := RX5) (T := TX5) (N := 2) (ci := 4) C 0 inT5 rfl (by decide) rfl hlk ht (ent_K _ _ _ _ _ _) rfl hdg kk
theorem g_X5_count (C : Ok K l R cc own G n0 nL) (hlk : Cond.fieldLink own index "OvenDays$Loads" "count" "I" ∈ TB) (ht : lay[t]? = some (tK 5)) (hdg : decode cc pc = .ok (.getfield index, 3)) (kk : J K M (pc + 3) L (.int (M.1 t 1) :: st)) : J K M pc L (.ref (n0 + t) :: st) :=
  j_getf (D := RX5) (T := TX5) (N := 2) (ci := 4) C 1 inT5 rfl (by decide) rfl hlk ht (ent_K _ _ _ _ _ _) rfl hdg kk
theorem p_X5_count (C : Ok K l R cc own G n0 nL) {y : Int32} (hlk : Cond.fieldLink own index "OvenDays$Loads" "count" "I" ∈ TB) (ht : lay[t]? = some (tK 5)) (hM : pf M t 1 y = some M') (hdg : decode cc pc = .ok (.putfield index, 3)) (kk : J K M' (pc + 3) L st) : J K M pc L (.int y :: .ref (n0 + t) :: st) := by
  obtain rfl := Option.some.inj hM
  refine j_putf (D := RX5) (T := TX5) (N := 2) (ci := 4) (ty := .int) (M' := mput M t 1 y) C tyX5 1 inT5 rfl (by decide) tyX5_ok nmX5 rfl hlk rfl rfl rfl rfl ht (ent_K _ _ _ _ _ _) (Nat.le_of_ble_eq_true rfl) ?_ (fun a ha => mput_ne M y ha) (fun a ha => rfl) hdg kk
  rw [ent_K, mput_row]
  rfl
theorem g_X6_rows (C : Ok K l R cc own G n0 nL) (hlk : Cond.fieldLink own index "OvenDays$Loaves" "rows" "LOvenDays$Table;" ∈ TB) (ht : lay[t]? = some (tK 6)) (o : Nat) (ho : t + 1 = o) (hdg : decode cc pc = .ok (.getfield index, 3)) (kk : J K M (pc + 3) L (.ref (n0 + o) :: st)) : J K M pc L (.ref (n0 + t) :: st) := by
  subst ho
  exact j_getf (D := RX6) (T := TX6) (N := 3) (ci := 5) C 0 inT6 rfl (by decide) rfl hlk ht (ent_K _ _ _ _ _ _) rfl hdg kk
theorem g_X6_cameOut (C : Ok K l R cc own G n0 nL) (hlk : Cond.fieldLink own index "OvenDays$Loaves" "cameOut" "I" ∈ TB) (ht : lay[t]? = some (tK 6)) (hdg : decode cc pc = .ok (.getfield index, 3)) (kk : J K M (pc + 3) L (.int (M.1 t 1) :: st)) : J K M pc L (.ref (n0 + t) :: st) :=
  j_getf (D := RX6) (T := TX6) (N := 3) (ci := 5) C 1 inT6 rfl (by decide) rfl hlk ht (ent_K _ _ _ _ _ _) rfl hdg kk
theorem p_X6_cameOut (C : Ok K l R cc own G n0 nL) {y : Int32} (hlk : Cond.fieldLink own index "OvenDays$Loaves" "cameOut" "I" ∈ TB) (ht : lay[t]? = some (tK 6)) (hM : pf M t 1 y = some M') (hdg : decode cc pc = .ok (.putfield index, 3)) (kk : J K M' (pc + 3) L st) : J K M pc L (.int y :: .ref (n0 + t) :: st) := by
  obtain rfl := Option.some.inj hM
  refine j_putf (D := RX6) (T := TX6) (N := 3) (ci := 5) (ty := .int) (M' := mput M t 1 y) C tyX6 1 inT6 rfl (by decide) tyX6_ok nmX6 rfl hlk rfl rfl rfl rfl ht (ent_K _ _ _ _ _ _) (Nat.le_of_ble_eq_true rfl) ?_ (fun a ha => mput_ne M y ha) (fun a ha => rfl) hdg kk
  rw [ent_K, mput_row]
  rfl
theorem g_X6_pale (C : Ok K l R cc own G n0 nL) (hlk : Cond.fieldLink own index "OvenDays$Loaves" "pale" "I" ∈ TB) (ht : lay[t]? = some (tK 6)) (hdg : decode cc pc = .ok (.getfield index, 3)) (kk : J K M (pc + 3) L (.int (M.1 t 2) :: st)) : J K M pc L (.ref (n0 + t) :: st) :=
  j_getf (D := RX6) (T := TX6) (N := 3) (ci := 5) C 2 inT6 rfl (by decide) rfl hlk ht (ent_K _ _ _ _ _ _) rfl hdg kk
theorem p_X6_pale (C : Ok K l R cc own G n0 nL) {y : Int32} (hlk : Cond.fieldLink own index "OvenDays$Loaves" "pale" "I" ∈ TB) (ht : lay[t]? = some (tK 6)) (hM : pf M t 2 y = some M') (hdg : decode cc pc = .ok (.putfield index, 3)) (kk : J K M' (pc + 3) L st) : J K M pc L (.int y :: .ref (n0 + t) :: st) := by
  obtain rfl := Option.some.inj hM
  refine j_putf (D := RX6) (T := TX6) (N := 3) (ci := 5) (ty := .int) (M' := mput M t 2 y) C tyX6 2 inT6 rfl (by decide) tyX6_ok nmX6 rfl hlk rfl rfl rfl rfl ht (ent_K _ _ _ _ _ _) (Nat.le_of_ble_eq_true rfl) ?_ (fun a ha => mput_ne M y ha) (fun a ha => rfl) hdg kk
  rw [ent_K, mput_row]
  rfl
theorem g_X7_room (C : Ok K l R cc own G n0 nL) {w r : Nat} (hlk : Cond.fieldLink own index "OvenDays$Table" "room" "I" ∈ TB) (hT : isT t w r) (hdg : decode cc pc = .ok (.getfield index, 3)) (kk : J K M (pc + 3) L (.int (nI r) :: st)) : J K M pc L (.ref (n0 + t) :: st) :=
  j_getf (D := RX7) (T := TX7) (N := 2) (ci := 6) C 1 inT7 rfl (by decide) rfl hlk hT.1 (ent_T _ _ _ _ _ _) rfl hdg kk
theorem g_X7_columns (C : Ok K l R cc own G n0 nL) {w r : Nat} (hlk : Cond.fieldLink own index "OvenDays$Table" "columns" "[[I" ∈ TB) (hT : isT t w r) (o : Nat) (ho : t + 1 = o) (hdg : decode cc pc = .ok (.getfield index, 3)) (kk : J K M (pc + 3) L (.ref (n0 + o) :: st)) : J K M pc L (.ref (n0 + t) :: st) := by
  subst ho
  exact j_getf (D := RX7) (T := TX7) (N := 2) (ci := 6) C 0 inT7 rfl (by decide) rfl hlk hT.1 (ent_T _ _ _ _ _ _) rfl hdg kk
theorem j_aldT (C : Ok K l R cc own G n0 nL) {w r : Nat} {i : Int32} (hT : isT t w r) (hin : ¬ (i < 0 ∨ w ≤ i.toNatClampNeg)) (hdg : decode cc pc = .ok (.aaload, 1)) (kk : J K M (pc + 1) L (.ref (n0 + (t + (2 + i.toNatClampNeg))) :: st)) : J K M pc L (.int i :: .ref (n0 + (t + 1)) :: st) := by
  refine j_aldC C hT.2.1 hin hdg ?_
  rw [show t + 1 + (1 + i.toNatClampNeg) = t + (2 + i.toNatClampNeg) by omega]
  exact kk
theorem g_X8_states (C : Ok K l R cc own G n0 nL) (hlk : Cond.fieldLink own index "OvenDays$UndoStack" "states" "[LOvenDays$Village;" ∈ TB) (ht : lay[t]? = some (tK 8)) (o : Nat) (ho : t + 1 = o) (hdg : decode cc pc = .ok (.getfield index, 3)) (kk : J K M (pc + 3) L (.ref (n0 + o) :: st)) : J K M pc L (.ref (n0 + t) :: st) := by
  subst ho
  exact j_getf (D := RX8) (T := TX8) (N := 3) (ci := 7) C 0 inT8 rfl (by decide) rfl hlk ht (ent_K _ _ _ _ _ _) rfl hdg kk
theorem g_X8_latest (C : Ok K l R cc own G n0 nL) (hlk : Cond.fieldLink own index "OvenDays$UndoStack" "latest" "I" ∈ TB) (ht : lay[t]? = some (tK 8)) (hdg : decode cc pc = .ok (.getfield index, 3)) (kk : J K M (pc + 3) L (.int (M.1 t 1) :: st)) : J K M pc L (.ref (n0 + t) :: st) :=
  j_getf (D := RX8) (T := TX8) (N := 3) (ci := 7) C 1 inT8 rfl (by decide) rfl hlk ht (ent_K _ _ _ _ _ _) rfl hdg kk
theorem p_X8_latest (C : Ok K l R cc own G n0 nL) {y : Int32} (hlk : Cond.fieldLink own index "OvenDays$UndoStack" "latest" "I" ∈ TB) (ht : lay[t]? = some (tK 8)) (hM : pf M t 1 y = some M') (hdg : decode cc pc = .ok (.putfield index, 3)) (kk : J K M' (pc + 3) L st) : J K M pc L (.int y :: .ref (n0 + t) :: st) := by
  obtain rfl := Option.some.inj hM
  refine j_putf (D := RX8) (T := TX8) (N := 3) (ci := 7) (ty := .int) (M' := mput M t 1 y) C tyX8 1 inT8 rfl (by decide) tyX8_ok nmX8 rfl hlk rfl rfl rfl rfl ht (ent_K _ _ _ _ _ _) (Nat.le_of_ble_eq_true rfl) ?_ (fun a ha => mput_ne M y ha) (fun a ha => rfl) hdg kk
  rw [ent_K, mput_row]
  rfl
theorem g_X8_count (C : Ok K l R cc own G n0 nL) (hlk : Cond.fieldLink own index "OvenDays$UndoStack" "count" "I" ∈ TB) (ht : lay[t]? = some (tK 8)) (hdg : decode cc pc = .ok (.getfield index, 3)) (kk : J K M (pc + 3) L (.int (M.1 t 2) :: st)) : J K M pc L (.ref (n0 + t) :: st) :=
  j_getf (D := RX8) (T := TX8) (N := 3) (ci := 7) C 2 inT8 rfl (by decide) rfl hlk ht (ent_K _ _ _ _ _ _) rfl hdg kk
theorem p_X8_count (C : Ok K l R cc own G n0 nL) {y : Int32} (hlk : Cond.fieldLink own index "OvenDays$UndoStack" "count" "I" ∈ TB) (ht : lay[t]? = some (tK 8)) (hM : pf M t 2 y = some M') (hdg : decode cc pc = .ok (.putfield index, 3)) (kk : J K M' (pc + 3) L st) : J K M pc L (.int y :: .ref (n0 + t) :: st) := by
  obtain rfl := Option.some.inj hM
  refine j_putf (D := RX8) (T := TX8) (N := 3) (ci := 7) (ty := .int) (M' := mput M t 2 y) C tyX8 2 inT8 rfl (by decide) tyX8_ok nmX8 rfl hlk rfl rfl rfl rfl ht (ent_K _ _ _ _ _ _) (Nat.le_of_ble_eq_true rfl) ?_ (fun a ha => mput_ne M y ha) (fun a ha => rfl) hdg kk
  rw [ent_K, mput_row]
  rfl
theorem g_X9_households (C : Ok K l R cc own G n0 nL) (hlk : Cond.fieldLink own index "OvenDays$Village" "households" "LOvenDays$Households;" ∈ TB) (ht : lay[t]? = some (tK 9)) (o : Nat) (ho : t + 1 = o) (hdg : decode cc pc = .ok (.getfield index, 3)) (kk : J K M (pc + 3) L (.ref (n0 + o) :: st)) : J K M pc L (.ref (n0 + t) :: st) := by
  subst ho
  exact j_getf (D := RX9) (T := TX9) (N := 8) (ci := 8) C 0 inT9 rfl (by decide) rfl hlk ht (ent_K _ _ _ _ _ _) rfl hdg kk
theorem gN_X9_households (C : Ok K l R cc own G n0 nL) (hlk : (own, index, "OvenDays$Village", "households", "LOvenDays$Households;") ∈ nxF) (ht : lay[t]? = some (tK 9)) (o : Nat) (ho : t + 1 = o) (hdg : decode cc pc = .ok (.getfield index, 3)) (kk : J K M (pc + 3) L (.ref (n0 + o) :: st)) : J K M pc L (.ref (n0 + t) :: st) := by
  subst ho
  exact j_getfN (D := RX9) (T := TX9) (N := 8) (ci := 8) C 0 inT9 rfl (by decide) rfl hlk ht (ent_K _ _ _ _ _ _) rfl hdg kk
theorem g_X9_batches (C : Ok K l R cc own G n0 nL) (hlk : Cond.fieldLink own index "OvenDays$Village" "batches" "LOvenDays$Batches;" ∈ TB) (ht : lay[t]? = some (tK 9)) (o : Nat) (ho : t + 8 = o) (hdg : decode cc pc = .ok (.getfield index, 3)) (kk : J K M (pc + 3) L (.ref (n0 + o) :: st)) : J K M pc L (.ref (n0 + t) :: st) := by
  subst ho
  exact j_getf (D := RX9) (T := TX9) (N := 8) (ci := 8) C 1 inT9 rfl (by decide) rfl hlk ht (ent_K _ _ _ _ _ _) rfl hdg kk
theorem gN_X9_batches (C : Ok K l R cc own G n0 nL) (hlk : (own, index, "OvenDays$Village", "batches", "LOvenDays$Batches;") ∈ nxF) (ht : lay[t]? = some (tK 9)) (o : Nat) (ho : t + 8 = o) (hdg : decode cc pc = .ok (.getfield index, 3)) (kk : J K M (pc + 3) L (.ref (n0 + o) :: st)) : J K M pc L (.ref (n0 + t) :: st) := by
  subst ho
  exact j_getfN (D := RX9) (T := TX9) (N := 8) (ci := 8) C 1 inT9 rfl (by decide) rfl hlk ht (ent_K _ _ _ _ _ _) rfl hdg kk
theorem g_X9_loads (C : Ok K l R cc own G n0 nL) (hlk : Cond.fieldLink own index "OvenDays$Village" "loads" "LOvenDays$Loads;" ∈ TB) (ht : lay[t]? = some (tK 9)) (o : Nat) (ho : t + 14 = o) (hdg : decode cc pc = .ok (.getfield index, 3)) (kk : J K M (pc + 3) L (.ref (n0 + o) :: st)) : J K M pc L (.ref (n0 + t) :: st) := by
  subst ho
  exact j_getf (D := RX9) (T := TX9) (N := 8) (ci := 8) C 2 inT9 rfl (by decide) rfl hlk ht (ent_K _ _ _ _ _ _) rfl hdg kk
theorem gN_X9_loads (C : Ok K l R cc own G n0 nL) (hlk : (own, index, "OvenDays$Village", "loads", "LOvenDays$Loads;") ∈ nxF) (ht : lay[t]? = some (tK 9)) (o : Nat) (ho : t + 14 = o) (hdg : decode cc pc = .ok (.getfield index, 3)) (kk : J K M (pc + 3) L (.ref (n0 + o) :: st)) : J K M pc L (.ref (n0 + t) :: st) := by
  subst ho
  exact j_getfN (D := RX9) (T := TX9) (N := 8) (ci := 8) C 2 inT9 rfl (by decide) rfl hlk ht (ent_K _ _ _ _ _ _) rfl hdg kk
theorem g_X9_loaves (C : Ok K l R cc own G n0 nL) (hlk : Cond.fieldLink own index "OvenDays$Village" "loaves" "LOvenDays$Loaves;" ∈ TB) (ht : lay[t]? = some (tK 9)) (o : Nat) (ho : t + 22 = o) (hdg : decode cc pc = .ok (.getfield index, 3)) (kk : J K M (pc + 3) L (.ref (n0 + o) :: st)) : J K M pc L (.ref (n0 + t) :: st) := by
  subst ho
  exact j_getf (D := RX9) (T := TX9) (N := 8) (ci := 8) C 3 inT9 rfl (by decide) rfl hlk ht (ent_K _ _ _ _ _ _) rfl hdg kk
theorem gN_X9_loaves (C : Ok K l R cc own G n0 nL) (hlk : (own, index, "OvenDays$Village", "loaves", "LOvenDays$Loaves;") ∈ nxF) (ht : lay[t]? = some (tK 9)) (o : Nat) (ho : t + 22 = o) (hdg : decode cc pc = .ok (.getfield index, 3)) (kk : J K M (pc + 3) L (.ref (n0 + o) :: st)) : J K M pc L (.ref (n0 + t) :: st) := by
  subst ho
  exact j_getfN (D := RX9) (T := TX9) (N := 8) (ci := 8) C 3 inT9 rfl (by decide) rfl hlk ht (ent_K _ _ _ _ _ _) rfl hdg kk
theorem g_X9_heat (C : Ok K l R cc own G n0 nL) (hlk : Cond.fieldLink own index "OvenDays$Village" "heat" "I" ∈ TB) (ht : lay[t]? = some (tK 9)) (hdg : decode cc pc = .ok (.getfield index, 3)) (kk : J K M (pc + 3) L (.int (M.1 t 4) :: st)) : J K M pc L (.ref (n0 + t) :: st) :=
  j_getf (D := RX9) (T := TX9) (N := 8) (ci := 8) C 4 inT9 rfl (by decide) rfl hlk ht (ent_K _ _ _ _ _ _) rfl hdg kk
theorem gN_X9_heat (C : Ok K l R cc own G n0 nL) (hlk : (own, index, "OvenDays$Village", "heat", "I") ∈ nxF) (ht : lay[t]? = some (tK 9)) (hdg : decode cc pc = .ok (.getfield index, 3)) (kk : J K M (pc + 3) L (.int (M.1 t 4) :: st)) : J K M pc L (.ref (n0 + t) :: st) :=
  j_getfN (D := RX9) (T := TX9) (N := 8) (ci := 8) C 4 inT9 rfl (by decide) rfl hlk ht (ent_K _ _ _ _ _ _) rfl hdg kk
theorem p_X9_heat (C : Ok K l R cc own G n0 nL) {y : Int32} (hlk : Cond.fieldLink own index "OvenDays$Village" "heat" "I" ∈ TB) (ht : lay[t]? = some (tK 9)) (hM : pf M t 4 y = some M') (hdg : decode cc pc = .ok (.putfield index, 3)) (kk : J K M' (pc + 3) L st) : J K M pc L (.int y :: .ref (n0 + t) :: st) := by
  obtain rfl := Option.some.inj hM
  refine j_putf (D := RX9) (T := TX9) (N := 8) (ci := 8) (ty := .int) (M' := mput M t 4 y) C tyX9 4 inT9 rfl (by decide) tyX9_ok nmX9 rfl hlk rfl rfl rfl rfl ht (ent_K _ _ _ _ _ _) (Nat.le_of_ble_eq_true rfl) ?_ (fun a ha => mput_ne M y ha) (fun a ha => rfl) hdg kk
  rw [ent_K, mput_row]
  rfl
theorem g_X9_s (C : Ok K l R cc own G n0 nL) (hlk : Cond.fieldLink own index "OvenDays$Village" "s" "I" ∈ TB) (ht : lay[t]? = some (tK 9)) (hdg : decode cc pc = .ok (.getfield index, 3)) (kk : J K M (pc + 3) L (.int (M.1 t 5) :: st)) : J K M pc L (.ref (n0 + t) :: st) :=
  j_getf (D := RX9) (T := TX9) (N := 8) (ci := 8) C 5 inT9 rfl (by decide) rfl hlk ht (ent_K _ _ _ _ _ _) rfl hdg kk
theorem gN_X9_s (C : Ok K l R cc own G n0 nL) (hlk : (own, index, "OvenDays$Village", "s", "I") ∈ nxF) (ht : lay[t]? = some (tK 9)) (hdg : decode cc pc = .ok (.getfield index, 3)) (kk : J K M (pc + 3) L (.int (M.1 t 5) :: st)) : J K M pc L (.ref (n0 + t) :: st) :=
  j_getfN (D := RX9) (T := TX9) (N := 8) (ci := 8) C 5 inT9 rfl (by decide) rfl hlk ht (ent_K _ _ _ _ _ _) rfl hdg kk
theorem p_X9_s (C : Ok K l R cc own G n0 nL) {y : Int32} (hlk : Cond.fieldLink own index "OvenDays$Village" "s" "I" ∈ TB) (ht : lay[t]? = some (tK 9)) (hM : pf M t 5 y = some M') (hdg : decode cc pc = .ok (.putfield index, 3)) (kk : J K M' (pc + 3) L st) : J K M pc L (.int y :: .ref (n0 + t) :: st) := by
  obtain rfl := Option.some.inj hM
  refine j_putf (D := RX9) (T := TX9) (N := 8) (ci := 8) (ty := .int) (M' := mput M t 5 y) C tyX9 5 inT9 rfl (by decide) tyX9_ok nmX9 rfl hlk rfl rfl rfl rfl ht (ent_K _ _ _ _ _ _) (Nat.le_of_ble_eq_true rfl) ?_ (fun a ha => mput_ne M y ha) (fun a ha => rfl) hdg kk
  rw [ent_K, mput_row]
  rfl
theorem g_X9_days (C : Ok K l R cc own G n0 nL) (hlk : Cond.fieldLink own index "OvenDays$Village" "days" "I" ∈ TB) (ht : lay[t]? = some (tK 9)) (hdg : decode cc pc = .ok (.getfield index, 3)) (kk : J K M (pc + 3) L (.int (M.1 t 6) :: st)) : J K M pc L (.ref (n0 + t) :: st) :=
  j_getf (D := RX9) (T := TX9) (N := 8) (ci := 8) C 6 inT9 rfl (by decide) rfl hlk ht (ent_K _ _ _ _ _ _) rfl hdg kk
theorem gN_X9_days (C : Ok K l R cc own G n0 nL) (hlk : (own, index, "OvenDays$Village", "days", "I") ∈ nxF) (ht : lay[t]? = some (tK 9)) (hdg : decode cc pc = .ok (.getfield index, 3)) (kk : J K M (pc + 3) L (.int (M.1 t 6) :: st)) : J K M pc L (.ref (n0 + t) :: st) :=
  j_getfN (D := RX9) (T := TX9) (N := 8) (ci := 8) C 6 inT9 rfl (by decide) rfl hlk ht (ent_K _ _ _ _ _ _) rfl hdg kk
theorem p_X9_days (C : Ok K l R cc own G n0 nL) {y : Int32} (hlk : Cond.fieldLink own index "OvenDays$Village" "days" "I" ∈ TB) (ht : lay[t]? = some (tK 9)) (hM : pf M t 6 y = some M') (hdg : decode cc pc = .ok (.putfield index, 3)) (kk : J K M' (pc + 3) L st) : J K M pc L (.int y :: .ref (n0 + t) :: st) := by
  obtain rfl := Option.some.inj hM
  refine j_putf (D := RX9) (T := TX9) (N := 8) (ci := 8) (ty := .int) (M' := mput M t 6 y) C tyX9 6 inT9 rfl (by decide) tyX9_ok nmX9 rfl hlk rfl rfl rfl rfl ht (ent_K _ _ _ _ _ _) (Nat.le_of_ble_eq_true rfl) ?_ (fun a ha => mput_ne M y ha) (fun a ha => rfl) hdg kk
  rw [ent_K, mput_row]
  rfl
theorem g_X9_dough (C : Ok K l R cc own G n0 nL) (hlk : Cond.fieldLink own index "OvenDays$Village" "dough" "I" ∈ TB) (ht : lay[t]? = some (tK 9)) (hdg : decode cc pc = .ok (.getfield index, 3)) (kk : J K M (pc + 3) L (.int (M.1 t 7) :: st)) : J K M pc L (.ref (n0 + t) :: st) :=
  j_getf (D := RX9) (T := TX9) (N := 8) (ci := 8) C 7 inT9 rfl (by decide) rfl hlk ht (ent_K _ _ _ _ _ _) rfl hdg kk
theorem gN_X9_dough (C : Ok K l R cc own G n0 nL) (hlk : (own, index, "OvenDays$Village", "dough", "I") ∈ nxF) (ht : lay[t]? = some (tK 9)) (hdg : decode cc pc = .ok (.getfield index, 3)) (kk : J K M (pc + 3) L (.int (M.1 t 7) :: st)) : J K M pc L (.ref (n0 + t) :: st) :=
  j_getfN (D := RX9) (T := TX9) (N := 8) (ci := 8) C 7 inT9 rfl (by decide) rfl hlk ht (ent_K _ _ _ _ _ _) rfl hdg kk
theorem p_X9_dough (C : Ok K l R cc own G n0 nL) {y : Int32} (hlk : Cond.fieldLink own index "OvenDays$Village" "dough" "I" ∈ TB) (ht : lay[t]? = some (tK 9)) (hM : pf M t 7 y = some M') (hdg : decode cc pc = .ok (.putfield index, 3)) (kk : J K M' (pc + 3) L st) : J K M pc L (.int y :: .ref (n0 + t) :: st) := by
  obtain rfl := Option.some.inj hM
  refine j_putf (D := RX9) (T := TX9) (N := 8) (ci := 8) (ty := .int) (M' := mput M t 7 y) C tyX9 7 inT9 rfl (by decide) tyX9_ok nmX9 rfl hlk rfl rfl rfl rfl ht (ent_K _ _ _ _ _ _) (Nat.le_of_ble_eq_true rfl) ?_ (fun a ha => mput_ne M y ha) (fun a ha => rfl) hdg kk
  rw [ent_K, mput_row]
  rfl
theorem g_X11_village (C : Ok K l R cc own G n0 nL) (hlk : Cond.fieldLink own index "OvenDays" "village" "LOvenDays$Village;" ∈ TB) (ht : lay[t]? = some (tK 11)) (o : Nat) (ho : t + 1 = o) (hdg : decode cc pc = .ok (.getfield index, 3)) (kk : J K M (pc + 3) L (.ref (n0 + o) :: st)) : J K M pc L (.ref (n0 + t) :: st) := by
  subst ho
  exact j_getf (D := RX11) (T := TX11) (N := 5) (ci := 9) C 0 inT11 rfl (by decide) rfl hlk ht (ent_K _ _ _ _ _ _) rfl hdg kk
theorem g_X11_plan (C : Ok K l R cc own G n0 nL) (hlk : Cond.fieldLink own index "OvenDays" "plan" "LOvenDays$DayPlan;" ∈ TB) (ht : lay[t]? = some (tK 11)) (o : Nat) (ho : t + 33 = o) (hdg : decode cc pc = .ok (.getfield index, 3)) (kk : J K M (pc + 3) L (.ref (n0 + o) :: st)) : J K M pc L (.ref (n0 + t) :: st) := by
  subst ho
  exact j_getf (D := RX11) (T := TX11) (N := 5) (ci := 9) C 1 inT11 rfl (by decide) rfl hlk ht (ent_K _ _ _ _ _ _) rfl hdg kk
theorem g_X11_undoStack (C : Ok K l R cc own G n0 nL) (hlk : Cond.fieldLink own index "OvenDays" "undoStack" "LOvenDays$UndoStack;" ∈ TB) (ht : lay[t]? = some (tK 11)) (o : Nat) (ho : t + 45 = o) (hdg : decode cc pc = .ok (.getfield index, 3)) (kk : J K M (pc + 3) L (.ref (n0 + o) :: st)) : J K M pc L (.ref (n0 + t) :: st) := by
  subst ho
  exact j_getf (D := RX11) (T := TX11) (N := 5) (ci := 9) C 2 inT11 rfl (by decide) rfl hlk ht (ent_K _ _ _ _ _ _) rfl hdg kk
theorem g_X11_text (C : Ok K l R cc own G n0 nL) (hlk : Cond.fieldLink own index "OvenDays" "text" "LOvenDays$CommandText;" ∈ TB) (ht : lay[t]? = some (tK 11)) (o : Nat) (ho : t + 175 = o) (hdg : decode cc pc = .ok (.getfield index, 3)) (kk : J K M (pc + 3) L (.ref (n0 + o) :: st)) : J K M pc L (.ref (n0 + t) :: st) := by
  subst ho
  exact j_getf (D := RX11) (T := TX11) (N := 5) (ci := 9) C 3 inT11 rfl (by decide) rfl hlk ht (ent_K _ _ _ _ _ _) rfl hdg kk
theorem g_X11_stop (C : Ok K l R cc own G n0 nL) (hlk : Cond.fieldLink own index "OvenDays" "stop" "I" ∈ TB) (ht : lay[t]? = some (tK 11)) (hdg : decode cc pc = .ok (.getfield index, 3)) (kk : J K M (pc + 3) L (.int (M.1 t 4) :: st)) : J K M pc L (.ref (n0 + t) :: st) :=
  j_getf (D := RX11) (T := TX11) (N := 5) (ci := 9) C 4 inT11 rfl (by decide) rfl hlk ht (ent_K _ _ _ _ _ _) rfl hdg kk
theorem p_X11_stop (C : Ok K l R cc own G n0 nL) {y : Int32} (hlk : Cond.fieldLink own index "OvenDays" "stop" "I" ∈ TB) (ht : lay[t]? = some (tK 11)) (hM : pf M t 4 y = some M') (hdg : decode cc pc = .ok (.putfield index, 3)) (kk : J K M' (pc + 3) L st) : J K M pc L (.int y :: .ref (n0 + t) :: st) := by
  obtain rfl := Option.some.inj hM
  refine j_putf (D := RX11) (T := TX11) (N := 5) (ci := 9) (ty := .int) (M' := mput M t 4 y) C tyX11 4 inT11 rfl (by decide) tyX11_ok nmX11 rfl hlk rfl rfl rfl rfl ht (ent_K _ _ _ _ _ _) (Nat.le_of_ble_eq_true rfl) ?_ (fun a ha => mput_ne M y ha) (fun a ha => rfl) hdg kk
  rw [ent_K, mput_row]
  rfl
theorem j_lcmp (C : Ok K l R cc own G n0 nL) {x y : Int64} (hdg : decode cc pc = .ok (.lcmp, 1)) (kk : J K M (pc + 1) L (.int (lg_cmp x y) :: st)) : J K M pc L (.long y :: .long x :: st) := by
  obtain ⟨p, l', e, R', s, m, args, below, meth, c, Q, G', n0', nL', cells, slots⟩ := K
  obtain ⟨rfl, rfl, rfl, rfl, rfl, hx, hb, hown, hts, hK, hml, hSt, hce, hsl⟩ := C
  intro H locs ls hP hS hl
  exact W.lcmp hx hb hdg (kk H locs ls hP hS hl)
theorem j_iflc_eq (C : Ok K l R cc own G n0 nL) {x y : Int64} {off : Int} (tgt : Nat) (hdg : decode cc pc = .ok (.ifCond .eq off, 3)) (ht : (pc : Int) + off = (tgt : Int)) (kt : x = y → J K M tgt L st) (kf : ¬ x = y → J K M (pc + 3) L st) : J K M pc L (.int (lg_cmp x y) :: st) :=
  j_if_eq C tgt hdg ht (fun h => kt (lc_eq.mp h)) (fun h => kf (fun q => h (lc_eq.mpr q)))
theorem j_iflc_ne (C : Ok K l R cc own G n0 nL) {x y : Int64} {off : Int} (tgt : Nat) (hdg : decode cc pc = .ok (.ifCond .ne off, 3)) (ht : (pc : Int) + off = (tgt : Int)) (kt : ¬ x = y → J K M tgt L st) (kf : x = y → J K M (pc + 3) L st) : J K M pc L (.int (lg_cmp x y) :: st) :=
  j_if_ne C tgt hdg ht (fun h => kt (fun q => h (lc_eq.mpr q))) (fun h => kf (lc_eq.mp h))
theorem j_iflc_lt (C : Ok K l R cc own G n0 nL) {x y : Int64} {off : Int} (tgt : Nat) (hdg : decode cc pc = .ok (.ifCond .lt off, 3)) (ht : (pc : Int) + off = (tgt : Int)) (kt : x < y → J K M tgt L st) (kf : ¬ x < y → J K M (pc + 3) L st) : J K M pc L (.int (lg_cmp x y) :: st) :=
  j_if_lt C tgt hdg ht (fun h => kt (lc_lt.mp h)) (fun h => kf (fun q => h (lc_lt.mpr q)))
theorem j_iflc_ge (C : Ok K l R cc own G n0 nL) {x y : Int64} {off : Int} (tgt : Nat) (hdg : decode cc pc = .ok (.ifCond .ge off, 3)) (ht : (pc : Int) + off = (tgt : Int)) (kt : y ≤ x → J K M tgt L st) (kf : ¬ y ≤ x → J K M (pc + 3) L st) : J K M pc L (.int (lg_cmp x y) :: st) :=
  j_if_ge C tgt hdg ht (fun h => kt (lc_ge.mp h)) (fun h => kf (fun q => h (lc_ge.mpr q)))
theorem j_iflc_gt (C : Ok K l R cc own G n0 nL) {x y : Int64} {off : Int} (tgt : Nat) (hdg : decode cc pc = .ok (.ifCond .gt off, 3)) (ht : (pc : Int) + off = (tgt : Int)) (kt : y < x → J K M tgt L st) (kf : ¬ y < x → J K M (pc + 3) L st) : J K M pc L (.int (lg_cmp x y) :: st) :=
  j_if_gt C tgt hdg ht (fun h => kt (lc_gt.mp h)) (fun h => kf (fun q => h (lc_gt.mpr q)))
theorem j_iflc_le (C : Ok K l R cc own G n0 nL) {x y : Int64} {off : Int} (tgt : Nat) (hdg : decode cc pc = .ok (.ifCond .le off, 3)) (ht : (pc : Int) + off = (tgt : Int)) (kt : x ≤ y → J K M tgt L st) (kf : ¬ x ≤ y → J K M (pc + 3) L st) : J K M pc L (.int (lg_cmp x y) :: st) :=
  j_if_le C tgt hdg ht (fun h => kt (lc_le.mp h)) (fun h => kf (fun q => h (lc_le.mpr q)))
theorem j_ifz_eq (C : Ok K l R cc own G n0 nL) {b : Bool} {off : Int} (tgt : Nat) (hdg : decode cc pc = .ok (.ifCond .eq off, 3)) (ht : (pc : Int) + off = (tgt : Int)) (kt : ¬ (b = true) → J K M tgt L st) (kf : b = true → J K M (pc + 3) L st) : J K M pc L (.int (bI b) :: st) :=
  j_if_eq C tgt hdg ht (fun h => kt (fun q => by subst q; exact absurd h (by decide))) (fun h => kf (by cases b with | true => rfl | false => exact absurd rfl h))
theorem j_ifz_ne (C : Ok K l R cc own G n0 nL) {b : Bool} {off : Int} (tgt : Nat) (hdg : decode cc pc = .ok (.ifCond .ne off, 3)) (ht : (pc : Int) + off = (tgt : Int)) (kt : b = true → J K M tgt L st) (kf : ¬ (b = true) → J K M (pc + 3) L st) : J K M pc L (.int (bI b) :: st) :=
  j_if_ne C tgt hdg ht (fun h => kt (by cases b with | true => rfl | false => exact absurd rfl h)) (fun h => kf (fun q => by subst q; exact absurd h (by decide)))
theorem j_mmax (C : Ok K l R cc own G n0 nL) {x y : Int32} (w1 : Cond.methodLink own index Lib.Math.max.name ∈ TB) (w2 : Cond.static Lib.Math.max.name ∈ TB) (w3 : Cond.initialized "java/lang/Math" ∈ TB) (w4 : Cond.code Lib.Math.max.name Lib.Math.max.code 2 (some .int) ∈ TB) (hR : 1 ≤ R.frames ∧ (st.map fun v => v.category).sum + 13 ≤ R.locals) (hdg : decode cc pc = .ok (.invokestatic index, 3)) (kk : J K M (pc + 3) L (.int (if x < y then y else x) :: st)) : J K M pc L (.int y :: .int x :: st) := by
  obtain ⟨p, l', e, R', s, m, args, below, meth, c, Q, G', n0', nL', cells, slots⟩ := K
  obtain ⟨rfl, rfl, rfl, rfl, rfl, hx, hb, hown, hts, hK, hml, hSt, hce, hsl⟩ := C
  intro H locs ls hP hS hl
  exact va_mmax hx hb (hml.trans hl.1.symm) hown (hts _ w1) (hts _ w2) (hts _ w3) (hts _ w4) hR.1 hR.2 hce hsl hdg (kk H locs ls hP hS hl)
theorem j_mmin (C : Ok K l R cc own G n0 nL) {x y : Int32} (w1 : Cond.methodLink own index Lib.Math.min.name ∈ TB) (w2 : Cond.static Lib.Math.min.name ∈ TB) (w3 : Cond.initialized "java/lang/Math" ∈ TB) (w4 : Cond.code Lib.Math.min.name Lib.Math.min.code 2 (some .int) ∈ TB) (hR : 1 ≤ R.frames ∧ (st.map fun v => v.category).sum + 13 ≤ R.locals) (hdg : decode cc pc = .ok (.invokestatic index, 3)) (kk : J K M (pc + 3) L (.int (if y < x then y else x) :: st)) : J K M pc L (.int y :: .int x :: st) := by
  obtain ⟨p, l', e, R', s, m, args, below, meth, c, Q, G', n0', nL', cells, slots⟩ := K
  obtain ⟨rfl, rfl, rfl, rfl, rfl, hx, hb, hown, hts, hK, hml, hSt, hce, hsl⟩ := C
  intro H locs ls hP hS hl
  exact va_mmin hx hb (hml.trans hl.1.symm) hown (hts _ w1) (hts _ w2) (hts _ w3) (hts _ w4) hR.1 hR.2 hce hsl hdg (kk H locs ls hP hS hl)
theorem j_acp (C : Ok K l R cc own G n0 nL) {a na d nd : Nat} {sp dp n : Int32} (w1 : Cond.methodLink own index arraycopyName ∈ TB) (w2 : Cond.native arraycopyName ∈ TB) (w3 : Cond.static arraycopyName ∈ TB) (w4 : Cond.initialized "java/lang/System" ∈ TB) (ha : lay[a]? = some (tI na)) (hd : lay[d]? = some (tI nd)) (hg : ¬ sp < 0 ∧ ¬ dp < 0 ∧ ¬ n < 0 ∧ sp.toNatClampNeg + n.toNatClampNeg ≤ na ∧ dp.toNatClampNeg + n.toNatClampNeg ≤ nd) (hM : M' = mcpy M a d sp.toNatClampNeg dp.toNatClampNeg n.toNatClampNeg) (hR : 1 ≤ R.frames ∧ (st.map fun v => v.category).sum + (nativeFrameWords "java/lang/System" "arraycopy" 5 + 11) ≤ R.locals) (hdg : decode cc pc = .ok (.invokestatic index, 3)) (kk : J K M' (pc + 3) L st) : J K M pc L (.int n :: .int dp :: .ref (n0 + d) :: .int sp :: .ref (n0 + a) :: st) := by
  obtain ⟨p, l', e, R', s, m, args, below, meth, c, Q, G', n0', nL', cells, slots⟩ := K
  obtain ⟨rfl, rfl, rfl, rfl, rfl, hx, hb, hown, hts, hK, hml, hSt, hce, hsl⟩ := C
  intro H locs ls hP hS hl
  subst hM
  refine va_copyi (ty := .int) hx hb (hml.trans hl.1.symm) hown (hts _ w1) (hts _ w2) (hts _ w3) (hts _ w4) hK hP (wld_D _ _ _) hS a d 0 0 (by rw [wld_at ha, ent_I]) (by rw [wld_at hd, ent_I]) rfl rfl rfl hg.1 hg.2.1 hg.2.2.1 hg.2.2.2.1 hg.2.2.2.2 (fun i _ => rfl) hR.1 hR.2 hdg (fun H1 locs1 hP1 _ hS1 => ?_)
  rw [wld_set hd (M := M) (M' := mcpy M a d sp.toNatClampNeg dp.toNatClampNeg n.toNatClampNeg) (by rw [ent_I]; simp [mcpy]) (fun q hq => by simp [mcpy, hq]) (fun q hq => rfl)] at hP1
  exact kk H1 locs1 ls hP1 hS1 hl
theorem j_tsw (C : Ok K l R cc own G n0 nL) {x v : Int32} {dflt lo hi off : Int} {offs : Array Int} {len : Nat} (tgt : Nat) (hx' : x = v) (hdg : decode cc pc = .ok (.tableswitch dflt lo hi offs, len)) (h : ¬ v.toInt < lo ∧ ¬ hi < v.toInt) (ho : offs[(v.toInt - lo).toNat]? = some off) (ht : (pc : Int) + off = (tgt : Int)) (kk : J K M tgt L st) : J K M pc L (.int x :: st) := by
  obtain ⟨p, l', e, R', s, m, args, below, meth, c, Q, G', n0', nL', cells, slots⟩ := K
  obtain ⟨rfl, rfl, rfl, rfl, rfl, hx, hb, hown, hts, hK, hml, hSt, hce, hsl⟩ := C
  intro H locs ls hP hS hl
  subst hx'
  exact lv_tableIn hx hb hdg h.1 h.2 ho ht (kk H locs ls hP hS hl)
theorem j_tswD (C : Ok K l R cc own G n0 nL) {x : Int32} {dflt lo hi : Int} {offs : Array Int} {len : Nat} (tgt : Nat) (h : x.toInt < lo ∨ hi < x.toInt) (hdg : decode cc pc = .ok (.tableswitch dflt lo hi offs, len)) (ht : (pc : Int) + dflt = (tgt : Int)) (kk : J K M tgt L st) : J K M pc L (.int x :: st) := by
  obtain ⟨p, l', e, R', s, m, args, below, meth, c, Q, G', n0', nL', cells, slots⟩ := K
  obtain ⟨rfl, rfl, rfl, rfl, rfl, hx, hb, hown, hts, hK, hml, hSt, hce, hsl⟩ := C
  intro H locs ls hP hS hl
  exact lv_tableOut hx hb hdg h ht (kk H locs ls hP hS hl)
end JF
theorem j_callSN {K : Kx} {l : Launch} {R : Room} {cc : ByteArray} {own : String} {G : Gx} {n0 nL : Nat} {M M' : Mem} {pc : Nat} {L : List (Nat × Value)} {st st0 : List Value} {y : MethodName} {rm : Room} {bytes : ByteArray} {maxL index : Nat} {ret : Option FieldType} {v : Option Value} {As : List Value}
    (C : Ok K l R cc own G n0 nL) (n : Nat) (h : Ct l y bytes maxL ret rm G n0 As M v M') (hq : (own, index, y) ∈ nxM) (hini : Cond.initialized y.cls ∈ TB) (hsta : Cond.static y ∈ TB) (hcode : Cond.code y bytes maxL ret ∈ TB) (hrm : rm.cells = 0 ∧ rm.slots = 0)
    (hd : y.cls ≠ "java/lang/invoke/MethodHandle" ∧ y.cls ≠ "java/lang/invoke/VarHandle" ∧ (parseMethodDescriptor y.desc).map (fun d => d.parameters.length) = some n) (hR : rm.frames + 1 ≤ R.frames ∧ 8 + (maxL + 11) + rm.locals ≤ R.locals) (hn : As.length = n) (hst : st0 = As.reverse ++ st) (hW : (st.map fun v => v.category).sum ≤ 8) (hdg : decode cc pc = .ok (.invokestatic index, 3))
    (kk : J K M' (pc + 3) L (v.toList ++ st)) : J K M pc L st0 := by
  obtain ⟨p, l', e, R', s, m, args, below, meth, c, Q, G', n0', nL', cells, slots⟩ := K
  obtain ⟨rfl, rfl, rfl, rfl, rfl, hx, hb, hown, hts, hK, hml, hSt, hce, hsl⟩ := C
  intro H locs ls hP hS hl
  subst hst
  exact j_ret (va_runSN (As := As) (rest := st) ⟨hx, hb, hml, hown, hts⟩ h ⟨va_cnB n hts (good_T hcode) rfl hrm.1 hrm.2 (hSt.2.1 _ hq) (hts _ hini) hd hR, hts _ hsta, trivial⟩ ⟨Rl_blind, fun U hU hW => ⟨rfl, by rw [hU]; exact hP, va_K.moved hW.alike hK, hSt.step hW (hS.F hU)⟩⟩ rfl hn hl.1 rfl (lv_room hW) hdg ⟨hce, hsl⟩) hS (fun H1 locs1 hP1 hS1 => kk H1 locs1 ls hP1 hS1 hl)
theorem nxf_RX11_households : (RX11, 53, "OvenDays$Village", "households", "LOvenDays$Households;") ∈ nxF := by decide +kernel
theorem nxf_RX11_batches : (RX11, 79, "OvenDays$Village", "batches", "LOvenDays$Batches;") ∈ nxF := by decide +kernel
theorem nxf_RX11_loads : (RX11, 158, "OvenDays$Village", "loads", "LOvenDays$Loads;") ∈ nxF := by decide +kernel
theorem nxf_RX11_loaves : (RX11, 107, "OvenDays$Village", "loaves", "LOvenDays$Loaves;") ∈ nxF := by decide +kernel
theorem nxf_RX11_heat : (RX11, 172, "OvenDays$Village", "heat", "I") ∈ nxF := by decide +kernel
theorem nxf_RX11_s : (RX11, 194, "OvenDays$Village", "s", "I") ∈ nxF := by decide +kernel
theorem nxf_RX11_days : (RX11, 169, "OvenDays$Village", "days", "I") ∈ nxF := by decide +kernel
theorem nxf_RX11_dough : (RX11, 179, "OvenDays$Village", "dough", "I") ∈ nxF := by decide +kernel
theorem nxm_RX4_50 : (RX4, 50, yX11_contains) ∈ nxM := by decide +kernel
theorem nxm_RX9_70 : (RX9, 70, yX11_whyNotWithin) ∈ nxM := by decide +kernel
theorem nxm_RX9_82 : (RX9, 82, yX11_whyNotBelow) ∈ nxM := by decide +kernel
theorem nxm_RX6_86 : (RX6, 86, yX11_contains) ∈ nxM := by decide +kernel
