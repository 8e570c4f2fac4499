def un8 {α1 α2 α3 α4 α5 α6 α7 α8 β : Type} (f : α1 → α2 → α3 → α4 → α5 → α6 → α7 → α8 → β) (q : α1 × α2 × α3 × α4 × α5 × α6 × α7 × α8) : β := f q.1 q.2.1 q.2.2.1 q.2.2.2.1 q.2.2.2.2.1 q.2.2.2.2.2.1 q.2.2.2.2.2.2.1 q.2.2.2.2.2.2.2
theorem un8e {α1 α2 α3 α4 α5 α6 α7 α8 β : Type} {f : α1 → α2 → α3 → α4 → α5 → α6 → α7 → α8 → β} {a1 : α1} {a2 : α2} {a3 : α3} {a4 : α4} {a5 : α5} {a6 : α6} {a7 : α7} {a8 : α8} {x : β} (h : un8 f (a1, a2, a3, a4, a5, a6, a7, a8) = x) : f a1 a2 a3 a4 a5 a6 a7 a8 = x := h
def un9 {α1 α2 α3 α4 α5 α6 α7 α8 α9 β : Type} (f : α1 → α2 → α3 → α4 → α5 → α6 → α7 → α8 → α9 → β) (q : α1 × α2 × α3 × α4 × α5 × α6 × α7 × α8 × α9) : β := f q.1 q.2.1 q.2.2.1 q.2.2.2.1 q.2.2.2.2.1 q.2.2.2.2.2.1 q.2.2.2.2.2.2.1 q.2.2.2.2.2.2.2.1 q.2.2.2.2.2.2.2.2
theorem un9e {α1 α2 α3 α4 α5 α6 α7 α8 α9 β : Type} {f : α1 → α2 → α3 → α4 → α5 → α6 → α7 → α8 → α9 → β} {a1 : α1} {a2 : α2} {a3 : α3} {a4 : α4} {a5 : α5} {a6 : α6} {a7 : α7} {a8 : α8} {a9 : α9} {x : β} (h : un9 f (a1, a2, a3, a4, a5, a6, a7, a8, a9) = x) : f a1 a2 a3 a4 a5 a6 a7 a8 a9 = x := h
def un10 {α1 α2 α3 α4 α5 α6 α7 α8 α9 α10 β : Type} (f : α1 → α2 → α3 → α4 → α5 → α6 → α7 → α8 → α9 → α10 → β) (q : α1 × α2 × α3 × α4 × α5 × α6 × α7 × α8 × α9 × α10) : β := f q.1 q.2.1 q.2.2.1 q.2.2.2.1 q.2.2.2.2.1 q.2.2.2.2.2.1 q.2.2.2.2.2.2.1 q.2.2.2.2.2.2.2.1 q.2.2.2.2.2.2.2.2.1 q.2.2.2.2.2.2.2.2.2
theorem un10e {α1 α2 α3 α4 α5 α6 α7 α8 α9 α10 β : Type} {f : α1 → α2 → α3 → α4 → α5 → α6 → α7 → α8 → α9 → α10 → β} {a1 : α1} {a2 : α2} {a3 : α3} {a4 : α4} {a5 : α5} {a6 : α6} {a7 : α7} {a8 : α8} {a9 : α9} {a10 : α10} {x : β} (h : un10 f (a1, a2, a3, a4, a5, a6, a7, a8, a9, a10) = x) : f a1 a2 a3 a4 a5 a6 a7 a8 a9 a10 = x := h
def un11 {α1 α2 α3 α4 α5 α6 α7 α8 α9 α10 α11 β : Type} (f : α1 → α2 → α3 → α4 → α5 → α6 → α7 → α8 → α9 → α10 → α11 → β) (q : α1 × α2 × α3 × α4 × α5 × α6 × α7 × α8 × α9 × α10 × α11) : β := f q.1 q.2.1 q.2.2.1 q.2.2.2.1 q.2.2.2.2.1 q.2.2.2.2.2.1 q.2.2.2.2.2.2.1 q.2.2.2.2.2.2.2.1 q.2.2.2.2.2.2.2.2.1 q.2.2.2.2.2.2.2.2.2.1 q.2.2.2.2.2.2.2.2.2.2
theorem un11e {α1 α2 α3 α4 α5 α6 α7 α8 α9 α10 α11 β : Type} {f : α1 → α2 → α3 → α4 → α5 → α6 → α7 → α8 → α9 → α10 → α11 → β} {a1 : α1} {a2 : α2} {a3 : α3} {a4 : α4} {a5 : α5} {a6 : α6} {a7 : α7} {a8 : α8} {a9 : α9} {a10 : α10} {a11 : α11} {x : β} (h : un11 f (a1, a2, a3, a4, a5, a6, a7, a8, a9, a10, a11) = x) : f a1 a2 a3 a4 a5 a6 a7 a8 a9 a10 a11 = x := h
def un12 {α1 α2 α3 α4 α5 α6 α7 α8 α9 α10 α11 α12 β : Type} (f : α1 → α2 → α3 → α4 → α5 → α6 → α7 → α8 → α9 → α10 → α11 → α12 → β) (q : α1 × α2 × α3 × α4 × α5 × α6 × α7 × α8 × α9 × α10 × α11 × α12) : β := f q.1 q.2.1 q.2.2.1 q.2.2.2.1 q.2.2.2.2.1 q.2.2.2.2.2.1 q.2.2.2.2.2.2.1 q.2.2.2.2.2.2.2.1 q.2.2.2.2.2.2.2.2.1 q.2.2.2.2.2.2.2.2.2.1 q.2.2.2.2.2.2.2.2.2.2.1 q.2.2.2.2.2.2.2.2.2.2.2
theorem un12e {α1 α2 α3 α4 α5 α6 α7 α8 α9 α10 α11 α12 β : Type} {f : α1 → α2 → α3 → α4 → α5 → α6 → α7 → α8 → α9 → α10 → α11 → α12 → β} {a1 : α1} {a2 : α2} {a3 : α3} {a4 : α4} {a5 : α5} {a6 : α6} {a7 : α7} {a8 : α8} {a9 : α9} {a10 : α10} {a11 : α11} {a12 : α12} {x : β} (h : un12 f (a1, a2, a3, a4, a5, a6, a7, a8, a9, a10, a11, a12) = x) : f a1 a2 a3 a4 a5 a6 a7 a8 a9 a10 a11 a12 = x := h
def lL_areHouses_250 (M : Mem) (a13 : Int32) : Nat → Int32 → Bool → Int32 → Option (Int32 × Bool)
  | 0, _, _, _ => none
  | n + 1, a60, a61, a62 =>
  if a13 ≤ a62 then (some (a60, a61))
  else (if a61 = true then ((gL_household a13 (0 : Int32) M).bind fun v66 =>
  (gL_household a62 (0 : Int32) M).bind fun v68 =>
  (if v66 = v68 then (some false)
  else (some true)).bind (fun z70 => if (v66 ||| v68) = v66 then (lL_areHouses_250 M a13 n (a60 + (1 : Int32)) z70 (a62 + 1))
  else (if (v66 ||| v68) = v68 then (lL_areHouses_250 M a13 n (a60 + (1 : Int32)) z70 (a62 + 1))
  else (lL_areHouses_250 M a13 n (a60 + (0 : Int32)) z70 (a62 + 1)))))
  else (some (a60, a61)))

def lL_areHouses_37 (M : Mem) (v2 : Int32) : Nat → Int32 → Int32 → Int32 → Int32 → Int32 → Int32 → Int32 → Int32 → Int64 → Bool → Int32 → Option (Int32 × Int32 × Int32 × Int32 × Int32 × Int32 × Int32 × Int32 × Int64 × Bool)
  | 0, _, _, _, _, _, _, _, _, _, _, _ => none
  | n + 1, a3, a4, a5, a6, a7, a8, a9, a10, a11, a12, a13 =>
  if v2 ≤ a13 then (some (a3, a4, a5, a6, a7, a8, a9, a10, a11, a12))
  else (if a12 = true then ((gL_household a13 (1 : Int32) M).bind fun v17 =>
  (gL_household a13 (2 : Int32) M).bind fun v19 =>
  (gL_household a13 (3 : Int32) M).bind fun v21 =>
  (gL_household a13 (4 : Int32) M).bind fun v23 =>
  (gL_household a13 (5 : Int32) M).bind fun v25 =>
  (gL_household a13 (6 : Int32) M).bind fun v27 =>
  (gL_household a13 (7 : Int32) M).bind fun v29 =>
  (gL_due a13 M).bind fun v31 =>
  (gL_household a13 (0 : Int32) M).bind fun v33 =>
  (if v33 ≤ 0 then (some false)
  else ((gL_household a13 (0 : Int32) M).bind fun v36 =>
  if (65536 : Int32) ≤ v36 then (some false)
  else ((gL_household a13 (6 : Int32) M).bind fun v39 =>
  (gL_household a13 (4 : Int32) M).bind fun v41 =>
  if v41 < v39 then (some false)
  else ((gL_household a13 (6 : Int32) M).bind fun v44 =>
  (gL_household a13 (5 : Int32) M).bind fun v46 =>
  if v46 < v44 then (some false)
  else ((gL_balance a13 (0 : Int32) M).bind fun v49 =>
  (gL_balance a13 (1 : Int32) M).bind fun v51 =>
  (gL_balance a13 (2 : Int32) M).bind fun v53 =>
  (gL_household a13 (4 : Int32) M).bind fun v55 =>
  (gL_household a13 (5 : Int32) M).bind fun v57 =>
  if ((v49 + v51) + v53) = (v55 - v57) then (some true)
  else (some false)))))).bind (fun z59 => (lL_areHouses_250 M a13 FUEL a9 z59 (0 : Int32)).bind (un2 fun a73 a74 => lL_areHouses_37 M v2 n (a3 + v17) (a4 + v19) (a5 + v23) (a6 + v25) (a7 + v27) (a8 + v29) a73 (a10 + v21) (a11 + v31) a74 (a13 + 1))))
  else (some (a3, a4, a5, a6, a7, a8, a9, a10, a11, a12)))

def lL_areHouses_345 (M : Mem) (v2 : Int32) (a82 : Int32) (v86 : Int32) : Nat → Bool → Int32 → Option Bool
  | 0, _, _ => none
  | n + 1, a87, a88 =>
  if v2 ≤ a88 then (some a87)
  else (if a87 = true then ((if a82 = v2 then (some true)
  else ((gL_household a88 (3 : Int32) M).bind fun v93 =>
  if v93 = 0 then (some true)
  else (some false))).bind (fun z95 => if z95 = true then ((gL_due a88 M).bind fun v98 =>
  (gL_due v86 M).bind fun v100 =>
  if v98 < v100 then (lL_areHouses_345 M v2 a82 v86 n true (a88 + 1))
  else ((gL_due a88 M).bind fun v103 =>
  (gL_due v86 M).bind fun v105 =>
  if v103 = v105 then (if a88 < v86 then (lL_areHouses_345 M v2 a82 v86 n false (a88 + 1))
  else (lL_areHouses_345 M v2 a82 v86 n true (a88 + 1)))
  else (lL_areHouses_345 M v2 a82 v86 n false (a88 + 1))))
  else (lL_areHouses_345 M v2 a82 v86 n true (a88 + 1))))
  else (some a87))

def fL_areHouses  (M : Mem) : Option Bool :=
  (gL_whole (0 : Int32) M).bind fun v2 =>
  (lL_areHouses_37 M v2 FUEL (0 : Int32) (0 : Int32) (0 : Int32) (0 : Int32) (0 : Int32) (0 : Int32) (0 : Int32) (0 : Int32) (0 : Int64) true (0 : Int32)).bind (un10 fun a75 a76 a77 a78 a79 a80 a81 a82 a83 a84 => (fX11_nextForWood M).bind fun v86 =>
  (lL_areHouses_345 M v2 a82 v86 FUEL a84 (0 : Int32)).bind (fun a108 => (if a108 = true then (if v2 = 0 then (if v86 = (-1 : Int32) then (some true)
  else (some false))
  else (if a82 = v2 then (some true)
  else ((gL_household v86 (3 : Int32) M).bind fun v113 =>
  if v113 = 0 then (some true)
  else (some false))))
  else (some false)).bind (fun z116 => if z116 = true then ((gL_whole (4 : Int32) M).bind fun v119 =>
  if a75 = v119 then ((gL_whole (5 : Int32) M).bind fun v122 =>
  if a76 = v122 then (if a83 = (0 : Int64) then ((gL_whole (9 : Int32) M).bind fun v126 =>
  if a77 = v126 then ((gL_whole (9 : Int32) M).bind fun v129 =>
  (gL_whole (10 : Int32) M).bind fun v131 =>
  if (v129 - v131) < a78 then (some false)
  else ((gL_whole (11 : Int32) M).bind fun v134 =>
  if (a79 + v134) = a78 then ((gL_whole (3 : Int32) M).bind fun v137 =>
  if a80 = v137 then ((fX11_likeMarks M).bind fun v140 =>
  if v140 = a81 then (some true)
  else (some false))
  else (some false))
  else (some false)))
  else (some false))
  else (some false))
  else (some false))
  else (some false))
  else (some false))))

def rL_areHouses : Room := { frames := 9, cells := 0, slots := 0, locals := 156 }
set_option maxRecDepth 100000 in
set_option maxHeartbeats 8000000 in
theorem c_L_areHouses (l : Launch) (hfl : l.stackTraces = false) (G : Gx) (n0 : Nat) {M : Mem} {r : Bool} (hf : fL_areHouses M = some r) : CtK l yL_areHouses cL_areHouses 17 (some .boolean) rL_areHouses G n0 [.ref (n0 + 0)] M (some (.int (bI r))) M 0 := by
  refine ctk_bool (cc := cL_areHouses) (maxL := 17) rfl (Nat.le_of_ble_eq_true rfl) ⟨rfl, rfl⟩ ?_
  intro K CC hret
  have CC : ∀ a, a ≤ 0 → Ok (kc K a) l rL_areHouses cL_areHouses RL G n0 17 := CC
  show J (kc K 0) M 0 [(0, .ref (n0 + 0))] []
  have C := CC 0 (by omega)
  unfold fL_areHouses at hf
  refine j_aload_n C 0 dL_areHouses_0 rfl rfl ?_
  refine j_iconst C (0 : Int32) rfl dL_areHouses_1 ?_
  obtain ⟨v2, e1, hf⟩ := bd hf
  refine j_callR C 2 (cg_L_whole l G n0 e1) gw_L_whole_91 ⟨rfl, rfl⟩ (by decide +kernel) ⟨Nat.le_of_ble_eq_true rfl, Nat.le_of_ble_eq_true rfl⟩ rfl rfl (Nat.le_of_ble_eq_true rfl) dL_areHouses_2 ?_
  refine j_istore_n C [(1, .int v2), (0, .ref (n0 + 0))] dL_areHouses_5 rfl (Nat.le_of_ble_eq_true rfl) rfl ?_
  refine j_iconst C (0 : Int32) rfl dL_areHouses_6 ?_
  refine j_istore_n C [(2, .int (0 : Int32)), (1, .int v2), (0, .ref (n0 + 0))] dL_areHouses_7 rfl (Nat.le_of_ble_eq_true rfl) rfl ?_
  refine j_iconst C (0 : Int32) rfl dL_areHouses_8 ?_
  refine j_istore_n C [(3, .int (0 : Int32)), (2, .int (0 : Int32)), (1, .int v2), (0, .ref (n0 + 0))] dL_areHouses_9 rfl (Nat.le_of_ble_eq_true rfl) rfl ?_
  refine j_iconst C (0 : Int32) rfl dL_areHouses_10 ?_
  refine j_istore C [(4, .int (0 : Int32)), (3, .int (0 : Int32)), (2, .int (0 : Int32)), (1, .int v2), (0, .ref (n0 + 0))] dL_areHouses_11 (Nat.le_of_ble_eq_true rfl) rfl ?_
  refine j_iconst C (0 : Int32) rfl dL_areHouses_13 ?_
  refine j_istore C [(5, .int (0 : Int32)), (4, .int (0 : Int32)), (3, .int (0 : Int32)), (2, .int (0 : Int32)), (1, .int v2), (0, .ref (n0 + 0))] dL_areHouses_14 (Nat.le_of_ble_eq_true rfl) rfl ?_
  refine j_iconst C (0 : Int32) rfl dL_areHouses_16 ?_
  refine j_istore C [(6, .int (0 : Int32)), (5, .int (0 : Int32)), (4, .int (0 : Int32)), (3, .int (0 : Int32)), (2, .int (0 : Int32)), (1, .int v2), (0, .ref (n0 + 0))] dL_areHouses_17 (Nat.le_of_ble_eq_true rfl) rfl ?_
  refine j_iconst C (0 : Int32) rfl dL_areHouses_19 ?_
  refine j_istore C [(7, .int (0 : Int32)), (6, .int (0 : Int32)), (5, .int (0 : Int32)), (4, .int (0 : Int32)), (3, .int (0 : Int32)), (2, .int (0 : Int32)), (1, .int v2), (0, .ref (n0 + 0))] dL_areHouses_20 (Nat.le_of_ble_eq_true rfl) rfl ?_
  refine j_iconst C (0 : Int32) rfl dL_areHouses_22 ?_
  refine j_istore C [(8, .int (0 : Int32)), (7, .int (0 : Int32)), (6, .int (0 : Int32)), (5, .int (0 : Int32)), (4, .int (0 : Int32)), (3, .int (0 : Int32)), (2, .int (0 : Int32)), (1, .int v2), (0, .ref (n0 + 0))] dL_areHouses_23 (Nat.le_of_ble_eq_true rfl) rfl ?_
  refine j_iconst C (0 : Int32) rfl dL_areHouses_25 ?_
  refine j_istore C [(9, .int (0 : Int32)), (8, .int (0 : Int32)), (7, .int (0 : Int32)), (6, .int (0 : Int32)), (5, .int (0 : Int32)), (4, .int (0 : Int32)), (3, .int (0 : Int32)), (2, .int (0 : Int32)), (1, .int v2), (0, .ref (n0 + 0))] dL_areHouses_26 (Nat.le_of_ble_eq_true rfl) rfl ?_
  refine j_lconst C (0 : Int64) rfl dL_areHouses_28 ?_
  refine j_lstore C [(10, .long (0 : Int64)), (9, .int (0 : Int32)), (8, .int (0 : Int32)), (7, .int (0 : Int32)), (6, .int (0 : Int32)), (5, .int (0 : Int32)), (4, .int (0 : Int32)), (3, .int (0 : Int32)), (2, .int (0 : Int32)), (1, .int v2), (0, .ref (n0 + 0))] dL_areHouses_29 (Nat.le_of_ble_eq_true rfl) rfl ?_
  refine j_iconst C (1 : Int32) rfl dL_areHouses_31 ?_
  refine j_istore C [(12, .int (bI true)), (10, .long (0 : Int64)), (9, .int (0 : Int32)), (8, .int (0 : Int32)), (7, .int (0 : Int32)), (6, .int (0 : Int32)), (5, .int (0 : Int32)), (4, .int (0 : Int32)), (3, .int (0 : Int32)), (2, .int (0 : Int32)), (1, .int v2), (0, .ref (n0 + 0))] dL_areHouses_32 (Nat.le_of_ble_eq_true rfl) rfl ?_
  refine j_iconst C (0 : Int32) rfl dL_areHouses_34 ?_
  refine j_istore C [(13, .int (0 : Int32)), (12, .int (bI true)), (10, .long (0 : Int64)), (9, .int (0 : Int32)), (8, .int (0 : Int32)), (7, .int (0 : Int32)), (6, .int (0 : Int32)), (5, .int (0 : Int32)), (4, .int (0 : Int32)), (3, .int (0 : Int32)), (2, .int (0 : Int32)), (1, .int v2), (0, .ref (n0 + 0))] dL_areHouses_35 (Nat.le_of_ble_eq_true rfl) rfl ?_
  obtain ⟨⟨a75, a76, a77, a78, a79, a80, a81, a82, a83, a84⟩, e142, hf⟩ := bd hf
  replace hf := un10e hf
  have hx143 : J (kc K 0) M 336 [(0, .ref (n0 + 0)), (1, .int v2), (2, .int a75), (3, .int a76), (4, .int a77), (5, .int a78), (6, .int a79), (7, .int a80), (8, .int a81), (9, .int a82), (10, .long a83), (12, .int (bI a84))] [] := by
    refine j_aload_n C 0 dL_areHouses_336 rfl rfl ?_
    obtain ⟨v86, e85, hf⟩ := bd hf
    refine j_callV C 0 lc0 (ent_K _ _ _ _ _ _) rfl (c_X11_nextForWood l G n0 e85) gv_RL_142 ⟨rfl, rfl⟩ (by decide +kernel) ⟨Nat.le_of_ble_eq_true rfl, Nat.le_of_ble_eq_true rfl⟩ rfl rfl (Nat.le_of_ble_eq_true rfl) dL_areHouses_337 ?_
    refine j_istore C [(13, .int v86), (0, .ref (n0 + 0)), (1, .int v2), (2, .int a75), (3, .int a76), (4, .int a77), (5, .int a78), (6, .int a79), (7, .int a80), (8, .int a81), (9, .int a82), (10, .long a83), (12, .int (bI a84))] dL_areHouses_340 (Nat.le_of_ble_eq_true rfl) rfl ?_
    refine j_iconst C (0 : Int32) rfl dL_areHouses_342 ?_
    refine j_istore C [(14, .int (0 : Int32)), (13, .int v86), (0, .ref (n0 + 0)), (1, .int v2), (2, .int a75), (3, .int a76), (4, .int a77), (5, .int a78), (6, .int a79), (7, .int a80), (8, .int a81), (9, .int a82), (10, .long a83), (12, .int (bI a84))] dL_areHouses_343 (Nat.le_of_ble_eq_true rfl) rfl ?_
    obtain ⟨a108, e147, hf⟩ := bd hf
    have hx148 : J (kc K 0) M 436 [(0, .ref (n0 + 0)), (1, .int v2), (2, .int a75), (3, .int a76), (4, .int a77), (5, .int a78), (6, .int a79), (7, .int a80), (8, .int a81), (9, .int a82), (10, .long a83), (12, .int (bI a108)), (13, .int v86)] [] := by
      refine j_iload C 11 dL_areHouses_436 rfl ?_
      obtain ⟨z116, e152, hf⟩ := bd hf
      have hj153 : J (kc K 0) M 475 [(0, .ref (n0 + 0)), (2, .int a75), (3, .int a76), (4, .int a77), (5, .int a78), (6, .int a79), (7, .int a80), (8, .int a81), (10, .long a83)] [.int (bI z116)] := by
        refine j_istore C [(12, .int (bI z116)), (0, .ref (n0 + 0)), (2, .int a75), (3, .int a76), (4, .int a77), (5, .int a78), (6, .int a79), (7, .int a80), (8, .int a81), (10, .long a83)] dL_areHouses_475 (Nat.le_of_ble_eq_true rfl) rfl ?_
        refine j_iload C 0 dL_areHouses_477 rfl ?_
        refine j_ifz_eq C 573 dL_areHouses_479 (by decide) (fun c117 => ?_) (fun c117 => ?_)
        · replace hf := ine c117 hf
          refine j_iconst C (0 : Int32) rfl dL_areHouses_573 ?_
          obtain rfl := Option.some.inj hf
          exact hret _ _ _ (by omega) dL_areHouses_574
        · replace hf := ip c117 hf
          refine j_iload_n C 2 dL_areHouses_482 rfl rfl ?_
          refine j_aload_n C 1 dL_areHouses_483 rfl rfl ?_
          refine j_iconst C (4 : Int32) rfl dL_areHouses_484 ?_
          obtain ⟨v119, e118, hf⟩ := bd hf
          refine j_callR C 2 (cg_L_whole l G n0 e118) gw_L_whole_91 ⟨rfl, rfl⟩ (by decide +kernel) ⟨Nat.le_of_ble_eq_true rfl, Nat.le_of_ble_eq_true rfl⟩ rfl rfl (Nat.le_of_ble_eq_true rfl) dL_areHouses_485 ?_
          refine j_icmp_ne C 573 dL_areHouses_488 (by decide) (fun c120 => ?_) (fun c120 => ?_)
          · replace hf := ine c120 hf
            refine j_iconst C (0 : Int32) rfl dL_areHouses_573 ?_
            obtain rfl := Option.some.inj hf
            exact hret _ _ _ (by omega) dL_areHouses_574
          · replace hf := ip c120 hf
            refine j_iload_n C 3 dL_areHouses_491 rfl rfl ?_
            refine j_aload_n C 1 dL_areHouses_492 rfl rfl ?_
            refine j_iconst C (5 : Int32) rfl dL_areHouses_493 ?_
            obtain ⟨v122, e121, hf⟩ := bd hf
            refine j_callR C 2 (cg_L_whole l G n0 e121) gw_L_whole_91 ⟨rfl, rfl⟩ (by decide +kernel) ⟨Nat.le_of_ble_eq_true rfl, Nat.le_of_ble_eq_true rfl⟩ rfl rfl (Nat.le_of_ble_eq_true rfl) dL_areHouses_494 ?_
            refine j_icmp_ne C 573 dL_areHouses_497 (by decide) (fun c123 => ?_) (fun c123 => ?_)
            · replace hf := ine c123 hf
              refine j_iconst C (0 : Int32) rfl dL_areHouses_573 ?_
              obtain rfl := Option.some.inj hf
              exact hret _ _ _ (by omega) dL_areHouses_574
            · replace hf := ip c123 hf
              refine j_lload C 9 dL_areHouses_500 rfl ?_
              refine j_lconst C (0 : Int64) rfl dL_areHouses_502 ?_
              refine j_lcmp C dL_areHouses_503 ?_
              refine j_iflc_ne C 573 dL_areHouses_504 (by decide) (fun c124 => ?_) (fun c124 => ?_)
              · replace hf := ine c124 hf
                refine j_iconst C (0 : Int32) rfl dL_areHouses_573 ?_
                obtain rfl := Option.some.inj hf
                exact hret _ _ _ (by omega) dL_areHouses_574
              · replace hf := ip c124 hf
                refine j_iload C 4 dL_areHouses_507 rfl ?_
                refine j_aload_n C 1 dL_areHouses_509 rfl rfl ?_
                refine j_bipush C (9 : Int32) rfl dL_areHouses_510 ?_
                obtain ⟨v126, e125, hf⟩ := bd hf
                refine j_callR C 2 (cg_L_whole l G n0 e125) gw_L_whole_91 ⟨rfl, rfl⟩ (by decide +kernel) ⟨Nat.le_of_ble_eq_true rfl, Nat.le_of_ble_eq_true rfl⟩ rfl rfl (Nat.le_of_ble_eq_true rfl) dL_areHouses_512 ?_
                refine j_icmp_ne C 573 dL_areHouses_515 (by decide) (fun c127 => ?_) (fun c127 => ?_)
                · replace hf := ine c127 hf
                  refine j_iconst C (0 : Int32) rfl dL_areHouses_573 ?_
                  obtain rfl := Option.some.inj hf
                  exact hret _ _ _ (by omega) dL_areHouses_574
                · replace hf := ip c127 hf
                  refine j_iload C 5 dL_areHouses_518 rfl ?_
                  refine j_aload_n C 1 dL_areHouses_520 rfl rfl ?_
                  refine j_bipush C (9 : Int32) rfl dL_areHouses_521 ?_
                  obtain ⟨v129, e128, hf⟩ := bd hf
                  refine j_callR C 2 (cg_L_whole l G n0 e128) gw_L_whole_91 ⟨rfl, rfl⟩ (by decide +kernel) ⟨Nat.le_of_ble_eq_true rfl, Nat.le_of_ble_eq_true rfl⟩ rfl rfl (Nat.le_of_ble_eq_true rfl) dL_areHouses_523 ?_
                  refine j_aload_n C 1 dL_areHouses_526 rfl rfl ?_
                  refine j_bipush C (10 : Int32) rfl dL_areHouses_527 ?_
                  obtain ⟨v131, e130, hf⟩ := bd hf
                  refine j_callR C 2 (cg_L_whole l G n0 e130) gw_L_whole_91 ⟨rfl, rfl⟩ (by decide +kernel) ⟨Nat.le_of_ble_eq_true rfl, Nat.le_of_ble_eq_true rfl⟩ rfl rfl (Nat.le_of_ble_eq_true rfl) dL_areHouses_529 ?_
                  refine j_isub C dL_areHouses_532 ?_
                  refine j_icmp_gt C 573 dL_areHouses_533 (by decide) (fun c132 => ?_) (fun c132 => ?_)
                  · replace hf := ip c132 hf
                    refine j_iconst C (0 : Int32) rfl dL_areHouses_573 ?_
                    obtain rfl := Option.some.inj hf
                    exact hret _ _ _ (by omega) dL_areHouses_574
                  · replace hf := ine c132 hf
                    refine j_iload C 6 dL_areHouses_536 rfl ?_
                    refine j_aload_n C 1 dL_areHouses_538 rfl rfl ?_
                    refine j_bipush C (11 : Int32) rfl dL_areHouses_539 ?_
                    obtain ⟨v134, e133, hf⟩ := bd hf
                    refine j_callR C 2 (cg_L_whole l G n0 e133) gw_L_whole_91 ⟨rfl, rfl⟩ (by decide +kernel) ⟨Nat.le_of_ble_eq_true rfl, Nat.le_of_ble_eq_true rfl⟩ rfl rfl (Nat.le_of_ble_eq_true rfl) dL_areHouses_541 ?_
                    refine j_iadd C dL_areHouses_544 ?_
                    refine j_iload C 5 dL_areHouses_545 rfl ?_
                    refine j_icmp_ne C 573 dL_areHouses_547 (by decide) (fun c135 => ?_) (fun c135 => ?_)
                    · replace hf := ine c135 hf
                      refine j_iconst C (0 : Int32) rfl dL_areHouses_573 ?_
                      obtain rfl := Option.some.inj hf
                      exact hret _ _ _ (by omega) dL_areHouses_574
                    · replace hf := ip c135 hf
                      refine j_iload C 7 dL_areHouses_550 rfl ?_
                      refine j_aload_n C 1 dL_areHouses_552 rfl rfl ?_
                      refine j_iconst C (3 : Int32) rfl dL_areHouses_553 ?_
                      obtain ⟨v137, e136, hf⟩ := bd hf
                      refine j_callR C 2 (cg_L_whole l G n0 e136) gw_L_whole_91 ⟨rfl, rfl⟩ (by decide +kernel) ⟨Nat.le_of_ble_eq_true rfl, Nat.le_of_ble_eq_true rfl⟩ rfl rfl (Nat.le_of_ble_eq_true rfl) dL_areHouses_554 ?_
                      refine j_icmp_ne C 573 dL_areHouses_557 (by decide) (fun c138 => ?_) (fun c138 => ?_)
                      · replace hf := ine c138 hf
                        refine j_iconst C (0 : Int32) rfl dL_areHouses_573 ?_
                        obtain rfl := Option.some.inj hf
                        exact hret _ _ _ (by omega) dL_areHouses_574
                      · replace hf := ip c138 hf
                        refine j_aload_n C 1 dL_areHouses_560 rfl rfl ?_
                        obtain ⟨v140, e139, hf⟩ := bd hf
                        refine j_callV C 0 lc0 (ent_K _ _ _ _ _ _) rfl (c_X11_likeMarks l G n0 e139) gv_RL_146 ⟨rfl, rfl⟩ (by decide +kernel) ⟨Nat.le_of_ble_eq_true rfl, Nat.le_of_ble_eq_true rfl⟩ rfl rfl (Nat.le_of_ble_eq_true rfl) dL_areHouses_561 ?_
                        refine j_iload C 8 dL_areHouses_564 rfl ?_
                        refine j_icmp_ne C 573 dL_areHouses_566 (by decide) (fun c141 => ?_) (fun c141 => ?_)
                        · replace hf := ine c141 hf
                          refine j_iconst C (0 : Int32) rfl dL_areHouses_573 ?_
                          obtain rfl := Option.some.inj hf
                          exact hret _ _ _ (by omega) dL_areHouses_574
                        · replace hf := ip c141 hf
                          refine j_iconst C (1 : Int32) rfl dL_areHouses_569 ?_
                          refine j_goto C 574 dL_areHouses_570 (by decide) ?_
                          obtain rfl := Option.some.inj hf
                          exact hret _ _ _ (by omega) dL_areHouses_574
      clear hf
      have hf := e152
      refine j_ifz_eq C 474 dL_areHouses_438 (by decide) (fun c109 => ?_) (fun c109 => ?_)
      · replace hf := ine c109 hf
        refine j_iconst C (0 : Int32) rfl dL_areHouses_474 ?_
        cases hf
        refine j_sub [0, 2, 3, 4, 5, 6, 7, 8, 10] rfl ?_
        exact j_wid (by omega) hj153
      · replace hf := ip c109 hf
        refine j_iload_n C 1 dL_areHouses_441 rfl rfl ?_
        refine j_if_ne C 454 dL_areHouses_442 (by decide) (fun c110 => ?_) (fun c110 => ?_)
        · replace hf := ine c110 hf
          refine j_iload C 9 dL_areHouses_454 rfl ?_
          refine j_iload_n C 1 dL_areHouses_456 rfl rfl ?_
          refine j_icmp_eq C 470 dL_areHouses_457 (by decide) (fun c111 => ?_) (fun c111 => ?_)
          · replace hf := ip c111 hf
            refine j_iconst C (1 : Int32) rfl dL_areHouses_470 ?_
            refine j_goto C 475 dL_areHouses_471 (by decide) ?_
            cases hf
            refine j_sub [0, 2, 3, 4, 5, 6, 7, 8, 10] rfl ?_
            exact j_wid (by omega) hj153
          · replace hf := ine c111 hf
            refine j_aload_n C 0 dL_areHouses_460 rfl rfl ?_
            refine j_iload C 12 dL_areHouses_461 rfl ?_
            refine j_iconst C (3 : Int32) rfl dL_areHouses_463 ?_
            obtain ⟨v113, e112, hf⟩ := bd hf
            refine j_callR C 3 (cg_L_household l G n0 e112) gw_L_household_96 ⟨rfl, rfl⟩ (by decide +kernel) ⟨Nat.le_of_ble_eq_true rfl, Nat.le_of_ble_eq_true rfl⟩ rfl rfl (Nat.le_of_ble_eq_true rfl) dL_areHouses_464 ?_
            refine j_if_ne C 474 dL_areHouses_467 (by decide) (fun c114 => ?_) (fun c114 => ?_)
            · replace hf := ine c114 hf
              refine j_iconst C (0 : Int32) rfl dL_areHouses_474 ?_
              cases hf
              refine j_sub [0, 2, 3, 4, 5, 6, 7, 8, 10] rfl ?_
              exact j_wid (by omega) hj153
            · replace hf := ip c114 hf
              refine j_iconst C (1 : Int32) rfl dL_areHouses_470 ?_
              refine j_goto C 475 dL_areHouses_471 (by decide) ?_
              cases hf
              refine j_sub [0, 2, 3, 4, 5, 6, 7, 8, 10] rfl ?_
              exact j_wid (by omega) hj153
        · replace hf := ip c110 hf
          refine j_iload C 12 dL_areHouses_445 rfl ?_
          refine j_iconst C (-1 : Int32) rfl dL_areHouses_447 ?_
          refine j_icmp_ne C 474 dL_areHouses_448 (by decide) (fun c115 => ?_) (fun c115 => ?_)
          · replace hf := ine c115 hf
            refine j_iconst C (0 : Int32) rfl dL_areHouses_474 ?_
            cases hf
            refine j_sub [0, 2, 3, 4, 5, 6, 7, 8, 10] rfl ?_
            exact j_wid (by omega) hj153
          · replace hf := ip c115 hf
            refine j_goto C 470 dL_areHouses_451 (by decide) ?_
            refine j_iconst C (1 : Int32) rfl dL_areHouses_470 ?_
            refine j_goto C 475 dL_areHouses_471 (by decide) ?_
            cases hf
            refine j_sub [0, 2, 3, 4, 5, 6, 7, 8, 10] rfl ?_
            exact j_wid (by omega) hj153
    clear hf
    have hl149 : ∀ (n : Nat) (a87 : Bool) (a88 : Int32), lL_areHouses_345 M v2 a82 v86 n a87 a88 = some a108 → J (kc K 0) M 345 [(0, .ref (n0 + 0)), (1, .int v2), (2, .int a75), (3, .int a76), (4, .int a77), (5, .int a78), (6, .int a79), (7, .int a80), (8, .int a81), (9, .int a82), (10, .long a83), (12, .int (bI a87)), (13, .int v86), (14, .int a88)] [] := by
      intro n
      induction n with
      | zero =>
        intro a87 a88 hf
        exact absurd hf (by rw [lL_areHouses_345]; exact fun h => by cases h)
      | succ n ih =>
        intro a87 a88 hf
        rw [lL_areHouses_345] at hf
        refine j_iload C 13 dL_areHouses_345 rfl ?_
        refine j_iload_n C 1 dL_areHouses_347 rfl rfl ?_
        refine j_icmp_ge C 436 dL_areHouses_348 (by decide) (fun c89 => ?_) (fun c89 => ?_)
        · replace hf := ip c89 hf
          refine j_sub [0, 1, 2, 3, 4, 5, 6, 7, 8, 9, 10, 11, 12] rfl ?_
          cases hf
          exact j_wid (by omega) hx148
        · replace hf := ine c89 hf
          refine j_iload C 11 dL_areHouses_351 rfl ?_
          refine j_ifz_eq C 436 dL_areHouses_353 (by decide) (fun c90 => ?_) (fun c90 => ?_)
          · replace hf := ine c90 hf
            refine j_sub [0, 1, 2, 3, 4, 5, 6, 7, 8, 9, 10, 11, 12] rfl ?_
            cases hf
            exact j_wid (by omega) hx148
          · replace hf := ip c90 hf
            refine j_iload C 9 dL_areHouses_356 rfl ?_
            refine j_iload_n C 1 dL_areHouses_358 rfl rfl ?_
            obtain ⟨z95, e154, hf⟩ := bd hf
            have hj155 : J (kc K 0) M 377 [(0, .ref (n0 + 0)), (1, .int v2), (2, .int a75), (3, .int a76), (4, .int a77), (5, .int a78), (6, .int a79), (7, .int a80), (8, .int a81), (9, .int a82), (10, .long a83), (13, .int v86), (14, .int a88)] [.int (bI z95)] := by
              refine j_istore C [(15, .int (bI z95)), (0, .ref (n0 + 0)), (1, .int v2), (2, .int a75), (3, .int a76), (4, .int a77), (5, .int a78), (6, .int a79), (7, .int a80), (8, .int a81), (9, .int a82), (10, .long a83), (13, .int v86), (14, .int a88)] dL_areHouses_377 (Nat.le_of_ble_eq_true rfl) rfl ?_
              refine j_iload C 0 dL_areHouses_379 rfl ?_
              refine j_ifz_eq C 423 dL_areHouses_381 (by decide) (fun c96 => ?_) (fun c96 => ?_)
              · replace hf := ine c96 hf
                refine j_iconst C (1 : Int32) rfl dL_areHouses_423 ?_
                refine j_goto C 428 dL_areHouses_424 (by decide) ?_
                refine j_istore C [(12, .int (bI true)), (15, .int (bI z95)), (0, .ref (n0 + 0)), (1, .int v2), (2, .int a75), (3, .int a76), (4, .int a77), (5, .int a78), (6, .int a79), (7, .int a80), (8, .int a81), (9, .int a82), (10, .long a83), (13, .int v86), (14, .int a88)] dL_areHouses_428 (Nat.le_of_ble_eq_true rfl) rfl ?_
                refine j_iinc C 14 (a88 + 1) [(14, .int (a88 + 1)), (12, .int (bI true)), (15, .int (bI z95)), (0, .ref (n0 + 0)), (1, .int v2), (2, .int a75), (3, .int a76), (4, .int a77), (5, .int a78), (6, .int a79), (7, .int a80), (8, .int a81), (9, .int a82), (10, .long a83), (13, .int v86)] dL_areHouses_430 rfl rfl (Nat.le_of_ble_eq_true rfl) rfl ?_
                refine j_goto C 345 dL_areHouses_433 (by decide) ?_
                refine j_sub [3, 4, 5, 6, 7, 8, 9, 10, 11, 12, 13, 1, 14, 0] rfl ?_
                exact ih _ _ hf
              · replace hf := ip c96 hf
                refine j_aload_n C 1 dL_areHouses_384 rfl rfl ?_
                refine j_iload C 13 dL_areHouses_385 rfl ?_
                obtain ⟨v98, e97, hf⟩ := bd hf
                refine j_callR C 2 (cg_L_due l G n0 e97) gw_L_due_128 ⟨rfl, rfl⟩ (by decide +kernel) ⟨Nat.le_of_ble_eq_true rfl, Nat.le_of_ble_eq_true rfl⟩ rfl rfl (Nat.le_of_ble_eq_true rfl) dL_areHouses_387 ?_
                refine j_aload_n C 1 dL_areHouses_390 rfl rfl ?_
                refine j_iload C 12 dL_areHouses_391 rfl ?_
                obtain ⟨v100, e99, hf⟩ := bd hf
                refine j_callR C 2 (cg_L_due l G n0 e99) gw_L_due_128 ⟨rfl, rfl⟩ (by decide +kernel) ⟨Nat.le_of_ble_eq_true rfl, Nat.le_of_ble_eq_true rfl⟩ rfl rfl (Nat.le_of_ble_eq_true rfl) dL_areHouses_393 ?_
                refine j_lcmp C dL_areHouses_396 ?_
                refine j_iflc_lt C 423 dL_areHouses_397 (by decide) (fun c101 => ?_) (fun c101 => ?_)
                · replace hf := ip c101 hf
                  refine j_iconst C (1 : Int32) rfl dL_areHouses_423 ?_
                  refine j_goto C 428 dL_areHouses_424 (by decide) ?_
                  refine j_istore C [(12, .int (bI true)), (15, .int (bI z95)), (0, .ref (n0 + 0)), (1, .int v2), (2, .int a75), (3, .int a76), (4, .int a77), (5, .int a78), (6, .int a79), (7, .int a80), (8, .int a81), (9, .int a82), (10, .long a83), (13, .int v86), (14, .int a88)] dL_areHouses_428 (Nat.le_of_ble_eq_true rfl) rfl ?_
                  refine j_iinc C 14 (a88 + 1) [(14, .int (a88 + 1)), (12, .int (bI true)), (15, .int (bI z95)), (0, .ref (n0 + 0)), (1, .int v2), (2, .int a75), (3, .int a76), (4, .int a77), (5, .int a78), (6, .int a79), (7, .int a80), (8, .int a81), (9, .int a82), (10, .long a83), (13, .int v86)] dL_areHouses_430 rfl rfl (Nat.le_of_ble_eq_true rfl) rfl ?_
                  refine j_goto C 345 dL_areHouses_433 (by decide) ?_
                  refine j_sub [3, 4, 5, 6, 7, 8, 9, 10, 11, 12, 13, 1, 14, 0] rfl ?_
                  exact ih _ _ hf
                · replace hf := ine c101 hf
                  refine j_aload_n C 1 dL_areHouses_400 rfl rfl ?_
                  refine j_iload C 13 dL_areHouses_401 rfl ?_
                  obtain ⟨v103, e102, hf⟩ := bd hf
                  refine j_callR C 2 (cg_L_due l G n0 e102) gw_L_due_128 ⟨rfl, rfl⟩ (by decide +kernel) ⟨Nat.le_of_ble_eq_true rfl, Nat.le_of_ble_eq_true rfl⟩ rfl rfl (Nat.le_of_ble_eq_true rfl) dL_areHouses_403 ?_
                  refine j_aload_n C 1 dL_areHouses_406 rfl rfl ?_
                  refine j_iload C 12 dL_areHouses_407 rfl ?_
                  obtain ⟨v105, e104, hf⟩ := bd hf
                  refine j_callR C 2 (cg_L_due l G n0 e104) gw_L_due_128 ⟨rfl, rfl⟩ (by decide +kernel) ⟨Nat.le_of_ble_eq_true rfl, Nat.le_of_ble_eq_true rfl⟩ rfl rfl (Nat.le_of_ble_eq_true rfl) dL_areHouses_409 ?_
                  refine j_lcmp C dL_areHouses_412 ?_
                  refine j_iflc_ne C 427 dL_areHouses_413 (by decide) (fun c106 => ?_) (fun c106 => ?_)
                  · replace hf := ine c106 hf
                    refine j_iconst C (0 : Int32) rfl dL_areHouses_427 ?_
                    refine j_istore C [(12, .int (bI false)), (15, .int (bI z95)), (0, .ref (n0 + 0)), (1, .int v2), (2, .int a75), (3, .int a76), (4, .int a77), (5, .int a78), (6, .int a79), (7, .int a80), (8, .int a81), (9, .int a82), (10, .long a83), (13, .int v86), (14, .int a88)] dL_areHouses_428 (Nat.le_of_ble_eq_true rfl) rfl ?_
                    refine j_iinc C 14 (a88 + 1) [(14, .int (a88 + 1)), (12, .int (bI false)), (15, .int (bI z95)), (0, .ref (n0 + 0)), (1, .int v2), (2, .int a75), (3, .int a76), (4, .int a77), (5, .int a78), (6, .int a79), (7, .int a80), (8, .int a81), (9, .int a82), (10, .long a83), (13, .int v86)] dL_areHouses_430 rfl rfl (Nat.le_of_ble_eq_true rfl) rfl ?_
                    refine j_goto C 345 dL_areHouses_433 (by decide) ?_
                    refine j_sub [3, 4, 5, 6, 7, 8, 9, 10, 11, 12, 13, 1, 14, 0] rfl ?_
                    exact ih _ _ hf
                  · replace hf := ip c106 hf
                    refine j_iload C 13 dL_areHouses_416 rfl ?_
                    refine j_iload C 12 dL_areHouses_418 rfl ?_
                    refine j_icmp_lt C 427 dL_areHouses_420 (by decide) (fun c107 => ?_) (fun c107 => ?_)
                    · replace hf := ip c107 hf
                      refine j_iconst C (0 : Int32) rfl dL_areHouses_427 ?_
                      refine j_istore C [(12, .int (bI false)), (15, .int (bI z95)), (0, .ref (n0 + 0)), (1, .int v2), (2, .int a75), (3, .int a76), (4, .int a77), (5, .int a78), (6, .int a79), (7, .int a80), (8, .int a81), (9, .int a82), (10, .long a83), (13, .int v86), (14, .int a88)] dL_areHouses_428 (Nat.le_of_ble_eq_true rfl) rfl ?_
                      refine j_iinc C 14 (a88 + 1) [(14, .int (a88 + 1)), (12, .int (bI false)), (15, .int (bI z95)), (0, .ref (n0 + 0)), (1, .int v2), (2, .int a75), (3, .int a76), (4, .int a77), (5, .int a78), (6, .int a79), (7, .int a80), (8, .int a81), (9, .int a82), (10, .long a83), (13, .int v86)] dL_areHouses_430 rfl rfl (Nat.le_of_ble_eq_true rfl) rfl ?_
                      refine j_goto C 345 dL_areHouses_433 (by decide) ?_
                      refine j_sub [3, 4, 5, 6, 7, 8, 9, 10, 11, 12, 13, 1, 14, 0] rfl ?_
                      exact ih _ _ hf
                    · replace hf := ine c107 hf
                      refine j_iconst C (1 : Int32) rfl dL_areHouses_423 ?_
                      refine j_goto C 428 dL_areHouses_424 (by decide) ?_
                      refine j_istore C [(12, .int (bI true)), (15, .int (bI z95)), (0, .ref (n0 + 0)), (1, .int v2), (2, .int a75), (3, .int a76), (4, .int a77), (5, .int a78), (6, .int a79), (7, .int a80), (8, .int a81), (9, .int a82), (10, .long a83), (13, .int v86), (14, .int a88)] dL_areHouses_428 (Nat.le_of_ble_eq_true rfl) rfl ?_
                      refine j_iinc C 14 (a88 + 1) [(14, .int (a88 + 1)), (12, .int (bI true)), (15, .int (bI z95)), (0, .ref (n0 + 0)), (1, .int v2), (2, .int a75), (3, .int a76), (4, .int a77), (5, .int a78), (6, .int a79), (7, .int a80), (8, .int a81), (9, .int a82), (10, .long a83), (13, .int v86)] dL_areHouses_430 rfl rfl (Nat.le_of_ble_eq_true rfl) rfl ?_
                      refine j_goto C 345 dL_areHouses_433 (by decide) ?_
                      refine j_sub [3, 4, 5, 6, 7, 8, 9, 10, 11, 12, 13, 1, 14, 0] rfl ?_
                      exact ih _ _ hf
            clear hf
            have hf := e154
            refine j_icmp_eq C 372 dL_areHouses_359 (by decide) (fun c91 => ?_) (fun c91 => ?_)
            · replace hf := ip c91 hf
              refine j_iconst C (1 : Int32) rfl dL_areHouses_372 ?_
              refine j_goto C 377 dL_areHouses_373 (by decide) ?_
              cases hf
              refine j_sub [0, 1, 2, 3, 4, 5, 6, 7, 8, 9, 10, 12, 13] rfl ?_
              exact j_wid (by omega) hj155
            · replace hf := ine c91 hf
              refine j_aload_n C 0 dL_areHouses_362 rfl rfl ?_
              refine j_iload C 13 dL_areHouses_363 rfl ?_
              refine j_iconst C (3 : Int32) rfl dL_areHouses_365 ?_
              obtain ⟨v93, e92, hf⟩ := bd hf
              refine j_callR C 3 (cg_L_household l G n0 e92) gw_L_household_96 ⟨rfl, rfl⟩ (by decide +kernel) ⟨Nat.le_of_ble_eq_true rfl, Nat.le_of_ble_eq_true rfl⟩ rfl rfl (Nat.le_of_ble_eq_true rfl) dL_areHouses_366 ?_
              refine j_if_ne C 376 dL_areHouses_369 (by decide) (fun c94 => ?_) (fun c94 => ?_)
              · replace hf := ine c94 hf
                refine j_iconst C (0 : Int32) rfl dL_areHouses_376 ?_
                cases hf
                refine j_sub [0, 1, 2, 3, 4, 5, 6, 7, 8, 9, 10, 12, 13] rfl ?_
                exact j_wid (by omega) hj155
              · replace hf := ip c94 hf
                refine j_iconst C (1 : Int32) rfl dL_areHouses_372 ?_
                refine j_goto C 377 dL_areHouses_373 (by decide) ?_
                cases hf
                refine j_sub [0, 1, 2, 3, 4, 5, 6, 7, 8, 9, 10, 12, 13] rfl ?_
                exact j_wid (by omega) hj155
    refine j_sub [2, 3, 4, 5, 6, 7, 8, 9, 10, 11, 12, 13, 1, 0] rfl ?_
    exact hl149 FUEL a84 (0 : Int32) e147
  clear hf
  have hl144 : ∀ (n : Nat) (a3 : Int32) (a4 : Int32) (a5 : Int32) (a6 : Int32) (a7 : Int32) (a8 : Int32) (a9 : Int32) (a10 : Int32) (a11 : Int64) (a12 : Bool) (a13 : Int32), lL_areHouses_37 M v2 n a3 a4 a5 a6 a7 a8 a9 a10 a11 a12 a13 = some (a75, a76, a77, a78, a79, a80, a81, a82, a83, a84) → J (kc K 0) M 37 [(0, .ref (n0 + 0)), (1, .int v2), (2, .int a3), (3, .int a4), (4, .int a5), (5, .int a6), (6, .int a7), (7, .int a8), (8, .int a9), (9, .int a10), (10, .long a11), (12, .int (bI a12)), (13, .int a13)] [] := by
    intro n
    induction n with
    | zero =>
      intro a3 a4 a5 a6 a7 a8 a9 a10 a11 a12 a13 hf
      exact absurd hf (by rw [lL_areHouses_37]; exact fun h => by cases h)
    | succ n ih =>
      intro a3 a4 a5 a6 a7 a8 a9 a10 a11 a12 a13 hf
      rw [lL_areHouses_37] at hf
      refine j_iload C 12 dL_areHouses_37 rfl ?_
      refine j_iload_n C 1 dL_areHouses_39 rfl rfl ?_
      refine j_icmp_ge C 336 dL_areHouses_40 (by decide) (fun c14 => ?_) (fun c14 => ?_)
      · replace hf := ip c14 hf
        refine j_sub [0, 1, 2, 3, 4, 5, 6, 7, 8, 9, 10, 11] rfl ?_
        cases hf
        exact j_wid (by omega) hx143
      · replace hf := ine c14 hf
        refine j_iload C 11 dL_areHouses_43 rfl ?_
        refine j_ifz_eq C 336 dL_areHouses_45 (by decide) (fun c15 => ?_) (fun c15 => ?_)
        · replace hf := ine c15 hf
          refine j_sub [0, 1, 2, 3, 4, 5, 6, 7, 8, 9, 10, 11] rfl ?_
          cases hf
          exact j_wid (by omega) hx143
        · replace hf := ip c15 hf
          refine j_iload_n C 2 dL_areHouses_48 rfl rfl ?_
          refine j_aload_n C 0 dL_areHouses_49 rfl rfl ?_
          refine j_iload C 12 dL_areHouses_50 rfl ?_
          refine j_iconst C (1 : Int32) rfl dL_areHouses_52 ?_
          obtain ⟨v17, e16, hf⟩ := bd hf
          refine j_callR C 3 (cg_L_household l G n0 e16) gw_L_household_96 ⟨rfl, rfl⟩ (by decide +kernel) ⟨Nat.le_of_ble_eq_true rfl, Nat.le_of_ble_eq_true rfl⟩ rfl rfl (Nat.le_of_ble_eq_true rfl) dL_areHouses_53 ?_
          refine j_iadd C dL_areHouses_56 ?_
          refine j_istore_n C [(2, .int (a3 + v17)), (0, .ref (n0 + 0)), (1, .int v2), (3, .int a4), (4, .int a5), (5, .int a6), (6, .int a7), (7, .int a8), (8, .int a9), (9, .int a10), (10, .long a11), (12, .int (bI a12)), (13, .int a13)] dL_areHouses_57 rfl (Nat.le_of_ble_eq_true rfl) rfl ?_
          refine j_iload_n C 3 dL_areHouses_58 rfl rfl ?_
          refine j_aload_n C 1 dL_areHouses_59 rfl rfl ?_
          refine j_iload C 12 dL_areHouses_60 rfl ?_
          refine j_iconst C (2 : Int32) rfl dL_areHouses_62 ?_
          obtain ⟨v19, e18, hf⟩ := bd hf
          refine j_callR C 3 (cg_L_household l G n0 e18) gw_L_household_96 ⟨rfl, rfl⟩ (by decide +kernel) ⟨Nat.le_of_ble_eq_true rfl, Nat.le_of_ble_eq_true rfl⟩ rfl rfl (Nat.le_of_ble_eq_true rfl) dL_areHouses_63 ?_
          refine j_iadd C dL_areHouses_66 ?_
          refine j_istore_n C [(3, .int (a4 + v19)), (2, .int (a3 + v17)), (0, .ref (n0 + 0)), (1, .int v2), (4, .int a5), (5, .int a6), (6, .int a7), (7, .int a8), (8, .int a9), (9, .int a10), (10, .long a11), (12, .int (bI a12)), (13, .int a13)] dL_areHouses_67 rfl (Nat.le_of_ble_eq_true rfl) rfl ?_
          refine j_iload C 9 dL_areHouses_68 rfl ?_
          refine j_aload_n C 2 dL_areHouses_70 rfl rfl ?_
          refine j_iload C 12 dL_areHouses_71 rfl ?_
          refine j_iconst C (3 : Int32) rfl dL_areHouses_73 ?_
          obtain ⟨v21, e20, hf⟩ := bd hf
          refine j_callR C 3 (cg_L_household l G n0 e20) gw_L_household_96 ⟨rfl, rfl⟩ (by decide +kernel) ⟨Nat.le_of_ble_eq_true rfl, Nat.le_of_ble_eq_true rfl⟩ rfl rfl (Nat.le_of_ble_eq_true rfl) dL_areHouses_74 ?_
          refine j_iadd C dL_areHouses_77 ?_
          refine j_istore C [(9, .int (a10 + v21)), (3, .int (a4 + v19)), (2, .int (a3 + v17)), (0, .ref (n0 + 0)), (1, .int v2), (4, .int a5), (5, .int a6), (6, .int a7), (7, .int a8), (8, .int a9), (10, .long a11), (12, .int (bI a12)), (13, .int a13)] dL_areHouses_78 (Nat.le_of_ble_eq_true rfl) rfl ?_
          refine j_iload C 5 dL_areHouses_80 rfl ?_
          refine j_aload_n C 3 dL_areHouses_82 rfl rfl ?_
          refine j_iload C 12 dL_areHouses_83 rfl ?_
          refine j_iconst C (4 : Int32) rfl dL_areHouses_85 ?_
          obtain ⟨v23, e22, hf⟩ := bd hf
          refine j_callR C 3 (cg_L_household l G n0 e22) gw_L_household_96 ⟨rfl, rfl⟩ (by decide +kernel) ⟨Nat.le_of_ble_eq_true rfl, Nat.le_of_ble_eq_true rfl⟩ rfl rfl (Nat.le_of_ble_eq_true rfl) dL_areHouses_86 ?_
          refine j_iadd C dL_areHouses_89 ?_
          refine j_istore C [(4, .int (a5 + v23)), (9, .int (a10 + v21)), (3, .int (a4 + v19)), (2, .int (a3 + v17)), (0, .ref (n0 + 0)), (1, .int v2), (5, .int a6), (6, .int a7), (7, .int a8), (8, .int a9), (10, .long a11), (12, .int (bI a12)), (13, .int a13)] dL_areHouses_90 (Nat.le_of_ble_eq_true rfl) rfl ?_
          refine j_iload C 6 dL_areHouses_92 rfl ?_
          refine j_aload_n C 4 dL_areHouses_94 rfl rfl ?_
          refine j_iload C 12 dL_areHouses_95 rfl ?_
          refine j_iconst C (5 : Int32) rfl dL_areHouses_97 ?_
          obtain ⟨v25, e24, hf⟩ := bd hf
          refine j_callR C 3 (cg_L_household l G n0 e24) gw_L_household_96 ⟨rfl, rfl⟩ (by decide +kernel) ⟨Nat.le_of_ble_eq_true rfl, Nat.le_of_ble_eq_true rfl⟩ rfl rfl (Nat.le_of_ble_eq_true rfl) dL_areHouses_98 ?_
          refine j_iadd C dL_areHouses_101 ?_
          refine j_istore C [(5, .int (a6 + v25)), (4, .int (a5 + v23)), (9, .int (a10 + v21)), (3, .int (a4 + v19)), (2, .int (a3 + v17)), (0, .ref (n0 + 0)), (1, .int v2), (6, .int a7), (7, .int a8), (8, .int a9), (10, .long a11), (12, .int (bI a12)), (13, .int a13)] dL_areHouses_102 (Nat.le_of_ble_eq_true rfl) rfl ?_
          refine j_iload C 7 dL_areHouses_104 rfl ?_
          refine j_aload_n C 5 dL_areHouses_106 rfl rfl ?_
          refine j_iload C 12 dL_areHouses_107 rfl ?_
          refine j_bipush C (6 : Int32) rfl dL_areHouses_109 ?_
          obtain ⟨v27, e26, hf⟩ := bd hf
          refine j_callR C 3 (cg_L_household l G n0 e26) gw_L_household_96 ⟨rfl, rfl⟩ (by decide +kernel) ⟨Nat.le_of_ble_eq_true rfl, Nat.le_of_ble_eq_true rfl⟩ rfl rfl (Nat.le_of_ble_eq_true rfl) dL_areHouses_111 ?_
          refine j_iadd C dL_areHouses_114 ?_
          refine j_istore C [(6, .int (a7 + v27)), (5, .int (a6 + v25)), (4, .int (a5 + v23)), (9, .int (a10 + v21)), (3, .int (a4 + v19)), (2, .int (a3 + v17)), (0, .ref (n0 + 0)), (1, .int v2), (7, .int a8), (8, .int a9), (10, .long a11), (12, .int (bI a12)), (13, .int a13)] dL_areHouses_115 (Nat.le_of_ble_eq_true rfl) rfl ?_
          refine j_iload C 8 dL_areHouses_117 rfl ?_
          refine j_aload_n C 6 dL_areHouses_119 rfl rfl ?_
          refine j_iload C 12 dL_areHouses_120 rfl ?_
          refine j_bipush C (7 : Int32) rfl dL_areHouses_122 ?_
          obtain ⟨v29, e28, hf⟩ := bd hf
          refine j_callR C 3 (cg_L_household l G n0 e28) gw_L_household_96 ⟨rfl, rfl⟩ (by decide +kernel) ⟨Nat.le_of_ble_eq_true rfl, Nat.le_of_ble_eq_true rfl⟩ rfl rfl (Nat.le_of_ble_eq_true rfl) dL_areHouses_124 ?_
          refine j_iadd C dL_areHouses_127 ?_
          refine j_istore C [(7, .int (a8 + v29)), (6, .int (a7 + v27)), (5, .int (a6 + v25)), (4, .int (a5 + v23)), (9, .int (a10 + v21)), (3, .int (a4 + v19)), (2, .int (a3 + v17)), (0, .ref (n0 + 0)), (1, .int v2), (8, .int a9), (10, .long a11), (12, .int (bI a12)), (13, .int a13)] dL_areHouses_128 (Nat.le_of_ble_eq_true rfl) rfl ?_
          refine j_lload C 10 dL_areHouses_130 rfl ?_
          refine j_aload_n C 7 dL_areHouses_132 rfl rfl ?_
          refine j_iload C 12 dL_areHouses_133 rfl ?_
          obtain ⟨v31, e30, hf⟩ := bd hf
          refine j_callR C 2 (cg_L_due l G n0 e30) gw_L_due_128 ⟨rfl, rfl⟩ (by decide +kernel) ⟨Nat.le_of_ble_eq_true rfl, Nat.le_of_ble_eq_true rfl⟩ rfl rfl (Nat.le_of_ble_eq_true rfl) dL_areHouses_135 ?_
          refine j_ladd C dL_areHouses_138 ?_
          refine j_lstore C [(10, .long (a11 + v31)), (7, .int (a8 + v29)), (6, .int (a7 + v27)), (5, .int (a6 + v25)), (4, .int (a5 + v23)), (9, .int (a10 + v21)), (3, .int (a4 + v19)), (2, .int (a3 + v17)), (0, .ref (n0 + 0)), (1, .int v2), (8, .int a9), (12, .int (bI a12)), (13, .int a13)] dL_areHouses_139 (Nat.le_of_ble_eq_true rfl) rfl ?_
          refine j_aload_n C 8 dL_areHouses_141 rfl rfl ?_
          refine j_iload C 12 dL_areHouses_142 rfl ?_
          refine j_iconst C (0 : Int32) rfl dL_areHouses_144 ?_
          obtain ⟨v33, e32, hf⟩ := bd hf
          refine j_callR C 3 (cg_L_household l G n0 e32) gw_L_household_96 ⟨rfl, rfl⟩ (by decide +kernel) ⟨Nat.le_of_ble_eq_true rfl, Nat.le_of_ble_eq_true rfl⟩ rfl rfl (Nat.le_of_ble_eq_true rfl) dL_areHouses_145 ?_
          obtain ⟨z59, e156, hf⟩ := bd hf
          have hj157 : J (kc K 0) M 245 [(0, .ref (n0 + 0)), (1, .int v2), (2, .int (a3 + v17)), (3, .int (a4 + v19)), (4, .int (a5 + v23)), (5, .int (a6 + v25)), (6, .int (a7 + v27)), (7, .int (a8 + v29)), (8, .int a9), (9, .int (a10 + v21)), (10, .long (a11 + v31)), (13, .int a13)] [.int (bI z59)] := by
            refine j_istore C [(12, .int (bI z59)), (0, .ref (n0 + 0)), (1, .int v2), (2, .int (a3 + v17)), (3, .int (a4 + v19)), (4, .int (a5 + v23)), (5, .int (a6 + v25)), (6, .int (a7 + v27)), (7, .int (a8 + v29)), (8, .int a9), (9, .int (a10 + v21)), (10, .long (a11 + v31)), (13, .int a13)] dL_areHouses_245 (Nat.le_of_ble_eq_true rfl) rfl ?_
            refine j_iconst C (0 : Int32) rfl dL_areHouses_247 ?_
            refine j_istore C [(14, .int (0 : Int32)), (12, .int (bI z59)), (0, .ref (n0 + 0)), (1, .int v2), (2, .int (a3 + v17)), (3, .int (a4 + v19)), (4, .int (a5 + v23)), (5, .int (a6 + v25)), (6, .int (a7 + v27)), (7, .int (a8 + v29)), (8, .int a9), (9, .int (a10 + v21)), (10, .long (a11 + v31)), (13, .int a13)] dL_areHouses_248 (Nat.le_of_ble_eq_true rfl) rfl ?_
            obtain ⟨⟨a73, a74⟩, e158, hf⟩ := bd hf
            replace hf := un2e hf
            have hx159 : J (kc K 0) M 330 [(0, .ref (n0 + 0)), (1, .int v2), (2, .int (a3 + v17)), (3, .int (a4 + v19)), (4, .int (a5 + v23)), (5, .int (a6 + v25)), (6, .int (a7 + v27)), (7, .int (a8 + v29)), (8, .int a73), (9, .int (a10 + v21)), (10, .long (a11 + v31)), (12, .int (bI a74)), (13, .int a13)] [] := by
              refine j_iinc C 12 (a13 + 1) [(13, .int (a13 + 1)), (0, .ref (n0 + 0)), (1, .int v2), (2, .int (a3 + v17)), (3, .int (a4 + v19)), (4, .int (a5 + v23)), (5, .int (a6 + v25)), (6, .int (a7 + v27)), (7, .int (a8 + v29)), (8, .int a73), (9, .int (a10 + v21)), (10, .long (a11 + v31)), (12, .int (bI a74))] dL_areHouses_330 rfl rfl (Nat.le_of_ble_eq_true rfl) rfl ?_
              refine j_goto C 37 dL_areHouses_333 (by decide) ?_
              refine j_sub [1, 2, 3, 4, 5, 6, 7, 8, 9, 10, 11, 12, 0] rfl ?_
              exact ih _ _ _ _ _ _ _ _ _ _ _ hf
            clear hf
            have hl160 : ∀ (n : Nat) (a60 : Int32) (a61 : Bool) (a62 : Int32), lL_areHouses_250 M a13 n a60 a61 a62 = some (a73, a74) → J (kc K 0) M 250 [(0, .ref (n0 + 0)), (1, .int v2), (2, .int (a3 + v17)), (3, .int (a4 + v19)), (4, .int (a5 + v23)), (5, .int (a6 + v25)), (6, .int (a7 + v27)), (7, .int (a8 + v29)), (8, .int a60), (9, .int (a10 + v21)), (10, .long (a11 + v31)), (12, .int (bI a61)), (13, .int a13), (14, .int a62)] [] := by
              intro n
              induction n with
              | zero =>
                intro a60 a61 a62 hf
                exact absurd hf (by rw [lL_areHouses_250]; exact fun h => by cases h)
              | succ n ih =>
                intro a60 a61 a62 hf
                rw [lL_areHouses_250] at hf
                refine j_iload C 13 dL_areHouses_250 rfl ?_
                refine j_iload C 12 dL_areHouses_252 rfl ?_
                refine j_icmp_ge C 330 dL_areHouses_254 (by decide) (fun c63 => ?_) (fun c63 => ?_)
                · replace hf := ip c63 hf
                  refine j_sub [0, 1, 2, 3, 4, 5, 6, 7, 8, 9, 10, 11, 12] rfl ?_
                  cases hf
                  exact j_wid (by omega) hx159
                · replace hf := ine c63 hf
                  refine j_iload C 11 dL_areHouses_257 rfl ?_
                  refine j_ifz_eq C 330 dL_areHouses_259 (by decide) (fun c64 => ?_) (fun c64 => ?_)
                  · replace hf := ine c64 hf
                    refine j_sub [0, 1, 2, 3, 4, 5, 6, 7, 8, 9, 10, 11, 12] rfl ?_
                    cases hf
                    exact j_wid (by omega) hx159
                  · replace hf := ip c64 hf
                    refine j_aload_n C 0 dL_areHouses_262 rfl rfl ?_
                    refine j_iload C 12 dL_areHouses_263 rfl ?_
                    refine j_iconst C (0 : Int32) rfl dL_areHouses_265 ?_
                    obtain ⟨v66, e65, hf⟩ := bd hf
                    refine j_callR C 3 (cg_L_household l G n0 e65) gw_L_household_96 ⟨rfl, rfl⟩ (by decide +kernel) ⟨Nat.le_of_ble_eq_true rfl, Nat.le_of_ble_eq_true rfl⟩ rfl rfl (Nat.le_of_ble_eq_true rfl) dL_areHouses_266 ?_
                    refine j_istore C [(15, .int v66), (0, .ref (n0 + 0)), (1, .int v2), (2, .int (a3 + v17)), (3, .int (a4 + v19)), (4, .int (a5 + v23)), (5, .int (a6 + v25)), (6, .int (a7 + v27)), (7, .int (a8 + v29)), (8, .int a60), (9, .int (a10 + v21)), (10, .long (a11 + v31)), (12, .int (bI a61)), (13, .int a13), (14, .int a62)] dL_areHouses_269 (Nat.le_of_ble_eq_true rfl) rfl ?_
                    refine j_aload_n C 1 dL_areHouses_271 rfl rfl ?_
                    refine j_iload C 14 dL_areHouses_272 rfl ?_
                    refine j_iconst C (0 : Int32) rfl dL_areHouses_274 ?_
                    obtain ⟨v68, e67, hf⟩ := bd hf
                    refine j_callR C 3 (cg_L_household l G n0 e67) gw_L_household_96 ⟨rfl, rfl⟩ (by decide +kernel) ⟨Nat.le_of_ble_eq_true rfl, Nat.le_of_ble_eq_true rfl⟩ rfl rfl (Nat.le_of_ble_eq_true rfl) dL_areHouses_275 ?_
                    refine j_istore C [(16, .int v68), (15, .int v66), (0, .ref (n0 + 0)), (1, .int v2), (2, .int (a3 + v17)), (3, .int (a4 + v19)), (4, .int (a5 + v23)), (5, .int (a6 + v25)), (6, .int (a7 + v27)), (7, .int (a8 + v29)), (8, .int a60), (9, .int (a10 + v21)), (10, .long (a11 + v31)), (12, .int (bI a61)), (13, .int a13), (14, .int a62)] dL_areHouses_278 (Nat.le_of_ble_eq_true rfl) rfl ?_
                    refine j_iload C 1 dL_areHouses_280 rfl ?_
                    refine j_iload C 0 dL_areHouses_282 rfl ?_
                    obtain ⟨z70, e163, hf⟩ := bd hf
                    have hj164 : J (kc K 0) M 292 [(0, .ref (n0 + 0)), (1, .int v2), (2, .int (a3 + v17)), (3, .int (a4 + v19)), (4, .int (a5 + v23)), (5, .int (a6 + v25)), (6, .int (a7 + v27)), (7, .int (a8 + v29)), (8, .int a60), (9, .int (a10 + v21)), (10, .long (a11 + v31)), (13, .int a13), (14, .int a62), (15, .int v66), (16, .int v68)] [.int (bI z70)] := by
                      refine j_istore C [(12, .int (bI z70)), (0, .ref (n0 + 0)), (1, .int v2), (2, .int (a3 + v17)), (3, .int (a4 + v19)), (4, .int (a5 + v23)), (5, .int (a6 + v25)), (6, .int (a7 + v27)), (7, .int (a8 + v29)), (8, .int a60), (9, .int (a10 + v21)), (10, .long (a11 + v31)), (13, .int a13), (14, .int a62), (15, .int v66), (16, .int v68)] dL_areHouses_292 (Nat.le_of_ble_eq_true rfl) rfl ?_
                      refine j_iload C 9 dL_areHouses_294 rfl ?_
                      refine j_iload C 14 dL_areHouses_296 rfl ?_
                      refine j_iload C 15 dL_areHouses_298 rfl ?_
                      refine j_ior C dL_areHouses_300 ?_
                      refine j_iload C 14 dL_areHouses_301 rfl ?_
                      refine j_icmp_eq C 316 dL_areHouses_303 (by decide) (fun c71 => ?_) (fun c71 => ?_)
                      · replace hf := ip c71 hf
                        refine j_iconst C (1 : Int32) rfl dL_areHouses_316 ?_
                        refine j_goto C 321 dL_areHouses_317 (by decide) ?_
                        refine j_iadd C dL_areHouses_321 ?_
                        refine j_istore C [(8, .int (a60 + (1 : Int32))), (12, .int (bI z70)), (0, .ref (n0 + 0)), (1, .int v2), (2, .int (a3 + v17)), (3, .int (a4 + v19)), (4, .int (a5 + v23)), (5, .int (a6 + v25)), (6, .int (a7 + v27)), (7, .int (a8 + v29)), (9, .int (a10 + v21)), (10, .long (a11 + v31)), (13, .int a13), (14, .int a62), (15, .int v66), (16, .int v68)] dL_areHouses_322 (Nat.le_of_ble_eq_true rfl) rfl ?_
                        refine j_iinc C 13 (a62 + 1) [(14, .int (a62 + 1)), (8, .int (a60 + (1 : Int32))), (12, .int (bI z70)), (0, .ref (n0 + 0)), (1, .int v2), (2, .int (a3 + v17)), (3, .int (a4 + v19)), (4, .int (a5 + v23)), (5, .int (a6 + v25)), (6, .int (a7 + v27)), (7, .int (a8 + v29)), (9, .int (a10 + v21)), (10, .long (a11 + v31)), (13, .int a13), (15, .int v66), (16, .int v68)] dL_areHouses_324 rfl rfl (Nat.le_of_ble_eq_true rfl) rfl ?_
                        refine j_goto C 250 dL_areHouses_327 (by decide) ?_
                        refine j_sub [3, 4, 5, 6, 7, 8, 9, 10, 1, 11, 12, 2, 13, 0] rfl ?_
                        exact ih _ _ _ hf
                      · replace hf := ine c71 hf
                        refine j_iload C 14 dL_areHouses_306 rfl ?_
                        refine j_iload C 15 dL_areHouses_308 rfl ?_
                        refine j_ior C dL_areHouses_310 ?_
                        refine j_iload C 15 dL_areHouses_311 rfl ?_
                        refine j_icmp_ne C 320 dL_areHouses_313 (by decide) (fun c72 => ?_) (fun c72 => ?_)
                        · replace hf := ine c72 hf
                          refine j_iconst C (0 : Int32) rfl dL_areHouses_320 ?_
                          refine j_iadd C dL_areHouses_321 ?_
                          refine j_istore C [(8, .int (a60 + (0 : Int32))), (12, .int (bI z70)), (0, .ref (n0 + 0)), (1, .int v2), (2, .int (a3 + v17)), (3, .int (a4 + v19)), (4, .int (a5 + v23)), (5, .int (a6 + v25)), (6, .int (a7 + v27)), (7, .int (a8 + v29)), (9, .int (a10 + v21)), (10, .long (a11 + v31)), (13, .int a13), (14, .int a62), (15, .int v66), (16, .int v68)] dL_areHouses_322 (Nat.le_of_ble_eq_true rfl) rfl ?_
                          refine j_iinc C 13 (a62 + 1) [(14, .int (a62 + 1)), (8, .int (a60 + (0 : Int32))), (12, .int (bI z70)), (0, .ref (n0 + 0)), (1, .int v2), (2, .int (a3 + v17)), (3, .int (a4 + v19)), (4, .int (a5 + v23)), (5, .int (a6 + v25)), (6, .int (a7 + v27)), (7, .int (a8 + v29)), (9, .int (a10 + v21)), (10, .long (a11 + v31)), (13, .int a13), (15, .int v66), (16, .int v68)] dL_areHouses_324 rfl rfl (Nat.le_of_ble_eq_true rfl) rfl ?_
                          refine j_goto C 250 dL_areHouses_327 (by decide) ?_
                          refine j_sub [3, 4, 5, 6, 7, 8, 9, 10, 1, 11, 12, 2, 13, 0] rfl ?_
                          exact ih _ _ _ hf
                        · replace hf := ip c72 hf
                          refine j_iconst C (1 : Int32) rfl dL_areHouses_316 ?_
                          refine j_goto C 321 dL_areHouses_317 (by decide) ?_
                          refine j_iadd C dL_areHouses_321 ?_
                          refine j_istore C [(8, .int (a60 + (1 : Int32))), (12, .int (bI z70)), (0, .ref (n0 + 0)), (1, .int v2), (2, .int (a3 + v17)), (3, .int (a4 + v19)), (4, .int (a5 + v23)), (5, .int (a6 + v25)), (6, .int (a7 + v27)), (7, .int (a8 + v29)), (9, .int (a10 + v21)), (10, .long (a11 + v31)), (13, .int a13), (14, .int a62), (15, .int v66), (16, .int v68)] dL_areHouses_322 (Nat.le_of_ble_eq_true rfl) rfl ?_
                          refine j_iinc C 13 (a62 + 1) [(14, .int (a62 + 1)), (8, .int (a60 + (1 : Int32))), (12, .int (bI z70)), (0, .ref (n0 + 0)), (1, .int v2), (2, .int (a3 + v17)), (3, .int (a4 + v19)), (4, .int (a5 + v23)), (5, .int (a6 + v25)), (6, .int (a7 + v27)), (7, .int (a8 + v29)), (9, .int (a10 + v21)), (10, .long (a11 + v31)), (13, .int a13), (15, .int v66), (16, .int v68)] dL_areHouses_324 rfl rfl (Nat.le_of_ble_eq_true rfl) rfl ?_
                          refine j_goto C 250 dL_areHouses_327 (by decide) ?_
                          refine j_sub [3, 4, 5, 6, 7, 8, 9, 10, 1, 11, 12, 2, 13, 0] rfl ?_
                          exact ih _ _ _ hf
                    clear hf
                    have hf := e163
                    refine j_icmp_eq C 291 dL_areHouses_284 (by decide) (fun c69 => ?_) (fun c69 => ?_)
                    · replace hf := ip c69 hf
                      refine j_iconst C (0 : Int32) rfl dL_areHouses_291 ?_
                      cases hf
                      refine j_sub [2, 3, 4, 5, 6, 7, 8, 9, 10, 11, 12, 14, 15, 1, 0] rfl ?_
                      exact j_wid (by omega) hj164
                    · replace hf := ine c69 hf
                      refine j_iconst C (1 : Int32) rfl dL_areHouses_287 ?_
                      refine j_goto C 292 dL_areHouses_288 (by decide) ?_
                      cases hf
                      refine j_sub [2, 3, 4, 5, 6, 7, 8, 9, 10, 11, 12, 14, 15, 1, 0] rfl ?_
                      exact j_wid (by omega) hj164
            refine j_sub [2, 3, 4, 5, 6, 7, 8, 9, 10, 11, 12, 1, 13, 0] rfl ?_
            exact hl160 FUEL a9 z59 (0 : Int32) e158
          clear hf
          have hf := e156
          refine j_if_le C 244 dL_areHouses_148 (by decide) (fun c34 => ?_) (fun c34 => ?_)
          · replace hf := ip c34 hf
            refine j_iconst C (0 : Int32) rfl dL_areHouses_244 ?_
            cases hf
            refine j_sub [8, 9, 7, 6, 4, 3, 2, 1, 10, 5, 0, 12] rfl ?_
            exact j_wid (by omega) hj157
          · replace hf := ine c34 hf
            refine j_aload_n C 8 dL_areHouses_151 rfl rfl ?_
            refine j_iload C 12 dL_areHouses_152 rfl ?_
            refine j_iconst C (0 : Int32) rfl dL_areHouses_154 ?_
            obtain ⟨v36, e35, hf⟩ := bd hf
            refine j_callR C 3 (cg_L_household l G n0 e35) gw_L_household_96 ⟨rfl, rfl⟩ (by decide +kernel) ⟨Nat.le_of_ble_eq_true rfl, Nat.le_of_ble_eq_true rfl⟩ rfl rfl (Nat.le_of_ble_eq_true rfl) dL_areHouses_155 ?_
            refine j_ldc C tw4_231 dL_areHouses_158 ?_
            refine j_icmp_ge C 244 dL_areHouses_160 (by decide) (fun c37 => ?_) (fun c37 => ?_)
            · replace hf := ip c37 hf
              refine j_iconst C (0 : Int32) rfl dL_areHouses_244 ?_
              cases hf
              refine j_sub [8, 9, 7, 6, 4, 3, 2, 1, 10, 5, 0, 12] rfl ?_
              exact j_wid (by omega) hj157
            · replace hf := ine c37 hf
              refine j_aload_n C 8 dL_areHouses_163 rfl rfl ?_
              refine j_iload C 12 dL_areHouses_164 rfl ?_
              refine j_bipush C (6 : Int32) rfl dL_areHouses_166 ?_
              obtain ⟨v39, e38, hf⟩ := bd hf
              refine j_callR C 3 (cg_L_household l G n0 e38) gw_L_household_96 ⟨rfl, rfl⟩ (by decide +kernel) ⟨Nat.le_of_ble_eq_true rfl, Nat.le_of_ble_eq_true rfl⟩ rfl rfl (Nat.le_of_ble_eq_true rfl) dL_areHouses_168 ?_
              refine j_aload_n C 8 dL_areHouses_171 rfl rfl ?_
              refine j_iload C 12 dL_areHouses_172 rfl ?_
              refine j_iconst C (4 : Int32) rfl dL_areHouses_174 ?_
              obtain ⟨v41, e40, hf⟩ := bd hf
              refine j_callR C 3 (cg_L_household l G n0 e40) gw_L_household_96 ⟨rfl, rfl⟩ (by decide +kernel) ⟨Nat.le_of_ble_eq_true rfl, Nat.le_of_ble_eq_true rfl⟩ rfl rfl (Nat.le_of_ble_eq_true rfl) dL_areHouses_175 ?_
              refine j_icmp_gt C 244 dL_areHouses_178 (by decide) (fun c42 => ?_) (fun c42 => ?_)
              · replace hf := ip c42 hf
                refine j_iconst C (0 : Int32) rfl dL_areHouses_244 ?_
                cases hf
                refine j_sub [8, 9, 7, 6, 4, 3, 2, 1, 10, 5, 0, 12] rfl ?_
                exact j_wid (by omega) hj157
              · replace hf := ine c42 hf
                refine j_aload_n C 8 dL_areHouses_181 rfl rfl ?_
                refine j_iload C 12 dL_areHouses_182 rfl ?_
                refine j_bipush C (6 : Int32) rfl dL_areHouses_184 ?_
                obtain ⟨v44, e43, hf⟩ := bd hf
                refine j_callR C 3 (cg_L_household l G n0 e43) gw_L_household_96 ⟨rfl, rfl⟩ (by decide +kernel) ⟨Nat.le_of_ble_eq_true rfl, Nat.le_of_ble_eq_true rfl⟩ rfl rfl (Nat.le_of_ble_eq_true rfl) dL_areHouses_186 ?_
                refine j_aload_n C 8 dL_areHouses_189 rfl rfl ?_
                refine j_iload C 12 dL_areHouses_190 rfl ?_
                refine j_iconst C (5 : Int32) rfl dL_areHouses_192 ?_
                obtain ⟨v46, e45, hf⟩ := bd hf
                refine j_callR C 3 (cg_L_household l G n0 e45) gw_L_household_96 ⟨rfl, rfl⟩ (by decide +kernel) ⟨Nat.le_of_ble_eq_true rfl, Nat.le_of_ble_eq_true rfl⟩ rfl rfl (Nat.le_of_ble_eq_true rfl) dL_areHouses_193 ?_
                refine j_icmp_gt C 244 dL_areHouses_196 (by decide) (fun c47 => ?_) (fun c47 => ?_)
                · replace hf := ip c47 hf
                  refine j_iconst C (0 : Int32) rfl dL_areHouses_244 ?_
                  cases hf
                  refine j_sub [8, 9, 7, 6, 4, 3, 2, 1, 10, 5, 0, 12] rfl ?_
                  exact j_wid (by omega) hj157
                · replace hf := ine c47 hf
                  refine j_aload_n C 8 dL_areHouses_199 rfl rfl ?_
                  refine j_iload C 12 dL_areHouses_200 rfl ?_
                  refine j_iconst C (0 : Int32) rfl dL_areHouses_202 ?_
                  obtain ⟨v49, e48, hf⟩ := bd hf
                  refine j_callR C 3 (cg_L_balance l G n0 e48) gw_L_balance_131 ⟨rfl, rfl⟩ (by decide +kernel) ⟨Nat.le_of_ble_eq_true rfl, Nat.le_of_ble_eq_true rfl⟩ rfl rfl (Nat.le_of_ble_eq_true rfl) dL_areHouses_203 ?_
                  refine j_aload_n C 8 dL_areHouses_206 rfl rfl ?_
                  refine j_iload C 12 dL_areHouses_207 rfl ?_
                  refine j_iconst C (1 : Int32) rfl dL_areHouses_209 ?_
                  obtain ⟨v51, e50, hf⟩ := bd hf
                  refine j_callR C 3 (cg_L_balance l G n0 e50) gw_L_balance_131 ⟨rfl, rfl⟩ (by decide +kernel) ⟨Nat.le_of_ble_eq_true rfl, Nat.le_of_ble_eq_true rfl⟩ rfl rfl (Nat.le_of_ble_eq_true rfl) dL_areHouses_210 ?_
                  refine j_iadd C dL_areHouses_213 ?_
                  refine j_aload_n C 8 dL_areHouses_214 rfl rfl ?_
                  refine j_iload C 12 dL_areHouses_215 rfl ?_
                  refine j_iconst C (2 : Int32) rfl dL_areHouses_217 ?_
                  obtain ⟨v53, e52, hf⟩ := bd hf
                  refine j_callR C 3 (cg_L_balance l G n0 e52) gw_L_balance_131 ⟨rfl, rfl⟩ (by decide +kernel) ⟨Nat.le_of_ble_eq_true rfl, Nat.le_of_ble_eq_true rfl⟩ rfl rfl (Nat.le_of_ble_eq_true rfl) dL_areHouses_218 ?_
                  refine j_iadd C dL_areHouses_221 ?_
                  refine j_aload_n C 8 dL_areHouses_222 rfl rfl ?_
                  refine j_iload C 12 dL_areHouses_223 rfl ?_
                  refine j_iconst C (4 : Int32) rfl dL_areHouses_225 ?_
                  obtain ⟨v55, e54, hf⟩ := bd hf
                  refine j_callR C 3 (cg_L_household l G n0 e54) gw_L_household_96 ⟨rfl, rfl⟩ (by decide +kernel) ⟨Nat.le_of_ble_eq_true rfl, Nat.le_of_ble_eq_true rfl⟩ rfl rfl (Nat.le_of_ble_eq_true rfl) dL_areHouses_226 ?_
                  refine j_aload_n C 8 dL_areHouses_229 rfl rfl ?_
                  refine j_iload C 12 dL_areHouses_230 rfl ?_
                  refine j_iconst C (5 : Int32) rfl dL_areHouses_232 ?_
                  obtain ⟨v57, e56, hf⟩ := bd hf
                  refine j_callR C 3 (cg_L_household l G n0 e56) gw_L_household_96 ⟨rfl, rfl⟩ (by decide +kernel) ⟨Nat.le_of_ble_eq_true rfl, Nat.le_of_ble_eq_true rfl⟩ rfl rfl (Nat.le_of_ble_eq_true rfl) dL_areHouses_233 ?_
                  refine j_isub C dL_areHouses_236 ?_
                  refine j_icmp_ne C 244 dL_areHouses_237 (by decide) (fun c58 => ?_) (fun c58 => ?_)
                  · replace hf := ine c58 hf
                    refine j_iconst C (0 : Int32) rfl dL_areHouses_244 ?_
                    cases hf
                    refine j_sub [8, 9, 7, 6, 4, 3, 2, 1, 10, 5, 0, 12] rfl ?_
                    exact j_wid (by omega) hj157
                  · replace hf := ip c58 hf
                    refine j_iconst C (1 : Int32) rfl dL_areHouses_240 ?_
                    refine j_goto C 245 dL_areHouses_241 (by decide) ?_
                    cases hf
                    refine j_sub [8, 9, 7, 6, 4, 3, 2, 1, 10, 5, 0, 12] rfl ?_
                    exact j_wid (by omega) hj157
  refine j_sub [12, 11, 10, 9, 8, 7, 6, 5, 4, 3, 2, 1, 0] rfl ?_
  exact hl144 FUEL (0 : Int32) (0 : Int32) (0 : Int32) (0 : Int32) (0 : Int32) (0 : Int32) (0 : Int32) (0 : Int32) (0 : Int64) true (0 : Int32) e142
