def t0 : T3 := (0, 0, 0)
theorem gdL {α : Type} {A B : List α} {i : Nat} (d : α) (h : i < A.length) : (A ++ B).getD i d = A.getD i d := by
  rw [List.getD_eq_getElem?_getD, List.getElem?_append_left h, ← List.getD_eq_getElem?_getD]
theorem gdR {α : Type} {A B : List α} {i : Nat} (d : α) (h : A.length ≤ i) : (A ++ B).getD i d = B.getD (i - A.length) d := by
  rw [List.getD_eq_getElem?_getD, List.getElem?_append_right h, ← List.getD_eq_getElem?_getD]
theorem rot_mod {h f t : Nat} (hf : f < h) (ht : t < h) : (f + t) % h = rot h f t := by
  unfold rot
  by_cases h1 : h ≤ f + t
  · rw [if_pos h1, show f + t = (f + t - h) + h by omega, Nat.add_mod_right, Nat.mod_eq_of_lt (by omega)]; omega
  · rw [if_neg h1, Nat.mod_eq_of_lt (by omega)]
def ws (w : T3 → Nat) : List T3 → Nat
  | [] => 0
  | x :: T => w x + ws w T
theorem ws_app (w : T3 → Nat) : ∀ (A B : List T3), ws w (A ++ B) = ws w A + ws w B := by
  intro A
  induction A with
  | nil => intro B; rw [List.nil_append, ws, Nat.zero_add]
  | cons x A ih => intro B; rw [List.cons_append, ws, ws, ih, Nat.add_assoc]
theorem aT_cons {h f : Nat} (w : T3 → Nat) (hf : f < h) {x : T3} (hx : x.1 < h) (T : List T3) : ∀ (m t : Nat), t + m ≤ h → ws w (aT h f m t (x :: T)) = ws w (aT h f m t T) + (if t ≤ ky h f x.1 ∧ ky h f x.1 < t + m then w x else 0) := by
  intro m
  induction m with
  | zero => intro t _; rw [aT, aT, if_neg (by omega)]; rfl
  | succ m ih =>
    intro t ht
    rw [aT, aT, ws_app, ws_app, ih (t + 1) (by omega), fz]
    by_cases e : x.1 = rot h f t
    · have ek := (rot_ky hf (show t < h by omega) hx).mp e.symm
      rw [if_pos e, ws, if_neg (by omega), if_pos (by omega)]; omega
    · have ek : t ≠ ky h f x.1 := fun q => e ((rot_ky hf (by omega) hx).mpr q).symm
      rw [if_neg e]
      by_cases h3 : t + 1 ≤ ky h f x.1 ∧ ky h f x.1 < t + 1 + m
      · rw [if_pos h3, if_pos (by omega)]; omega
      · rw [if_neg h3, if_neg (by omega)]; omega
theorem aT_ws {h f : Nat} (w : T3 → Nat) (hf : f < h) : ∀ T : List T3, (∀ x, x ∈ T → x.1 < h) → ws w (aT h f h 0 T) = ws w T := by
  intro T
  induction T with
  | nil =>
    intro _
    have : ∀ (m t : Nat), aT h f m t [] = [] := by
      intro m
      induction m with
      | zero => intro t; rfl
      | succ m ih => intro t; rw [aT, ih (t + 1)]; rfl
    rw [this]
  | cons x T ih =>
    intro hT
    have hk := ky_lt hf (hT x List.mem_cons_self)
    rw [aT_cons w hf (hT x List.mem_cons_self) T h 0 (by omega), ih (fun y hy => hT y (List.mem_cons_of_mem _ hy)), if_pos (by omega), ws, Nat.add_comm]
theorem ws_len : ∀ T : List T3, ws (fun _ => 1) T = T.length := by
  intro T
  induction T with
  | nil => rfl
  | cons x T ih => rw [ws, ih, List.length_cons, Nat.add_comm]
theorem ws_sz : ∀ T : List T3, ws (fun x => x.2.2) T = sz T := by
  intro T
  induction T with
  | nil => rfl
  | cons x T ih => rw [ws, ih, sz]
theorem ws_cK (k : Nat) : ∀ T : List T3, ws (fun x => if x.2.1 = k then 1 else 0) T = cK k T := by
  intro T
  induction T with
  | nil => rfl
  | cons x T ih => rw [ws, ih, cK]
theorem aT_len {h f : Nat} (hf : f < h) {T : List T3} (hT : ∀ x, x ∈ T → x.1 < h) : (aT h f h 0 T).length = T.length := by
  rw [← ws_len, aT_ws _ hf T hT, ws_len]
theorem aT_sz {h f : Nat} (hf : f < h) {T : List T3} (hT : ∀ x, x ∈ T → x.1 < h) : sz (aT h f h 0 T) = sz T := by
  rw [← ws_sz, aT_ws _ hf T hT, ws_sz]
theorem aT_cK {h f : Nat} (hf : f < h) {T : List T3} (hT : ∀ x, x ∈ T → x.1 < h) (k : Nat) : cK k (aT h f h 0 T) = cK k T := by
  rw [← ws_cK, aT_ws _ hf T hT, ws_cK]
theorem fa_mem {h f k : Nat} : ∀ (m t r : Nat) (T : List T3) (x : T3), (x ∈ (fa h f k m t r T).2.1 → x ∈ T) ∧ (x ∈ (fa h f k m t r T).1 → x ∈ T ∧ x.2.1 = k) := by
  intro m
  induction m with
  | zero => intro t r T x; exact ⟨fun h => h, fun h => by cases h⟩
  | succ m ih =>
    intro t r T x
    obtain ⟨a1, a2⟩ := ih (t + 1) (gN (pZ (rot h f t) k) r T) (gR (pZ (rot h f t) k) r T) x
    rw [fa]
    refine ⟨fun hx => gR_mem _ _ _ (a1 hx), fun hx => ?_⟩
    rcases List.mem_append.mp hx with q | q
    · obtain ⟨q1, q2⟩ := gT_mem _ _ _ q
      simp only [pZ, Bool.and_eq_true, decide_eq_true_eq] at q2
      exact ⟨q1, q2.2⟩
    · exact ⟨gR_mem _ _ _ (a2 q).1, (a2 q).2⟩
theorem kP_cg {A B : List T3} (t : Nat) (h : ∀ k, cK k A = cK k B) : kP t A = kP t B ∧ (hotP t A ↔ hotP t B) := by
  unfold kP hotP
  rw [h 0, h 1, h 2]
  exact ⟨rfl, Iff.rfl⟩
def xz (γ : Nat → Int32) (h j : Nat) : Nat → Int32 := fun k => if 9 + 4 * j ≤ k ∧ k < 9 + 4 * h ∧ (k - 9) % 4 = 3 then nI 0 else γ k
theorem xz_c {h : Nat} : ∀ (m j n : Nat) (M : Mem) (γ : Nat → Int32), HH M γ h → j + m = h → m < n → ∃ M', lX4_bringWood_27 2 n (nI j) M = some M' ∧ HH M' (xz γ h j) h ∧ (∀ q x, q ≠ 8 → M'.1 q x = M.1 q x) ∧ M'.2 = M.2 := by
  intro m
  induction m with
  | zero =>
    intro j n M γ H h1 h2
    obtain ⟨n, rfl⟩ : ∃ n', n = n' + 1 := ⟨n - 1, by omega⟩
    have hh := H.1
    refine ⟨M, ?_, H.cg (fun _ _ _ _ => rfl) (fun k _ _ => ?_), fun _ _ _ => rfl, rfl⟩
    · rw [lX4_bringWood_27, H.2.1, if_pos (pI_le (by omega) (by omega))]
    · simp only [xz]; rw [if_neg (by omega)]
  | succ m ih =>
    intro j n M γ H h1 h2
    obtain ⟨n, rfl⟩ : ∃ n', n = n' + 1 := ⟨n - 1, by omega⟩
    have hh := H.1
    obtain ⟨M', a1, a2, a3, a4⟩ := ih (j + 1) n _ _ (H.pt (show j < 8 by omega) (show 3 < 4 by omega) (nI 0)) (by omega) (by omega)
    refine ⟨M', ?_, a2.cg (fun _ _ _ _ => rfl) (fun k hk _ => ?_), fun q x hq => by rw [a3 q x hq, mput_at, if_neg (by omega)], a4⟩
    · rw [lX4_bringWood_27, H.2.1, if_neg (pI_nle (by omega) (by omega)), l_3, l_0]
      show ((fX7_put 3 4 8 _ _ _ M).bind _) = _
      rw [X7_put (by omega) (by omega) (by omega) (by omega), Option.bind_some, l_1, nI_ad]
      exact a1
    · simp only [xz]
      by_cases e : k = 9 + 4 * j + 3
      · subst e; rw [if_pos (by omega), if_neg (by omega), ru_at]
      · rw [ru_ne _ e]
        by_cases e2 : 9 + 4 * j ≤ k ∧ k < 9 + 4 * h ∧ (k - 9) % 4 = 3
        · rw [if_pos e2, if_pos (by omega)]
        · rw [if_neg e2, if_neg (by omega)]
/-- the row when the wood has been brought -/
def wdz (ρ : Nat → Int32) (h f w : Nat) : Nat → Int32 := xz (ru ρ (9 + 4 * f + 1) (ρ (9 + 4 * f + 1) + nI w)) h 0
theorem wdz_ne {ρ : Nat → Int32} {h f w k : Nat} (h1 : ∀ i, i < h → k ≠ 9 + 4 * i + 3) (h2 : k ≠ 9 + 4 * f + 1) : wdz ρ h f w k = ρ k := by
  unfold wdz xz
  by_cases e : 9 + 4 * 0 ≤ k ∧ k < 9 + 4 * h ∧ (k - 9) % 4 = 3
  · exact absurd (show k = 9 + 4 * ((k - 9) / 4) + 3 by omega) (h1 _ (by omega))
  · rw [if_neg e, ru_ne _ h2]
def bqt (ρ : Nat → Int32) (i : Nat) : T3 := (hbq ρ i, (ρ (41 + 3 * i + 1)).toNatClampNeg, (ρ (41 + 3 * i + 2)).toNatClampNeg)
theorem bqt_ok {ρ : Nat → Int32} {h b i : Nat} (hh : h ≤ 8) (W : RB ρ h b) (hi : i < b) : ρ (41 + 3 * i) = nI (bqt ρ i).1 ∧ ρ (41 + 3 * i + 1) = nI (bqt ρ i).2.1 ∧ ρ (41 + 3 * i + 2) = nI (bqt ρ i).2.2 ∧ (bqt ρ i).1 < h ∧ (bqt ρ i).2.1 < 3 ∧ 1 ≤ (bqt ρ i).2.2 ∧ (bqt ρ i).2.2 ≤ 12 := by
  obtain ⟨⟨a, ha, e1⟩, ⟨k, hk, e2⟩, ⟨z, hz1, hz2, e3⟩⟩ := W i hi
  unfold bqt hbq
  dsimp only
  rw [e1, e2, e3, mI_tc (by omega), mI_tc (by omega), mI_tc (by omega)]
  exact ⟨rfl, rfl, rfl, ha, hk, hz1, hz2⟩
theorem tb_at (tr : Nat → T3) : ∀ (m j i : Nat), i < m → (tb tr j m).getD i t0 = tr (j + i) := by
  intro m
  induction m with
  | zero => intro j i h; omega
  | succ m ih =>
    intro j i h
    rw [tb]
    cases i with
    | zero => rfl
    | succ i =>
      rw [show j + (i + 1) = j + 1 + i by omega, ← ih (j + 1) i (by omega)]; rfl
def mkq (ρ : Nat → Int32) (i : Nat) : Nat := (ρ (9 + 4 * i)).toNatClampNeg
theorem mkq_ok {ρ : Nat → Int32} {h i : Nat} (W : RH ρ h) (hi : i < h) : ρ (9 + 4 * i) = nI (mkq ρ i) ∧ mkq ρ i < 65536 := by
  obtain ⟨m, m1, m2, e⟩ := W.1 i hi
  unfold mkq
  rw [e, mI_tc (by omega)]
  exact ⟨rfl, m2⟩
theorem dP_heat : ∀ (n t : Nat) (W : List T3), 20 ≤ t → t ≤ 400 → 20 ≤ (dP n t W).2.2 ∧ (dP n t W).2.2 ≤ 400 := by
  intro n
  induction n with
  | zero => intro t W h1 h2; exact ⟨h1, h2⟩
  | succ n ih =>
    intro t W h1 h2
    by_cases hW : W.length = 0
    · rw [dP, if_pos hW]; exact ⟨h1, h2⟩
    · cases hk : kP t W with
      | some k =>
        rw [dP_load hW hk]
        obtain ⟨r1, r2⟩ := fall_r (k := k) (s := sz (gT (pK k) 24 W)) h2 h1
        exact ih _ _ r1 (by omega)
      | none =>
        by_cases hh : hotP t W
        · have := hot_200 hh
          rw [dP_tick hW hk hh]
          exact ih _ _ (by omega) (by omega)
        · rw [dP_end hW hk hh]; exact ⟨h1, h2⟩
theorem RLv_cm {γ : Nat → Int32} {c s mk o k : Nat} {pl : Bool} (W : RLv γ c) : RLv (cm γ c s mk o k pl) (c + 1) := fun r h1 h2 => by
  unfold cm
  rw [ru_ne _ (by omega), ru_ne _ (by omega), ru_ne _ (by omega)]
  by_cases e : r = c % 200
  · subst e; left; rw [ru_at]
  · rw [ru_ne _ (by omega), ru_ne _ (by omega), ru_ne _ (by omega), ru_ne _ (by omega), ru_ne _ (by omega), ru_ne _ (by omega), ru_ne _ (by omega)]
    have hr : r < c := by
      rcases Nat.lt_or_ge r c with q | q
      · exact q
      · have : r = c := by omega
        subst this
        exact absurd (Nat.mod_eq_of_lt h2).symm e
    exact W r hr h2
theorem RLv_cmz {mk o k : Nat} {pl : Bool} : ∀ (z : Nat) (G : Gs), RLv G.1 G.2.1 → RLv (cmz mk o k pl z G).1 (cmz mk o k pl z G).2.1 := by
  intro z
  induction z with
  | zero => intro G h; exact h
  | succ z ih => intro G h; rw [cmz]; exact ih _ (RLv_cm h)
theorem RLv_btl {mkf : Nat → Nat} {h t : Nat} (hh : h ≤ 8) : ∀ (T : List T3) (G : Gs), (∀ x, x ∈ T → x.1 < h) → RLv G.1 G.2.1 → RLv (btl mkf t T G).1 (btl mkf t T G).2.1 := by
  intro T
  induction T with
  | nil => intro G _ h; exact h
  | cons x T ih =>
    intro G hT hr
    rw [btl]
    refine ih _ (fun y hy => hT y (List.mem_cons_of_mem _ hy)) (RLv_cmz _ _ ?_)
    have := hT x List.mem_cons_self
    exact hr.cg fun k h1 h2 => ru_ne _ (by omega)
theorem RLv_ldi {mkf : Nat → Nat} {h : Nat} (hh : h ≤ 8) {Ls : List L4} (hLs : ∀ L, L < Ls.length → ∀ x, x ∈ (Ls.getD L L0).2.1 → x.1 < h) : ∀ (m L : Nat) (G : Gs), L + m = Ls.length → RLv G.1 G.2.1 → RLv (ldi mkf Ls L m G).1 (ldi mkf Ls L m G).2.1 := by
  intro m
  induction m with
  | zero => intro L G _ h; exact h
  | succ m ih =>
    intro L G h1 hr
    rw [ldi]
    exact ih (L + 1) _ (by omega) (RLv_btl hh _ _ (hLs L (by omega)) hr)
noncomputable def PL (ρ : Nat → Int32) (h f b t w : Nat) : List L4 × List T3 × Nat := dP 1000 (min 400 (t + 10 * w)) ((Od ρ h f b).map (bqt ρ))
noncomputable def GF (ρ : Nat → Int32) (h f b c s t w : Nat) : Gs := ldl (mkq ρ) (PL ρ h f b t w).1 (wdz ρ h f w, c, s)
theorem PL_heat {ρ : Nat → Int32} {h f b t w : Nat} (h1 : 20 ≤ t) (h2 : t ≤ 400) : 20 ≤ (PL ρ h f b t w).2.2 ∧ (PL ρ h f b t w).2.2 ≤ 400 := dP_heat _ _ _ (by omega) (by omega)
theorem PB_of {M : Mem} {ρ : Nat → Int32} {h b f : Nat} (hh : h ≤ 8) (hf : f < h) (B : BB M ρ b) (W : RB ρ h b) (H : OR M (Od ρ h f b)) : PB M (Od ρ h f b) (fun p => bqt ρ ((Od ρ h f b).getD p 0)) := by
  have hb := B.1
  have hl := Od_len hh hf W
  refine ⟨H, by omega, fun p hp => ?_⟩
  have hlt := Od_lt hp
  obtain ⟨q1, q2, q3, q4, q5, q6, q7⟩ := bqt_ok hh W hlt
  refine ⟨by omega, ⟨by dsimp only; omega, q5, q6, q7⟩, ?_, ?_, ?_⟩
  · have := B.2.2.2 _ 0 hlt (by omega)
    rw [Nat.add_zero, Nat.add_zero] at this
    exact this.trans q1
  · exact (B.2.2.2 _ 1 hlt (by omega)).trans q2
  · exact (B.2.2.2 _ 2 hlt (by omega)).trans q3
theorem bring_c {M : Mem} {ρ : Nat → Int32} {h f : Nat} (H : HH M ρ h) (W : RH ρ h) (hn : nxt ρ h = some f) (hf : f < h) (w : Nat) : ∃ M', fX4_bringWood 2 (nI w) M = some M' ∧ HH M' (wdz ρ h f w) h ∧ (∀ q x, q ≠ 6 → q ≠ 8 → M'.1 q x = M.1 q x) ∧ M'.2 = M.2 := by
  have hh := H.1
  obtain ⟨M', a1, a2, a3, a4⟩ := xz_c h 0 FUEL _ _ (H.pt (show f < 8 by omega) (show 1 < 4 by omega) (ρ (9 + 4 * f + 1) + nI w)) (by omega) (fuel8 (by omega))
  refine ⟨M', ?_, a2, fun q x h1 h2 => by rw [a3 q x h2, mput_at, if_neg (by omega)], a4⟩
  unfold fX4_bringWood
  rw [H.next W, Option.bind_some, hn]
  show ((fX7_get 3 4 8 (nI f) (nI 1) M).bind _) = _
  rw [H.gt hf (by omega), Option.bind_some]
  show ((fX7_put 3 4 8 (nI f) (nI 1) _ M).bind _) = _
  rw [X7_put (by omega) (by omega) (by omega) (by omega), Option.bind_some]
  show ((lX4_bringWood_27 2 FUEL (nI 0) (mput M (5 + 1) f (ρ (9 + 4 * f + 1) + nI w))).bind _) = _
  rw [a1]; rfl
/-- the class plans: order, wood, loads -/
theorem plan_c {M : Mem} {ρ : Nat → Int32} {h b g c f w t : Nat} (V : Vi M ρ h b g c) (W : Wr ρ h b c) (hn : nxt ρ h = some f) (hf : f < h) (h2 : ρ 2 = nI t) (ht : 20 ≤ t) (ht4 : t ≤ 400) (hw : w ≤ 40) : ∃ M4 M6 M10, fX9_arrangeNextDay 1 M = some M4 ∧ fX4_bringWood (1 + 1) (nI w) M4 = some M6 ∧ fX9_heatWith 1 (nI w) M6 = some (nI (min 400 (t + 10 * w))) ∧ fX3_fire (1 + 8) (nI (min 400 (t + 10 * w))) M6 = some M10 ∧ HH M10 (wdz ρ h f w) h ∧ FS M10 (Od ρ h f b) (fun p => bqt ρ ((Od ρ h f b).getD p 0)) (PL ρ h f b t w).1 (PL ρ h f b t w).2.1 (PL ρ h f b t w).2.2 ∧ (∀ q x, q ≠ 6 → q ≠ 8 → ¬ (33 ≤ q ∧ q < 45) → M10.1 q x = M.1 q x) ∧ M10.2 = M.2 := by
  have hh := V.1.1
  have hb := V.2.1.1
  obtain ⟨M4, a1, a2, a3, a4⟩ := arrange_ok V W (by omega) hn hf
  have H4 : HH M4 ρ h := V.1.cg (fun q x _ _ => a3 q x (by omega) (by omega)) (fun _ _ _ => rfl)
  have B4 : BB M4 ρ b := V.2.1.cg (fun q x _ _ => a3 q x (by omega) (by omega)) (fun _ _ _ => rfl)
  obtain ⟨M6, b1, b2, b3, b4⟩ := bring_c H4 W.1 hn hf w
  have P6 : PB M6 (Od ρ h f b) (fun p => bqt ρ ((Od ρ h f b).getD p 0)) := (PB_of hh hf B4 W.2.1 a2).cg (b3 33 4 (by omega) (by omega)) (fun q x hq => b3 q x (by omega) (by omega))
  have hl := Od_len (f := f) hh hf W.2.1
  obtain ⟨M10, c1, c2, c3, c4, c5⟩ := fire_c (t := min 400 (t + 10 * w)) P6 (by omega) (by omega)
  rw [tb_map (bqt ρ) (Od ρ h f b)] at c2
  refine ⟨M4, M6, M10, a1, b1, ?_, c1, b2.cg (fun q x _ _ => c4 q x (by omega)) (fun _ _ _ => rfl), c2, fun q x q1 q2 q3 => by rw [c4 q x q3, b3 q x q1 q2, a3 q x (by omega) (by omega)], by rw [c5, b4, a4]⟩
  unfold fX9_heatWith
  rw [b3 1 4 (by omega) (by omega), a3 1 4 (by omega) (by omega), V.2.2.2.2.1, h2, l_10, nI_ml', nI_ad, l_400]
  by_cases q : t + 10 * w < 400
  · rw [if_pos (pI_lt q (by omega)), show min 400 (t + 10 * w) = t + 10 * w by omega]
  · rw [if_neg (pI_nlt (by omega) (by omega)), show min 400 (t + 10 * w) = 400 by omega]
theorem copy_l {M : Mem} {g : Nat} (hg : g ≤ 20) (h : M.1 37 1 = nI g) : fX5_copyFrom (1 + 14) 37 M = some (mput (cpT 16 38 5 g M) 15 1 (nI g)) := by
  unfold fX5_copyFrom
  rw [h, show fX7_copyFrom (1 + 14 + 1) 5 20 (37 + 1) 5 20 (nI g) M = some (cpT 16 38 5 g M) from X7_copy (by omega) hg (by omega) (by omega), Option.bind_some]
  unfold pf
  rw [Option.bind_some, show (cpT 16 38 5 g M).1 37 1 = nI g from by
    show (if 16 + 2 ≤ 37 ∧ 37 < 16 + 2 + 5 ∧ 1 < g then M.1 (38 + (37 - 16)) 1 else M.1 37 1) = _
    rw [if_neg (by omega)]; exact h]
/-- a memory of the class that holds what a row holds -/
def fake (γ : Nat → Int32) : Mem := (fun q x => if q = 2 then γ 0 else if q = 23 then (if x = 1 then γ 5 else γ 6) else if 5 ≤ q ∧ q < 9 then γ (9 + 4 * x + (q - 5)) else if 26 ≤ q ∧ q < 33 then γ (201 + 7 * x + (q - 26)) else 0, fun _ _ => 0)
theorem fake_H {γ : Nat → Int32} {h : Nat} (hh : h ≤ 8) (h0 : γ 0 = nI h) : HH (fake γ) γ h := by
  refine ⟨hh, h0, h0, fun i k hi hk => ?_⟩
  show (if 5 + k = 2 then _ else if 5 + k = 23 then _ else if 5 ≤ 5 + k ∧ 5 + k < 9 then γ (9 + 4 * i + (5 + k - 5)) else _) = _
  rw [if_neg (by omega), if_neg (by omega), if_pos (by omega), show 5 + k - 5 = k by omega]
theorem fake_L {γ : Nat → Int32} {c : Nat} (hc : c < 2 ^ 30) (h5 : γ 5 = nI c) : LL (fake γ) γ c := by
  refine ⟨hc, h5, h5, rfl, fun i k hi hj hk => ?_⟩
  show (if 26 + k = 2 then _ else if 26 + k = 23 then _ else if 5 ≤ 26 + k ∧ 26 + k < 9 then _ else if 26 ≤ 26 + k ∧ 26 + k < 33 then γ (201 + 7 * i + (26 + k - 26)) else _) = _
  rw [if_neg (by omega), if_neg (by omega), if_neg (by omega), if_pos (by omega), show 26 + k - 26 = k by omega]
/-- the class answers with the plan alone -/
theorem dough_q {M : Mem} {O : List Nat} {tr : Nat → T3} {t w : Nat} (P : PB M O tr) (h4 : M.1 1 4 = nI t) (ht : 20 ≤ t) (ht4 : t ≤ 400) (hw : w ≤ 40) : ∃ M', fX11_doughOfArrangedDay (nI w) M = some (nI (sz (dP 1000 (min 400 (t + 10 * w)) (tb tr 0 O.length)).2.1), M') ∧ PB M' O tr ∧ (∀ q x, ¬ (33 ≤ q ∧ q < 45) → M'.1 q x = M.1 q x) ∧ M'.2 = M.2 := by
  obtain ⟨M1, a1, a2, a3, a4, a5⟩ := fire_c (t := min 400 (t + 10 * w)) P (by omega) (by omega)
  refine ⟨M1, ?_, a2.1, a4, a5⟩
  unfold fX11_doughOfArrangedDay fX9_heatWith
  have e : (if M.1 1 4 + 10 * nI w < 400 then M.1 1 4 + 10 * nI w else 400) = nI (min 400 (t + 10 * w)) := by
    rw [h4, l_10, nI_ml', nI_ad, l_400]
    by_cases q : t + 10 * w < 400
    · rw [if_pos (pI_lt q (by omega)), show min 400 (t + 10 * w) = t + 10 * w by omega]
    · rw [if_neg (pI_nlt (by omega) (by omega)), show min 400 (t + 10 * w) = 400 by omega]
  rw [e, Option.bind_some, a1, Option.bind_some, dough_c a2]
  rfl
theorem arrange_q {M : Mem} {ρ : Nat → Int32} {h b g c : Nat} (V : Vi M ρ h b g c) (W : Wr ρ h b c) : ∃ M4 O tr, fX9_arrangeNextDay 1 M = some M4 ∧ PB M4 O tr ∧ (b = 0 → O = []) ∧ (0 < b → ∃ f, f < h ∧ nxt ρ h = some f ∧ tb tr 0 O.length = (Od ρ h f b).map (bqt ρ)) ∧ (∀ q x, ¬ (33 ≤ q ∧ q < 45) → M4.1 q x = M.1 q x) ∧ M4.2 = M.2 := by
  have hh := V.1.1
  by_cases hh0 : 0 < h
  · obtain ⟨f, hf, hn⟩ := nxt_some W.1 hh0
    obtain ⟨M4, a1, a2, a3, a4⟩ := arrange_ok V W hh0 hn hf
    have B4 : BB M4 ρ b := V.2.1.cg (fun q x _ _ => a3 q x (by omega) (by omega)) (fun _ _ _ => rfl)
    have hl := Od_len (f := f) hh hf W.2.1
    exact ⟨M4, Od ρ h f b, _, a1, PB_of hh hf B4 W.2.1 a2, fun q => List.length_eq_zero_iff.mp (by omega), fun _ => ⟨f, hf, hn, tb_map (bqt ρ) _⟩, fun q x hq => a3 q x (by omega) (by omega), a4⟩
  · have hb0 : b = 0 := by
      rcases Nat.eq_zero_or_pos b with q | q
      · exact q
      · obtain ⟨⟨a, ha, -⟩, -⟩ := W.2.1 0 q; omega
    have h00 : h = 0 := by omega
    refine ⟨mput M 33 4 0, [], fun _ => t0, ?_, ⟨⟨by rw [mput_at, if_pos ⟨rfl, rfl⟩]; rfl, fun p hp => absurd hp (Nat.not_lt_zero _)⟩, by simp, fun p hp => absurd hp (Nat.not_lt_zero _)⟩, fun _ => rfl, fun q => by omega, fun q x hq => by rw [mput_at, if_neg (by omega)], rfl⟩
    unfold fX9_arrangeNextDay fX4_size
    show (some (M.1 2 1)).bind _ = _
    rw [Option.bind_some, show fX4_nextOne (1 + 1) M = some (enc (nxt ρ h)) from V.1.next W.1, Option.bind_some, V.1.2.1, h00]
    unfold fX3_arrange pf
    rw [Option.bind_some, show FUEL = 99999 + 1 from rfl, lX3_arrange_8, if_pos (show nI 0 ≤ 0 by decide)]
    rfl
def bw (d : Nat → Nat) : Nat → Nat → Nat → Nat
  | 0, _, best => best
  | m + 1, w, best => bw d m (w + 1) (if d w < d best then w else best)
theorem bw_c {O : List Nat} {tr : Nat → T3} {t : Nat} {d : Nat → Nat} (ht : 20 ≤ t) (ht4 : t ≤ 400) (hd : ∀ w, w ≤ 40 → d w = sz (dP 1000 (min 400 (t + 10 * w)) (tb tr 0 O.length)).2.1) (hd2 : ∀ w, w ≤ 40 → d w < 1000) : ∀ (m w n best : Nat) (M : Mem), PB M O tr → M.1 1 4 = nI t → w + m = 41 → best ≤ 40 → m < n → ∃ M', lX11_bestWood_36 n (nI best) (nI (d best)) (nI w) M = some (nI (bw d m w best), M') ∧ (∀ q x, ¬ (33 ≤ q ∧ q < 45) → M'.1 q x = M.1 q x) ∧ M'.2 = M.2 := by
  intro m
  induction m with
  | zero =>
    intro w n best M P h4 h1 hb hn
    obtain ⟨n, rfl⟩ : ∃ n', n = n' + 1 := ⟨n - 1, by omega⟩
    refine ⟨M, ?_, fun _ _ _ => rfl, rfl⟩
    rw [lX11_bestWood_36, l_40, if_pos (pI_lt (by omega) (by omega))]; rfl
  | succ m ih =>
    intro w n best M P h4 h1 hb hn
    obtain ⟨n, rfl⟩ : ∃ n', n = n' + 1 := ⟨n - 1, by omega⟩
    obtain ⟨M1, a1, a2, a3, a4⟩ := dough_q P h4 ht ht4 (show w ≤ 40 by omega)
    rw [← hd w (by omega)] at a1
    have q1 := hd2 w (by omega)
    have q2 := hd2 best hb
    obtain ⟨M2, b1, b2, b3⟩ := ih (w + 1) n (if d w < d best then w else best) M1 a2 ((a3 1 4 (by omega)).trans h4) (by omega) (by split <;> omega) (by omega)
    refine ⟨M2, ?_, fun q x hq => (b2 q x hq).trans (a3 q x hq), b3.trans a4⟩
    rw [lX11_bestWood_36, l_40, if_neg (pI_nlt (by omega) (by omega)), a1, Option.bind_some]
    simp only [un2]
    rw [l_1, nI_ad, bw]
    by_cases q : d w < d best
    · rw [if_pos q] at b1 ⊢
      rw [if_neg (pI_nle q (by omega))]; exact b1
    · rw [if_neg q] at b1 ⊢
      rw [if_pos (pI_le (by omega) (by omega))]; exact b1
theorem bw_0 {d : Nat → Nat} : ∀ (m w best : Nat), d best = 0 → bw d m w best = best := by
  intro m
  induction m with
  | zero => intro w best _; rfl
  | succ m ih => intro w best h; rw [bw, if_neg (by omega), ih _ _ h]
