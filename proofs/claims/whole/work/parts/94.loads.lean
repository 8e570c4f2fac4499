/-! batches and loads, loaf by loaf: a row, how many came out, s -/
abbrev Gs : Type := (Nat → Int32) × Nat × Nat
def cmz (mk o k : Nat) (pl : Bool) : Nat → Gs → Gs
  | 0, G => G
  | z + 1, G => cmz mk o k pl z (cm G.1 G.2.1 G.2.2 mk o k pl, G.2.1 + 1, (bp mk G.2.2).2)
def bt1 (mkf : Nat → Nat) (t : Nat) (x : T3) (G : Gs) : Gs := cmz (mkf x.1) x.1 x.2.1 (decide (t < lo x.2.1 - 30)) x.2.2 (ru G.1 (9 + 4 * x.1 + 2) (G.1 (9 + 4 * x.1 + 2) + nI x.2.2), G.2.1, G.2.2)
def btl (mkf : Nat → Nat) (t : Nat) : List T3 → Gs → Gs
  | [], G => G
  | x :: T, G => btl mkf t T (bt1 mkf t x G)
def bm : List T3 → Int32 → Int32
  | [], a => a
  | x :: T, a => bm T (a ||| ((1 : Int32) <<< (nI x.1 &&& 31)))
def GI (mkf : Nat → Nat) (h : Nat) (G : Gs) : Prop := G.1 1 = nI G.2.2 ∧ G.2.2 < 2 ^ 31 ∧ G.1 5 = nI G.2.1 ∧ ∀ i, i < h → G.1 (9 + 4 * i) = nI (mkf i) ∧ mkf i < 65536
theorem cm_lo {γ : Nat → Int32} {c s mk o k : Nat} {pl : Bool} {j : Nat} (h1 : j ≠ 1) (h5 : j ≠ 5) (h6 : j ≠ 6) (h : j < 201) : cm γ c s mk o k pl j = γ j := by
  unfold cm
  rw [ru_ne _ h6, ru_ne _ h5, ru_ne _ (by omega), ru_ne _ (by omega), ru_ne _ (by omega), ru_ne _ (by omega), ru_ne _ (by omega), ru_ne _ (by omega), ru_ne _ (by omega), ru_ne _ h1]
theorem cm_1 (γ : Nat → Int32) (c s mk o k : Nat) (pl : Bool) : cm γ c s mk o k pl 1 = nI (bp mk s).2 ∧ cm γ c s mk o k pl 5 = nI (c + 1) := by
  unfold cm
  constructor
  · rw [ru_ne _ (by omega), ru_ne _ (by omega), ru_ne _ (by omega), ru_ne _ (by omega), ru_ne _ (by omega), ru_ne _ (by omega), ru_ne _ (by omega), ru_ne _ (by omega), ru_ne _ (by omega), ru_at]
  · rw [ru_ne _ (by omega), ru_at]
theorem GI.come {mkf : Nat → Nat} {h : Nat} {G : Gs} (I : GI mkf h G) (hh : h ≤ 8) {mk : Nat} (hm : mk < 65536) (o k : Nat) (pl : Bool) : GI mkf h (cm G.1 G.2.1 G.2.2 mk o k pl, G.2.1 + 1, (bp mk G.2.2).2) := by
  obtain ⟨i1, i2, i3, i4⟩ := I
  obtain ⟨e1, e2⟩ := cm_1 G.1 G.2.1 G.2.2 mk o k pl
  refine ⟨e1, (bp_ok (s := G.2.2) hm).2.2, e2, fun i hi => ?_⟩
  dsimp only
  rw [cm_lo (by omega) (by omega) (by omega) (by omega)]
  exact i4 i hi
theorem cmz_ok {mkf : Nat → Nat} {h mk : Nat} (hh : h ≤ 8) (hm : mk < 65536) (o k : Nat) (pl : Bool) : ∀ (z : Nat) (G : Gs), GI mkf h G → GI mkf h (cmz mk o k pl z G) ∧ (cmz mk o k pl z G).2.1 = G.2.1 + z ∧ ∀ j, j ≠ 1 → j ≠ 5 → j ≠ 6 → j < 201 → (cmz mk o k pl z G).1 j = G.1 j := by
  intro z
  induction z with
  | zero => intro G I; exact ⟨I, rfl, fun _ _ _ _ _ => rfl⟩
  | succ z ih =>
    intro G I
    obtain ⟨a1, a2, a3⟩ := ih _ (I.come hh hm o k pl)
    rw [cmz]
    refine ⟨a1, by rw [a2]; dsimp only; omega, fun j h1 h2 h3 h4 => ?_⟩
    rw [a3 j h1 h2 h3 h4]
    exact cm_lo h1 h2 h3 h4
theorem bz_c {mkf : Nat → Nat} {h mk o k z : Nat} (hh : h ≤ 8) (hm : mk < 65536) (pl : Bool) (hz : z < 100) : ∀ (m j n : Nat) (M : Mem) (G : Gs), DV M G.1 h G.2.1 → GI mkf h G → j + m = z → m < n → G.2.1 + m < 2 ^ 30 → ∃ M', lX9_bakeBatch_72 1 (nI o) (nI k) (nI z) (nI mk) pl n (nI j) M = some M' ∧ DV M' (cmz mk o k pl m G).1 h (cmz mk o k pl m G).2.1 ∧ (∀ q x, ¬ (q = 1 ∧ x = 5) → (q < 23 ∨ 33 ≤ q) → M'.1 q x = M.1 q x) ∧ M'.2 = M.2 := by
  intro m
  induction m with
  | zero =>
    intro j n M G D I h1 h2 h3
    obtain ⟨n, rfl⟩ : ∃ n', n = n' + 1 := ⟨n - 1, by omega⟩
    refine ⟨M, ?_, D, fun _ _ _ _ => rfl, rfl⟩
    rw [lX9_bakeBatch_72, if_pos (pI_le (by omega) (by omega))]
  | succ m ih =>
    intro j n M G D I h1 h2 h3
    obtain ⟨n, rfl⟩ : ∃ n', n = n' + 1 := ⟨n - 1, by omega⟩
    obtain ⟨M1, a1, a2, a3, a4⟩ := loaf_c (o := o) (k := k) pl D I.1 I.2.1 hm (by omega)
    obtain ⟨M2, b1, b2, b3, b4⟩ := ih (j + 1) n M1 _ a2 (I.come hh hm o k pl) (by omega) (by omega) (by dsimp only; omega)
    refine ⟨M2, ?_, by rw [cmz]; exact b2, fun q x h4 h5 => (b3 q x h4 h5).trans (a3 q x h4 h5), b4.trans a4⟩
    rw [lX9_bakeBatch_72, if_neg (pI_nle (by omega) (by omega)), l_1, nI_ad]
    rw [bp_c (D.2.2.1.trans I.1) I.2.1, Option.bind_some] at a1 ⊢
    simp only [un2] at a1 ⊢
    rw [a1, Option.bind_some]
    exact b1
theorem bz_r {mkf : Nat → Nat} {h mk o k z g : Nat} (hh : h ≤ 8) (ho : o < h) (hmk : mkf o = mk) (pl : Bool) (hz : z < 100) (hg : g < 20) : ∀ (m j n : Nat) (N : Mem) (G : Gs), Lq N G.1 → GI mkf h G → N.1 183 (2 * g + 1) = nI z → j + m = z → m < n → G.2.1 + m < 2 ^ 30 → ∃ N', lX12_bakes_214 (nI k) pl (nI g) (nI o) n (nI j) N = some N' ∧ Lq N' (cmz mk o k pl m G).1 ∧ (∀ q x, q ≠ 179 → N'.1 q x = N.1 q x) ∧ (∀ x, x ≠ 1 → x ≠ 5 → x ≠ 6 → x < 201 → N'.1 179 x = N.1 179 x) ∧ N'.2 = N.2 := by
  intro m
  induction m with
  | zero =>
    intro j n N G R I h0 h1 h2 h3
    obtain ⟨n, rfl⟩ : ∃ n', n = n' + 1 := ⟨n - 1, by omega⟩
    refine ⟨N, ?_, R, fun _ _ _ => rfl, fun _ _ _ _ _ => rfl, rfl⟩
    rw [lX12_bakes_214, l_2, l_1, nI_ml', nI_ad, ald_n (by omega) (by omega), Option.bind_some, h0, if_pos (pI_le (by omega) (by omega))]
  | succ m ih =>
    intro j n N G R I h0 h1 h2 h3
    obtain ⟨n, rfl⟩ : ∃ n', n = n' + 1 := ⟨n - 1, by omega⟩
    obtain ⟨i1, i2, i3, i4⟩ := id I
    obtain ⟨i5, i6⟩ := i4 o ho
    rw [hmk] at i5 i6
    obtain ⟨N1, a1, a2, a3, a4, a5⟩ := loaf_r (k := k) pl R i1 i2 i3 (by omega) (by omega) i5 i6
    obtain ⟨N2, b1, b2, b3, b4, b5⟩ := ih (j + 1) n N1 _ a2 (I.come hh i6 o k pl) (by rw [a3 _ _ (by omega)]; exact h0) (by omega) (by omega) (by dsimp only; omega)
    refine ⟨N2, ?_, by rw [cmz]; exact b2, fun q x hq => (b3 q x hq).trans (a3 q x hq), fun x q1 q2 q3 q4 => (b4 x q1 q2 q3 q4).trans (a4 x q1 q2 q3 q4), b5.trans a5⟩
    rw [lX12_bakes_214, l_2, l_1, nI_ml', nI_ad, ald_n (by omega) (by omega), Option.bind_some, h0, if_neg (pI_nle (by omega) (by omega)), a1, Option.bind_some, nI_ad]
    exact b1
theorem GI.lay {mkf : Nat → Nat} {h : Nat} {G : Gs} (I : GI mkf h G) (hh : h ≤ 8) (o : Nat) (x : Int32) : GI mkf h (ru G.1 (9 + 4 * o + 2) x, G.2.1, G.2.2) := by
  obtain ⟨i1, i2, i3, i4⟩ := I
  refine ⟨?_, i2, ?_, fun i hi => ?_⟩
  · dsimp only
    rw [ru_ne _ (by omega)]; exact i1
  · dsimp only
    rw [ru_ne _ (by omega)]; exact i3
  · dsimp only
    rw [ru_ne _ (by omega)]; exact i4 i hi
theorem bt1_ok {mkf : Nat → Nat} {h : Nat} (hh : h ≤ 8) {G : Gs} (I : GI mkf h G) (t : Nat) {x : T3} (hx : x.1 < h) : GI mkf h (bt1 mkf t x G) ∧ (bt1 mkf t x G).2.1 = G.2.1 + x.2.2 ∧ (∀ j, j ≠ 1 → j ≠ 5 → j ≠ 6 → j < 201 → (∀ i, i < h → j ≠ 9 + 4 * i + 2) → (bt1 mkf t x G).1 j = G.1 j) := by
  obtain ⟨a1, a2, a3⟩ := cmz_ok hh (I.2.2.2 x.1 hx).2 x.1 x.2.1 (decide (t < lo x.2.1 - 30)) x.2.2 _ (I.lay hh x.1 (G.1 (9 + 4 * x.1 + 2) + nI x.2.2))
  refine ⟨a1, a2, fun j h1 h2 h3 h4 h5 => ?_⟩
  refine (a3 j h1 h2 h3 h4).trans ?_
  dsimp only
  exact ru_ne _ (h5 x.1 hx)
theorem btl_ok {mkf : Nat → Nat} {h : Nat} (hh : h ≤ 8) (t : Nat) : ∀ (T : List T3) (G : Gs), GI mkf h G → (∀ x, x ∈ T → x.1 < h) → GI mkf h (btl mkf t T G) ∧ (btl mkf t T G).2.1 = G.2.1 + sz T ∧ (∀ j, j ≠ 1 → j ≠ 5 → j ≠ 6 → j < 201 → (∀ i, i < h → j ≠ 9 + 4 * i + 2) → (btl mkf t T G).1 j = G.1 j) := by
  intro T
  induction T with
  | nil => intro G I _; exact ⟨I, rfl, fun _ _ _ _ _ _ => rfl⟩
  | cons x T ih =>
    intro G I hT
    obtain ⟨a1, a2, a3⟩ := bt1_ok hh I t (hT x List.mem_cons_self)
    obtain ⟨b1, b2, b3⟩ := ih _ a1 (fun y hy => hT y (List.mem_cons_of_mem _ hy))
    rw [btl]
    refine ⟨b1, by rw [b2, a2, sz]; omega, fun j h1 h2 h3 h4 h5 => (b3 j h1 h2 h3 h4 h5).trans (a3 j h1 h2 h3 h4 h5)⟩
/-! the class bakes a batch, a load -/
theorem PB.v0 {M : Mem} {O : List Nat} {tr : Nat → T3} (H : PB M O tr) {p : Nat} (hp : p < O.length) : fX1_value 9 (nI (O.getD p 0)) 0 M = some (nI (tr p).1) := by
  obtain ⟨a, b, c, d, e⟩ := H.2.2 p hp
  unfold fX1_value
  show (fX7_get 10 3 20 _ (nI 0) M).bind _ = _
  rw [X7_get (by omega) (by omega) (by omega) (by omega), Option.bind_some, ← c]
theorem DV.lay {M : Mem} {γ : Nat → Int32} {h c : Nat} (D : DV M γ h c) {o : Nat} (ho : o < h) (x : Int32) : DV (mput M (5 + 2) o x) (ru γ (9 + 4 * o + 2) x) h c := by
  obtain ⟨H, L, d1, d2⟩ := D
  have hh := H.1
  exact ⟨H.pt (by omega) (by omega) x, L.cg (fun q y _ _ => by rw [mput_at, if_neg (by omega)]) (fun j _ _ => ru_ne _ (by omega)), by rw [mput_at, if_neg (by omega), ru_ne _ (by omega)]; exact d1, by rw [mput_at, if_neg (by omega), ru_ne _ (by omega)]; exact d2⟩
theorem batch_c {mkf : Nat → Nat} {M : Mem} {O : List Nat} {tr : Nat → T3} {h p t : Nat} {G : Gs} (P : PB M O tr) (hp : p < O.length) (hx : (tr p).1 < h) (D : DV M G.1 h G.2.1) (I : GI mkf h G) (hc : G.2.1 + 12 < 2 ^ 30) (ht : t ≤ 400) : ∃ M', fX9_bakeBatch 1 (nI (O.getD p 0)) (nI t) M = some M' ∧ DV M' (bt1 mkf t (tr p) G).1 h (bt1 mkf t (tr p) G).2.1 ∧ (∀ q x, ¬ (q = 1 ∧ x = 5) → q ≠ 7 → (q < 23 ∨ 33 ≤ q) → M'.1 q x = M.1 q x) ∧ M'.2 = M.2 := by
  have hh := D.1.1
  obtain ⟨-, ⟨t1, t2, t3, t4⟩, -⟩ := P.2.2 p hp
  obtain ⟨i5, i6⟩ := I.2.2.2 (tr p).1 hx
  obtain ⟨o, ho⟩ : ∃ o, o = (tr p).1 := ⟨_, rfl⟩
  obtain ⟨k, hk⟩ : ∃ k, k = (tr p).2.1 := ⟨_, rfl⟩
  obtain ⟨z, hz⟩ : ∃ z, z = (tr p).2.2 := ⟨_, rfl⟩
  have ev := P.v0 hp
  have ek := P.v1 hp
  have ez := P.v2 hp
  rw [← ho] at ev i5 i6 hx t1
  rw [← hk] at ek t2
  rw [← hz] at ez t3 t4
  obtain ⟨l1, l2, l3⟩ := lo_le k
  have hl30 : 30 ≤ lo k := by
    rcases (show k = 0 ∨ k = 1 ∨ k = 2 by omega) with rfl | rfl | rfl <;> decide
  obtain ⟨M1, a1, a2, a3, a4⟩ := bz_c (mkf := mkf) (o := o) (k := k) (z := z) hh i6 (decide (t < lo k - 30)) (by omega) z 0 FUEL _ (ru G.1 (9 + 4 * o + 2) (G.1 (9 + 4 * o + 2) + nI z), G.2.1, G.2.2) (D.lay hx _) (I.lay hh o _) (by omega) (fuel8 (by omega)) (by dsimp only; omega)
  refine ⟨M1, ?_, ?_, fun q x h1 h2 h3 => by rw [a3 q x h1 h3, mput_at, if_neg (by omega)], a4⟩
  · unfold fX9_bakeBatch fX4_value fX4_putIn fX3_paleBelow
    show (fX1_value 9 (nI (O.getD p 0)) 0 M).bind _ = _
    rw [ev, Option.bind_some]
    show (fX1_value 9 (nI (O.getD p 0)) 1 M).bind _ = _
    rw [ek, Option.bind_some]
    show (fX1_value 9 (nI (O.getD p 0)) 2 M).bind _ = _
    rw [ez, Option.bind_some]
    show ((fX7_get 3 4 8 (nI o) (nI 0) M).bind _).bind _ = _
    rw [D.1.gt hx (by omega), Option.bind_some, Option.bind_some, show G.1 (9 + 4 * o + 0) = nI (mkf o) from i5, l_0, if_neg (pI_nlt (by omega) (by omega)), l_3, if_neg (pI_nle (by omega) (by omega)), lo_s t2, Option.bind_some, Option.bind_some, l_30, mI_sb hl30 (by omega)]
    have ep : (if nI (lo k - 30) ≤ nI t then (some false : Option Bool) else some true) = some (decide (t < lo k - 30)) := by
      by_cases hq : t < lo k - 30
      · rw [if_neg (pI_nle hq (by omega)), decide_eq_true hq]
      · rw [if_pos (pI_le (by omega) (by omega)), decide_eq_false hq]
    rw [ep, Option.bind_some]
    show (((fX7_get 3 4 8 (nI o) (nI 2) M).bind _).bind _) = _
    rw [D.1.gt hx (by omega), Option.bind_some]
    show (((fX7_put 3 4 8 (nI o) (nI 2) _ M).bind _).bind _) = _
    rw [X7_put (by omega) (by omega) (by omega) (by omega), Option.bind_some, Option.bind_some]
    show ((lX9_bakeBatch_72 1 (nI o) (nI k) (nI z) (nI (mkf o)) (decide (t < lo k - 30)) FUEL (nI 0) (mput M (5 + 2) o (G.1 (9 + 4 * o + 2) + nI z))).bind _) = _
    rw [a1]; rfl
  · unfold bt1
    rw [← ho, ← hk, ← hz]
    exact a2
theorem loads_in {mkf : Nat → Nat} {O : List Nat} {tr : Nat → T3} {h L t : Nat} (hL : L < 20) (ht : t ≤ 400) (ht20 : ∀ p, p < O.length → (tr p).1 < h) : ∀ (m j n : Nat) (a : Int32) (M : Mem) (G : Gs), PB M O tr → DV M G.1 h G.2.1 → GI mkf h G → M.1 22 L = nI t → j + m = O.length → m < n → G.2.1 + 12 * m < 2 ^ 30 → ∃ M', lX9_bakeLoads_18 1 (nI L) n a (nI j) M = some (bm (sl (fun p => decide (M.1 35 p = nI L)) tr j m) a, M') ∧ PB M' O tr ∧ DV M' (btl mkf t (sl (fun p => decide (M.1 35 p = nI L)) tr j m) G).1 h (btl mkf t (sl (fun p => decide (M.1 35 p = nI L)) tr j m) G).2.1 ∧ GI mkf h (btl mkf t (sl (fun p => decide (M.1 35 p = nI L)) tr j m) G) ∧ (∀ q x, ¬ (q = 1 ∧ x = 5) → q ≠ 7 → (q < 23 ∨ 33 ≤ q) → M'.1 q x = M.1 q x) ∧ M'.2 = M.2 := by
  intro m
  induction m with
  | zero =>
    intro j n a M G P D I h22 h1 h2 h3
    obtain ⟨n, rfl⟩ : ∃ n', n = n' + 1 := ⟨n - 1, by omega⟩
    have hO := P.2.1
    refine ⟨M, ?_, P, D, I, fun _ _ _ _ _ => rfl, rfl⟩
    rw [lX9_bakeLoads_18]
    unfold fX3_size
    rw [Option.bind_some, P.1.1, if_pos (pI_le (by omega) (by omega))]
    rfl
  | succ m ih =>
    intro j n a M G P D I h22 h1 h2 h3
    obtain ⟨n, rfl⟩ : ∃ n', n = n' + 1 := ⟨n - 1, by omega⟩
    have hO := P.2.1
    have hh := D.1.1
    rw [sl]
    by_cases c : M.1 35 j = nI L
    · rw [if_pos (decide_eq_true c)]
      obtain ⟨M1, a1, a2, a3, a4⟩ := batch_c P (show j < O.length by omega) (ht20 j (by omega)) D I (by omega) ht
      have P1 : PB M1 O tr := P.cg (a3 33 4 (by omega) (by omega) (by omega)) (fun q x hq => a3 q x (by omega) (by omega) (by omega))
      obtain ⟨g1, g2, -⟩ := bt1_ok hh I t (ht20 j (by omega))
      obtain ⟨-, ⟨t1, t2, t3, t4⟩, -⟩ := P.2.2 j (by omega)
      obtain ⟨M2, b1, b2, b3, b4, b5, b6⟩ := ih (j + 1) n (a ||| ((1 : Int32) <<< (nI (tr j).1 &&& 31))) M1 _ P1 a2 g1 (by rw [a3 22 L (by omega) (by omega) (by omega)]; exact h22) (by omega) (by omega) (by omega)
      have es : sl (fun p => decide (M1.1 35 p = nI L)) tr (j + 1) m = sl (fun p => decide (M.1 35 p = nI L)) tr (j + 1) m := sl_cg tr m (j + 1) fun i _ _ => by rw [a3 35 i (by omega) (by omega) (by omega)]
      rw [es] at b1 b3 b4
      refine ⟨M2, ?_, b2, b3, b4, fun q x h4 h5 h6 => (b5 q x h4 h5 h6).trans (a3 q x h4 h5 h6), b6.trans a4⟩
      rw [lX9_bakeLoads_18]
      unfold fX3_size fX5_value
      rw [Option.bind_some, P.1.1, if_neg (pI_nle (by omega) (by omega)), loadAt_n P.1 hO (by omega), Option.bind_some, if_pos c, batchAt_n P.1 hO (by omega), Option.bind_some]
      show (((fX7_get 16 5 20 (nI L) (nI 4) M).bind _).bind _) = _
      rw [X7_get (by omega) (by omega) hL (by omega), Option.bind_some, Option.bind_some, show M.1 (16 + (2 + 4)) L = nI t from h22, a1, Option.bind_some]
      show ((fX1_value 9 (nI (O.getD j 0)) 0 M1).bind _) = _
      rw [P1.v0 (by omega), Option.bind_some, l_1, nI_ad]
      exact b1
    · rw [if_neg (by rw [decide_eq_true_eq]; exact c)]
      obtain ⟨M2, b1, b2, b3, b4, b5, b6⟩ := ih (j + 1) n a M G P D I h22 (by omega) (by omega) (by omega)
      refine ⟨M2, ?_, b2, b3, b4, b5, b6⟩
      rw [lX9_bakeLoads_18]
      unfold fX3_size
      rw [Option.bind_some, P.1.1, if_neg (pI_nle (by omega) (by omega)), loadAt_n P.1 hO (by omega), Option.bind_some, if_neg c, l_1, nI_ad]
      exact b1
/-- all loads, in their order -/
def ldl (mkf : Nat → Nat) : List L4 → Gs → Gs
  | [], G => G
  | l :: Ls, G => ldl mkf Ls (btl mkf l.2.2.2 l.2.1 G)
def bml : List L4 → Int32 → Int32
  | [], a => a
  | l :: Ls, a => bml Ls (bm l.2.1 a)
