/-! the reference bakes a load -/
theorem InO.cg {N N' : Mem} {u : Nat} {I : List T3} (H : InO N u I) (h : ∀ x, N'.1 183 x = N.1 183 x) : InO N' u I := fun i hi => by rw [h, h]; exact H i hi
theorem bk152 {mkf : Nat → Nat} {h k t tot : Nat} (hh : h ≤ 8) (htot : tot ≤ 20) : ∀ (R : List T3) (n i : Nat) (N : Mem) (G : Gs) (a : Int32), N.1 178 9 = nI tot → i + R.length = tot → InO N i R → Lq N G.1 → GI mkf h G → N.1 178 10 = a → (∀ x, x ∈ R → x.1 < h ∧ x.2.1 = k ∧ x.2.2 ≤ 12) → G.2.1 + 12 * R.length < 2 ^ 30 → R.length < n → ∃ N', lX12_bakes_152 (nI k) (decide (t < lo k - 30)) n (nI i) N = some N' ∧ Lq N' (btl mkf t R G).1 ∧ N'.1 178 10 = bm R a ∧ (∀ q x, q ≠ 178 → q ≠ 179 → N'.1 q x = N.1 q x) ∧ (∀ x, x ≠ 10 → N'.1 178 x = N.1 178 x) ∧ (∀ x, x < 201 → x ≠ 1 → x ≠ 5 → x ≠ 6 → (∀ i, i < h → x ≠ 9 + 4 * i + 2) → N'.1 179 x = N.1 179 x) ∧ N'.2 = N.2 := by
  intro R
  induction R with
  | nil =>
    intro n i N G a h9 h1 hI Q I h10 hR hc hn
    obtain ⟨n, rfl⟩ : ∃ n', n = n' + 1 := ⟨n - 1, by omega⟩
    rw [List.length_nil] at h1
    refine ⟨N, ?_, Q, h10, fun _ _ _ _ => rfl, fun _ _ => rfl, fun _ _ _ _ _ _ => rfl, rfl⟩
    rw [lX12_bakes_152, h9, if_pos (pI_le (by omega) (by omega))]
  | cons x R ih =>
    intro n i N G a h9 h1 hI Q I h10 hR hc hn
    obtain ⟨n, rfl⟩ : ∃ n', n = n' + 1 := ⟨n - 1, by omega⟩
    rw [List.length_cons] at h1 hc hn
    obtain ⟨x1, x2, x3⟩ := hR x List.mem_cons_self
    obtain ⟨c1, c2⟩ := hI 0 (by rw [List.length_cons]; omega)
    have c1' : N.1 183 (2 * i) = nI x.1 := c1
    have c2' : N.1 183 (2 * i + 1) = nI x.2.2 := c2
    obtain ⟨N1, hN1⟩ : ∃ N1, N1 = mput N 178 10 (a ||| ((1 : Int32) <<< (nI x.1 &&& 31))) := ⟨_, rfl⟩
    have n1 : ∀ q y, ¬ (q = 178 ∧ y = 10) → N1.1 q y = N.1 q y := fun q y hq => by rw [hN1, mput_at, if_neg hq]
    have Q1 : Lq N1 G.1 := fun j q1 q2 q3 q4 q5 q6 => by rw [n1 _ _ (by omega)]; exact Q j q1 q2 q3 q4 q5 q6
    have Q2 := Q1.pt (9 + 4 * x.1 + 2) (G.1 (9 + 4 * x.1 + 2) + nI x.2.2)
    obtain ⟨N3, a1, a2, a3, a4, a5⟩ := bz_r (mkf := mkf) (k := k) (z := x.2.2) (g := i) hh x1 rfl (decide (t < lo k - 30)) (by omega) (by omega) x.2.2 0 FUEL (mput N1 179 (9 + 4 * x.1 + 2) (G.1 (9 + 4 * x.1 + 2) + nI x.2.2)) (ru G.1 (9 + 4 * x.1 + 2) (G.1 (9 + 4 * x.1 + 2) + nI x.2.2), G.2.1, G.2.2) Q2 (I.lay hh x.1 _) (by rw [mput_at, if_neg (by omega), n1 _ _ (by omega)]; exact c2') (by omega) (fuel8 (by omega)) (by dsimp only; omega)
    obtain ⟨g1, g2, g3⟩ := bt1_ok hh I t x1
    have eG : (cmz (mkf x.1) x.1 k (decide (t < lo k - 30)) x.2.2 (ru G.1 (9 + 4 * x.1 + 2) (G.1 (9 + 4 * x.1 + 2) + nI x.2.2), G.2.1, G.2.2)) = bt1 mkf t x G := by unfold bt1; rw [x2]
    rw [eG] at a2
    have n3 : ∀ q y, q ≠ 179 → N3.1 q y = N1.1 q y := fun q y hq => by rw [a3 q y hq, mput_at, if_neg (by omega)]
    obtain ⟨N', b1, b2, b3, b4, b5, b6, b7⟩ := ih n (i + 1) N3 (bt1 mkf t x G) (a ||| ((1 : Int32) <<< (nI x.1 &&& 31))) (by rw [n3 _ _ (by omega), n1 _ _ (by omega)]; exact h9) (by omega) (fun p hp => by
      have := hI (p + 1) (by rw [List.length_cons]; omega)
      rw [show i + (p + 1) = i + 1 + p by omega] at this
      rw [n3 _ _ (by omega), n3 _ _ (by omega), n1 _ _ (by omega), n1 _ _ (by omega)]
      exact this) a2 g1 (by rw [n3 _ _ (by omega), hN1, mput_at, if_pos ⟨rfl, rfl⟩]) (fun y hy => hR y (List.mem_cons_of_mem _ hy)) (by omega) (by omega)
    refine ⟨N', ?_, by rw [btl]; exact b2, by rw [bm]; exact b3, fun q y w1 w2 => by rw [b4 q y w1 w2, n3 _ _ w2, n1 _ _ (by omega)], fun y w => by rw [b5 y w, n3 _ _ (by omega), n1 _ _ (by omega)], fun y w1 w2 w3 w4 w5 => ?_, ?_⟩
    · rw [lX12_bakes_152, h9, if_neg (pI_nle (by omega) (by omega)), l_2, nI_ml', ald_n (by omega) (by omega), Option.bind_some, c1']
      unfold pf
      rw [Option.bind_some, h10, ← hN1, Q1.of (by omega) (by omega), Option.bind_some, l_1, show nI (2 * i) + nI 1 = nI (2 * i + 1) from nI_ad _ 1, ald_n (by omega) (by omega), Option.bind_some, n1 183 _ (by omega), c2', X12_lays' (by omega) (by omega), Option.bind_some, l_0, a1, Option.bind_some, nI_ad]
      exact b1
    · rw [b6 y w1 w2 w3 w4 w5, a4 y w2 w3 w4 w1, mput_at, if_neg (fun q => w5 x.1 x1 q.2), n1 _ _ (by omega)]
    · rw [b7, a5, hN1]; rfl
/-- a day under way, the reference's side -/
def LC (N : Mem) (Ls : List L4) : Prop := ∀ i, i < Ls.length → N.1 179 (101 + 5 * i) = nI (Ls.getD i L0).1 ∧ N.1 179 (101 + 5 * i + 1) = nI (Ls.getD i L0).2.1.length ∧ N.1 179 (101 + 5 * i + 2) = nI (sz (Ls.getD i L0).2.1) ∧ N.1 179 (101 + 5 * i + 3) = nI (Ls.getD i L0).2.2.1 ∧ N.1 179 (101 + 5 * i + 4) = nI (Ls.getD i L0).2.2.2
def DN (mkf : Nat → Nat) (N : Mem) (h : Nat) (T : List T3) (t : Nat) (Ls : List L4) (D a : Int32) (G : Gs) : Prop :=
  TBr N T ∧ (∀ x, x ∈ T → x.1 < h) ∧ (N.1 179 0 = nI h ∧ N.1 179 2 = nI t ∧ N.1 179 8 = nI Ls.length ∧ N.1 179 4 = D ∧ N.1 178 10 = a) ∧ Ls.length + T.length ≤ 20 ∧ LC N Ls ∧ Lq N G.1 ∧ GI mkf h G
def Fdy (N N' : Mem) : Prop := (∀ q x, q ≠ 178 → q ≠ 179 → q ≠ 183 → N'.1 q x = N.1 q x) ∧ (∀ x, x ≠ 9 → x ≠ 10 → N'.1 178 x = N.1 178 x) ∧ N'.2 = N.2
theorem Fdy.tr {a b c : Mem} (h : Fdy a b) (g : Fdy b c) : Fdy a c := ⟨fun q x h1 h2 h3 => (g.1 q x h1 h2 h3).trans (h.1 q x h1 h2 h3), fun x h1 h2 => (g.2.1 x h1 h2).trans (h.2.1 x h1 h2), g.2.2.trans h.2.2⟩
theorem Fdy.pt (N : Mem) (k : Nat) (x : Int32) : Fdy N (mput N 179 k x) := ⟨fun q y _ h _ => by rw [mput_at, if_neg (fun w => h w.1)], fun y _ _ => by rw [mput_at, if_neg (by omega)], rfl⟩
theorem bakes_r {mkf : Nat → Nat} {N : Mem} {h f t k : Nat} {T : List T3} {Ls : List L4} {D a : Int32} {G : Gs} (hh : h ≤ 8) (hf : f < h) (H : DN mkf N h T t Ls D a G) (h20 : 20 ≤ t) (ht : t ≤ 400) (hk : kP t (aT h f h 0 T) = some k) (hc : G.2.1 + 240 < 2 ^ 30) : ∃ N' T', fX12_bakes (nI k) (nI f) N = some N' ∧ aT h f h 0 T' = gR (pK k) 24 (aT h f h 0 T) ∧ T'.length < T.length ∧ DN mkf N' h T' (fallP t k (sz (gT (pK k) 24 (aT h f h 0 T)))) (Ls ++ [(k, gT (pK k) 24 (aT h f h 0 T), t, fallP t k (sz (gT (pK k) 24 (aT h f h 0 T))))]) D (bm (gT (pK k) 24 (aT h f h 0 T)) a) (btl mkf (fallP t k (sz (gT (pK k) 24 (aT h f h 0 T)))) (gT (pK k) 24 (aT h f h 0 T)) G) ∧ Fdy N N' := by
  obtain ⟨B, hT, ⟨d0, d2, d8, d4, d10⟩, dl, dc, Q, I⟩ := H
  obtain ⟨k1, k2, k3, k4⟩ := kP_spec hk
  have hT20 := B.1
  obtain ⟨f1, f2, f3, -⟩ := fa_ok (k := k) hf h 0 24 T (by omega)
  have fm := fa_mem (h := h) (f := f) (k := k) h 0 24 T
  obtain ⟨W, hW⟩ : ∃ W, W = aT h f h 0 T := ⟨_, rfl⟩
  have hWl := aT_len hf hT
  rw [← hW] at hWl f1 f2 f3 k2 ⊢
  obtain ⟨s1, s2, s3⟩ := g_sum (pK k) W 24
  obtain ⟨K, hK⟩ : ∃ K, K = gT (pK k) 24 W := ⟨_, rfl⟩
  rw [← hK] at f1 s1 s2 s3 ⊢
  obtain ⟨T', hT'⟩ : ∃ T', T' = (fa h f k h 0 24 T).2.1 := ⟨_, rfl⟩
  rw [← hT'] at f2
  have hT'm : ∀ x, x ∈ T' → x ∈ T := fun x hx => (fm x).1 (by rw [← hT']; exact hx)
  have hKm : ∀ x, x ∈ K → x.1 < h ∧ x.2.1 = k ∧ x.2.2 ≤ 12 := fun x hx => by
    have := (fm x).2 (by rw [f1]; exact hx)
    exact ⟨hT x this.1, this.2, (B.2.2.2 x this.1).2.2.2⟩
  have hT'l := aT_len hf (fun x hx => hT x (hT'm x hx))
  rw [f2] at hT'l
  have hfit : 0 < K.length := by
    rw [hK]
    refine g_fit W k2 (fun x hx => ?_)
    have hmem : ∀ (m t' : Nat) (y : T3), y ∈ aT h f m t' T → y ∈ T := by
      intro m
      induction m with
      | zero => intro t' y hy; cases hy
      | succ m ih =>
        intro t' y hy
        rw [aT] at hy
        rcases List.mem_append.mp hy with q | q
        · have : ∀ (z : Nat) (R : List T3), y ∈ fz z R → y ∈ R := by
            intro z R
            induction R with
            | nil => intro w; cases w
            | cons a R ihR =>
              intro w
              rw [fz] at w
              by_cases e : a.1 = z
              · rw [if_pos e] at w
                rcases List.mem_cons.mp w with w | w
                · subst w; exact List.mem_cons_self
                · exact List.mem_cons_of_mem _ (ihR w)
              · rw [if_neg e] at w; exact List.mem_cons_of_mem _ (ihR w)
          exact this _ _ q
        · exact ih _ _ q
    rw [hW] at hx
    have := (B.2.2.2 x (hmem _ _ x hx)).2.2.2
    omega
  obtain ⟨N1, a1, a2, a3, a4, -, a6⟩ := fi_out hh hf k1 h 0 FUEL 24 0 T (mput N 178 9 0) (B.cg (fun x _ => by rw [mput_at, if_neg (by omega)])) (by rw [mput_at, if_neg (by omega)]; exact d0) (by omega) (by rw [mput_at, if_pos ⟨rfl, rfl⟩]; rfl) (by omega) (by omega) (fuel8 (by omega))
  rw [← hT'] at a2
  rw [f1] at a3 a4
  rw [Nat.zero_add] at a3
  have a1' : lX12_fills_11 (nI k) (nI f) FUEL (nI 24) (nI 0) (mput N 178 9 0) = some (nI (gN (pK k) 24 W), N1) := by rw [a1, f3]
  have n1 : ∀ q x, q ≠ 183 → ¬ (q = 178 ∧ x = 9) → ¬ (q = 179 ∧ (x = 7 ∨ (41 ≤ x ∧ x < 101))) → N1.1 q x = N.1 q x := fun q x w1 w2 w3 => by rw [a6.1 q x w1 w2 w3, mput_at, if_neg w2]
  obtain ⟨l1, l2, l3⟩ := lo_le k
  have hsK : sz K ≤ 24 := by omega
  obtain ⟨t', ht'⟩ : ∃ t', t' = fallP t k (sz K) := ⟨_, rfl⟩
  have et' : max 20 (t - tks k * (5 + sz K / 8)) = t' := ht'.symm
  obtain ⟨r1, r2⟩ := fall_r (k := k) (s := sz K) ht h20
  rw [← ht'] at r1 r2 ⊢
  obtain ⟨N2, hN2⟩ : ∃ N2, N2 = mput N1 179 2 (nI t') := ⟨_, rfl⟩
  have e18 : lX12_bakes_18 (nI k) (nI (sz K)) FUEL (nI 0) N1 = some N2 := by
    rw [fl18_r k1 hsK (tks k) 0 FUEL t N1 (by rw [n1 _ _ (by omega) (by omega) (by omega)]; exact d2) h20 ht (by omega) (fuel8 (by omega)), et', hN2]
  have g20 : Ls.length < 20 := by omega
  obtain ⟨g, hg⟩ : ∃ g, g = Ls.length := ⟨_, rfl⟩
  obtain ⟨N3, hN3⟩ : ∃ N3, N3 = mput (mput (mput (mput (mput (mput N2 179 (101 + 5 * g) (nI k)) 179 (101 + 5 * g + 1) (nI K.length)) 179 (101 + 5 * g + 2) (nI (sz K))) 179 (101 + 5 * g + 3) (nI t)) 179 (101 + 5 * g + 4) (nI t')) 179 8 (nI (g + 1)) := ⟨_, rfl⟩
  have c3 : ∀ q x, ¬ (q = 179 ∧ (x = 2 ∨ x = 8 ∨ (101 + 5 * g ≤ x ∧ x < 106 + 5 * g))) → N3.1 q x = N1.1 q x := fun q x hq => by
    rw [hN3, mput_at, if_neg (by omega), mput_at, if_neg (by omega), mput_at, if_neg (by omega), mput_at, if_neg (by omega), mput_at, if_neg (by omega), mput_at, if_neg (by omega), hN2, mput_at, if_neg (by omega)]
  have Q3 : Lq N3 G.1 := fun j q1 q2 q3 q4 q5 q6 => by
    rw [c3 _ _ (by omega), n1 _ _ (by omega) (by omega) (by omega)]
    exact Q j q1 q2 q3 q4 q5 q6
  obtain ⟨N4, b1, b2, b3, b4, b5, b6, b7⟩ := bk152 (mkf := mkf) (t := t') hh (show K.length ≤ 20 by omega) K FUEL 0 N3 G a (by rw [c3 _ _ (by omega)]; exact a3) (by omega) (a4.cg (fun x => c3 _ _ (by omega))) Q3 I (by rw [c3 _ _ (by omega), n1 _ _ (by omega) (by omega) (by omega)]; exact d10) hKm (by omega) (fuel8 (by omega))
  have n4 : ∀ x, x < 201 → x ≠ 1 → x ≠ 5 → x ≠ 6 → (∀ i, i < h → x ≠ 9 + 4 * i + 2) → N4.1 179 x = N3.1 179 x := b6
  refine ⟨N4, T', ?_, f2, by omega, ⟨a2.cg (fun x hx => by rw [n4 x (by omega) (by omega) (by omega) (by omega) (fun i hi => by omega), c3 _ _ (by omega)]), fun x hx => hT x (hT'm x hx), ⟨?_, ?_, ?_, ?_, b3⟩, ?_, fun i hi => ?_, b2, (btl_ok hh t' K G I (fun x hx => (hKm x hx).1)).1⟩, ⟨fun q x w1 w2 w3 => ?_, fun x w1 w2 => ?_, ?_⟩⟩
  · have d2' : N.1 179 2 = nI t := d2
    have x8 : N2.1 179 8 = nI g := by rw [hN2, mput_at, if_neg (by omega), n1 _ _ (by omega) (by omega) (by omega), hg]; exact d8
    have x9 : ∀ m : Mem, m.1 178 9 = N1.1 178 9 → m.1 178 9 = nI K.length := fun m hm => hm.trans a3
    unfold fX12_bakes fX12_fills pf
    rw [l_2, ald_n (by omega) (by omega), Option.bind_some, d2', Option.bind_some, l_24, l_0, show mput N 178 9 (nI 0) = mput N 178 9 0 from rfl, a1', Option.bind_some]
    simp only [un2]
    rw [Option.bind_some, mI_sb (by omega) (by omega), show 24 - gN (pK k) 24 W = sz K by omega]
    simp only [un2]
    rw [e18, Option.bind_some, l_8, ald_n (by omega) (by omega), Option.bind_some, x8, l_101, l_5, nI_ml', nI_ad, ast_n (by omega) (by omega), Option.bind_some, l_1, show nI (101 + 5 * g) + nI 1 = nI (101 + 5 * g + 1) from nI_ad _ 1, ast_n (by omega) (by omega), Option.bind_some, x9 (mput N2 179 (101 + 5 * g) (nI k)) (by rw [mput_at, if_neg (by omega), hN2, mput_at, if_neg (by omega)]), show nI (101 + 5 * g) + nI 2 = nI (101 + 5 * g + 2) from nI_ad _ 2, ast_n (by omega) (by omega), Option.bind_some, l_3, show nI (101 + 5 * g) + nI 3 = nI (101 + 5 * g + 3) from nI_ad _ 3, ast_n (by omega) (by omega), Option.bind_some, ald_n (by omega) (by omega), Option.bind_some, show (mput (mput (mput (mput N2 179 (101 + 5 * g) (nI k)) 179 (101 + 5 * g + 1) (nI K.length)) 179 (101 + 5 * g + 2) (nI (sz K))) 179 (101 + 5 * g + 3) (nI t)).1 179 2 = nI t' from by rw [mput_at, if_neg (by omega), mput_at, if_neg (by omega), mput_at, if_neg (by omega), mput_at, if_neg (by omega), hN2, mput_at, if_pos ⟨rfl, rfl⟩], l_4, show nI (101 + 5 * g) + nI 4 = nI (101 + 5 * g + 4) from nI_ad _ 4, ast_n (by omega) (by omega), Option.bind_some, ald_n (by omega) (by omega), Option.bind_some, show (mput (mput (mput (mput (mput N2 179 (101 + 5 * g) (nI k)) 179 (101 + 5 * g + 1) (nI K.length)) 179 (101 + 5 * g + 2) (nI (sz K))) 179 (101 + 5 * g + 3) (nI t)) 179 (101 + 5 * g + 4) (nI t')).1 179 8 = nI g from by rw [mput_at, if_neg (by omega), mput_at, if_neg (by omega), mput_at, if_neg (by omega), mput_at, if_neg (by omega), mput_at, if_neg (by omega)]; exact x8, show nI g + nI 1 = nI (g + 1) from nI_ad g 1, ast_n (by omega) (by omega), Option.bind_some, ← hN3, ald_n (by omega) (by omega), Option.bind_some, show N3.1 179 2 = nI t' from by rw [hN3, mput_at, if_neg (by omega), mput_at, if_neg (by omega), mput_at, if_neg (by omega), mput_at, if_neg (by omega), mput_at, if_neg (by omega), mput_at, if_neg (by omega), hN2, mput_at, if_pos ⟨rfl, rfl⟩], (lo_m k1).1, Option.bind_some, l_30, mI_sb (by
      rcases (show k = 0 ∨ k = 1 ∨ k = 2 by omega) with e | e | e <;> subst e <;> decide) (by omega)]
    have ep : (if nI (lo k - 30) ≤ nI t' then (some false : Option Bool) else some true) = some (decide (t' < lo k - 30)) := by
      by_cases hq : t' < lo k - 30
      · rw [if_neg (pI_nle hq (by omega)), decide_eq_true hq]
      · rw [if_pos (pI_le (by omega) (by omega)), decide_eq_false hq]
    rw [ep, Option.bind_some, b1]
    rfl
  · rw [n4 0 (by omega) (by omega) (by omega) (by omega) (fun i hi => by omega), c3 _ _ (by omega), n1 _ _ (by omega) (by omega) (by omega)]; exact d0
  · rw [n4 2 (by omega) (by omega) (by omega) (by omega) (fun i hi => by omega), hN3, mput_at, if_neg (by omega), mput_at, if_neg (by omega), mput_at, if_neg (by omega), mput_at, if_neg (by omega), mput_at, if_neg (by omega), mput_at, if_neg (by omega), hN2, mput_at, if_pos ⟨rfl, rfl⟩]
  · rw [n4 8 (by omega) (by omega) (by omega) (by omega) (fun i hi => by omega), hN3, mput_at, if_pos ⟨rfl, rfl⟩, List.length_append, hg]; rfl
  · rw [n4 4 (by omega) (by omega) (by omega) (by omega) (fun i hi => by omega), c3 _ _ (by omega), n1 _ _ (by omega) (by omega) (by omega)]; exact d4
  · rw [List.length_append]; simp only [List.length_cons, List.length_nil]; omega
  · rw [List.length_append] at hi
    simp only [List.length_cons, List.length_nil] at hi
    have x4 : ∀ k, k < 5 → N4.1 179 (101 + 5 * i + k) = N3.1 179 (101 + 5 * i + k) := fun k hk => n4 _ (by omega) (by omega) (by omega) (by omega) (fun i' hi' => by omega)
    have x40 := x4 0 (by omega)
    rw [Nat.add_zero] at x40
    rw [x40, x4 1 (by omega), x4 2 (by omega), x4 3 (by omega), x4 4 (by omega)]
    by_cases e : i = Ls.length
    · subst e
      rw [getD_app2]
      refine ⟨?_, ?_, ?_, ?_, ?_⟩ <;> rw [hN3, hg] <;> simp [mput_at] <;> intro q <;> omega
    · rw [getD_app1 (by omega)]
      have y4 : ∀ k, k < 5 → N3.1 179 (101 + 5 * i + k) = N.1 179 (101 + 5 * i + k) := fun k hk => by rw [c3 _ _ (by omega), n1 _ _ (by omega) (by omega) (by omega)]
      have y40 := y4 0 (by omega)
      rw [Nat.add_zero] at y40
      rw [y40, y4 1 (by omega), y4 2 (by omega), y4 3 (by omega), y4 4 (by omega)]
      exact dc i (by omega)
  · rw [b4 q x w1 w2, c3 _ _ (by omega), n1 _ _ w3 (by omega) (by omega)]
  · rw [b5 x w2, c3 _ _ (by omega), n1 _ _ (by omega) (by omega) (by omega)]
  · rw [b7, hN3, hN2]; exact a6.2
