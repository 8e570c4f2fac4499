/-! all loads baked; loaves sorted: both sides -/
def ldi (mkf : Nat → Nat) (Ls : List L4) : Nat → Nat → Gs → Gs
  | _, 0, G => G
  | L, m + 1, G => ldi mkf Ls (L + 1) m (btl mkf (Ls.getD L L0).2.2.2 (Ls.getD L L0).2.1 G)
def bmi (Ls : List L4) : Nat → Nat → Int32 → Int32
  | _, 0, a => a
  | L, m + 1, a => bmi Ls (L + 1) m (bm (Ls.getD L L0).2.1 a)
theorem ldi_cons (mkf : Nat → Nat) (l : L4) (Ls : List L4) : ∀ (m L : Nat) (G : Gs), ldi mkf (l :: Ls) (L + 1) m G = ldi mkf Ls L m G := by
  intro m
  induction m with
  | zero => intro L G; rfl
  | succ m ih => intro L G; rw [ldi, ldi, ih (L + 1)]; rfl
theorem ldi_ldl (mkf : Nat → Nat) : ∀ (Ls : List L4) (G : Gs), ldi mkf Ls 0 Ls.length G = ldl mkf Ls G := by
  intro Ls
  induction Ls with
  | nil => intro G; rfl
  | cons l Ls ih => intro G; rw [List.length_cons, ldi, ldi_cons, ih]; rfl
theorem bmi_cons (l : L4) (Ls : List L4) : ∀ (m L : Nat) (a : Int32), bmi (l :: Ls) (L + 1) m a = bmi Ls L m a := by
  intro m
  induction m with
  | zero => intro L a; rfl
  | succ m ih => intro L a; rw [bmi, bmi, ih (L + 1)]; rfl
theorem bmi_bml : ∀ (Ls : List L4) (a : Int32), bmi Ls 0 Ls.length a = bml Ls a := by
  intro Ls
  induction Ls with
  | nil => intro a; rfl
  | cons l Ls ih => intro a; rw [List.length_cons, bmi, bmi_cons, ih]; rfl
theorem sl_sz {q : Nat → Bool} {tr : Nat → T3} : ∀ (m j : Nat), (∀ i, j ≤ i → i < j + m → (tr i).2.2 ≤ 12) → sz (sl q tr j m) ≤ 12 * m := by
  intro m
  induction m with
  | zero => intro j _; exact Nat.zero_le _
  | succ m ih =>
    intro j h
    have h1 := h j (by omega) (by omega)
    have h2 := ih (j + 1) (fun i h3 h4 => h i (by omega) (by omega))
    rw [sl]
    split
    · rw [sz]; omega
    · omega
theorem sl_mem {q : Nat → Bool} {tr : Nat → T3} : ∀ (m j : Nat) (x : T3), x ∈ sl q tr j m → ∃ i, j ≤ i ∧ i < j + m ∧ x = tr i := by
  intro m
  induction m with
  | zero => intro j x h; cases h
  | succ m ih =>
    intro j x h
    rw [sl] at h
    by_cases hq : q j = true
    · rw [if_pos hq] at h
      rcases List.mem_cons.mp h with h | h
      · exact ⟨j, Nat.le_refl _, by omega, h⟩
      · obtain ⟨i, h1, h2, h3⟩ := ih _ _ h
        exact ⟨i, by omega, by omega, h3⟩
    · rw [if_neg hq] at h
      obtain ⟨i, h1, h2, h3⟩ := ih _ _ h
      exact ⟨i, by omega, by omega, h3⟩
theorem loads_c {mkf : Nat → Nat} {O : List Nat} {tr : Nat → T3} {h : Nat} {Ls : List L4} (hLs : Ls.length ≤ 20) (htr : ∀ p, p < O.length → (tr p).1 < h) (hht : ∀ L, L < Ls.length → (Ls.getD L L0).2.2.2 ≤ 400) : ∀ (m L n : Nat) (a : Int32) (M : Mem) (G : Gs), PB M O tr → DV M G.1 h G.2.1 → GI mkf h G → M.1 15 1 = nI Ls.length → (∀ i, i < Ls.length → M.1 22 i = nI (Ls.getD i L0).2.2.2) → (∀ i, i < Ls.length → sl (fun p => decide (M.1 35 p = nI i)) tr 0 O.length = (Ls.getD i L0).2.1) → L + m = Ls.length → m < n → G.2.1 + 300 * m < 2 ^ 29 → ∃ M', lX9_bakeLoads_4 1 n a (nI L) M = some (bmi Ls L m a, M') ∧ PB M' O tr ∧ DV M' (ldi mkf Ls L m G).1 h (ldi mkf Ls L m G).2.1 ∧ GI mkf h (ldi mkf Ls L m G) ∧ (ldi mkf Ls L m G).2.1 ≤ G.2.1 + 240 * m ∧ (∀ j, j ≠ 1 → j ≠ 5 → j ≠ 6 → j < 201 → (∀ i, i < h → j ≠ 9 + 4 * i + 2) → (ldi mkf Ls L m G).1 j = G.1 j) ∧ (∀ q x, ¬ (q = 1 ∧ x = 5) → q ≠ 7 → (q < 23 ∨ 33 ≤ q) → M'.1 q x = M.1 q x) ∧ M'.2 = M.2 := by
  intro m
  induction m with
  | zero =>
    intro L n a M G P D I h15 h22 h35 h1 h2 h3
    obtain ⟨n, rfl⟩ : ∃ n', n = n' + 1 := ⟨n - 1, by omega⟩
    refine ⟨M, ?_, P, D, I, Nat.le_refl _, fun _ _ _ _ _ _ => rfl, fun _ _ _ _ _ => rfl, rfl⟩
    rw [lX9_bakeLoads_4]
    unfold fX5_size
    show (some (M.1 15 1)).bind _ = _
    rw [Option.bind_some, h15, if_pos (pI_le (by omega) (by omega))]
    rfl
  | succ m ih =>
    intro L n a M G P D I h15 h22 h35 h1 h2 h3
    obtain ⟨n, rfl⟩ : ∃ n', n = n' + 1 := ⟨n - 1, by omega⟩
    have hO := P.2.1
    obtain ⟨M1, a1, a2, a3, a4, a5, a6⟩ := loads_in (mkf := mkf) (L := L) (by omega) (hht L (by omega)) htr O.length 0 FUEL a M G P D I (h22 L (by omega)) (by omega) (fuel8 (by omega)) (by omega)
    have hmem : ∀ x, x ∈ (Ls.getD L L0).2.1 → x.1 < h := fun x hx => by
      rw [← h35 L (by omega)] at hx
      obtain ⟨i, i1, i2, i3⟩ := sl_mem _ _ _ hx
      rw [i3]; exact htr i (by omega)
    have hsz : sz (Ls.getD L L0).2.1 ≤ 240 := by
      rw [← h35 L (by omega)]
      have := sl_sz (q := fun p => decide (M.1 35 p = nI L)) (tr := tr) O.length 0 (fun i _ hi => by
        obtain ⟨-, ⟨t1, t2, t3, t4⟩, -⟩ := P.2.2 i (by omega)
        exact t4)
      omega
    rw [h35 L (by omega)] at a1 a3 a4
    obtain ⟨-, c2, c3⟩ := btl_ok D.1.1 (Ls.getD L L0).2.2.2 (Ls.getD L L0).2.1 G I hmem
    obtain ⟨M2, b1, b2, b3, b4, b5, b6, b7, b8⟩ := ih (L + 1) n _ M1 _ a2 a3 a4 (by rw [a5 15 1 (by omega) (by omega) (by omega)]; exact h15) (fun i hi => by rw [a5 22 i (by omega) (by omega) (by omega)]; exact h22 i hi) (fun i hi => by
      rw [← h35 i hi]
      exact sl_cg tr O.length 0 fun p _ _ => by rw [a5 35 p (by omega) (by omega) (by omega)]) (by omega) (by omega) (by omega)
    refine ⟨M2, ?_, b2, by rw [ldi]; exact b3, by rw [ldi]; exact b4, by rw [ldi]; omega, fun j q1 q2 q3 q4 q5 => by rw [ldi, b6 j q1 q2 q3 q4 q5, c3 j q1 q2 q3 q4 q5], fun q x h4 h5 h6 => (b7 q x h4 h5 h6).trans (a5 q x h4 h5 h6), b8.trans a6⟩
    rw [lX9_bakeLoads_4]
    unfold fX5_size
    show (some (M.1 15 1)).bind _ = _
    rw [Option.bind_some, h15, if_neg (pI_nle (by omega) (by omega)), l_0, a1, Option.bind_some]
    simp only [un2]
    rw [l_1, nI_ad, bmi]
    exact b1
/-! to whom a loaf goes -/
theorem any_nI (y : Int32) : ∃ n, y = nI n := ⟨y.toBitVec.toNat, by
  apply Int32.toBitVec_inj.mp
  show y.toBitVec = BitVec.ofNat 32 y.toBitVec.toNat
  apply BitVec.eq_of_toNat_eq
  rw [BitVec.toNat_ofNat, Nat.mod_eq_of_lt y.toBitVec.isLt]⟩
theorem pc_16 {x : Nat} (hx : x < 65536) : pc x ≤ 16 := by
  have h1 := pc_min (x + 1) x (by omega) (by omega)
  refine Nat.le_of_not_lt fun q => ?_
  have h2 := Nat.pow_le_pow_right (n := 2) (by omega) (show 17 ≤ pc x by omega)
  omega
def TR (a1 a2 b1 b2 : Int32) (b3 : Bool) : Prop := (a1 = nI 8 ∧ a2 = nI 17 ∧ b2 = nI 99 ∧ b3 = false) ∨ ∃ v, v ≤ 16 ∧ a2 = nI v ∧ b2 = nI v ∧ ((b3 = true ∧ ∃ p, p < 8 ∧ a1 = nI p ∧ b1 = nI p) ∨ (b3 = false ∧ a1 = nI 8))
theorem taker_l {mkf : Nat → Nat} {M : Mem} {γ : Nat → Int32} {h : Nat} (H : HH M γ h) (hmk : ∀ i, i < h → γ (9 + 4 * i) = nI (mkf i) ∧ mkf i < 65536) (x y : Int32) : ∀ (m j n n2 : Nat) (a1 a2 b1 b2 : Int32) (b3 : Bool), TR a1 a2 b1 b2 b3 → j + m = h → m < n → m < n2 → ∃ r, r ≤ 8 ∧ lX4_takerOf_10 2 x y M n a1 a2 (nI j) = some (nI r) ∧ ∀ N, Lq N γ → ∃ bb al, lX12_meant_12 x y N n2 b1 b2 b3 (nI j) = some (bb, al) ∧ (if al = true then (some bb : Option Int32) else some 8) = some (nI r) := by
  intro m
  have hh := H.1
  induction m with
  | zero =>
    intro j n n2 a1 a2 b1 b2 b3 T h1 h2 h3
    obtain ⟨n, rfl⟩ : ∃ n', n = n' + 1 := ⟨n - 1, by omega⟩
    obtain ⟨n2, rfl⟩ : ∃ n', n2 = n' + 1 := ⟨n2 - 1, by omega⟩
    obtain ⟨r, hr, ea, eb⟩ : ∃ r, r ≤ 8 ∧ a1 = nI r ∧ (if b3 = true then (some b1 : Option Int32) else some 8) = some (nI r) := by
      rcases T with ⟨t1, t2, t3, t4⟩ | ⟨v, t1, t2, t3, ⟨t4, p, t5, t6, t7⟩ | ⟨t4, t5⟩⟩
      · exact ⟨8, by omega, t1, by rw [t4]; rfl⟩
      · exact ⟨p, by omega, t6, by rw [t4, if_pos rfl, t7]⟩
      · exact ⟨8, by omega, t5, by rw [t4]; rfl⟩
    refine ⟨r, hr, by rw [lX4_takerOf_10, H.2.1, if_pos (pI_le (by omega) (by omega)), ea], fun N R => ⟨b1, b3, ?_, eb⟩⟩
    rw [lX12_meant_12, l_0, R.at (by omega) (by omega) (by omega) (by omega) (by omega) (by omega), Option.bind_some, H.2.2.1, if_pos (pI_le (by omega) (by omega))]
  | succ m ih =>
    intro j n n2 a1 a2 b1 b2 b3 T h1 h2 h3
    obtain ⟨n, rfl⟩ : ∃ n', n = n' + 1 := ⟨n - 1, by omega⟩
    obtain ⟨n2, rfl⟩ : ∃ n', n2 = n' + 1 := ⟨n2 - 1, by omega⟩
    obtain ⟨m1, m2⟩ := hmk j (by omega)
    obtain ⟨yn, hyn⟩ := any_nI (x ^^^ (-1 : Int32))
    obtain ⟨d, hd⟩ : ∃ d, d = pc (mkf j &&& yn) := ⟨_, rfl⟩
    have hle : mkf j &&& yn ≤ mkf j := Nat.and_le_left
    have hd16 : d ≤ 16 := by rw [hd]; exact pc_16 (by omega)
    have ef : nI (mkf j) &&& (x ^^^ (-1 : Int32)) = nI (mkf j &&& yn) := by rw [hyn, nA]
    have ec : lX4_takerOf_10 2 x y M (n + 1) a1 a2 (nI j) = if ((y >>> (nI j &&& 31)) &&& (1 : Int32)) = (1 : Int32) then (if x &&& (nI (mkf j) ^^^ (-1 : Int32)) = 0 then (if a2 ≤ nI d then (if nI d = a2 then lX4_takerOf_10 2 x y M n 8 a2 (nI (j + 1)) else lX4_takerOf_10 2 x y M n a1 a2 (nI (j + 1))) else lX4_takerOf_10 2 x y M n (nI j) (nI d) (nI (j + 1))) else lX4_takerOf_10 2 x y M n a1 a2 (nI (j + 1))) else lX4_takerOf_10 2 x y M n a1 a2 (nI (j + 1)) := by
      rw [lX4_takerOf_10, H.2.1, if_neg (pI_nle (by omega) (by omega)), show fX7_get (2 + 1) 4 8 (nI j) 0 M = some (γ (9 + 4 * j + 0)) from H.gt (k := 0) (by omega) (by omega), Option.bind_some, Nat.add_zero, m1, ef, count_n (by omega), Option.bind_some, ← hd, show nI j + (1 : Int32) = nI (j + 1) from nI_ad j 1]
      unfold fX11_contains
      by_cases e : x &&& (nI (mkf j) ^^^ (-1 : Int32)) = 0
      · rw [if_pos e, if_pos e, Option.bind_some, if_pos (show true = true from rfl)]
      · rw [if_neg e, if_neg e, Option.bind_some, if_neg (show ¬ false = true by decide)]
    have er : ∀ N, Lq N γ → lX12_meant_12 x y N (n2 + 1) b1 b2 b3 (nI j) = if ((y >>> (nI j &&& 31)) &&& (1 : Int32)) = (1 : Int32) then (if x &&& (nI (mkf j) ^^^ (-1 : Int32)) = 0 then (if b2 ≤ nI d then lX12_meant_12 x y N n2 b1 b2 (if nI d < b2 then true else if b3 = true then (if nI d ≤ b2 then false else true) else false) (nI (j + 1)) else lX12_meant_12 x y N n2 (nI j) (nI d) true (nI (j + 1))) else lX12_meant_12 x y N n2 b1 b2 b3 (nI (j + 1))) else lX12_meant_12 x y N n2 b1 b2 b3 (nI (j + 1)) := fun N R => by
      rw [lX12_meant_12, show ald (N.1 179) 1601 0 = some (γ 0) from R.at (k := 0) (by omega) (by omega) (by omega) (by omega) (by omega) (by omega), Option.bind_some, H.2.2.1, if_neg (pI_nle (by omega) (by omega)), show fX12_of (nI j) 0 N = some (γ (9 + 4 * j + 0)) from R.of (k := 0) (by omega) (by omega), Option.bind_some, Nat.add_zero, m1, ef, bits_n (by omega), Option.bind_some, ← hd, show nI j + (1 : Int32) = nI (j + 1) from nI_ad j 1]
      have ez : (if nI d < b2 then (some true : Option Bool) else (if b3 = true then (if nI d ≤ b2 then (some false : Option Bool) else some true) else some false)) = some (if nI d < b2 then true else if b3 = true then (if nI d ≤ b2 then false else true) else false) := by
        split
        · rfl
        · split
          · split <;> rfl
          · rfl
      rw [ez, Option.bind_some]
      by_cases e : b2 ≤ nI d
      · rw [if_pos e, Option.bind_some, if_pos e, if_pos e]
      · rw [if_neg e, Option.bind_some, if_neg e, if_neg e, if_pos (Int32.not_le.mp e)]
    by_cases c1 : ((y >>> (nI j &&& 31)) &&& (1 : Int32)) = (1 : Int32)
    · by_cases c2 : x &&& (nI (mkf j) ^^^ (-1 : Int32)) = 0
      · rcases T with ⟨t1, t2, t3, t4⟩ | ⟨v, t1, t2, t3, t45⟩
        · obtain ⟨r, hr, q1, q2⟩ := ih (j + 1) n n2 (nI j) (nI d) (nI j) (nI d) true (Or.inr ⟨d, hd16, rfl, rfl, Or.inl ⟨rfl, j, by omega, rfl, rfl⟩⟩) (by omega) (by omega) (by omega)
          refine ⟨r, hr, by rw [ec, if_pos c1, if_pos c2, t2, if_neg (pI_nle (by omega) (by omega)), q1], fun N R => ?_⟩
          obtain ⟨bb, al, q3, q4⟩ := q2 N R
          exact ⟨bb, al, by rw [er N R, if_pos c1, if_pos c2, t3, if_neg (pI_nle (by omega) (by omega)), q3], q4⟩
        · by_cases c3 : v ≤ d
          · by_cases c4 : d = v
            · obtain ⟨r, hr, q1, q2⟩ := ih (j + 1) n n2 8 a2 b1 b2 false (Or.inr ⟨v, t1, t2, t3, Or.inr ⟨rfl, rfl⟩⟩) (by omega) (by omega) (by omega)
              refine ⟨r, hr, by rw [ec, if_pos c1, if_pos c2, t2, if_pos (pI_le c3 (by omega)), c4, if_pos rfl, ← t2, q1], fun N R => ?_⟩
              obtain ⟨bb, al, q3, q4⟩ := q2 N R
              refine ⟨bb, al, ?_, q4⟩
              have e3 : (if nI d < b2 then true else if b3 = true then (if nI d ≤ b2 then false else true) else false) = false := by
                rw [t3, if_neg (pI_nlt (by omega) (by omega)), if_pos (pI_le (by omega) (by omega))]
                split <;> rfl
              rw [er N R, if_pos c1, if_pos c2, e3, if_pos (by rw [t3]; exact pI_le c3 (by omega)), q3]
            · obtain ⟨r, hr, q1, q2⟩ := ih (j + 1) n n2 a1 a2 b1 b2 b3 (Or.inr ⟨v, t1, t2, t3, t45⟩) (by omega) (by omega) (by omega)
              refine ⟨r, hr, by rw [ec, if_pos c1, if_pos c2, if_pos (by rw [t2]; exact pI_le c3 (by omega)), if_neg (by rw [t2]; exact pI_ne c4 (by omega) (by omega)), q1], fun N R => ?_⟩
              obtain ⟨bb, al, q3, q4⟩ := q2 N R
              refine ⟨bb, al, ?_, q4⟩
              have e3 : (if nI d < b2 then true else if b3 = true then (if nI d ≤ b2 then false else true) else false) = b3 := by
                rw [t3, if_neg (pI_nlt (by omega) (by omega)), if_neg (pI_nle (by omega) (by omega))]
                cases b3 <;> rfl
              rw [er N R, if_pos c1, if_pos c2, e3, if_pos (by rw [t3]; exact pI_le c3 (by omega)), q3]
          · obtain ⟨r, hr, q1, q2⟩ := ih (j + 1) n n2 (nI j) (nI d) (nI j) (nI d) true (Or.inr ⟨d, hd16, rfl, rfl, Or.inl ⟨rfl, j, by omega, rfl, rfl⟩⟩) (by omega) (by omega) (by omega)
            refine ⟨r, hr, by rw [ec, if_pos c1, if_pos c2, t2, if_neg (pI_nle (by omega) (by omega)), q1], fun N R => ?_⟩
            obtain ⟨bb, al, q3, q4⟩ := q2 N R
            exact ⟨bb, al, by rw [er N R, if_pos c1, if_pos c2, t3, if_neg (pI_nle (by omega) (by omega)), q3], q4⟩
      · obtain ⟨r, hr, q1, q2⟩ := ih (j + 1) n n2 a1 a2 b1 b2 b3 T (by omega) (by omega) (by omega)
        refine ⟨r, hr, by rw [ec, if_pos c1, if_neg c2, q1], fun N R => ?_⟩
        obtain ⟨bb, al, q3, q4⟩ := q2 N R
        exact ⟨bb, al, by rw [er N R, if_pos c1, if_neg c2, q3], q4⟩
    · obtain ⟨r, hr, q1, q2⟩ := ih (j + 1) n n2 a1 a2 b1 b2 b3 T (by omega) (by omega) (by omega)
      refine ⟨r, hr, by rw [ec, if_neg c1, q1], fun N R => ?_⟩
      obtain ⟨bb, al, q3, q4⟩ := q2 N R
      exact ⟨bb, al, by rw [er N R, if_neg c1, q3], q4⟩
theorem taker_ok {mkf : Nat → Nat} {M : Mem} {γ : Nat → Int32} {h : Nat} (H : HH M γ h) (hmk : ∀ i, i < h → γ (9 + 4 * i) = nI (mkf i) ∧ mkf i < 65536) (x y : Int32) : ∃ r, r ≤ 8 ∧ fX4_takerOf 2 x y M = some (nI r) ∧ ∀ N, Lq N γ → fX12_meant x y N = some (nI r) := by
  obtain ⟨r, hr, q1, q2⟩ := taker_l H hmk x y h 0 FUEL FUEL 8 17 (-1) 99 false (Or.inl ⟨rfl, rfl, rfl, rfl⟩) (by omega) (fuel8 (by have := H.1; omega)) (fuel8 (by have := H.1; omega))
  refine ⟨r, hr, ?_, fun N R => ?_⟩
  · unfold fX4_takerOf
    rw [l_0, q1]; rfl
  · obtain ⟨bb, al, q3, q4⟩ := q2 N R
    unfold fX12_meant
    rw [l_0, q3, Option.bind_some]
    exact q4
theorem Lq.loaf {N : Mem} {γ : Nat → Int32} (R : Lq N γ) {i k : Nat} (hi : i < 2 ^ 31) (hk : k < 7) : fX12_loafOf (nI i) (nI k) N = some (γ (201 + 7 * (i % 200) + k)) := by
  have h1 : i % 200 < 200 := Nat.mod_lt _ (by omega)
  unfold fX12_loafOf
  rw [loafAt_n hi, Option.bind_some, nI_ad, R.at (by omega) (by omega) (by omega) (by omega) (by omega) (by omega)]
  rfl
theorem sort_l {mkf : Nat → Nat} {h c : Nat} (y : Int32) : ∀ (m j n : Nat) (M : Mem) (γ : Nat → Int32), HH M γ h → LL M γ c → (∀ i, i < h → γ (9 + 4 * i) = nI (mkf i) ∧ mkf i < 65536) → j + m = c → m < n → ∃ M' γ', lX6_sortFrom_10 23 2 y n (nI j) M = some M' ∧ HH M' γ' h ∧ LL M' γ' c ∧ Hc γ γ' c ∧ (∀ q x, q ≠ 31 → M'.1 q x = M.1 q x) ∧ M'.2 = M.2 ∧ ∀ N, Lq N γ → ∃ N', lX12_sorts_17 y n (nI j) N = some N' ∧ Lq N' γ' ∧ (∀ q x, ¬ (q = 179 ∧ 201 ≤ x) → N'.1 q x = N.1 q x) ∧ N'.2 = N.2 := by
  intro m
  induction m with
  | zero =>
    intro j n M γ H L hmk h1 h2
    obtain ⟨n, rfl⟩ : ∃ n', n = n' + 1 := ⟨n - 1, by omega⟩
    have hc := L.1
    refine ⟨M, γ, ?_, H, L, Hc.rf γ c, fun _ _ _ => rfl, rfl, fun N R => ⟨N, ?_, R, fun _ _ _ => rfl, rfl⟩⟩
    · rw [lX6_sortFrom_10, L.2.1, if_pos (pI_le (by omega) (by omega))]
    · rw [lX12_sorts_17, l_5, R.at (by omega) (by omega) (by omega) (by omega) (by omega) (by omega), Option.bind_some, L.2.2.1, if_pos (pI_le (by omega) (by omega))]
  | succ m ih =>
    intro j n M γ H L hmk h1 h2
    obtain ⟨n, rfl⟩ : ∃ n', n = n' + 1 := ⟨n - 1, by omega⟩
    have hc := L.1
    have hj : j % 200 < 200 := Nat.mod_lt _ (by omega)
    obtain ⟨r, hr, q1, q2⟩ := taker_ok H hmk (γ (201 + 7 * (j % 200) + 4)) y
    obtain ⟨M', γ', a1, a2, a3, a4, a5, a6, a7⟩ := ih (j + 1) n (mput M (26 + 5) (j % 200) (nI r)) (ru γ (201 + 7 * (j % 200) + 5) (nI r)) (H.cg (fun q x _ _ => by rw [mput_at, if_neg (by omega)]) (fun k _ _ => ru_ne _ (by omega))) (L.pt (by omega) _) (fun i hi => by rw [ru_ne _ (by have := H.1; omega)]; exact hmk i hi) (by omega) (by omega)
    refine ⟨M', γ', ?_, a2, a3, (Hc.pt γ (Or.inr ⟨r, hr, rfl⟩)).tr a4, fun q x hq => by rw [a5 q x hq, mput_at, if_neg (by omega)], a6, fun N R => ?_⟩
    · rw [lX6_sortFrom_10, L.2.1, if_neg (pI_nle (by omega) (by omega)), show fX6_value 23 (nI j) 4 M = some _ from L.val (k := 4) (by omega) (by omega), Option.bind_some, q1, Option.bind_some, give_c (by omega), Option.bind_some, l_1, nI_ad]
      exact a1
    · obtain ⟨N', b1, b2, b3, b4⟩ := a7 _ (R.pt (201 + 7 * (j % 200) + 5) (nI r))
      refine ⟨N', ?_, b2, fun q x hq => by rw [b3 q x hq, mput_at, if_neg (by omega)], b4⟩
      rw [lX12_sorts_17, l_5, R.at (by omega) (by omega) (by omega) (by omega) (by omega) (by omega), Option.bind_some, L.2.2.1, if_neg (pI_nle (by omega) (by omega)), loafAt_n (by omega), Option.bind_some, l_4, R.loaf (by omega) (by omega), Option.bind_some, q2 N R, Option.bind_some, nI_ad, ast_n (by omega) (by omega), Option.bind_some, l_1, nI_ad]
      exact b1
