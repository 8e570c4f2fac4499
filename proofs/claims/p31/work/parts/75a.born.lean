/-! new loaves keep what is known of loaves -/
theorem pc_and1 {p g : Nat} (hg : g < 16) : pc p ≤ pc (clr p g) + 1 := by
  have h1 := pcf_split 0 32 p (2 ^ g)
  have h2 := pcf_split 0 32 (2 ^ g) p
  have e3 : ∀ g, g < 16 → pcf 32 (2 ^ g) = 1 := by decide +kernel
  rw [e3 g hg, Nat.and_comm (2 ^ g) p] at h2
  have e1 : pcf 32 (p &&& (2 ^ g ^^^ (2 ^ 32 - 1))) = pc (clr p g) := rfl
  rw [e1] at h1
  have e2 : pcf 32 p = pc p := rfl
  omega
theorem bl_pc : ∀ (n p s : Nat), pc p ≤ pc (bl n p s).1 + n := by
  intro n
  induction n with
  | zero => intro p s; rw [bl]; exact Nat.le_add_right _ _
  | succ n ih =>
    intro p s
    rw [bl]
    have h1 := ih (clr p (drS s / 65536 % 16)) (drS s)
    have h2 := pc_and1 (p := p) (g := drS s / 65536 % 16) (Nat.mod_lt _ (by omega))
    omega
theorem bp_pc {mk s : Nat} (hm : mk < 65536) : (bp mk s).1 < 65536 ∧ pc mk - pc (bp mk s).1 ≤ 3 ∧ pc (bp mk s).1 + (pc mk - pc (bp mk s).1) ≤ 16 := by
  obtain ⟨b1, b2, b3⟩ := bp_ok (s := s) hm
  obtain ⟨-, l2⟩ := pc_lack b1
  have h1 := bl_pc (drS s / 65536 % 4) mk (drS s)
  have h2 : drS s / 65536 % 4 < 4 := Nat.mod_lt _ (by omega)
  have h3 := pc_16 hm
  have e : (bp mk s).1 = (bl (drS s / 65536 % 4) mk (drS s)).1 := rfl
  refine ⟨b2, ?_, by omega⟩
  rw [e]; omega
theorem cm_row {γ : Nat → Int32} {c s mk o k : Nat} {pl : Bool} {j : Nat} (h : 201 ≤ j) (hr : (j - 201) / 7 ≠ c % 200) : cm γ c s mk o k pl j = γ j := by
  unfold cm
  rw [ru_ne _ (by omega), ru_ne _ (by omega), ru_ne _ (by omega), ru_ne _ (by omega), ru_ne _ (by omega), ru_ne _ (by omega), ru_ne _ (by omega), ru_ne _ (by omega), ru_ne _ (by omega), ru_ne _ (by omega)]
theorem cm_born (γ : Nat → Int32) (c s mk o k : Nat) (pl : Bool) : cm γ c s mk o k pl (201 + 7 * (c % 200) + 0) = nI o ∧ cm γ c s mk o k pl (201 + 7 * (c % 200) + 1) = nI k ∧ cm γ c s mk o k pl (201 + 7 * (c % 200) + 2) = γ 3 ∧ cm γ c s mk o k pl (201 + 7 * (c % 200) + 3) = pv pl ∧ cm γ c s mk o k pl (201 + 7 * (c % 200) + 4) = nI (bp mk s).1 ∧ cm γ c s mk o k pl (201 + 7 * (c % 200) + 5) = NG ∧ cm γ c s mk o k pl (201 + 7 * (c % 200) + 6) = nI (pc mk - pc (bp mk s).1) := by
  obtain ⟨i, hi⟩ : ∃ i, i = 201 + 7 * (c % 200) := ⟨_, rfl⟩
  unfold cm
  rw [← hi]
  refine ⟨?_, ?_, ?_, ?_, ?_, ?_, ?_⟩
  · rw [ru_ne _ (by omega), ru_ne _ (by omega), ru_ne _ (by omega), ru_ne _ (by omega), ru_ne _ (by omega), ru_ne _ (by omega), ru_ne _ (by omega), ru_ne _ (by omega), ru_at]
  · rw [ru_ne _ (by omega), ru_ne _ (by omega), ru_ne _ (by omega), ru_ne _ (by omega), ru_ne _ (by omega), ru_ne _ (by omega), ru_ne _ (by omega), ru_at]
  · rw [ru_ne _ (by omega), ru_ne _ (by omega), ru_ne _ (by omega), ru_ne _ (by omega), ru_ne _ (by omega), ru_ne _ (by omega), ru_at]
  · rw [ru_ne _ (by omega), ru_ne _ (by omega), ru_ne _ (by omega), ru_ne _ (by omega), ru_ne _ (by omega), ru_at]
  · rw [ru_ne _ (by omega), ru_ne _ (by omega), ru_ne _ (by omega), ru_ne _ (by omega), ru_at]
  · rw [ru_ne _ (by omega), ru_ne _ (by omega), ru_ne _ (by omega), ru_at]
  · rw [ru_ne _ (by omega), ru_ne _ (by omega), ru_at]
theorem cm_6 (γ : Nat → Int32) (c s mk o k : Nat) (pl : Bool) : cm γ c s mk o k pl 6 = γ 6 + pv pl := by
  unfold cm
  rw [ru_at]
theorem Gk.come {γ : Nat → Int32} {h c d s mk o k : Nat} (pl : Bool) (G : Gk γ h c (d + 1)) (h3 : γ 3 = nI d) (hd : d + 1 < 2 ^ 31) (ho : o < h) (hk : k < 3) (hm : mk < 65536) (hc : c + 1 < 2 ^ 31) : Gk (cm γ c s mk o k pl) h (c + 1) (d + 1) := by
  obtain ⟨g1, g2, q, q1, q2, q3⟩ := G
  obtain ⟨e0, e1, e2, e3, e4, e5, e6⟩ := cm_born γ c s mk o k pl
  obtain ⟨b1, b2, b3⟩ := bp_pc (s := s) hm
  have hr0 : c % 200 < 200 := Nat.mod_lt _ (by omega)
  have old : ∀ r j, j < 7 → r ≠ c % 200 → cm γ c s mk o k pl (201 + 7 * r + j) = γ (201 + 7 * r + j) := fun r j hj hr => cm_row (by omega) (by omega)
  have hpv : ∃ v, v ≤ 1 ∧ pv pl = nI v ∧ nn (pv pl) = v := by
    cases pl
    · exact ⟨0, by omega, rfl, rfl⟩
    · exact ⟨1, by omega, rfl, rfl⟩
  obtain ⟨v, v1, v2, v3⟩ := hpv
  refine ⟨fun r hr => ?_, fun i i1 i2 => ?_, q + v, ?_, ?_, ?_⟩
  · by_cases e : r = c % 200
    · subst e
      unfold Gl
      rw [e0, e1, e2, e3, e4, e5, e6, h3]
      exact ⟨⟨o, ho, rfl⟩, ⟨k, hk, rfl⟩, ⟨d, by omega, rfl⟩, ⟨v, v1, v2⟩, ⟨_, _, b1, b2, b3, rfl, rfl⟩, Or.inl rfl⟩
    · refine (g1 r (by omega)).cg fun j hj => old r j hj e
  · have n1 : i % 200 ≠ c % 200 := by omega
    rw [old _ 2 (by omega) n1]
    by_cases e : i + 1 = c
    · rw [e, e2, h3, nn_n (by omega)]
      obtain ⟨-, -, ⟨y, y1, y2⟩, -⟩ := g1 (i % 200) (by omega)
      rw [y2, nn_n (by omega)]; omega
    · rw [old _ 2 (by omega) (by omega)]
      exact g2 i (by omega) (by omega)
  · rw [cm_6, q1, v2, nI_ad]
  · omega
  · have key : sN (fun r => nn (cm γ c s mk o k pl (201 + 7 * r + 3))) 0 (min (c + 1) 200) ≤ sN (fun r => nn (γ (201 + 7 * r + 3))) 0 (min c 200) + v := by
      by_cases e : c < 200
      · rw [show min (c + 1) 200 = c + 1 by omega, show min c 200 = c by omega, sN_end, Nat.zero_add]
        have e9 : nn (cm γ c s mk o k pl (201 + 7 * c + 3)) = v := by
          rw [show c % 200 = c from Nat.mod_eq_of_lt e] at e3
          rw [e3]; exact v3
        rw [e9]
        rw [sN_cg (g := fun r => nn (γ (201 + 7 * r + 3))) c 0 fun i _ hi => by rw [old i 3 (by omega) (by omega)]]
        exact Nat.le_refl _
      · rw [show min (c + 1) 200 = 200 by omega, show min c 200 = 200 by omega]
        have h1 := sN_le (f := fun r => nn (cm γ c s mk o k pl (201 + 7 * r + 3))) (g := fun r => nn (γ (201 + 7 * r + 3)) + v * iN (c % 200 = r)) 200 0 fun i _ hi => by
          by_cases e : i = c % 200
          · rw [e, e3, v3, iN_p rfl]; omega
          · rw [old i 3 (by omega) e]; omega
        rw [sN_add, sN_mul, sN_one] at h1
        have h2 := iN_le (0 ≤ c % 200 ∧ c % 200 < 0 + 200)
        have h4 : v * iN (0 ≤ c % 200 ∧ c % 200 < 0 + 200) ≤ v * 1 := Nat.mul_le_mul_left _ h2
        omega
    omega
/-- the state of a day that is being baked -/
def Bk (mkf : Nat → Nat) (h d : Nat) (G : Gs) : Prop := GI mkf h G ∧ G.1 3 = nI d ∧ Gk G.1 h G.2.1 (d + 1) ∧ ∃ p : Nat → Nat, (∀ i, i < h → G.1 (9 + 4 * i + 2) = nI (p i)) ∧ sN p 0 h = G.2.1
theorem Gk.z {h d mk o k : Nat} (pl : Bool) (hd : d + 1 < 2 ^ 31) (ho : o < h) (hk : k < 3) (hm : mk < 65536) : ∀ (z : Nat) (G : Gs), G.1 3 = nI d → Gk G.1 h G.2.1 (d + 1) → G.2.1 + z < 2 ^ 31 → Gk (cmz mk o k pl z G).1 h (cmz mk o k pl z G).2.1 (d + 1) := by
  intro z
  induction z with
  | zero => intro G _ g _; exact g
  | succ z ih =>
    intro G h3 g hz
    rw [cmz]
    exact ih _ ((cm_lo (by omega) (by omega) (by omega) (by omega)).trans h3) (g.come pl h3 hd ho hk hm (by omega)) (by dsimp only; omega)
theorem Bk.one {mkf : Nat → Nat} {h d : Nat} {G : Gs} (B : Bk mkf h d G) (hh : h ≤ 8) (hd : d + 1 < 2 ^ 31) (t : Nat) {x : T3} (hx : x.1 < h) (hk : x.2.1 < 3) (hz : G.2.1 + x.2.2 < 2 ^ 31) : Bk mkf h d (bt1 mkf t x G) := by
  obtain ⟨I, h3, g, p, p1, p2⟩ := B
  obtain ⟨a1, a2, a3⟩ := bt1_ok hh I t hx
  have hm := (I.2.2.2 x.1 hx).2
  refine ⟨a1, (a3 3 (by omega) (by omega) (by omega) (by omega) (fun i _ => by omega)).trans h3, ?_, fun i => p i + x.2.2 * iN (x.1 = i), fun i hi => ?_, ?_⟩
  · unfold bt1
    refine Gk.z _ hd hx hk hm _ _ ?_ ?_ hz
    · dsimp only; rw [ru_ne _ (by omega)]; exact h3
    · exact g.cg (ru_ne _ (by omega)) fun j _ _ => ru_ne _ (by omega)
  · have e := (cmz_ok hh hm x.1 x.2.1 (decide (t < lo x.2.1 - 30)) x.2.2 _ (I.lay hh x.1 (G.1 (9 + 4 * x.1 + 2) + nI x.2.2))).2.2 (9 + 4 * i + 2) (by omega) (by omega) (by omega) (by omega)
    unfold bt1
    rw [e]
    dsimp only
    by_cases q : x.1 = i
    · subst q
      rw [ru_at, p1 _ hx, nI_ad, iN_p rfl, Nat.mul_one]
    · rw [ru_ne _ (by omega), p1 i hi, iN_n q, Nat.mul_zero, Nat.add_zero]
  · rw [a2, sN_add, sN_mul, sN_one, p2, iN_p (by omega), Nat.mul_one]
theorem Bk.list {mkf : Nat → Nat} {h d : Nat} (hh : h ≤ 8) (hd : d + 1 < 2 ^ 31) (t : Nat) : ∀ (T : List T3) (G : Gs), Bk mkf h d G → (∀ x, x ∈ T → x.1 < h ∧ x.2.1 < 3) → G.2.1 + sz T < 2 ^ 31 → Bk mkf h d (btl mkf t T G) := by
  intro T
  induction T with
  | nil => intro G B _ _; exact B
  | cons x T ih =>
    intro G B hT hz
    obtain ⟨x1, x2⟩ := hT x List.mem_cons_self
    rw [sz] at hz
    rw [btl]
    refine ih _ (B.one hh hd t x1 x2 (by omega)) (fun y hy => hT y (List.mem_cons_of_mem _ hy)) ?_
    rw [(bt1_ok hh B.1 t x1).2.1]; omega
def szs : List L4 → Nat
  | [] => 0
  | l :: Ls => sz l.2.1 + szs Ls
theorem Bk.loads {mkf : Nat → Nat} {h d : Nat} (hh : h ≤ 8) (hd : d + 1 < 2 ^ 31) : ∀ (Ls : List L4) (G : Gs), Bk mkf h d G → (∀ l, l ∈ Ls → ∀ x, x ∈ l.2.1 → x.1 < h ∧ x.2.1 < 3) → G.2.1 + szs Ls < 2 ^ 31 → Bk mkf h d (ldl mkf Ls G) ∧ (ldl mkf Ls G).2.1 = G.2.1 + szs Ls := by
  intro Ls
  induction Ls with
  | nil => intro G B _ _; exact ⟨B, rfl⟩
  | cons l Ls ih =>
    intro G B hT hz
    rw [szs] at hz ⊢
    rw [ldl]
    have e := (btl_ok hh l.2.2.2 l.2.1 G B.1 fun x hx => (hT l List.mem_cons_self x hx).1).2.1
    obtain ⟨r1, r2⟩ := ih _ (B.list hh hd l.2.2.2 l.2.1 G (hT l List.mem_cons_self) (by omega)) (fun l' hl' => hT l' (List.mem_cons_of_mem _ hl')) (by omega)
    exact ⟨r1, by rw [r2, e]; omega⟩
