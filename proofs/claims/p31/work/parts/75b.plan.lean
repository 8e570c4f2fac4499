/-! the loads of a plan -/
theorem sN_sh (f : Nat → Nat) : ∀ (m a : Nat), sN f (a + 1) m = sN (fun i => f (i + 1)) a m := by
  intro m
  induction m with
  | zero => intro a; rfl
  | succ m ih => intro a; rw [sN, sN, ih (a + 1)]
theorem szs_sN : ∀ Ls : List L4, sN (fun i => sz (Ls.getD i L0).2.1) 0 Ls.length = szs Ls := by
  intro Ls
  induction Ls with
  | nil => rfl
  | cons l Ls ih =>
    rw [List.length_cons, sN, sN_sh, szs, ← ih]
    rfl
def Lk1 (l : L4) : Prop := l.1 < 3 ∧ 1 ≤ l.2.1.length ∧ l.2.1.length ≤ sz l.2.1 ∧ sz l.2.1 ≤ 24 ∧ lo l.1 ≤ l.2.2.1 ∧ l.2.2.1 ≤ hg l.1 ∧ l.2.2.2 = fallP l.2.2.1 l.1 (sz l.2.1)
theorem len_sz : ∀ T : List T3, (∀ x, x ∈ T → 1 ≤ x.2.2) → T.length ≤ sz T := by
  intro T
  induction T with
  | nil => intro _; exact Nat.le_refl _
  | cons x T ih =>
    intro h
    have h1 := h x List.mem_cons_self
    have h2 := ih fun y hy => h y (List.mem_cons_of_mem _ hy)
    rw [List.length_cons, sz]; omega
theorem dP_ok : ∀ (n t : Nat) (W : List T3), 20 ≤ t → t ≤ 400 → (∀ x, x ∈ W → 1 ≤ x.2.2 ∧ x.2.2 ≤ 12) → (∀ l, l ∈ (dP n t W).1 → Lk1 l ∧ ∀ x, x ∈ l.2.1 → x ∈ W) ∧ (∀ L, L + 1 < (dP n t W).1.length → ((dP n t W).1.getD (L + 1) L0).2.2.1 ≤ ((dP n t W).1.getD L L0).2.2.2) ∧ (0 < (dP n t W).1.length → ((dP n t W).1.getD 0 L0).2.2.1 ≤ t) ∧ szs (dP n t W).1 + sz (dP n t W).2.1 = sz W := by
  intro n
  have base : ∀ (t : Nat) (W : List T3), (∀ l, l ∈ (([], W, t) : List L4 × List T3 × Nat).1 → Lk1 l ∧ ∀ x, x ∈ l.2.1 → x ∈ W) ∧ (∀ L, L + 1 < (([], W, t) : List L4 × List T3 × Nat).1.length → ((([], W, t) : List L4 × List T3 × Nat).1.getD (L + 1) L0).2.2.1 ≤ ((([], W, t) : List L4 × List T3 × Nat).1.getD L L0).2.2.2) ∧ (0 < (([], W, t) : List L4 × List T3 × Nat).1.length → ((([], W, t) : List L4 × List T3 × Nat).1.getD 0 L0).2.2.1 ≤ t) ∧ szs (([], W, t) : List L4 × List T3 × Nat).1 + sz (([], W, t) : List L4 × List T3 × Nat).2.1 = sz W := fun t W => ⟨fun l hl => (by cases hl), fun L hL => absurd hL (Nat.not_lt_zero _), fun h0 => absurd h0 (Nat.lt_irrefl _), Nat.zero_add _⟩
  induction n with
  | zero => intro t W _ _ _; exact base t W
  | succ n ih =>
    intro t W h1 h2 hW
    by_cases hW0 : W.length = 0
    · rw [dP, if_pos hW0]; exact base t W
    · cases hk : kP t W with
      | some k =>
        rw [dP_load hW0 hk]
        obtain ⟨k1, k2, k3, k4⟩ := kP_spec hk
        obtain ⟨T, hT⟩ : ∃ T, T = gT (pK k) 24 W := ⟨_, rfl⟩
        rw [← hT]
        obtain ⟨r1, r2⟩ := fall_r (k := k) (s := sz T) h2 h1
        obtain ⟨i1, i2, i3, i4⟩ := ih (fallP t k (sz T)) (gR (pK k) 24 W) r1 (by omega) fun x hx => hW x (gR_mem _ _ _ hx)
        obtain ⟨P, hP⟩ : ∃ P, P = dP n (fallP t k (sz T)) (gR (pK k) 24 W) := ⟨_, rfl⟩
        rw [← hP] at i1 i2 i3 i4 ⊢
        obtain ⟨s1, s2, s3⟩ := g_sum (pK k) W 24
        rw [← hT] at s1 s2 s3
        refine ⟨fun l hl => ?_, fun L hL => ?_, fun _ => Nat.le_refl _, ?_⟩
        · rcases List.mem_cons.mp hl with rfl | hl
          · refine ⟨⟨k1, ?_, ?_, ?_, k3, k4, rfl⟩, fun x hx => ?_⟩
            · have := g_fit (k := k) (r := 24) W k2 fun x hx => by have := (hW x hx).2; omega
              rw [← hT] at this; exact this
            · exact len_sz _ fun x hx => (hW x (by dsimp only at hx; rw [hT] at hx; exact (gT_mem _ _ _ hx).1)).1
            · dsimp only; omega
            · dsimp only at hx
              rw [hT] at hx
              exact (gT_mem _ _ _ hx).1
          · exact ⟨(i1 l hl).1, fun x hx => gR_mem _ _ _ ((i1 l hl).2 x hx)⟩
        · cases L with
          | zero => exact i3 (by simp only [List.length_cons] at hL; omega)
          | succ L => exact i2 L (by simp only [List.length_cons] at hL; omega)
        · rw [szs]
          dsimp only
          omega
      | none =>
        by_cases hh : hotP t W
        · have := hot_200 hh
          rw [dP_tick hW0 hk hh]
          obtain ⟨i1, i2, i3, i4⟩ := ih (max 20 (t - 5)) W (by omega) (by omega) hW
          exact ⟨i1, i2, fun h0 => Nat.le_trans (i3 h0) (by omega), i4⟩
        · rw [dP_end hW0 hk hh]; exact base t W
theorem getD_mem {Ls : List L4} {i : Nat} (hi : i < Ls.length) : Ls.getD i L0 ∈ Ls := by
  rw [List.getD_eq_getElem?_getD, List.getElem?_eq_getElem hi]
  exact List.getElem_mem hi
/-- sizes of what waits -/
theorem Od_sz {ρ : Nat → Int32} {h b f : Nat} (hh : h ≤ 8) (hf : f < h) (W : RB ρ h b) : sz ((Od ρ h f b).map (bqt ρ)) = sN (fun i => nn (ρ (41 + 3 * i + 2))) 0 b := by
  have e1 : (Od ρ h f b).map (bqt ρ) = aT h f h 0 (tb (bqt ρ) 0 b) := (aT_tb (bqt ρ) h f b h 0).symm
  have hm : ∀ x, x ∈ tb (bqt ρ) 0 b → x.1 < h := fun x hx => by
    obtain ⟨i, i1, i2, rfl⟩ := tb_mem _ _ _ _ hx
    exact (bqt_ok hh W (show i < b by omega)).2.2.2.1
  rw [e1, aT_sz hf hm]
  have key : ∀ m j, sz (tb (bqt ρ) j m) = sN (fun i => nn (ρ (41 + 3 * i + 2))) j m := by
    intro m
    induction m with
    | zero => intro j; rfl
    | succ m ih => intro j; rw [tb, sz, sN, ih (j + 1)]; rfl
  exact key b 0
theorem Od_mem {ρ : Nat → Int32} {h b f : Nat} (hh : h ≤ 8) (W : RB ρ h b) {x : T3} (hx : x ∈ (Od ρ h f b).map (bqt ρ)) : x.1 < h ∧ x.2.1 < 3 ∧ 1 ≤ x.2.2 ∧ x.2.2 ≤ 12 := by
  obtain ⟨i, hi, rfl⟩ := List.mem_map.mp hx
  have := bqt_ok hh W (al_mem _ _ _ _ _ _ _ hi).1
  exact ⟨this.2.2.2.1, this.2.2.2.2.1, this.2.2.2.2.2.1, this.2.2.2.2.2.2⟩
