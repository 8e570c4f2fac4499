/-! the law, from the start -/
def ρ0 : Nat → Int32 := fun k => if k = 1 then 1 else if k = 2 then 20 else 0
theorem s31_0 : S31 M0 ρ0 0 0 0 0 0 (fun _ _ => 0) 0 0 := by
  refine ⟨⟨⟨by omega, rfl, rfl, fun i k h => absurd h (Nat.not_lt_zero _)⟩, ⟨by omega, rfl, rfl, fun i k h => absurd h (Nat.not_lt_zero _)⟩, ⟨by omega, rfl, rfl, fun i k h => absurd h (Nat.not_lt_zero _)⟩, ⟨by omega, rfl, rfl, rfl, fun i k h => absurd h (Nat.not_lt_zero _)⟩, rfl, rfl, rfl, rfl⟩, ⟨⟨⟨fun i h => absurd h (Nat.not_lt_zero _), fun i j h => absurd h (Nat.not_lt_zero _), fun i h => absurd h (Nat.not_lt_zero _)⟩, fun i h => absurd h (Nat.not_lt_zero _), fun r h => absurd h (Nat.not_lt_zero _), ⟨20, by omega, by omega, rfl⟩, ⟨1, by omega, rfl⟩⟩, ⟨fun _ => 0, fun _ => 0, fun i h => absurd h (Nat.not_lt_zero _), Nat.le_refl _, rfl⟩, Nat.le_refl _, ⟨0, rfl, Nat.le_refl _, fun r h => absurd h (by omega), fun i _ h => absurd h (Nat.not_lt_zero _), 0, rfl, Nat.le_refl _, Nat.le_refl _⟩, ⟨fun _ => 0, fun _ => 0, fun _ => 0, fun _ => 0, fun _ => 0, fun i h => absurd h (Nat.not_lt_zero _), fun i h => absurd h (Nat.not_lt_zero _), Nat.le_refl _⟩⟩, ⟨by omega, by omega, rfl, rfl, fun i h => absurd h (Nat.not_lt_zero _)⟩, fun i h => absurd h (Nat.not_lt_zero _)⟩
theorem law_v {S : Nat × (Nat → Int32)} (hS : S.1 ≤ 260) : ∃ M', fL_law S M0 = some (true, M') := by
  have H0 := s31_0
  have u0 := undo_x H0.2.2.1
  obtain ⟨M7, r1, r2⟩ := refused_v H0.1 H0.2.1.1
  have H7 := H0.pq r2
  have ah := areHouses_v H7.1 H7.2.1 (by omega)
  obtain ⟨M14, l1, l2⟩ := areLoads_v H7.1 H7.2.1 (by omega)
  have H14 := H7.pq l2
  have al := areLoaves_v H14.1 H14.2.1 (by omega)
  obtain ⟨M109, ρ, h, b, g, c, past, s, l, e, H⟩ := law_loop hS 52 0 53 M14 ρ0 0 0 0 0 (by omega) (by omega) ⟨_, _, _, H14⟩
  obtain ⟨M113, q1, q2⟩ := refused_v H.1 H.2.1.1
  have H113 := H.pq q2
  have ah2 := areHouses_v H113.1 H113.2.1 (by omega)
  have al2 := areLoaves_v H113.1 H113.2.1 (by omega)
  obtain ⟨M123, p1, p2⟩ := areLoads_v H113.1 H113.2.1 (by omega)
  refine ⟨M123, ?_⟩
  unfold fL_law
  refine bo u0 (un2i ?_)
  refine bo (v := (true, M14)) ?_ (un2i ?_)
  · rw [if_pos rfl]
    refine bo r1 (un2i ?_)
    rw [if_pos rfl]
    refine bo ah ?_
    rw [if_pos rfl]
    refine bo l1 (un2i ?_)
    rw [if_pos rfl]
    refine bo al ?_
    rw [if_pos rfl]
  refine bo (show lL_law_53 S 53 true (0 : Int32) M14 = some (true, M109) from e) (un2i ?_)
  rw [if_pos rfl]
  refine bo q1 (un2i ?_)
  rw [if_pos rfl]
  refine bo ah2 ?_
  rw [if_pos rfl]
  refine bo al2 ?_
  rw [if_pos rfl]
  refine bo p1 (un2i ?_)
  rw [if_pos rfl]
/-- the law's walk from its entry -/
theorem whole_start {p : Program} {e : Env} {s : State} {m : MethodId} {below : List Frame} {meth : Method} {c : Code} (l : Launch) (hflags : l.flags = flags0) {b L : Nat} {xs : Nat → Int32} (hL : L ≤ 260) (C0 : lw_At p s m meth c b L xs) : W p l e room_1 s m #[Value.ref b] below meth c s.heap [] 0 0 (lw_Z below #[Value.ref b] s) (entryFrame m ([Value.ref b] : List Value).toArray 10) := start_of l hflags (law_v (S := (L, xs)) hL) C0
