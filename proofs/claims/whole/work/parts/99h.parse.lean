/-! a whole command, on both sides -/
theorem ow_k : wo (ow none) = none ∧ ∀ i, i < 7 → wo (ow (some i)) = some i := ⟨by decide +kernel, by decide +kernel⟩
theorem pcmd_r {τ : Nat → Int32} {n p : Nat} (hp : p ≤ n) : (∀ e, pcmd τ n p = .inl e → e ≤ n) ∧ ∀ i vs q, pcmd τ n p = .inr (i, vs, q) → i < 7 ∧ vs.length = wN i ∧ p < q ∧ q ≤ n := by
  obtain ⟨l1, l2, -⟩ := nle_r (τ := τ) hp
  unfold pcmd
  cases hw : fwd τ p (nle τ n p - p) with
  | none => exact ⟨(fun e w => by cases w; exact hp), (fun i vs q w => by cases w)⟩
  | some i =>
    obtain ⟨hi, hm⟩ := fw_lt τ p (nle τ n p - p) 7 0 i rfl hw
    obtain ⟨r1, r2⟩ := pn_r τ n (wN i) _ l2
    have hlen : 4 ≤ nle τ n p - p := by
      unfold wm at hm
      rw [Bool.and_eq_true, decide_eq_true_eq] at hm
      rw [hm.1]; exact (wl_7 i hi).1
    cases hn : pn τ n (wN i) (nle τ n p) with
    | inl e =>
      refine ⟨fun e' w => ?_, fun i' vs q w => ?_⟩
      · simp only [hn] at w; cases w; exact r1 _ hn
      · simp only [hn] at w; cases w
    | inr x =>
      obtain ⟨vs, q⟩ := x
      obtain ⟨t1, t2, t3⟩ := r2 _ _ hn
      obtain ⟨s1, s2, -⟩ := nsp_r (τ := τ) t2
      simp only [hn]
      by_cases c : nsp τ n q < n ∧ τ (nsp τ n q) = 59
      · rw [if_pos c]
        exact ⟨(fun e w => by cases w), (fun i' vs' q' w => by cases w; exact ⟨hi, t3, by omega, by omega⟩)⟩
      · rw [if_neg c]
        exact ⟨(fun e w => by cases w; exact s2), (fun i' vs' q' w => by cases w)⟩
theorem wd_c {M : Mem} {τ : Nat → Int32} {n p : Nat} (H : CT M τ n p) : (fwd τ p (nle τ n p - p) = none → ∃ M', fX2_readWord M = some (false, M') ∧ M'.1 175 5 = nI p ∧ Tc M M') ∧ ∀ i, fwd τ p (nle τ n p - p) = some i → ∃ M', fX2_readWord M = some (true, M') ∧ CT M' τ n (nle τ n p) ∧ wo (M'.1 175 2) = some i ∧ M'.1 175 5 = M.1 175 5 ∧ Tc M M' := by
  have hp := H.2.2.2.1
  obtain ⟨l1, l2, l3⟩ := nle_r (τ := τ) hp
  have H1 := H.at l2
  have e0 : lX2_readWord_5 FUEL M = some (mput M 175 4 (nI (nle τ n p))) := let_c (n - p) p FUEL M H (by omega) (fuel8 (by have := H.2.1; omega))
  have e1 : ∀ w, fwd τ p (nle τ n p - p) = w → wo (ow w) = w → fX2_readWord M = oc w ((fX2_failAt (nI p) (mput (mput M 175 4 (nI (nle τ n p))) 175 2 (ow w))).bind (un2 fun b20 M21 => if b20 = true then (some (true, M21)) else (some (false, M21)))) (fun w17 => some (true, mput (mput M 175 4 (nI (nle τ n p))) 175 2 (ow w))) := fun w hw ho => by
    unfold fX2_readWord
    rw [e0, Option.bind_some, H.2.2.1, H1.2.2.1, word_c H1 l1 l2, hw, Option.bind_some, if_neg (fun q => q ho)]
    unfold pf
    rw [Option.bind_some, mput_at, if_pos ⟨rfl, rfl⟩, ho]
  refine ⟨fun hw => ?_, fun i hw => ?_⟩
  · exact ⟨_, e1 _ hw ow_k.1, by rw [mput_at, if_pos ⟨rfl, rfl⟩], ((Tc.p4 M (by omega) _).tr (Tc.p4 _ (by omega) _)).tr (Tc.p4 _ (by omega) _)⟩
  · obtain ⟨hi, -⟩ := fw_lt τ p (nle τ n p - p) 7 0 i rfl hw
    refine ⟨_, e1 _ hw (ow_k.2 i hi), H1.tc (Tc.p4 _ (by omega) _) (by rw [mput_at, if_neg (by omega)]), ?_, ?_, (Tc.p4 M (by omega) _).tr (Tc.p4 _ (by omega) _)⟩
    · rw [mput_at, if_pos ⟨rfl, rfl⟩]; exact ow_k.2 i hi
    · rw [mput_at, if_neg (by omega), mput_at, if_neg (by omega)]
theorem nums_c {M : Mem} {τ : Nat → Int32} {n p i : Nat} (H : CT M τ n p) (hi : i < 7) (hw : wo (M.1 175 2) = some i) : (∀ e, pn τ n (wN i) p = .inl e → ∃ M', fX2_readNumbers M = some (false, M') ∧ M'.1 175 5 = nI e ∧ Tc M M') ∧ (∀ vs q, pn τ n (wN i) p = .inr (vs, q) → ∃ M', fX2_readNumbers M = some (true, M') ∧ CT M' τ n q ∧ NS (M'.1 177) 0 vs ∧ M'.1 175 5 = M.1 175 5 ∧ M'.1 175 2 = M.1 175 2 ∧ Tc M M') := by
  obtain ⟨wn1, wn2⟩ := wN_ok i hi
  obtain ⟨i1, i2⟩ := num_c hi (wN i) 0 FUEL p M H (by omega) (fuel8 (by omega))
  have e0 : fX2_readNumbers M = (lX2_readNumbers_21 i FUEL (nI 0) M).bind fun o => s0 o (fun M36 => some (true, M36)) := by
    unfold fX2_readNumbers
    rw [hw]
    show (if 7 ≤ i then none else _) = _
    rw [if_neg (by omega)]; rfl
  refine ⟨fun e he => ?_, fun vs q he => ?_⟩
  · obtain ⟨M', j1, j2, j3⟩ := i1 _ he
    exact ⟨M', by rw [e0, j1]; rfl, j2, j3⟩
  · obtain ⟨M', j1, j2, j3, j4, j5, j6, j7⟩ := i2 _ _ he
    exact ⟨M', by rw [e0, j1]; rfl, j2, j3, j5, j6, j7⟩
theorem rc_c {M : Mem} {τ : Nat → Int32} {n p : Nat} (H : CT M τ n p) : (n ≤ nsp τ n p → ∃ M', fX2_readCommand M = some (false, M') ∧ M'.1 175 5 = M.1 175 5 ∧ Tc M M') ∧ (nsp τ n p < n → (∀ e, pcmd τ n (nsp τ n p) = .inl e → ∃ M', fX2_readCommand M = some (false, M') ∧ M'.1 175 5 = nI e ∧ Tc M M') ∧ ∀ i vs q, pcmd τ n (nsp τ n p) = .inr (i, vs, q) → ∃ M', fX2_readCommand M = some (true, M') ∧ CT M' τ n q ∧ wo (M'.1 175 2) = some i ∧ NS (M'.1 177) 0 vs ∧ M'.1 175 5 = M.1 175 5 ∧ Tc M M') := by
  have hn := H.2.1
  obtain ⟨s1, s2, -⟩ := nsp_r (τ := τ) H.2.2.2.1
  have H1 := H.at s2
  have t1 : Tc M (mput M 175 4 (nI (nsp τ n p))) := Tc.p4 M (by omega) _
  have f1 : (mput M 175 4 (nI (nsp τ n p))).1 175 5 = M.1 175 5 := by rw [mput_at, if_neg (by omega)]
  refine ⟨fun h => ⟨_, ?_, f1, t1⟩, fun h => ?_⟩
  · unfold fX2_readCommand
    rw [skip_C H, Option.bind_some, H1.1, H1.2.2.1, if_neg (pI_nlt h (by omega))]
  · have e0 : fX2_readCommand M = ((fX2_readWord (mput M 175 4 (nI (nsp τ n p)))).bind (un2 fun b5 M6 => if b5 = true then ((fX2_readNumbers M6).bind (un2 fun b9 M10 => if b9 = true then ((fX2_skipSpaces M10).bind fun M13 => (fX2_stands (59 : Int32) M13).bind fun b15 => if b15 = true then ((pf M13 175 4 ((M13.1 175 4) + (1 : Int32))).bind fun M17 => some (true, M17)) else ((fX2_failAt (M13.1 175 4) M13).bind (un2 fun b20 M21 => some (b20, M21)))) else (some (false, M10)))) else (some (false, M6)))) := by
      unfold fX2_readCommand
      rw [skip_C H, Option.bind_some, H1.1, H1.2.2.1, if_pos (pI_lt h (by omega))]
    obtain ⟨w1, w2⟩ := wd_c H1
    obtain ⟨l1, l2, -⟩ := nle_r (τ := τ) s2
    unfold pcmd
    cases hw : fwd τ (nsp τ n p) (nle τ n (nsp τ n p) - nsp τ n p) with
    | none =>
      refine ⟨(fun e w => ?_), (fun i vs q w => by cases w)⟩
      cases w
      obtain ⟨M', a1, a2, a3⟩ := w1 hw
      exact ⟨M', by rw [e0, a1]; rfl, a2, t1.tr a3⟩
    | some i =>
      obtain ⟨hi, -⟩ := fw_lt τ _ _ 7 0 i rfl hw
      obtain ⟨M6, a1, a2, a3, a4, a5⟩ := w2 i hw
      obtain ⟨n1, n2⟩ := nums_c a2 hi a3
      rw [a1, Option.bind_some] at e0
      simp only [un2] at e0
      rw [if_pos trivial] at e0
      cases hq : pn τ n (wN i) (nle τ n (nsp τ n p)) with
      | inl e =>
        simp only [hq]
        refine ⟨(fun e' w => ?_), (fun i vs q w => by cases w)⟩
        cases w
        obtain ⟨M', b1, b2, b3⟩ := n1 e hq
        exact ⟨M', by rw [e0, b1]; rfl, b2, (t1.tr a5).tr b3⟩
      | inr x =>
        obtain ⟨vs, q⟩ := x
        simp only [hq]
        obtain ⟨M10, b1, b2, b3, b4, b5, b6⟩ := n2 vs q hq
        obtain ⟨-, q2, -⟩ := (pn_r τ n (wN i) _ l2).2 _ _ hq
        obtain ⟨s3, s4, -⟩ := nsp_r (τ := τ) q2
        have H5 := b2.at s4
        rw [b1, Option.bind_some] at e0
        simp only [un2] at e0
        rw [if_pos trivial, skip_C b2, Option.bind_some, stands_c H5 (by decide), Option.bind_some, H5.2.2.1] at e0
        have t3 := ((t1.tr a5).tr b6).tr (Tc.p4 M10 (k := 4) (by omega) (nI (nsp τ n q)))
        by_cases c : nsp τ n q < n ∧ τ (nsp τ n q) = 59
        · rw [if_pos c]
          rw [if_pos (decide_eq_true c)] at e0
          refine ⟨(fun e w => by cases w), (fun i' vs' q' w => ?_)⟩
          cases w
          unfold pf at e0
          rw [Option.bind_some, l_1, nI_ad, mp2] at e0
          refine ⟨_, e0, b2.at (by omega), ?_, fun j hj => ?_, ?_, ((t1.tr a5).tr b6).tr (Tc.p4 M10 (by omega) _)⟩
          · rw [mput_at, if_neg (by omega), b5]; exact a3
          · rw [mput_at, if_neg (by omega)]; exact b3 j hj
          · rw [mput_at, if_neg (by omega), b4, a4]; exact f1
        · rw [if_neg c]
          rw [if_neg (by rw [decide_eq_true_eq]; exact c)] at e0
          refine ⟨(fun e w => ?_), (fun i' vs' q' w => by cases w)⟩
          cases w
          exact ⟨_, e0, by rw [mput_at, if_pos ⟨rfl, rfl⟩], t3.tr (Tc.p4 _ (by omega) _)⟩
theorem wN_m : ∀ i, i < 7 → (if nI i = (1 : Int32) then (some (3 : Int32)) else (if nI i = (6 : Int32) then (some (0 : Int32)) else (some (1 : Int32)))) = some (nI (wN i)) := by decide +kernel
theorem rr_r {N : Mem} {τ : Nat → Int32} {n p : Nat} (H : RT N τ n p) : (∀ e, pcmd τ n p = .inl e → ∃ N', fX12_reads N = some (false, N') ∧ N'.1 178 11 = nI e ∧ Tr N N') ∧ ∀ i vs q, pcmd τ n p = .inr (i, vs, q) → ∃ N', fX12_reads N = some (true, N') ∧ RT N' τ n q ∧ N'.1 178 12 = nI i ∧ NS (N'.1 184) 0 vs ∧ Tr N N' := by
  have hn := H.2.1
  have hp := H.2.2.2.1
  obtain ⟨l1, l2, l3⟩ := nle_r (τ := τ) hp
  have H1 := H.at l2
  have e1 : lX12_reads_5 FUEL N = some (mput N 178 11 (nI (nle τ n p))) := let_r (n - p) p FUEL N H (by omega) (fuel8 (by omega))
  have e0 : fX12_reads N = (pf (mput N 178 11 (nI (nle τ n p))) 178 12 (enc (fwd τ p (nle τ n p - p)))).bind fun M10 => if (M10.1 178 12) = (-1 : Int32) then ((pf M10 178 11 (nI p)).bind fun M40 => some (false, M40)) else ((if (M10.1 178 12) = (1 : Int32) then (some (3 : Int32)) else (if (M10.1 178 12) = (6 : Int32) then (some (0 : Int32)) else (some (1 : Int32)))).bind (fun z15 => (lX12_reads_82 z15 FUEL (0 : Int32) M10).bind fun o => s0 o tlr)) := by
    unfold fX12_reads
    rw [e1, Option.bind_some, H.2.2.1, word_r H1 l1 l3]; rfl
  unfold pf at e0
  rw [Option.bind_some, mput_at, if_pos (show (178 : Nat) = 178 ∧ (12 : Nat) = 12 from ⟨rfl, rfl⟩), Option.bind_some] at e0
  unfold pcmd
  cases hw : fwd τ p (nle τ n p - p) with
  | none =>
    rw [hw] at e0
    refine ⟨(fun e w => ?_), (fun i vs q w => by cases w)⟩
    cases w
    exact ⟨_, by rw [e0]; exact if_pos rfl, by rw [mput_at, if_pos ⟨rfl, rfl⟩], ((Tr.p8 N (by omega) _).tr (Tr.p8 _ (by omega) _)).tr (Tr.p8 _ (by omega) _)⟩
  | some i =>
    obtain ⟨hi, -⟩ := fw_lt τ _ _ 7 0 i rfl hw
    obtain ⟨wn1, wn2⟩ := wN_ok i hi
    rw [hw] at e0
    rw [show enc (some i) = nI i from rfl] at e0
    rw [if_neg (show ¬ nI i = (-1 : Int32) from nI_ng (by omega)), wN_m i hi, Option.bind_some] at e0
    have H2 : RT (mput (mput N 178 11 (nI (nle τ n p))) 178 12 (nI i)) τ n (nle τ n p) := H1.tr' (Tr.p8 _ (by omega) _) (by rw [mput_at, if_neg (by omega)])
    have t2 : Tr N (mput (mput N 178 11 (nI (nle τ n p))) 178 12 (nI i)) := (Tr.p8 N (by omega) _).tr (Tr.p8 _ (by omega) _)
    have f2 : (mput (mput N 178 11 (nI (nle τ n p))) 178 12 (nI i)).1 178 12 = nI i := by rw [mput_at, if_pos ⟨rfl, rfl⟩]
    obtain ⟨n1, n2⟩ := num_r wn2 (wN i) 0 FUEL (nle τ n p) _ H2 (by omega) (fuel8 (by omega))
    cases hq : pn τ n (wN i) (nle τ n p) with
    | inl e =>
      simp only [hq]
      refine ⟨(fun e' w => ?_), (fun i vs q w => by cases w)⟩
      cases w
      obtain ⟨N', b1, b2, b3⟩ := n1 e hq
      exact ⟨N', e0.trans b1, b2, t2.tr b3⟩
    | inr x =>
      obtain ⟨vs, q⟩ := x
      simp only [hq]
      obtain ⟨N1, b1, b2, b3, b4, b5, b6⟩ := n2 vs q hq
      obtain ⟨-, q2, -⟩ := (pn_r τ n (wN i) _ l2).2 _ _ hq
      obtain ⟨s3, s4, -⟩ := nsp_r (τ := τ) q2
      rw [show (0 : Int32) = nI 0 from rfl, b1, Option.bind_some] at e0
      simp only [s0] at e0
      rw [tl_r b2] at e0
      by_cases c : nsp τ n q < n ∧ τ (nsp τ n q) = 59
      · rw [if_pos c] at e0 ⊢
        refine ⟨(fun e w => by cases w), (fun i' vs' q' w => ?_)⟩
        cases w
        refine ⟨_, e0, b2.at (by omega), ?_, fun j hj => ?_, (t2.tr b6).tr (Tr.p8 _ (by omega) _)⟩
        · rw [mput_at, if_neg (by omega), b5]; exact f2
        · rw [mput_at, if_neg (by omega)]; exact b3 j hj
      · rw [if_neg c] at e0 ⊢
        refine ⟨(fun e w => ?_), (fun i' vs' q' w => by cases w)⟩
        cases w
        exact ⟨_, e0, by rw [mput_at, if_pos ⟨rfl, rfl⟩], (t2.tr b6).tr (Tr.p8 _ (by omega) _)⟩
/-! the first fault -/
def fp (τ : Nat → Int32) (n : Nat) : Nat → Nat → Option Nat
  | 0, _ => none
  | m + 1, p => if nsp τ n p < n then (match pcmd τ n (nsp τ n p) with | .inl e => some e | .inr x => fp τ n m x.2.2) else none
theorem ff_c {τ : Nat → Int32} {n : Nat} : ∀ (m p a fu : Nat) (M : Mem), CT M τ n p → n ≤ p + m → a ≤ p → M.1 175 5 = NG → m < fu → ∃ M', lX2_findFault_6 fu (nI a) M = some M' ∧ M'.1 175 5 = enc (fp τ n m p) ∧ Tc M M' := by
  intro m
  induction m with
  | zero =>
    intro p a fu M H h1 h2 h5 h3
    obtain ⟨fu, rfl⟩ : ∃ n', fu = n' + 1 := ⟨fu - 1, by omega⟩
    have hn := H.2.1
    have hp := H.2.2.2.1
    rw [lX2_findFault_6, l_150]
    by_cases ha : 150 ≤ a
    · rw [if_pos (pI_le ha (by omega))]
      exact ⟨M, rfl, h5, Tc.rf M⟩
    · rw [if_neg (pI_nle (by omega) (by omega))]
      obtain ⟨s1, s2, -⟩ := nsp_r (τ := τ) hp
      obtain ⟨M', a1, a2, a3⟩ := (rc_c H).1 (by omega)
      exact ⟨M', by rw [a1]; rfl, a2.trans h5, a3⟩
  | succ m ih =>
    intro p a fu M H h1 h2 h5 h3
    obtain ⟨fu, rfl⟩ : ∃ n', fu = n' + 1 := ⟨fu - 1, by omega⟩
    have hn := H.2.1
    have hp := H.2.2.2.1
    obtain ⟨s1, s2, -⟩ := nsp_r (τ := τ) hp
    rw [lX2_findFault_6, l_150, fp]
    by_cases ha : 150 ≤ a
    · rw [if_pos (pI_le ha (by omega)), if_neg (by omega)]
      exact ⟨M, rfl, h5, Tc.rf M⟩
    · rw [if_neg (pI_nle (by omega) (by omega))]
      obtain ⟨c1, c2⟩ := rc_c H
      by_cases hs : nsp τ n p < n
      · rw [if_pos hs]
        obtain ⟨d1, d2⟩ := c2 hs
        cases hq : pcmd τ n (nsp τ n p) with
        | inl e =>
          obtain ⟨M', a1, a2, a3⟩ := d1 e hq
          exact ⟨M', by rw [a1]; rfl, a2, a3⟩
        | inr x =>
          obtain ⟨i, vs, q⟩ := x
          obtain ⟨M1, a1, a2, a3, a4, a5, a6⟩ := d2 i vs q hq
          obtain ⟨-, -, q1, q2⟩ := (pcmd_r s2).2 i vs q hq
          obtain ⟨M', b1, b2, b3⟩ := ih q (a + 1) fu M1 a2 (by omega) (by omega) (a5.trans h5) (by omega)
          refine ⟨M', ?_, b2, a6.tr b3⟩
          rw [a1, Option.bind_some]
          simp only [un2]
          rw [if_pos trivial, l_1, nI_ad]; exact b1
      · rw [if_neg hs]
        obtain ⟨M', a1, a2, a3⟩ := c1 (by omega)
        exact ⟨M', by rw [a1]; rfl, a2.trans h5, a3⟩
theorem ff_r {τ : Nat → Int32} {n : Nat} : ∀ (m p fu : Nat) (N : Mem), p ≤ n → RT N τ n (nsp τ n p) → n ≤ p + m → m < fu → (fp τ n m p = none → ∃ N', lX12_runCommands_15 fu N = some (Sum.inr N') ∧ Tr N N') ∧ ∀ e, fp τ n m p = some e → ∃ N', lX12_runCommands_15 fu N = some (Sum.inl ((-10 : Int32) - nI e, N')) ∧ Tr N N' := by
  intro m
  induction m with
  | zero =>
    intro p fu N hp H h1 h3
    obtain ⟨fu, rfl⟩ : ∃ n', fu = n' + 1 := ⟨fu - 1, by omega⟩
    have hn := H.2.1
    obtain ⟨s1, s2, -⟩ := nsp_r (τ := τ) hp
    refine ⟨fun _ => ⟨N, ?_, Tr.rf N⟩, (fun e w => by cases w)⟩
    rw [lX12_runCommands_15, H.1, H.2.2.1, if_pos (pI_le (by omega) (by omega))]
  | succ m ih =>
    intro p fu N hp H h1 h3
    obtain ⟨fu, rfl⟩ : ∃ n', fu = n' + 1 := ⟨fu - 1, by omega⟩
    have hn := H.2.1
    obtain ⟨s1, s2, -⟩ := nsp_r (τ := τ) hp
    rw [lX12_runCommands_15, H.1, H.2.2.1, fp]
    by_cases hs : nsp τ n p < n
    · rw [if_pos hs, if_neg (pI_nle hs (by omega))]
      obtain ⟨d1, d2⟩ := rr_r H
      cases hq : pcmd τ n (nsp τ n p) with
      | inl e =>
        refine ⟨(fun w => by cases w), (fun e' w => ?_)⟩
        cases w
        obtain ⟨N', a1, a2, a3⟩ := d1 e hq
        refine ⟨N', ?_, a3⟩
        rw [a1, Option.bind_some]
        simp only [un2]
        rw [if_neg (by decide), a2]
      | inr x =>
        obtain ⟨i, vs, q⟩ := x
        obtain ⟨N1, a1, a2, a3, a4, a5⟩ := d2 i vs q hq
        obtain ⟨-, -, q1, q2⟩ := (pcmd_r s2).2 i vs q hq
        obtain ⟨s3, s4, -⟩ := nsp_r (τ := τ) q2
        obtain ⟨b1, b2⟩ := ih q fu _ q2 (a2.at s4) (by omega) (by omega)
        have t : Tr N (mput N1 178 11 (nI (nsp τ n q))) := a5.tr (Tr.p8 _ (by omega) _)
        have e0 : ((fX12_reads N).bind (un2 fun b11 M12 => if b11 = true then ((fX12_skips M12).bind (un2 fun b15 M16 => lX12_runCommands_15 fu M16)) else (some (Sum.inl (((-10 : Int32) - (M12.1 178 11)), M12))))) = lX12_runCommands_15 fu (mput N1 178 11 (nI (nsp τ n q))) := by
          rw [a1, Option.bind_some]
          simp only [un2]
          rw [if_pos trivial, skip_R a2, Option.bind_some]; rfl
        refine ⟨fun w => ?_, fun e w => ?_⟩
        · obtain ⟨N', c1, c2⟩ := b1 w
          exact ⟨N', e0.trans c1, t.tr c2⟩
        · obtain ⟨N', c1, c2⟩ := b2 e w
          exact ⟨N', e0.trans c1, t.tr c2⟩
    · rw [if_neg hs, if_pos (pI_le (by omega) (by omega))]
      exact ⟨fun _ => ⟨N, rfl, Tr.rf N⟩, (fun e w => by cases w)⟩
