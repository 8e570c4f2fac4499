/-- a word's own number, asked of the row that it inherits: by its bytes, without a word on the class's making -/
theorem ord_back {l : Launch} {R : Room} {p : Program} {e : Env} {below : List Frame} {s : State} {sargs : Array Value} {G : Gx} {n0 w : Nat} {M : Mem} (hw : w < 7) (hx : p.tables.exec = Jvm.exec) (hts : ∀ w ∈ TB, w.before sargs s = true) (hfr : 1 ≤ R.frames) (hlo : 20 ≤ R.locals) :
    Back l R p e below s sargs yJx29ce0_ordinal_8abf5 3 8 (PreOf R 0 0 (va_Pc [.ref (G.2.2 w)] (Rl G n0 M))) (PostOf (QR G n0 (some (.int (nI w))) M) 0 0 (fun q => n0 ≤ q)) := by
  intro m meth c A g ig mk a X hg hsize hdg hW hn hp
  obtain ⟨U, Ls, c0, s0⟩ := A
  obtain ⟨h4, h5, ha, hP, hK, hSt⟩ := hp
  dsimp only [Pt.U, Pt.locs, Pt.cells, Pt.slots] at h4 h5 hP hK hSt X hn ⊢
  have htsU : ∀ w ∈ TB, w.before a U = true := fun w' hw' => pay_in hts (good_mem fun _ h => h) w' hw' a U X.warmed
  obtain ⟨methY, cY, hmY, hcY, hbY, hlY, hrY, hlkY, -, -⟩ := Cond.code_spec hn (htsU _ tw3_92)
  obtain ⟨kY, hkY, hnY⟩ := className_of_methodNamed hn
  have hpl : U.plainMethod mk := State.plainMethod.of_name (by
    intro k hk
    cases hk.symm.trans hkY
    rw [hnY]; rfl)
  obtain ⟨X0, hin⟩ := X.into hg hsize hdg (mk := mk) (methk := methY) (ck := cY) a (R' := rZ) hmY hcY hlkY hpl hfr (by rw [hlY]; show _ + _ + (1 + 11) + 0 ≤ _; omega) h4 h5
  have hSt0 : St G n0 (U.calling g mk a) := St.same hSt rfl rfl
  have hK0 : va_K G.1 vwCl (tyG G) (U.calling g mk a) := va_K.moved (u := U) (U := U.calling g mk a) (Vm.Alike.refl U.vm) hK
  have hn0 : (U.calling g mk a).methodNamed? yJx29ce0_ordinal_8abf5 = some mk := hn
  have hown : (U.calling g mk a).vm.findClass RJx29ce0 = some mk.cls := findClass_of_methodNamed hn0
  have hts0 : ∀ w ∈ TB, w.before a (U.calling g mk a) = true := fun w' hw' => pay_in hts (good_mem fun _ h => h) w' hw' a (U.calling g mk a) X.warmed
  have hwalk : J (p, l, e, rZ, U.calling g mk a, mk, a, .java g :: below, methY, cY, MQ (.java g :: below) (QR G n0 (some (.int (nI w))) M) a (U.calling g mk a) 0 0 (fun q => n0 ≤ q), G, n0, 1, 0, 0) M 0 (lv_args 0 [.ref (G.2.2 w)]) [] := by
    have C : Ok (p, l, e, rZ, U.calling g mk a, mk, a, .java g :: below, methY, cY, MQ (.java g :: below) (QR G n0 (some (.int (nI w))) M) a (U.calling g mk a) 0 0 (fun q => n0 ≤ q), G, n0, 1, 0, 0) l rZ cJx29ce0_ordinal_8abf5 RJx29ce0 G n0 1 :=
      ⟨rfl, rfl, rfl, rfl, rfl, hx, hbY, hown, hts0, hK0, hlY, hSt0, Nat.zero_le _, Nat.zero_le _⟩
    show J _ M 0 [(0, .ref (G.2.2 w))] []
    refine j_aload_n C 0 dJx29ce0_ordinal_8abf5_0 rfl rfl ?_
    refine j_of C tw7_103 (fun s h => (h.fx.1.1 w hw).2.1) dJx29ce0_ordinal_8abf5_1 ?_
    intro H locs ls hP1 hS1 _
    exact W.iret hx hbY hrY (fun t ht hW => ⟨rfl, Rl_end hP1 hK0 hSt0 hS1 ht hW⟩) hS1.2.2 dJx29ce0_ordinal_8abf5_4 hlkY
  have hl := lv_entry [.ref (G.2.2 w)] (n := 1) (Nat.le_of_ble_eq_true rfl)
  obtain ⟨t, st, o, hrun, hend, hq, L, ⟨⟨v, hv⟩, hW₂, hsame⟩, hL⟩ := hwalk _ [] _ hP va_S.rf hl ((U.setTop g).pushFrame (.java (entryFrame mk a cY.maxLocals))) rfl X0
  obtain ⟨hoq, hq2⟩ := hq
  subst hoq
  obtain ⟨T', X', hW', -, ht⟩ := X.outOf hg hdg hend hW₂ hsame
  refine ⟨some (.int (nI w)), (T', Ls ++ L, c0 + 0, s0 + 0), X', ⟨g, mk, t, L, ?_, ?_, ⟨rfl, hq2⟩, rfl, hL, rfl, rfl⟩, ?_⟩
  · rw [ht]; simp
  · rw [ht]; rfl
  · rw [hin [], hlY]
    show Steps p.tables e below _ (T'.setTop { g with pc := g.pc + 3, stack := (some (Value.int (nI w))).toList ++ g.stack })
    rw [← ht]
    refine Steps.weaken (mid := [.java g]) ?_
    subst ha
    rw [← lg_entry_eq mk [Value.ref (G.2.2 w)] 1, hlY] at st
    exact st
theorem tw3_sm : Cond.sameMethod "OvenDays$Word" "java/lang/Enum" "ordinal" "()I" ∈ TB := tbm3 88 rfl rfl
theorem gu_RX11_318 : Cond.methodLink RX11 318 ⟨"OvenDays$Word", "ordinal", "()I"⟩ ∈ TB := tw3_87
theorem j_callO {K : Kx} {l : Launch} {R : Room} {cc : ByteArray} {own : String} {G : Gx} {n0 nL : Nat} {M : Mem} {pc index w : Nat} {L : List (Nat × Value)} {st st0 : List Value} (C : Ok K l R cc own G n0 nL) (hw : w < 7) (hg : Cond.methodLink own index ⟨"OvenDays$Word", "ordinal", "()I"⟩ ∈ TB) (hR : 1 ≤ R.frames ∧ 20 ≤ R.locals) (hst : st0 = .ref (G.2.2 w) :: st) (hW : (st.map fun v => v.category).sum ≤ 8) (hdg : decode cc pc = .ok (.invokevirtual index, 3))
    (kk : J K M (pc + 3) L (.int (nI w) :: st)) : J K M pc L st0 := by
  obtain ⟨p, l', e, R', s, m, args, below, meth, c, Q, G', n0', nL', cells, slots⟩ := K
  obtain ⟨rfl, rfl, rfl, rfl, rfl, hx, hb, hown, hts, hK, hml, hSt, hce, hsl⟩ := C
  intro H locs ls hP hS hl
  subst hst
  refine j_ret (v := some (.int (nI w))) (M' := M) (rest := st) ?_ hS (fun H1 locs1 hP1 hS1 => kk H1 locs1 ls hP1 hS1 hl) (a := #[.ref (G'.2.2 w)])
  obtain ⟨cellB, hcB, hoB, hclB, -⟩ := (hSt.fx.1.1 w hw).1.kept hS.2.1
  intro T hT X
  obtain ⟨v, vm₁, ⟨U', l2, c2, s2⟩, hW₁, X', ⟨g', mk, t, L2, e1, e2, hq, h1, hL, h2, h3⟩, stp⟩ := va_callVU X hx (C := "OvenDays$Word") (owner := "java/lang/Enum") (index := index) (x := ⟨"OvenDays$Word", "ordinal", "()I"⟩) (y := yJx29ce0_ordinal_8abf5) (bytes := cJx29ce0_ordinal_8abf5) (maxL := 1) (ret := some .int) hown (hts _ hg) (hts _ tw3_sm) (va_Decl.of (hts _ tw3_91) (hts _ tw3_92)) ⟨by decide +kernel, by decide +kernel⟩ (hts _ tw3_90) (hts _ tw3_91) (hts _ tw3_92) (ord_back (G := G') (n0 := n0') (M := M) hw hx hts hR.1 hR.2) (by rw [hT]; exact hcB) hoB hclB (g := F0 m pc ls (.ref (G'.2.2 w) :: st)) rfl (hl.1.trans hml.symm) (argsL := []) (rest := st) (fun sig h => by cases (show parseMethodDescriptor "()I" = some sig from h); rfl) rfl (lv_room hW) (by rw [hb]; exact hdg)
    (fun vm₁ hW₁ => ⟨hce, hsl, rfl, by rw [show ((T.setVm vm₁).heap) = H from hT]; exact hP, va_K.moved hW₁.alike hK, hSt.step hW₁ (hS.F hT)⟩)
  dsimp only [Pt.U, Pt.locs, Pt.cells, Pt.slots] at X' e1 e2 h1 h2 h3 stp
  subst h1; subst h2; subst h3
  exact ⟨v, (T.setVm vm₁).calling g' mk #[Value.ref (G'.2.2 w)], t, U', L2, hT, X', hL, e1, e2, hq, stp⟩
