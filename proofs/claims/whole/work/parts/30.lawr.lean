/-! the law's own methods: calls that catch, the law's script -/
abbrev am_hh : Type := List (Nat × Nat × Nat × Nat)
def am_tbl (hh : am_hh) : am_tb := some (fun _ c _ => c.exceptionTable.toList.map (fun h => (h.startPc, h.endPc, h.handlerPc, h.catchType)) = hh)
/-- a contract of a method with a table of its own -/
def am_MW (y : MethodName) (bs : ByteArray) (nL : Nat) (ret : Option FieldType) (hh : am_hh) (fr lc : Nat) (as : List am_v) (h : am_H) (Q : Option am_v → am_H → Prop) : Prop :=
  ∀ (l : Launch) (lo : Nat) (ad : am_G → Nat → Nat) (D : va_G) (cA : Nat → ClassId), l.flags = flags0 → Met l y (.codeWith y bs nL ret hh :: am_gT) { frames := fr, cells := 1, slots := 6, locals := lc } (am_Pc as h lo ad D cA) (am_Qc Q lo ad D cA) 1 6 (fun q => lo ≤ q)
theorem am_MW.of {y : MethodName} {bs : ByteArray} {nL : Nat} {ret : Option FieldType} {hh : am_hh} {fr lc : Nat} {as : List am_v} {h : am_H} {Q : Option am_v → am_H → Prop} {A : List (Option am_v)} (hy : plainFor y = true) (hA : am_A0 as ++ List.replicate (nL - (am_A0 as).length) none = A) (hl : (am_A0 as).length ≤ nL)
    (body : am_V y.cls bs nL ret fr lc 1 6 (am_tbl hh) (am_Tm bs ret Q) 0 0 0 A [] h) : am_MW y bs nL ret hh fr lc as h Q := by
  subst hA
  intro l lo ad D cA hf
  have hc : ∀ (args : Array Value) (s : State) (m : MethodId), (headSpec (Cond.codeWith y bs nL ret hh :: am_gT) { frames := fr, cells := 1, slots := 6, locals := lc }).pre.before args s = true → s.methodNamed? y = some m → ∃ meth c, s.vm.method? m = some meth ∧ meth.code = some c ∧ c.code = bs ∧ c.maxLocals = nL ∧ meth.sig.returnType = ret ∧ meth.locks = false := by
    intro args s m h hn
    obtain ⟨m9, meth, c, hn9, h1, h2, h3, h4, -, h5, h6, -⟩ := Cond.codeWith_spec (atoms_spec (ws := Cond.codeWith y bs nL ret hh :: am_gT) h _ List.mem_cons_self)
    cases hn.symm.trans hn9
    exact ⟨meth, c, h1, h2, h3, h4, h5, h6⟩
  refine MetFree.of_bodySF hy hc (fun p e s m args below meth c s₁ B hml hP _ => ?_)
  have hh9 : s₁.heap = s.heap := by rw [B.state]; rfl
  obtain ⟨m9, meth9, c9, hn9, g1, g2, g3, g4, g7, g5, g6, -⟩ := Cond.codeWith_spec (atoms_spec (ws := Cond.codeWith y bs nL ret hh :: am_gT) B.pre _ List.mem_cons_self)
  cases B.named.symm.trans hn9
  cases Option.some.inj (g1.symm.trans B.method)
  cases Option.some.inj (g2.symm.trans (Stand.of_body B).code)
  have K : W p l e (headSpec (Cond.codeWith y bs nL ret hh :: am_gT) { frames := fr, cells := 1, slots := 6, locals := lc }).room s m args below meth c s.heap [] 0 0 (MQ below (am_Qc Q lo ad D cA) args s 1 6 (fun q => lo ≤ q)) (entryFrame m args nL) := by
    obtain ⟨rfl, hW, hE⟩ := hP
    have hts := atoms_spec (ws := .codeWith y bs nL ret hh :: am_gT) B.pre
    rw [lg_entry_eq]
    refine body p l e _ s m _ below meth c lo ad D cA _ ⟨B.exec, B.bytes, hml, findClass_of_methodNamed B.named, fun w hw => hts w (List.mem_cons_of_mem _ hw), hE, B.returns, B.notSynchronized, hf, Nat.le_refl _, Nat.le_refl _, Nat.le_refl _, Nat.le_refl _, fun t h => by cases h; exact g7⟩ ?_ (Nat.zero_le _) (Nat.zero_le _) s.heap [] _ hW va_S.rf (am_L0 ad as hl)
    rintro pc' st' h' cs' ss' H' locs' ls' ⟨v, hk, rfl, hQ⟩ hW' hS' h1 h2 hsz
    have hlocks := B.notSynchronized
    refine W.widen h1 h2 ?_
    rcases hk with ⟨x, ty, rfl, hr, hn, hd⟩ | ⟨rfl, hr, hd⟩ | ⟨x, rfl, hr, hd⟩ | ⟨x, rfl, hr, hd⟩
    · exact W.zret B.exec B.bytes (B.returns.trans hr) hn (fun t ht hw => ⟨⟨some (am_i x), h', rfl, hQ, by rw [ht]; exact hW'⟩, hS'.F ht⟩) hS'.2.2 hd
    · exact W.vret B.exec B.bytes (B.returns.trans hr) (fun t ht hw => ⟨⟨none, h', rfl, hQ, by rw [ht]; exact hW'⟩, hS'.F ht⟩) hS'.2.2 hd
    · exact W.dret B.exec B.bytes (B.returns.trans hr) (fun t ht hw => ⟨⟨some (.inl (.double x)), h', rfl, hQ, by rw [ht]; exact hW'⟩, hS'.F ht⟩) hS'.2.2 hd
    · exact W.fret B.exec B.bytes (B.returns.trans hr) (fun t ht hw => ⟨⟨some (.inl (.float x)), h', rfl, hQ, by rw [ht]; exact hW'⟩, hS'.F ht⟩) hS'.2.2 hd
  obtain ⟨t, a1, o, b1, b2, b3, b4⟩ := K s₁ hh9 (Stand.of_body B)
  exact ⟨t, o, a1, b1, b2, b3, b4⟩
/-- a method with a table that is called statically -/
def am_cw (y : MethodName) (bs : ByteArray) (nL : Nat) (ret : Option FieldType) (hh : am_hh) (n : Nat) : Prop := Cond.codeWith y bs nL ret hh ∈ am_gT ∧ Cond.static y ∈ am_gT ∧ Cond.initialized y.cls ∈ am_gT ∧ y.cls ≠ "java/lang/invoke/MethodHandle" ∧ y.cls ≠ "java/lang/invoke/VarHandle" ∧ (parseMethodDescriptor y.desc).map (fun d => d.parameters.length) = some n
/-- which row of a table takes e -/
def am_caught (own : String) (hh : am_hh) (pc e hp : Nat) : Prop := ∃ (pre : am_hh) (x : Nat × Nat × Nat × Nat) (suf : am_hh), hh = pre ++ x :: suf ∧ (∀ z ∈ pre, z.2.2.2 ≠ 0 ∧ ∃ j, j < 3 ∧ j ≠ e ∧ Cond.classLink own z.2.2.2 (am_exn j) ∈ am_gT) ∧ x.1 ≤ pc ∧ pc < x.2.1 ∧ x.2.2.1 = hp ∧ x.2.2.2 ≠ 0 ∧ Cond.classLink own x.2.2.2 (am_exn e) ∈ am_gT ∧ Cond.castable (am_exn e) (am_exn e) ∈ am_dT
theorem am_map_split {α β : Type} (f : α → β) : ∀ (l : List α) (pre : List β) (x : β) (suf : List β), l.map f = pre ++ x :: suf → ∃ lp lx ls, l = lp ++ lx :: ls ∧ lp.map f = pre ∧ f lx = x
  | [], [], x, suf, h => by cases h
  | [], _ :: _, x, suf, h => by cases h
  | a :: l, [], x, suf, h => by
    injection h with h1 h2
    exact ⟨[], a, l, rfl, rfl, h1⟩
  | a :: l, b :: pre, x, suf, h => by
    injection h with h1 h2
    obtain ⟨lp, lx, ls, q1, q2, q3⟩ := am_map_split f l pre x suf h2
    exact ⟨a :: lp, lx, ls, by rw [q1]; rfl, by rw [List.map_cons, h1, q2], q3⟩
section AML
variable {own : String} {cc : ByteArray} {nL : Nat} {ret : Option FieldType} {fr lc mc ms : Nat} {tb : am_tb} {Tm : Nat → List am_v → am_H → Prop} {cs ss pc : Nat} {A : List (Option am_v)} {st : List am_v} {h : am_H}
/-- a call of a method that returns or throws, where a row of the table takes what is thrown -/
theorem ar_callX {idx nLy n9 fr9 lc9 : Nat} {y : MethodName} {bs : ByteArray} {rety : Option FieldType} {hh : am_hh} {Q : Option am_v → am_H → Prop} {QX : Nat → am_H → Prop} {g : am_G} {o ci : Nat} {As : List am_v} {C : vw_C} (hd : decode cc pc = .ok (.invokevirtual idx, 3)) (L : Cond.methodLink own idx y ∈ am_gT) (Y : am_cv y bs nLy rety n9) (hM : am_X y bs nLy rety fr9 lc9 (am_r g o :: As) h Q QX) (hs : am_shp g o = .inl ci) (hcl : vwCl[ci]? = some C) (hcy : C.1 = y.cls) (hv : am_ok g o) (hn : As.length = n9) (hfr : fr9 + 1 ≤ fr) (hlc : 8 + (nLy + 11) + lc9 ≤ lc) (hcs9 : cs + 1 ≤ mc) (hss9 : ss + 6 ≤ ms) (hst : (st.map am_ct).sum ≤ 8)
    (kk : ∀ (r : Option am_v) (h9 : am_H), Q r h9 → am_V own cc nL ret fr lc mc ms (am_tbl hh) Tm (cs + 1) (ss + 6) (pc + 3) A (r.toList ++ st) h9)
    (kx : ∀ (e : Nat) (h9 : am_H), e < 3 → QX e h9 → ∃ hp, am_caught own hh pc e hp ∧ ∀ q : Nat, am_V own cc nL ret fr lc mc ms (am_tbl hh) Tm (cs + 1) (ss + 6) hp A [.inl (.ref q)] h9) : am_V own cc nL ret fr lc mc ms (am_tbl hh) Tm cs ss pc A (As.reverse ++ am_r g o :: st) h := by
  intro p l e R s m args below meth c lo ad D cA Z F K hc hcs H locs ls hW hS hL
  obtain ⟨y1, y2, y3, y4, y5, y6, y7⟩ := Y
  have hts := F.2.2.2.2.1
  have he := am_ws_at ad cA h hv
  have e1 : am_ce ad cA h g o = .inr (ci, am_fl ad h g o ci) := by unfold am_ce; rw [hs]
  rw [e1] at he
  have hfr' := F.2.2.2.2.2.2.2.2.2.1
  have hlc' := F.2.2.2.2.2.2.2.2.2.2.1
  have hmc' := F.2.2.2.2.2.2.2.2.2.2.2.1
  have hms' := F.2.2.2.2.2.2.2.2.2.2.2.2.1
  have htab := F.2.2.2.2.2.2.2.2.2.2.2.2.2 _ rfl
  have hE := F.2.2.2.2.2.1
  have hr := vx_runV (p := p) (l := l) (e := e) (R := R) (below := below) (meth := meth) (locs := locs) (cells := cs) (slots := ss) (H := H) (As := As.map (am_enc ad)) (b := ad g o) (rest := st.map (am_enc ad)) (g := F0 m pc ls ((As.reverse ++ am_r g o :: st).map (am_enc ad))) (C := y.cls) (own := own) (index := idx) (Ts := am_gT) (cc := cc) (nL := nL) (n := n9)
    ⟨F.1, F.2.1, F.2.2.1, F.2.2.2.1, hts⟩ (hM l lo ad D cA F.2.2.2.2.2.2.2.2.1) ⟨⟨rfl, rfl, Nat.le_trans hfr hfr', Nat.le_trans hlc hlc', am_pay hts y1, List.mem_cons_self, hts _ y1, hts _ y4, ⟨y5, y6⟩, (fun sig h => by rw [h] at y7; exact (Option.some.inj y7).symm), hts _ L⟩, hts _ y2, hts _ y3⟩
    ⟨am_blind _ _ _ _ _ _, by rw [← hcy]; exact va_recv F.2.2.2.2.2.1.1 hW.1 hcl he, fun U hU hw => ⟨rfl, by rw [hU]; exact hW, am_E_call F.2.2.2.2.2.1 hS hU hw⟩⟩ rfl (by rw [List.length_map]; exact hn) hL.1 (by simp only [List.map_append, List.map_cons, List.map_reverse]; rfl) (by rw [am_ct_sum]; exact Nat.le_trans (by show 2 * 0 + _ ≤ _; omega) hst) hd ⟨Nat.le_trans hcs9 hmc', Nat.le_trans hss9 hms'⟩
  intro T hT X
  rcases hr T hT X with ⟨v, st₀, t, T', L9, h0, X', hL9, f1, f2, ⟨⟨v9, h', hv9, hq, hw⟩, hz, hk⟩, stp⟩ | ⟨q, st₀, t, T', L9, E, ce, h0, X', hL9, f1, f2, ⟨ex, h', he3, rfl, hq, hw, hz, hk⟩, hce, hcv, hcE, stp⟩
  · have hv9 : v = v9.map (am_enc ad) := by cases hv9; rfl
    subst hv9
    rw [h0] at hz hk
    have hS1 : va_S (fun q => lo ≤ q) s.heap T'.heap (locs ++ L9) := ⟨Nat.le_trans hS.1 (by rw [f1]; exact hz), fun q h1 h2 => by rw [f1, hk q (Nat.lt_of_lt_of_le h1 hS.1) h2]; exact hS.2.1 q h1 h2, fun q hq => by
      rcases List.mem_append.mp hq with h | h
      · exact hS.2.2 q h
      · exact hL9 q h⟩
    obtain ⟨t2, a1, b1⟩ := kk v9 h' hq p l e R s m args below meth c lo ad D cA Z F K hcs9 hss9 T'.heap (locs ++ L9) ls (by rw [f1]; exact hw) hS1 hL T' rfl X'
    refine ⟨t2, stp t2 ?_, b1⟩
    have e3 : (v9.map (am_enc ad)).toList ++ st.map (am_enc ad) = (v9.toList ++ st).map (am_enc ad) := by cases v9 <;> simp
    rw [e3]
    exact a1
  · rw [h0] at hz hk
    have hS1 : va_S (fun q => lo ≤ q) s.heap T'.heap (locs ++ L9) := ⟨Nat.le_trans hS.1 (by rw [f1]; exact hz), fun q h1 h2 => by rw [f1, hk q (Nat.lt_of_lt_of_le h1 hS.1) h2]; exact hS.2.1 q h1 h2, fun q hq => by
      rcases List.mem_append.mp hq with h | h
      · exact hS.2.2 q h
      · exact hL9 q h⟩
    obtain ⟨hp, ⟨pre, x, suf, c1, c2, c3, c4, c5, c6, c7, c8⟩, kq⟩ := kx ex h' he3 hq
    rw [c1] at htab
    obtain ⟨tp, tx, tsf, d1, d2, d3⟩ := am_map_split _ _ _ _ _ htab
    have hcast : (Cond.castable (am_exn ex) (am_exn ex)).before args s = true := va_Nw.use rfl (hE.2.2.2.2.2.2.2.2.2.1 _ c8)
    have W1 : W p l e R s m args below meth c T'.heap (locs ++ L9) (cs + 1) (ss + 6) Z (F0 m tx.handlerPc ls [.ref q]) := by
      have := kq q p l e R s m args below meth c lo ad D cA Z F K hcs9 hss9 T'.heap (locs ++ L9) ls (by rw [f1]; exact hw) hS1 hL
      have e5 : tx.handlerPc = hp := by rw [← c5, ← d3]
      rw [e5]
      exact this
    have q9 : tx.catchType = x.2.2.2 := by rw [← d3]
    obtain ⟨t2, a1, b1⟩ := vx_catch (own := own) (name := am_exn ex) (E := am_exn ex) (ce := ce) (q := q) (pc := pc) (rest := st.map (am_enc ad)) F.2.2.2.1 tp tx tsf d1 (fun z hz9 => by
      have hm : (z.startPc, z.endPc, z.handlerPc, z.catchType) ∈ pre := by rw [← d2]; exact List.mem_map_of_mem hz9
      obtain ⟨z1, j, j1, j2, j3⟩ := c2 _ hm
      exact Or.inr ⟨z1, am_exn j, hts _ j3, hE.2.2.2.2.2.2.2.2.2.2.1 ex j he3 j1 (fun e => j2 e.symm)⟩)
      (by
        have q1 : tx.startPc = x.1 := by rw [← d3]
        have q2 : tx.endPc = x.2.1 := by rw [← d3]
        unfold covers
        rw [q1, q2, decide_eq_true c3, decide_eq_true c4]; rfl) (q9.symm ▸ c6) (q9.symm ▸ hts _ c7) hcast (by rw [f1]; exact hce) hcv hcE W1 T' rfl X'
    exact ⟨t2, stp.trans a1, b1⟩
/-- a static call of a method with a table -/
theorem ar_callSW {idx nLy n9 fr9 lc9 : Nat} {y : MethodName} {bs : ByteArray} {rety : Option FieldType} {hh : am_hh} {Q : Option am_v → am_H → Prop} {As : List am_v} (hd : decode cc pc = .ok (.invokestatic idx, 3)) (L : Cond.methodLink own idx y ∈ am_gT) (Y : am_cw y bs nLy rety hh n9) (hM : am_MW y bs nLy rety hh fr9 lc9 As h Q) (hn : As.length = n9) (hfr : fr9 + 1 ≤ fr) (hlc : 8 + (nLy + 11) + lc9 ≤ lc) (hcs9 : cs + 1 ≤ mc) (hss9 : ss + 6 ≤ ms) (hst : (st.map am_ct).sum ≤ 8) (kk : ∀ (r : Option am_v) (h9 : am_H), Q r h9 → am_V own cc nL ret fr lc mc ms tb Tm (cs + 1) (ss + 6) (pc + 3) A (r.toList ++ st) h9) : am_V own cc nL ret fr lc mc ms tb Tm cs ss pc A (As.reverse ++ st) h := by
  intro p l e R s m args below meth c lo ad D cA Z F K hc hcs H locs ls hW hS hL
  obtain ⟨y1, y2, y4, y5, y6, y7⟩ := Y
  have hts := F.2.2.2.2.1
  have hfr' := F.2.2.2.2.2.2.2.2.2.1
  have hlc' := F.2.2.2.2.2.2.2.2.2.2.1
  have hmc' := F.2.2.2.2.2.2.2.2.2.2.2.1
  have hms' := F.2.2.2.2.2.2.2.2.2.2.2.2.1
  have hgd : ∀ w ∈ Cond.codeWith y bs nLy rety hh :: am_gT, ∀ (a' : Array Value) (U : State), s.WarmedH U.vm → w.before a' U = true := pay_in hts (fun w hw => by
    have hm : w ∈ am_gT := by
      rcases List.mem_cons.mp hw with e | e
      · rw [e]; exact y1
      · exact e
    exact ⟨hm, good_of_word (List.mem_filter.mp hm).2⟩)
  have hr := vx_runSW (p := p) (l := l) (e := e) (R := R) (below := below) (meth := meth) (locs := locs) (cells := cs) (slots := ss) (H := H) (As := As.map (am_enc ad)) (rest := st.map (am_enc ad)) (g := F0 m pc ls ((As.reverse ++ st).map (am_enc ad))) (own := own) (index := idx) (Ts := am_gT) (cc := cc) (nL := nL) (n := n9)
    ⟨F.1, F.2.1, F.2.2.1, F.2.2.2.1, hts⟩ (hM l lo ad D cA F.2.2.2.2.2.2.2.2.1) (hh := hh) ⟨⟨rfl, rfl, Nat.le_trans hfr hfr', Nat.le_trans hlc hlc', hgd, List.mem_cons_self⟩, hts _ y1, hts _ y4, ⟨y5, y6⟩, (fun sig h => by rw [h] at y7; exact (Option.some.inj y7).symm), hts _ L, hts _ y2⟩
    ⟨am_blind _ _ _ _ _ _, fun U hU hw => ⟨rfl, by rw [hU]; exact hW, am_E_call F.2.2.2.2.2.1 hS hU hw⟩⟩ rfl (by rw [List.length_map]; exact hn) hL.1 (by simp only [List.map_append, List.map_reverse]) (by rw [am_ct_sum]; exact Nat.le_trans (by show 2 * 0 + _ ≤ _; omega) hst) hd ⟨Nat.le_trans hcs9 hmc', Nat.le_trans hss9 hms'⟩
  refine am_after hr hS (fun v h9 H1 locs1 q1 q2 q3 => ?_)
  have := kk v h9 q1 p l e R s m args below meth c lo ad D cA Z F K hcs9 hss9 H1 locs1 ls q2 q3 hL
  rw [List.map_append] at this
  exact this
theorem ar_astoreV {i : Nat} {q : Nat} {Aq : List (Option am_v)} (hd : decode cc pc = .ok (.astore i, 2)) (hi : i < A.length) (hn : i < nL) (hb : am_b4 A i) (hA : A.set i (some (.inl (.ref q))) = Aq) (k : am_V own cc nL ret fr lc mc ms tb Tm cs ss (pc + 2) (Aq) (st) h) : am_V own cc nL ret fr lc mc ms tb Tm cs ss (pc) (A) (.inl (.ref q) :: st) h := by
  intro p l e R s m args below meth c lo ad D cA Z F K hc hcs H locs ls hW hS hL
  subst hA
  obtain ⟨lv, h1, h2⟩ := hL.list
  exact lv_astore F.1 F.2.1 hd h1 hn rfl (fun ls' hl => k p l e R s m args below meth c lo ad D cA Z F K hc hcs H locs ls' hW hS (am_L.st1 (v := .inl (.ref q)) h2 hl hi hb))
theorem ar_astoreV_n {i : Nat} {f : Fin 4} {q : Nat} {Aq : List (Option am_v)} (hd : decode cc pc = .ok (.astore_n f, 1)) (hf : (f : Nat) = i) (hi : i < A.length) (hn : i < nL) (hb : am_b4 A i) (hA : A.set i (some (.inl (.ref q))) = Aq) (k : am_V own cc nL ret fr lc mc ms tb Tm cs ss (pc + 1) (Aq) (st) h) : am_V own cc nL ret fr lc mc ms tb Tm cs ss (pc) (A) (.inl (.ref q) :: st) h := by
  intro p l e R s m args below meth c lo ad D cA Z F K hc hcs H locs ls hW hS hL
  subst hA
  obtain ⟨lv, h1, h2⟩ := hL.list
  exact lv_astore_n F.1 F.2.1 hd hf h1 hn rfl (fun ls' hl => k p l e R s m args below meth c lo ad D cA Z F K hc hcs H locs ls' hW hS (am_L.st1 (v := .inl (.ref q)) h2 hl hi hb))
end AML
theorem am_dc (e : Nat) : Cond.castable (am_exn e) (am_exn e) ∈ am_dT := by
  match e with
  | 0 => decide +kernel
  | 1 => decide +kernel
  | n + 2 => show Cond.castable "java/lang/IndexOutOfBoundsException" "java/lang/IndexOutOfBoundsException" ∈ am_dT; decide +kernel
theorem am_lk0 : Cond.classLink RL 13 (am_exn 0) ∈ am_gT := by decide +kernel
theorem am_lk1 : Cond.classLink RL 19 (am_exn 1) ∈ am_gT := by decide +kernel
theorem am_lk2 : Cond.classLink RL 35 (am_exn 2) ∈ am_gT := by decide +kernel
/-- what a call that catches answers: out holds the answer; or which exception it was -/
def lw_ret (r : Option ((Int32 ⊕ Nat) × am_H)) (f : Nat → Option Int32) : Option (Int32 × am_H) := r.bind (fun q => match q.1 with
  | .inl v => some (iI 0, am_ul q.2 (.inl 1) 18 0 v.toInt64)
  | .inr e => (f e).bind (fun k => some (k, q.2)))
theorem lw_ret_v {r : Option ((Int32 ⊕ Nat) × am_H)} {f : Nat → Option Int32} {a : Int32 × am_H} (e : lw_ret r f = some a) : ∃ q, r = some q ∧ ((∃ v, q.1 = .inl v ∧ a = (iI 0, am_ul q.2 (.inl 1) 18 0 v.toInt64)) ∨ (∃ e k, q.1 = .inr e ∧ f e = some k ∧ a = (k, q.2))) := by
  unfold lw_ret at e
  cases r with
  | none => cases e
  | some q =>
    refine ⟨q, rfl, ?_⟩
    obtain ⟨q1, q2⟩ := q
    cases q1 with
    | inl v => exact Or.inl ⟨v, rfl, (Option.some.inj e).symm⟩
    | inr x =>
      refine Or.inr ⟨x, ?_⟩
      change (f x).bind (fun k => some (k, q2)) = some a at e
      cases hf : f x with
      | none => rw [hf] at e; cases e
      | some k => rw [hf] at e; exact ⟨k, rfl, rfl, (Option.some.inj e).symm⟩
