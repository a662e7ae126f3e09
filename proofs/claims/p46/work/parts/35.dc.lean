/-! rows are copied; methods are called -/
theorem am_wsys : (Cond.native arraycopyName ∈ am_gT ∧ Cond.static arraycopyName ∈ am_gT) ∧ Cond.initialized "java/lang/System" ∈ am_gT := by decide +kernel
def dm_nfw : Nat := nativeFrameWords "java/lang/System" "arraycopy" 5 + 11
theorem am_goodL {l : List Cond} (h : ∀ w ∈ l, w ∈ am_gT) : GoodIn am_gT l := fun w hw => ⟨h w hw, good_of_word (List.mem_filter.mp (h w hw)).2⟩
section DMC
variable {own nm : String} {cc : ByteArray} {nL : Nat} {ret : Option FieldType} {fr lc k0 : Nat} {X : dm_X} {Tm : Nat → List am_v → am_H → dm_D → Prop} {pc : Nat} {A : List (Option am_v)} {st : List am_v} {h : am_H} {d : dm_D}
theorem dr_copyB {q w : am_G × Nat} {idx : Nat} {sp dp n : Int32} {d' : dm_D} (hd : decode cc pc = .ok (.invokestatic idx, 3)) (w1 : Cond.methodLink own idx arraycopyName ∈ am_gT) (hfr : Nat.ble 1 fr = true) (hlc : Nat.ble (8 + dm_nfw) lc = true) (hst : Nat.ble (st.map am_ct).sum 8 = true) (e : dm_cb d q sp w dp n = some d') (kk : dm_V own nm cc nL ret fr lc k0 X Tm (pc + 3) A st h d') : dm_V own nm cc nL ret fr lc k0 X Tm pc A (am_i n :: am_i dp :: .inr w :: am_i sp :: .inr q :: st) h d := by
  intro p l e9 R s m args below meth c ad D cA Z F K cs ss H locs ls hW hS hz hL
  have hts := F.2.2.2.2.1
  have hE := F.2.2.2.2.2.1.1
  have hK := hE.1
  have ha := F.2.2.2.2.2.2.2.2.1
  have hfr9 := F.2.2.2.2.2.2.2.2.2.2.1
  have hlc9 := F.2.2.2.2.2.2.2.2.2.2.2.1
  have hfr := Nat.le_of_ble_eq_true hfr
  have hlc := Nat.le_of_ble_eq_true hlc
  have hst := Nat.le_of_ble_eq_true hst
  have hl9 : ((st.map (am_enc ad)).map fun v => v.category).sum + dm_nfw ≤ R.locals := by rw [am_ct_sum]; omega
  obtain ⟨⟨n0, f⟩, e1, e5⟩ := bd_some e
  obtain ⟨⟨j, t, n1, g⟩, e2, e6⟩ := bd_some e5
  obtain ⟨⟨ht, ⟨h1, h2, h3⟩, ⟨h4, h5⟩, h6⟩, e7⟩ := if_some e6
  clear e e5 e6
  have ht : t = 1 := ht
  subst ht
  cases e7
  obtain ⟨rfl, hj, hc⟩ := dm_ar_some e2
  have he := dm_ws_at ad cA h d hj
  rw [hc] at he
  refine W_exact (fun c2 s2 z1 z2 _ _ => ?_)
  have fin9 : ∀ (H1 : Heap) (locs1 : List Loc), va_P D vwCl ((dm_ws ad cA h d).set j (ad (.inl 0) j, .inl (cA 1, n1, .inl (va_cpy f g sp.toNatClampNeg dp.toNatClampNeg n.toNatClampNeg)))) H1 → va_S (dm_lo ad) s.heap H1 locs1 → W p l e9 R s m args below meth c H1 locs1 c2 s2 Z (F0 m (pc + 3) ls (st.map (am_enc ad))) := by
    intro H1 locs1 p1 p3
    have e3 : (dm_ws ad cA h d).set j (ad (.inl 0) j, .inl (cA 1, n1, .inl (va_cpy f g sp.toNatClampNeg dp.toNatClampNeg n.toNatClampNeg))) = dm_ws ad cA h (dm_se d j (.inr (.inl (1, n1, va_cpy f g sp.toNatClampNeg dp.toNatClampNeg n.toNatClampNeg)))) := dm_ws_se (ad := ad) (cA := cA) (h := h) (c := (.inr (.inl (1, n1, va_cpy f g sp.toNatClampNeg dp.toNatClampNeg n.toNatClampNeg)))) hj
    rw [e3] at p1
    refine hsz_le (fun y1 y2 => ?_)
    exact kk p l e9 R s m args below meth c ad D cA Z F K c2 s2 H1 locs1 ls ⟨p1, dm_keep (d := dm_se d j (.inr (.inl (1, n1, va_cpy f g sp.toNatClampNeg dp.toNatClampNeg n.toNatClampNeg)))) ha hj p1 hW.2.1 (by omega), hW.2.2.1, dm_hole hW (fun g z => by cases z)⟩ p3 (by show hsz H1 + k0 ≤ hsz s.heap + d.2.1; omega) hL
  rcases dm_or_some e1 with e1 | ⟨-, e1⟩
  · obtain ⟨⟨i, t, n0', f'⟩, e4, e5⟩ := bd_some e1
    obtain ⟨ht, e6⟩ := if_some e5
    clear e1 e5
    have ht : t = 1 := ht
    subst ht
    cases e6
    obtain ⟨rfl, hi, hci⟩ := dm_ar_some e4
    have hei := dm_ws_at ad cA h d hi
    rw [hci] at hei
    exact va_copyi F.1 F.2.1 (F.2.2.1.trans hL.1.symm) F.2.2.2.1 (hts _ w1) (hts _ am_wsys.1.1) (hts _ am_wsys.1.2) (hts _ am_wsys.2) hK hW.1 (dm_ws_D ha) hS i j 1 1 hei he rfl rfl rfl h1 h2 h3 h4 h5 h6 (Nat.le_trans hfr hfr9) hl9 hd (fun H1 locs1 p1 p2 p3 => fin9 H1 locs1 p1 p3)
  · obtain ⟨e11, e12, e13, e16, e17, e18, e19⟩ := hE
    match q, e1 with
    | (.inl 3, t), e1 =>
      obtain ⟨ht, e5⟩ := if_some (show (if t < 22 then some ((am_tx t).length, fun j => (am_tx t).getD j 0) else none) = some (n0, f) from e1)
      clear e1
      cases e5
      obtain ⟨s1, s2⟩ := am_sl_at (Nat.blt_eq.mpr ht)
      have hX := (e16.1 t ht).2.2.2
      rw [s1, s2] at hX
      exact vk_copyt F.1 F.2.1 (F.2.2.1.trans hL.1.symm) F.2.2.2.1 (hts _ w1) (hts _ am_wsys.1.1) (hts _ am_wsys.1.2) (hts _ am_wsys.2) hK hW.1 (dm_ws_D ha) hS hX j 1 he rfl h1 h2 h3 h4 h5 h6 (Nat.le_trans hfr hfr9) hl9 hd (fun H1 locs1 p1 p2 p3 => fin9 H1 locs1 p1 p3)
theorem dr_copyR {q w : am_G × Nat} {idx : Nat} {sp dp n : Int32} {d' : dm_D} (hd : decode cc pc = .ok (.invokestatic idx, 3)) (w1 : Cond.methodLink own idx arraycopyName ∈ am_gT) (hfr : Nat.ble 1 fr = true) (hlc : Nat.ble (8 + dm_nfw) lc = true) (hst : Nat.ble (st.map am_ct).sum 8 = true) (e : dm_cr d q sp w dp n = some d') (kk : dm_V own nm cc nL ret fr lc k0 X Tm (pc + 3) A st h d') : dm_V own nm cc nL ret fr lc k0 X Tm pc A (am_i n :: am_i dp :: .inr w :: am_i sp :: .inr q :: st) h d := by
  intro p l e9 R s m args below meth c ad D cA Z F K cs ss H locs ls hW hS hz hL
  have hts := F.2.2.2.2.1
  have hE := F.2.2.2.2.2.1.1
  have hK := hE.1
  have ha := F.2.2.2.2.2.2.2.2.1
  obtain ⟨x0, x1, x2, x3, x4, x5, x6, x7, x13, x14⟩ := F.2.2.2.2.2.1
  have hfr9 := F.2.2.2.2.2.2.2.2.2.2.1
  have hlc9 := F.2.2.2.2.2.2.2.2.2.2.2.1
  have hfr := Nat.le_of_ble_eq_true hfr
  have hlc := Nat.le_of_ble_eq_true hlc
  have hst := Nat.le_of_ble_eq_true hst
  have hl9 : ((st.map (am_enc ad)).map fun v => v.category).sum + dm_nfw ≤ R.locals := by rw [am_ct_sum]; omega
  obtain ⟨⟨i, n0, f⟩, e1, e5⟩ := bd_some e
  obtain ⟨⟨j, n1, g⟩, e2, e6⟩ := bd_some e5
  obtain ⟨⟨⟨h1, h2, h3⟩, ⟨h4, h5⟩, h6⟩, e7⟩ := @if_some _ _ (Classical.propDecidable _) _ _ e6
  clear e e5 e6
  cases e7
  obtain ⟨rfl, hi, hci⟩ := dm_rr_some e1
  obtain ⟨rfl, hj, hc⟩ := dm_rr_some e2
  have he := dm_ws_at ad cA h d hj
  rw [hc] at he
  have hei := dm_ws_at ad cA h d hi
  rw [hci] at hei
  refine W_exact (fun c2 s2 z1 z2 _ _ => ?_)
  refine va_copyq (C := "[I") F.1 F.2.1 (F.2.2.1.trans hL.1.symm) F.2.2.2.1 (hts _ w1) (hts _ am_wsys.1.1) (hts _ am_wsys.1.2) (hts _ am_wsys.2) hK hW.1 (dm_ws_D ha) hS i j 3 3 hei he rfl rfl h1 h2 h3 h4 h5 (fun k hk y hy => ?_) (vb_asgC x13.1) (Nat.le_trans hfr hfr9) hl9 hd (fun H1 locs1 p1 p2 p3 => ?_)
  · have hy : (f (sp.toNatClampNeg + k)).map (ad (.inl 0)) = some y := hy
    cases hf : f (sp.toNatClampNeg + k) with
    | none => rw [hf] at hy; cases hy
    | some b =>
      rw [hf] at hy
      cases hy
      obtain ⟨mm, gg, e5⟩ := h6 k hk b hf
      obtain ⟨-, hb, hcb⟩ := dm_ar_some e5
      exact dm_rcI hK hW.1 hb hcb
  · have e4 : va_cpy (fun k => (f k).map (ad (.inl 0))) (fun k => (g k).map (ad (.inl 0))) sp.toNatClampNeg dp.toNatClampNeg n.toNatClampNeg = fun k => (va_cpy f g sp.toNatClampNeg dp.toNatClampNeg n.toNatClampNeg k).map (ad (.inl 0)) := by
      funext k
      unfold va_cpy
      split <;> rfl
    rw [e4] at p1
    have e3 : (dm_ws ad cA h d).set j (ad (.inl 0) j, .inl (cA 3, n1, .inr (.inr (.inr (.inr (fun k => (va_cpy f g sp.toNatClampNeg dp.toNatClampNeg n.toNatClampNeg k).map (ad (.inl 0)))))))) = dm_ws ad cA h (dm_se d j (.inr (.inr (.inl (n1, va_cpy f g sp.toNatClampNeg dp.toNatClampNeg n.toNatClampNeg))))) := dm_ws_se (ad := ad) (cA := cA) (h := h) (c := (.inr (.inr (.inl (n1, va_cpy f g sp.toNatClampNeg dp.toNatClampNeg n.toNatClampNeg))))) hj
    rw [e3] at p1
    refine hsz_le (fun y1 y2 => ?_)
    exact kk p l e9 R s m args below meth c ad D cA Z F K c2 s2 H1 locs1 ls ⟨p1, dm_keep (d := dm_se d j (.inr (.inr (.inl (n1, va_cpy f g sp.toNatClampNeg dp.toNatClampNeg n.toNatClampNeg))))) ha hj p1 hW.2.1 (by omega), hW.2.2.1, dm_hole hW (fun g z => by cases z)⟩ p3 (by show hsz H1 + k0 ≤ hsz s.heap + d.2.1; omega) hL
/-- Object's own constructor -/
theorem dr_objI {q : am_G × Nat} {idx : Nat} (hd : decode cc pc = .ok (.invokespecial idx, 3)) (w1 : Cond.methodLink own idx Lib.objectInit ∈ am_gT) (w2 : Cond.instanceMethod Lib.objectInit ∈ am_gT) (w3 : Cond.code Lib.objectInit ⟨#[0xb1]⟩ 1 none ∈ am_gT) (hfr : Nat.ble 1 fr = true) (hlc : Nat.ble 20 lc = true) (hst : Nat.ble (st.map am_ct).sum 8 = true) (kk : dm_V own nm cc nL ret fr lc k0 X Tm (pc + 3) A st h d) : dm_V own nm cc nL ret fr lc k0 X Tm pc A (.inr q :: st) h d := by
  intro p l e9 R s m args below meth c ad D cA Z F K cs ss H locs ls hW hS hz hL
  have hts := F.2.2.2.2.1
  have hfr9 := F.2.2.2.2.2.2.2.2.2.2.1
  have hlc9 := F.2.2.2.2.2.2.2.2.2.2.2.1
  have hfr := Nat.le_of_ble_eq_true hfr
  have hlc := Nat.le_of_ble_eq_true hlc
  have hst := Nat.le_of_ble_eq_true hst
  refine W.objInit F.1 F.2.1 F.2.2.2.1 (hts _ w1) (hts _ w2) (hts _ w3) rfl (hL.1.trans F.2.2.1.symm) rfl hd (Nat.le_trans hfr hfr9) ?_ (kk p l e9 R s m args below meth c ad D cA Z F K cs ss H locs ls hW hS hz hL)
  show 2 * 0 + ((st.map (am_enc ad)).map fun v => v.category).sum + 12 ≤ R.locals
  rw [am_ct_sum]
  omega
/-- what stands before a call -/
theorem dm_pre {as : List am_v} {s : State} {ad : am_G → Nat → Nat} {D : va_G} {cA : Nat → ClassId} {H : Heap} {locs : List Loc} (hE : dm_E X ad D cA s) (hW : dm_WH ad D cA h d H) (hS : va_S (dm_lo ad) s.heap H locs) : ∀ U : State, U.heap = H → s.WarmedH U.vm → dm_Pc X as h d ad D cA (as.map (am_enc ad)).toArray U := fun U hU hw => ⟨rfl, by rw [hU]; exact hW, dm_E_call hE hS hU hw⟩
/-- a receiver's class -/
def dm_isc (d : dm_D) (q : am_G × Nat) (ci : Nat) : Prop := (∃ o, dm_ob d q = some o ∧ o.2.1 = ci) ∨ (ci = 13 ∧ ∃ t, t < 22 ∧ q = (.inl 2, t))
theorem dm_recv {q : am_G × Nat} {ci : Nat} {C : vw_C} {s : State} {ad : am_G → Nat → Nat} {D : va_G} {cA : Nat → ClassId} {H : Heap} {locs : List Loc} (hE : dm_E X ad D cA s) (hW : dm_WH ad D cA h d H) (hS : va_S (dm_lo ad) s.heap H locs) (hq : dm_isc d q ci) (hcl : vwCl[ci]? = some C) : ∃ cell : Cell, H[ad q.1 q.2]? = some cell ∧ cell.vm.isStatics = false ∧ s.vm.findClass C.1 = some cell.cls := by
  rcases hq with ⟨⟨i, cj, fs⟩, e, hcj⟩ | ⟨rfl, t, ht, rfl⟩
  · have hcj : cj = ci := hcj
    subst hcj
    obtain ⟨rfl, hi, hc⟩ := dm_ob_some e
    have he := dm_ws_at ad cA h d hi
    rw [hc] at he
    exact va_recv hE.1.1 hW.1 hcl he
  · cases hcl
    exact vk_recv hE.1.2.2.2.1 ht hS
theorem dm_rd {fr9 lc9 cs k1 : Nat} {R : Room} {p : Program} {l : Launch} {s : State} {m : MethodId} {args : Array Value} {meth : Method} {c : Code} {ad : am_G → Nat → Nat} {D : va_G} {cA : Nat → ClassId} (F : dm_F own nm cc nL ret fr lc k0 X p l R s m args meth c ad D cA) (z : cs + k0 ≤ k1) (hk : k1 ≤ dm_L) : cs + (dm_L - k1) ≤ R.cells ∧ cs + (dm_L - k1) ≤ R.slots := by
  have h1 := F.2.2.2.2.2.2.2.2.2.2.2.2.1
  have h2 := F.2.2.2.2.2.2.2.2.2.2.2.2.2.1
  omega
/-- a call of a static method -/
theorem dr_callS {idx nLy n9 fr9 lc9 : Nat} {y : MethodName} {bs : ByteArray} {rety : Option FieldType} {Q : Option am_v → am_H → dm_D → Prop} {As : List am_v} (hd : decode cc pc = .ok (.invokestatic idx, 3)) (L : Cond.methodLink own idx y ∈ am_gT) (Y : am_cs y bs nLy rety n9) (hM : dm_M X y bs nLy rety fr9 lc9 As h d Q) (hn : As.length = n9) (hfr : Nat.ble (fr9 + 1) fr = true) (hlc : Nat.ble (8 + (nLy + 11) + lc9) lc = true) (hst : Nat.ble (st.map am_ct).sum 8 = true) (kk : ∀ (r : Option am_v) (h9 : am_H) (d9 : dm_D), Q r h9 d9 → dm_V own nm cc nL ret fr lc k0 X Tm (pc + 3) A (r.toList ++ st) h9 d9) : dm_V own nm cc nL ret fr lc k0 X Tm pc A (As.reverse ++ st) h d := by
  intro p l e9 R s m args below meth c ad D cA Z F K cs ss H locs ls hW hS hz hL
  obtain ⟨y1, y2, y4, y5, y6, y7⟩ := Y
  have hts := F.2.2.2.2.1
  have hfr' := F.2.2.2.2.2.2.2.2.2.2.1
  have hlc' := F.2.2.2.2.2.2.2.2.2.2.2.1
  have hfr := Nat.le_of_ble_eq_true hfr
  have hlc := Nat.le_of_ble_eq_true hlc
  have hst := Nat.le_of_ble_eq_true hst
  have hk1 := hW.2.2.1
  refine W_exact (fun c2 s2 z1 z2 _ _ => ?_)
  have b1 := dm_rd (fr9 := 0) (lc9 := 0) (cs := c2) (k1 := d.2.1) F (by omega) hk1
  have b2 := dm_rd (fr9 := 0) (lc9 := 0) (cs := s2) (k1 := d.2.1) F (by omega) hk1
  have hr := va_runS (p := p) (l := l) (e := e9) (R := R) (below := below) (meth := meth) (locs := locs) (cells := c2) (slots := s2) (H := H) (As := As.map (am_enc ad)) (rest := st.map (am_enc ad)) (g := F0 m pc ls ((As.reverse ++ st).map (am_enc ad))) (own := own) (index := idx) (Ts := am_gT) (cc := cc) (nL := nL) (n := n9)
    ⟨F.1, F.2.1, F.2.2.1, F.2.2.2.1, hts⟩ (hM l ad D cA F.2.2.2.2.2.2.2.2.1 F.2.2.2.2.2.2.2.2.2.2.2.2.2.2) ⟨⟨rfl, rfl, Nat.le_trans hfr hfr', Nat.le_trans hlc hlc', am_pay hts y1, List.mem_cons_self, hts _ y1, hts _ y4, ⟨y5, y6⟩, (fun sig h => by rw [h] at y7; exact (Option.some.inj y7).symm), hts _ L⟩, hts _ y2⟩
    ⟨dm_blind _ _ _ _ _ _ _, dm_pre F.2.2.2.2.2.1 hW hS⟩ rfl (by rw [List.length_map]; exact hn) hL.1 (by simp only [List.map_append, List.map_reverse]) (by rw [am_ct_sum]; exact Nat.le_trans (by show 2 * 0 + _ ≤ _; omega) hst) hd ⟨b1.1, b2.2⟩
  exact dm_after (len := 3) F K hS hz hL kk (fun T hT X9 => by
    obtain ⟨v, st₀, t, T', L9, a1, a2, a3, a4, a5, a6, a7⟩ := hr T hT X9
    exact ⟨v, st₀, t, T', L9, a1, a2, a3, a4, a6, a7⟩)
/-- .. of a nest mate -/
theorem dr_callN {idx nLy n9 fr9 lc9 : Nat} {y : MethodName} {bs : ByteArray} {rety : Option FieldType} {Q : Option am_v → am_H → dm_D → Prop} {As : List am_v} {host : String} (hd : decode cc pc = .ok (.invokestatic idx, 3)) (L : Cond.methodLinkNest own idx y host ∈ am_nT) (Y : am_cs y bs nLy rety n9) (hM : dm_M X y bs nLy rety fr9 lc9 As h d Q) (hn : As.length = n9) (hfr : Nat.ble (fr9 + 1) fr = true) (hlc : Nat.ble (8 + (nLy + 11) + lc9) lc = true) (hst : Nat.ble (st.map am_ct).sum 8 = true) (kk : ∀ (r : Option am_v) (h9 : am_H) (d9 : dm_D), Q r h9 d9 → dm_V own nm cc nL ret fr lc k0 X Tm (pc + 3) A (r.toList ++ st) h9 d9) : dm_V own nm cc nL ret fr lc k0 X Tm pc A (As.reverse ++ st) h d := by
  intro p l e9 R s m args below meth c ad D cA Z F K cs ss H locs ls hW hS hz hL
  obtain ⟨y1, y2, y4, y5, y6, y7⟩ := Y
  have hts := F.2.2.2.2.1
  have hfr' := F.2.2.2.2.2.2.2.2.2.2.1
  have hlc' := F.2.2.2.2.2.2.2.2.2.2.2.1
  have hfr := Nat.le_of_ble_eq_true hfr
  have hlc := Nat.le_of_ble_eq_true hlc
  have hst := Nat.le_of_ble_eq_true hst
  have hk1 := hW.2.2.1
  have hME := hM l ad D cA F.2.2.2.2.2.2.2.2.1 F.2.2.2.2.2.2.2.2.2.2.2.2.2.2
  have hstk : 2 * 0 + ((st.map (am_enc ad)).map fun v => v.category).sum ≤ 8 := by rw [am_ct_sum]; omega
  refine W_exact (fun c2 s2 z1 z2 _ _ => ?_)
  have b1 := dm_rd (fr9 := 0) (lc9 := 0) (cs := c2) (k1 := d.2.1) F (by omega) hk1
  have b2 := dm_rd (fr9 := 0) (lc9 := 0) (cs := s2) (k1 := d.2.1) F (by omega) hk1
  have hr := va_runSN (p := p) (l := l) (e := e9) (R := R) (below := below) (meth := meth) (locs := locs) (cells := c2) (slots := s2) (H := H) (As := As.map (am_enc ad)) (rest := st.map (am_enc ad)) (g := F0 m pc ls ((As.reverse ++ st).map (am_enc ad))) (own := own) (index := idx) (Ts := am_gT) (cc := cc) (nL := nL) (n := n9) (host := host)
    ⟨F.1, F.2.1, F.2.2.1, F.2.2.2.1, hts⟩ hME ⟨⟨⟨rfl, rfl, Nat.le_trans hfr hfr', Nat.le_trans hlc hlc', am_pay hts y1, List.mem_cons_self⟩, hts _ y1, hts _ y4, ⟨y5, y6⟩, (fun sig h => by rw [h] at y7; exact (Option.some.inj y7).symm), am_nest_use L F.2.2.2.2.2.1.1.2.1⟩, hts _ y2, trivial⟩
    ⟨dm_blind _ _ _ _ _ _ _, dm_pre F.2.2.2.2.2.1 hW hS⟩ rfl (by rw [List.length_map]; exact hn) hL.1 (by simp only [List.map_append, List.map_reverse]) hstk hd ⟨b1.1, b2.2⟩
  exact dm_after (len := 3) F K hS hz hL kk (fun T hT X9 => by
    obtain ⟨v, st₀, t, T', L9, a1, a2, a3, a4, a5, a6, a7⟩ := hr T hT X9
    exact ⟨v, st₀, t, T', L9, a1, a2, a3, a4, a6, a7⟩)
/-- of an object of its class -/
theorem dr_callV {idx nLy n9 fr9 lc9 : Nat} {y : MethodName} {bs : ByteArray} {rety : Option FieldType} {Q : Option am_v → am_H → dm_D → Prop} {As : List am_v} {q : am_G × Nat} {ci : Nat} {C : vw_C} (hd : decode cc pc = .ok (.invokevirtual idx, 3)) (L : Cond.methodLink own idx y ∈ am_gT) (Y : am_cv y bs nLy rety n9) (hM : dm_M X y bs nLy rety fr9 lc9 (.inr q :: As) h d Q) (hq : dm_isc d q ci) (hcl : vwCl[ci]? = some C) (hcy : C.1 = y.cls) (hn : As.length = n9) (hfr : Nat.ble (fr9 + 1) fr = true) (hlc : Nat.ble (8 + (nLy + 11) + lc9) lc = true) (hst : Nat.ble (st.map am_ct).sum 8 = true) (kk : ∀ (r : Option am_v) (h9 : am_H) (d9 : dm_D), Q r h9 d9 → dm_V own nm cc nL ret fr lc k0 X Tm (pc + 3) A (r.toList ++ st) h9 d9) : dm_V own nm cc nL ret fr lc k0 X Tm pc A (As.reverse ++ .inr q :: st) h d := by
  intro p l e9 R s m args below meth c ad D cA Z F K cs ss H locs ls hW hS hz hL
  obtain ⟨y1, y2, y3, y4, y5, y6, y7⟩ := Y
  have hts := F.2.2.2.2.1
  have hfr' := F.2.2.2.2.2.2.2.2.2.2.1
  have hlc' := F.2.2.2.2.2.2.2.2.2.2.2.1
  have hfr := Nat.le_of_ble_eq_true hfr
  have hlc := Nat.le_of_ble_eq_true hlc
  have hst := Nat.le_of_ble_eq_true hst
  have hk1 := hW.2.2.1
  have hME := hM l ad D cA F.2.2.2.2.2.2.2.2.1 F.2.2.2.2.2.2.2.2.2.2.2.2.2.2
  have hstk : 2 * 0 + ((st.map (am_enc ad)).map fun v => v.category).sum ≤ 8 := by rw [am_ct_sum]; omega
  refine W_exact (fun c2 s2 z1 z2 _ _ => ?_)
  have b1 := dm_rd (fr9 := 0) (lc9 := 0) (cs := c2) (k1 := d.2.1) F (by omega) hk1
  have b2 := dm_rd (fr9 := 0) (lc9 := 0) (cs := s2) (k1 := d.2.1) F (by omega) hk1
  have hr := va_runV (p := p) (l := l) (e := e9) (R := R) (below := below) (meth := meth) (locs := locs) (cells := c2) (slots := s2) (H := H) (As := As.map (am_enc ad)) (rest := st.map (am_enc ad)) (g := F0 m pc ls ((As.reverse ++ .inr q :: st).map (am_enc ad))) (own := own) (index := idx) (Ts := am_gT) (cc := cc) (nL := nL) (n := n9) (b := ad q.1 q.2) (C := y.cls)
    ⟨F.1, F.2.1, F.2.2.1, F.2.2.2.1, hts⟩ hME ⟨⟨rfl, rfl, Nat.le_trans hfr hfr', Nat.le_trans hlc hlc', am_pay hts y1, List.mem_cons_self, hts _ y1, hts _ y4, ⟨y5, y6⟩, (fun sig h => by rw [h] at y7; exact (Option.some.inj y7).symm), hts _ L⟩, hts _ y2, hts _ y3⟩
    ⟨dm_blind _ _ _ _ _ _ _, (by rw [← hcy]; exact dm_recv F.2.2.2.2.2.1 hW hS hq hcl), dm_pre (as := .inr q :: As) F.2.2.2.2.2.1 hW hS⟩ rfl (by rw [List.length_map]; exact hn) hL.1 (by simp only [List.map_append, List.map_cons, List.map_reverse]; rfl) hstk hd ⟨b1.1, b2.2⟩
  exact dm_after (len := 3) F K hS hz hL kk (fun T hT X9 => by
    obtain ⟨v, st₀, t, T', L9, a1, a2, a3, a4, a5, a6, a7⟩ := hr T hT X9
    exact ⟨v, st₀, t, T', L9, a1, a2, a3, a4, a6, a7⟩)
/-- .. of a nest mate -/
theorem dr_callVN {idx nLy n9 fr9 lc9 : Nat} {y : MethodName} {bs : ByteArray} {rety : Option FieldType} {Q : Option am_v → am_H → dm_D → Prop} {As : List am_v} {q : am_G × Nat} {ci : Nat} {C : vw_C} {host : String} (hd : decode cc pc = .ok (.invokevirtual idx, 3)) (L : Cond.methodLinkNest own idx y host ∈ am_nT) (Y : am_cv y bs nLy rety n9) (hM : dm_M X y bs nLy rety fr9 lc9 (.inr q :: As) h d Q) (hq : dm_isc d q ci) (hcl : vwCl[ci]? = some C) (hcy : C.1 = y.cls) (hn : As.length = n9) (hfr : Nat.ble (fr9 + 1) fr = true) (hlc : Nat.ble (8 + (nLy + 11) + lc9) lc = true) (hst : Nat.ble (st.map am_ct).sum 8 = true) (kk : ∀ (r : Option am_v) (h9 : am_H) (d9 : dm_D), Q r h9 d9 → dm_V own nm cc nL ret fr lc k0 X Tm (pc + 3) A (r.toList ++ st) h9 d9) : dm_V own nm cc nL ret fr lc k0 X Tm pc A (As.reverse ++ .inr q :: st) h d := by
  intro p l e9 R s m args below meth c ad D cA Z F K cs ss H locs ls hW hS hz hL
  obtain ⟨y1, y2, y3, y4, y5, y6, y7⟩ := Y
  have hts := F.2.2.2.2.1
  have hfr' := F.2.2.2.2.2.2.2.2.2.2.1
  have hlc' := F.2.2.2.2.2.2.2.2.2.2.2.1
  have hfr := Nat.le_of_ble_eq_true hfr
  have hlc := Nat.le_of_ble_eq_true hlc
  have hst := Nat.le_of_ble_eq_true hst
  have hk1 := hW.2.2.1
  have hME := hM l ad D cA F.2.2.2.2.2.2.2.2.1 F.2.2.2.2.2.2.2.2.2.2.2.2.2.2
  have hstk : 2 * 0 + ((st.map (am_enc ad)).map fun v => v.category).sum ≤ 8 := by rw [am_ct_sum]; omega
  refine W_exact (fun c2 s2 z1 z2 _ _ => ?_)
  have b1 := dm_rd (fr9 := 0) (lc9 := 0) (cs := c2) (k1 := d.2.1) F (by omega) hk1
  have b2 := dm_rd (fr9 := 0) (lc9 := 0) (cs := s2) (k1 := d.2.1) F (by omega) hk1
  have hr := va_runVN (p := p) (l := l) (e := e9) (R := R) (below := below) (meth := meth) (locs := locs) (cells := c2) (slots := s2) (H := H) (As := As.map (am_enc ad)) (rest := st.map (am_enc ad)) (g := F0 m pc ls ((As.reverse ++ .inr q :: st).map (am_enc ad))) (own := own) (index := idx) (Ts := am_gT) (cc := cc) (nL := nL) (n := n9) (b := ad q.1 q.2) (C := y.cls) (host := host)
    ⟨F.1, F.2.1, F.2.2.1, F.2.2.2.1, hts⟩ hME ⟨⟨⟨rfl, rfl, Nat.le_trans hfr hfr', Nat.le_trans hlc hlc', am_pay hts y1, List.mem_cons_self⟩, hts _ y1, hts _ y4, ⟨y5, y6⟩, (fun sig h => by rw [h] at y7; exact (Option.some.inj y7).symm), am_nest_use L F.2.2.2.2.2.1.1.2.1⟩, hts _ y2, hts _ y3⟩
    ⟨dm_blind _ _ _ _ _ _ _, (by rw [← hcy]; exact dm_recv F.2.2.2.2.2.1 hW hS hq hcl), dm_pre (as := .inr q :: As) F.2.2.2.2.2.1 hW hS⟩ rfl (by rw [List.length_map]; exact hn) hL.1 (by simp only [List.map_append, List.map_cons, List.map_reverse]; rfl) hstk hd ⟨b1.1, b2.2⟩
  exact dm_after (len := 3) F K hS hz hL kk (fun T hT X9 => by
    obtain ⟨v, st₀, t, T', L9, a1, a2, a3, a4, a5, a6, a7⟩ := hr T hT X9
    exact ⟨v, st₀, t, T', L9, a1, a2, a3, a4, a6, a7⟩)
/-- of an object of a class that extends its own -/
theorem dr_callU {idx nLy n9 fr9 lc9 : Nat} {y : MethodName} {bs : ByteArray} {rety : Option FieldType} {Q : Option am_v → am_H → dm_D → Prop} {As : List am_v} {q : am_G × Nat} {ci : Nat} {C : vw_C} (hd : decode cc pc = .ok (.invokevirtual idx, 3)) (L : Cond.methodLink own idx y ∈ am_gT) (Y : am_cu C.1 y bs nLy rety n9) (hM : dm_M X y bs nLy rety fr9 lc9 (.inr q :: As) h d Q) (hq : dm_isc d q ci) (hcl : vwCl[ci]? = some C) (hn : As.length = n9) (hfr : Nat.ble (fr9 + 1) fr = true) (hlc : Nat.ble (8 + (nLy + 11) + lc9) lc = true) (hst : Nat.ble (st.map am_ct).sum 8 = true) (kk : ∀ (r : Option am_v) (h9 : am_H) (d9 : dm_D), Q r h9 d9 → dm_V own nm cc nL ret fr lc k0 X Tm (pc + 3) A (r.toList ++ st) h9 d9) : dm_V own nm cc nL ret fr lc k0 X Tm pc A (As.reverse ++ .inr q :: st) h d := by
  intro p l e9 R s m args below meth c ad D cA Z F K cs ss H locs ls hW hS hz hL
  obtain ⟨y1, y2, y3, y4, y5, y6, y7, y8⟩ := Y
  have hts := F.2.2.2.2.1
  have hfr' := F.2.2.2.2.2.2.2.2.2.2.1
  have hlc' := F.2.2.2.2.2.2.2.2.2.2.2.1
  have hfr := Nat.le_of_ble_eq_true hfr
  have hlc := Nat.le_of_ble_eq_true hlc
  have hst := Nat.le_of_ble_eq_true hst
  have hk1 := hW.2.2.1
  have hME := hM l ad D cA F.2.2.2.2.2.2.2.2.1 F.2.2.2.2.2.2.2.2.2.2.2.2.2.2
  have hstk : 2 * 0 + ((st.map (am_enc ad)).map fun v => v.category).sum ≤ 8 := by rw [am_ct_sum]; omega
  refine W_exact (fun c2 s2 z1 z2 _ _ => ?_)
  have b1 := dm_rd (fr9 := 0) (lc9 := 0) (cs := c2) (k1 := d.2.1) F (by omega) hk1
  have b2 := dm_rd (fr9 := 0) (lc9 := 0) (cs := s2) (k1 := d.2.1) F (by omega) hk1
  have hgd : GoodIn am_gT (va_wsU own idx C.1 y.cls y y (.code y bs nLy rety :: am_gT)) := am_goodL (fun w hw => by
    rcases List.mem_append.mp hw with hw | hw
    · simp only [List.mem_cons, List.not_mem_nil, or_false] at hw
      rcases hw with rfl | rfl | rfl | rfl | rfl <;> assumption
    · rcases List.mem_cons.mp hw with rfl | hw
      · exact y1
      · exact hw)
  have hr := va_runU (p := p) (l := l) (e := e9) (R := R) (below := below) (meth := meth) (locs := locs) (cells := c2) (slots := s2) (H := H) (As := As.map (am_enc ad)) (rest := st.map (am_enc ad)) (g := F0 m pc ls ((As.reverse ++ .inr q :: st).map (am_enc ad))) (own := own) (index := idx) (Ts := am_gT) (cc := cc) (nL := nL) (n := n9) (b := ad q.1 q.2) (C := C.1) (owner := y.cls)
    ⟨F.1, F.2.1, F.2.2.1, F.2.2.2.1, hts⟩ hME (va_cwU (x := y) n9 hts hgd rfl rfl rfl rfl ⟨y6, y7, y8⟩ ⟨Nat.le_trans hfr hfr', Nat.le_trans hlc hlc'⟩)
    ⟨dm_blind _ _ _ _ _ _ _, dm_recv F.2.2.2.2.2.1 hW hS hq hcl, dm_pre (as := .inr q :: As) F.2.2.2.2.2.1 hW hS⟩ rfl (by rw [List.length_map]; exact hn) hL.1 (by simp only [List.map_append, List.map_cons, List.map_reverse]; rfl) hstk hd ⟨b1.1, b2.2⟩
  exact dm_after (len := 3) F K hS hz hL kk (fun T hT X9 => by
    obtain ⟨v, st₀, t, T', L9, a1, a2, a3, a4, a5, a6, a7⟩ := hr T hT X9
    exact ⟨v, st₀, t, T', L9, a1, a2, a3, a4, a6, a7⟩)
/-- of the class above -/
theorem dr_callP {idx nLy n9 fr9 lc9 : Nat} {y : MethodName} {bs : ByteArray} {rety : Option FieldType} {Q : Option am_v → am_H → dm_D → Prop} {As : List am_v} {q : am_G × Nat} {ci : Nat} {C : vw_C} (hd : decode cc pc = .ok (.invokespecial idx, 3)) (L : Cond.methodLink own idx y ∈ am_gT) (Y : am_cp own y bs nLy rety n9) (hM : dm_M X y bs nLy rety fr9 lc9 (.inr q :: As) h d Q) (hq : dm_isc d q ci) (hcl : vwCl[ci]? = some C) (hn : As.length = n9) (hfr : Nat.ble (fr9 + 1) fr = true) (hlc : Nat.ble (8 + (nLy + 11) + lc9) lc = true) (hst : Nat.ble (st.map am_ct).sum 8 = true) (kk : ∀ (r : Option am_v) (h9 : am_H) (d9 : dm_D), Q r h9 d9 → dm_V own nm cc nL ret fr lc k0 X Tm (pc + 3) A (r.toList ++ st) h9 d9) : dm_V own nm cc nL ret fr lc k0 X Tm pc A (As.reverse ++ .inr q :: st) h d := by
  intro p l e9 R s m args below meth c ad D cA Z F K cs ss H locs ls hW hS hz hL
  obtain ⟨y1, y2, y3, y4, y5, y6, y7⟩ := Y
  have hts := F.2.2.2.2.1
  have hfr' := F.2.2.2.2.2.2.2.2.2.2.1
  have hlc' := F.2.2.2.2.2.2.2.2.2.2.2.1
  have hfr := Nat.le_of_ble_eq_true hfr
  have hlc := Nat.le_of_ble_eq_true hlc
  have hst := Nat.le_of_ble_eq_true hst
  have hk1 := hW.2.2.1
  have hME := hM l ad D cA F.2.2.2.2.2.2.2.2.1 F.2.2.2.2.2.2.2.2.2.2.2.2.2.2
  have hstk : 2 * 0 + ((st.map (am_enc ad)).map fun v => v.category).sum ≤ 8 := by rw [am_ct_sum]; omega
  refine W_exact (fun c2 s2 z1 z2 _ _ => ?_)
  have b1 := dm_rd (fr9 := 0) (lc9 := 0) (cs := c2) (k1 := d.2.1) F (by omega) hk1
  have b2 := dm_rd (fr9 := 0) (lc9 := 0) (cs := s2) (k1 := d.2.1) F (by omega) hk1
  have hgd : GoodIn am_gT (va_wsSU own idx y (.code y bs nLy rety :: am_gT)) := am_goodL (fun w hw => by
    rcases List.mem_append.mp hw with hw | hw
    · simp only [List.mem_cons, List.not_mem_nil, or_false] at hw
      rcases hw with rfl | rfl | rfl | rfl | rfl <;> assumption
    · rcases List.mem_cons.mp hw with rfl | hw
      · exact y1
      · exact hw)
  have hr := va_runSU (F.2.2.2.2.2.1.1.1.1 ci _ hcl).2 (p := p) (l := l) (e := e9) (R := R) (below := below) (meth := meth) (locs := locs) (cells := c2) (slots := s2) (H := H) (As := As.map (am_enc ad)) (rest := st.map (am_enc ad)) (g := F0 m pc ls ((As.reverse ++ .inr q :: st).map (am_enc ad))) (own := own) (index := idx) (Ts := am_gT) (cc := cc) (nL := nL) (n := n9) (b := ad q.1 q.2) (C := C.1)
    ⟨F.1, F.2.1, F.2.2.1, F.2.2.2.1, hts⟩ hME (va_cwSU n9 hts hgd rfl rfl rfl ⟨y6, y7⟩ ⟨Nat.le_trans hfr hfr', Nat.le_trans hlc hlc'⟩)
    ⟨dm_blind _ _ _ _ _ _ _, dm_recv F.2.2.2.2.2.1 hW hS hq hcl, dm_pre (as := .inr q :: As) F.2.2.2.2.2.1 hW hS⟩ rfl (by rw [List.length_map]; exact hn) hL.1 (by simp only [List.map_append, List.map_cons, List.map_reverse]; rfl) hstk hd ⟨b1.1, b2.2⟩
  exact dm_after (len := 3) F K hS hz hL kk (fun T hT X9 => by
    obtain ⟨v, st₀, t, T', L9, a1, a2, a3, a4, a5, a6, a7⟩ := hr T hT X9
    exact ⟨v, st₀, t, T', L9, a1, a2, a3, a4, a6, a7⟩)
/-- by an interface -/
theorem dr_callF {idx nLy n9 fr9 lc9 : Nat} {y : MethodName} {bs : ByteArray} {rety : Option FieldType} {Q : Option am_v → am_H → dm_D → Prop} {As : List am_v} {q : am_G × Nat} {ci cnt : Nat} {C : vw_C} {x : MethodName} (hd : decode cc pc = .ok (.invokeinterface idx cnt, 5)) (L : Cond.methodLink own idx x ∈ am_gT) (Y : am_cf C.1 x y bs nLy rety n9) (hI : (C.1, x, y) ∈ dm_fT) (hM : dm_M X y bs nLy rety fr9 lc9 (.inr q :: As) h d Q) (hq : dm_isc d q ci) (hcl : vwCl[ci]? = some C) (hn : As.length = n9) (hfr : Nat.ble (fr9 + 1) fr = true) (hlc : Nat.ble (8 + (nLy + 11) + lc9) lc = true) (hst : Nat.ble (st.map am_ct).sum 8 = true) (kk : ∀ (r : Option am_v) (h9 : am_H) (d9 : dm_D), Q r h9 d9 → dm_V own nm cc nL ret fr lc k0 X Tm (pc + 5) A (r.toList ++ st) h9 d9) : dm_V own nm cc nL ret fr lc k0 X Tm pc A (As.reverse ++ .inr q :: st) h d := by
  intro p l e9 R s m args below meth c ad D cA Z F K cs ss H locs ls hW hS hz hL
  obtain ⟨y1, y2, y3, y4, y5, y6, y7⟩ := Y
  have hts := F.2.2.2.2.1
  have hfr' := F.2.2.2.2.2.2.2.2.2.2.1
  have hlc' := F.2.2.2.2.2.2.2.2.2.2.2.1
  have hfr := Nat.le_of_ble_eq_true hfr
  have hlc := Nat.le_of_ble_eq_true hlc
  have hst := Nat.le_of_ble_eq_true hst
  have hk1 := hW.2.2.1
  have hME := hM l ad D cA F.2.2.2.2.2.2.2.2.1 F.2.2.2.2.2.2.2.2.2.2.2.2.2.2
  have hstk : 2 * 0 + ((st.map (am_enc ad)).map fun v => v.category).sum ≤ 8 := by rw [am_ct_sum]; omega
  refine W_exact (fun c2 s2 z1 z2 _ _ => ?_)
  have b1 := dm_rd (fr9 := 0) (lc9 := 0) (cs := c2) (k1 := d.2.1) F (by omega) hk1
  have b2 := dm_rd (fr9 := 0) (lc9 := 0) (cs := s2) (k1 := d.2.1) F (by omega) hk1
  have hgd : GoodIn am_gT (va_wsF own idx C.1 x y (.code y bs nLy rety :: am_gT)) := am_goodL (fun w hw => by
    rcases List.mem_append.mp hw with hw | hw
    · simp only [List.mem_cons, List.not_mem_nil, or_false] at hw
      rcases hw with rfl | rfl | rfl | rfl <;> assumption
    · rcases List.mem_cons.mp hw with rfl | hw
      · exact y1
      · exact hw)
  have hr := va_runF (F.2.2.2.2.2.1.1.1.1 ci _ hcl).2 (p := p) (l := l) (e := e9) (R := R) (below := below) (meth := meth) (locs := locs) (cells := c2) (slots := s2) (H := H) (As := As.map (am_enc ad)) (rest := st.map (am_enc ad)) (g := F0 m pc ls ((As.reverse ++ .inr q :: st).map (am_enc ad))) (own := own) (index := idx) (Ts := am_gT) (cc := cc) (nL := nL) (n := n9) (b := ad q.1 q.2) (C := C.1)
    ⟨F.1, F.2.1, F.2.2.1, F.2.2.2.1, hts⟩ hME (va_cwF n9 hts hgd rfl rfl rfl (F.2.2.2.2.2.1.2.2.2.2.2.2.1 _ hI) ⟨y5, y6, y7⟩ ⟨Nat.le_trans hfr hfr', Nat.le_trans hlc hlc'⟩)
    ⟨dm_blind _ _ _ _ _ _ _, dm_recv F.2.2.2.2.2.1 hW hS hq hcl, dm_pre (as := .inr q :: As) F.2.2.2.2.2.1 hW hS⟩ rfl (by rw [List.length_map]; exact hn) hL.1 (by simp only [List.map_append, List.map_cons, List.map_reverse]; rfl) hstk hd ⟨b1.1, b2.2⟩
  exact dm_after (len := 5) F K hS hz hL kk (fun T hT X9 => by
    obtain ⟨v, st₀, t, T', L9, a1, a2, a3, a4, a5, a6, a7⟩ := hr T hT X9
    exact ⟨v, st₀, t, T', L9, a1, a2, a3, a4, a6, a7⟩)
/-- of a constructor -/
theorem dr_callI {idx nLy n9 fr9 lc9 : Nat} {y : MethodName} {bs : ByteArray} {rety : Option FieldType} {Q : Option am_v → am_H → dm_D → Prop} {As : List am_v} {q : am_G × Nat} (hr9 : rety = none) (hd : decode cc pc = .ok (.invokespecial idx, 3)) (L : Cond.methodLink own idx y ∈ am_gT) (Y : am_ci y bs nLy n9) (hM : dm_M X y bs nLy rety fr9 lc9 (.inr q :: As) h d Q) (hn : As.length = n9) (hfr : Nat.ble (fr9 + 1) fr = true) (hlc : Nat.ble (8 + (nLy + 11) + lc9) lc = true) (hst : Nat.ble (st.map am_ct).sum 8 = true) (kk : ∀ (r : Option am_v) (h9 : am_H) (d9 : dm_D), Q r h9 d9 → dm_V own nm cc nL ret fr lc k0 X Tm (pc + 3) A (r.toList ++ st) h9 d9) : dm_V own nm cc nL ret fr lc k0 X Tm pc A (As.reverse ++ .inr q :: st) h d := by
  intro p l e9 R s m args below meth c ad D cA Z F K cs ss H locs ls hW hS hz hL
  obtain ⟨y1, y2, y3, y4, y5, y6, y7⟩ := Y
  have hts := F.2.2.2.2.1
  have hfr' := F.2.2.2.2.2.2.2.2.2.2.1
  have hlc' := F.2.2.2.2.2.2.2.2.2.2.2.1
  have hfr := Nat.le_of_ble_eq_true hfr
  have hlc := Nat.le_of_ble_eq_true hlc
  have hst := Nat.le_of_ble_eq_true hst
  have hk1 := hW.2.2.1
  have hME := hM l ad D cA F.2.2.2.2.2.2.2.2.1 F.2.2.2.2.2.2.2.2.2.2.2.2.2.2
  have hstk : 2 * 0 + ((st.map (am_enc ad)).map fun v => v.category).sum ≤ 8 := by rw [am_ct_sum]; omega
  refine W_exact (fun c2 s2 z1 z2 _ _ => ?_)
  have b1 := dm_rd (fr9 := 0) (lc9 := 0) (cs := c2) (k1 := d.2.1) F (by omega) hk1
  have b2 := dm_rd (fr9 := 0) (lc9 := 0) (cs := s2) (k1 := d.2.1) F (by omega) hk1
  subst hr9
  have hr := va_runI (p := p) (l := l) (e := e9) (R := R) (below := below) (meth := meth) (locs := locs) (cells := c2) (slots := s2) (H := H) (As := As.map (am_enc ad)) (rest := st.map (am_enc ad)) (g := F0 m pc ls ((As.reverse ++ .inr q :: st).map (am_enc ad))) (own := own) (index := idx) (Ts := am_gT) (cc := cc) (nL := nL) (n := n9) (b := ad q.1 q.2)
    ⟨F.1, F.2.1, F.2.2.1, F.2.2.2.1, hts⟩ hME ⟨⟨rfl, rfl, Nat.le_trans hfr hfr', Nat.le_trans hlc hlc', am_pay hts y1, List.mem_cons_self, hts _ y1, hts _ y3, ⟨y5, y6⟩, (fun sig h => by rw [h] at y7; exact (Option.some.inj y7).symm), hts _ L⟩, y4, hts _ y2⟩
    ⟨dm_blind _ _ _ _ _ _ _, dm_pre (as := .inr q :: As) F.2.2.2.2.2.1 hW hS⟩ rfl (by rw [List.length_map]; exact hn) hL.1 (by simp only [List.map_append, List.map_cons, List.map_reverse]; rfl) hstk hd ⟨b1.1, b2.2⟩
  exact dm_after (len := 3) F K hS hz hL kk (fun T hT X9 => by
    obtain ⟨v, st₀, t, T', L9, a1, a2, a3, a4, a5, a6, a7⟩ := hr T hT X9
    exact ⟨v, st₀, t, T', L9, a1, a2, a3, a4, a6, a7⟩)
/-- .. of a nest mate -/
theorem dr_callIN {idx nLy n9 fr9 lc9 : Nat} {y : MethodName} {bs : ByteArray} {rety : Option FieldType} {Q : Option am_v → am_H → dm_D → Prop} {As : List am_v} {q : am_G × Nat} {host : String} (hr9 : rety = none) (hd : decode cc pc = .ok (.invokespecial idx, 3)) (L : Cond.methodLinkNest own idx y host ∈ am_nT) (Y : am_ci y bs nLy n9) (hM : dm_M X y bs nLy rety fr9 lc9 (.inr q :: As) h d Q) (hn : As.length = n9) (hfr : Nat.ble (fr9 + 1) fr = true) (hlc : Nat.ble (8 + (nLy + 11) + lc9) lc = true) (hst : Nat.ble (st.map am_ct).sum 8 = true) (kk : ∀ (r : Option am_v) (h9 : am_H) (d9 : dm_D), Q r h9 d9 → dm_V own nm cc nL ret fr lc k0 X Tm (pc + 3) A (r.toList ++ st) h9 d9) : dm_V own nm cc nL ret fr lc k0 X Tm pc A (As.reverse ++ .inr q :: st) h d := by
  intro p l e9 R s m args below meth c ad D cA Z F K cs ss H locs ls hW hS hz hL
  obtain ⟨y1, y2, y3, y4, y5, y6, y7⟩ := Y
  have hts := F.2.2.2.2.1
  have hfr' := F.2.2.2.2.2.2.2.2.2.2.1
  have hlc' := F.2.2.2.2.2.2.2.2.2.2.2.1
  have hfr := Nat.le_of_ble_eq_true hfr
  have hlc := Nat.le_of_ble_eq_true hlc
  have hst := Nat.le_of_ble_eq_true hst
  have hk1 := hW.2.2.1
  have hME := hM l ad D cA F.2.2.2.2.2.2.2.2.1 F.2.2.2.2.2.2.2.2.2.2.2.2.2.2
  have hstk : 2 * 0 + ((st.map (am_enc ad)).map fun v => v.category).sum ≤ 8 := by rw [am_ct_sum]; omega
  refine W_exact (fun c2 s2 z1 z2 _ _ => ?_)
  have b1 := dm_rd (fr9 := 0) (lc9 := 0) (cs := c2) (k1 := d.2.1) F (by omega) hk1
  have b2 := dm_rd (fr9 := 0) (lc9 := 0) (cs := s2) (k1 := d.2.1) F (by omega) hk1
  subst hr9
  have hr := va_runIN (p := p) (l := l) (e := e9) (R := R) (below := below) (meth := meth) (locs := locs) (cells := c2) (slots := s2) (H := H) (As := As.map (am_enc ad)) (rest := st.map (am_enc ad)) (g := F0 m pc ls ((As.reverse ++ .inr q :: st).map (am_enc ad))) (own := own) (index := idx) (Ts := am_gT) (cc := cc) (nL := nL) (n := n9) (b := ad q.1 q.2) (host := host)
    ⟨F.1, F.2.1, F.2.2.1, F.2.2.2.1, hts⟩ hME ⟨⟨⟨rfl, rfl, Nat.le_trans hfr hfr', Nat.le_trans hlc hlc', am_pay hts y1, List.mem_cons_self⟩, hts _ y1, hts _ y3, ⟨y5, y6⟩, (fun sig h => by rw [h] at y7; exact (Option.some.inj y7).symm), am_nest_use L F.2.2.2.2.2.1.1.2.1⟩, y4, hts _ y2⟩
    ⟨dm_blind _ _ _ _ _ _ _, dm_pre (as := .inr q :: As) F.2.2.2.2.2.1 hW hS⟩ rfl (by rw [List.length_map]; exact hn) hL.1 (by simp only [List.map_append, List.map_cons, List.map_reverse]; rfl) hstk hd ⟨b1.1, b2.2⟩
  exact dm_after (len := 3) F K hS hz hL kk (fun T hT X9 => by
    obtain ⟨v, st₀, t, T', L9, a1, a2, a3, a4, a5, a6, a7⟩ := hr T hT X9
    exact ⟨v, st₀, t, T', L9, a1, a2, a3, a4, a6, a7⟩)
/-- the class's object is all there -/
def dm_full (d : dm_D) : Prop := ∀ g o, am_ok g o → ∃ i, i < d.1 ∧ d.2.2 i = .inr (.inr (.inr (g, o)))
noncomputable def dm_cl {α : Type} (d : dm_D) (o : Option α) : Option α := @ite _ (dm_full d) (Classical.propDecidable _) o none
theorem dm_cl_some {α : Type} {d : dm_D} {o : Option α} {a : α} (h : dm_cl d o = some a) : dm_full d ∧ o = some a := by
  unfold dm_cl at h
  exact @if_some _ _ (Classical.propDecidable _) _ _ h
theorem dm_cl_of {α : Type} {d : dm_D} {o : Option α} (h : dm_full d) : dm_cl d o = o := by
  unfold dm_cl
  exact @if_pos _ (Classical.propDecidable _) h _ _ _
end DMC
