/-! the class is called -/
def dm_lc (ad : am_G → Nat → Nat) (sz : Nat) : Nat → Prop := fun q => (∃ g o, am_ok g o ∧ q = ad g o) ∨ sz ≤ q
theorem am_ws_in {ad : am_G → Nat → Nat} {cA : Nat → ClassId} {h : am_H} {k : Nat} {q : Nat × va_E} (hq : (am_ws ad cA h)[k]? = some q) : k < 218 ∧ am_ok (am_un k).1 (am_un k).2 ∧ am_rk (am_un k).1 (am_un k).2 = k ∧ q = (ad (am_un k).1 (am_un k).2, am_ce ad cA h (am_un k).1 (am_un k).2) := by
  have hl : k < 218 := by
    have := (List.getElem?_eq_some_iff.mp hq).1
    simpa [am_ws] using this
  obtain ⟨h1, h2⟩ := am_rk_un hl
  have he := am_ws_at ad cA h h1
  rw [h2] at he
  rw [he] at hq
  exact ⟨hl, h1, h2, (Option.some.inj hq).symm⟩
theorem dm_cls {ad : am_G → Nat → Nat} {D : va_G} {cA : Nat → ClassId} {h : am_H} {d : dm_D} {H : Heap} (ha : dm_ad ad) (hf : dm_full d) (hW : dm_WH ad D cA h d H) : am_WH (dm_lc ad H.size) ad D cA h H := by
  refine ⟨fun k q hk => ?_, fun i j p q hi hj e => ?_, fun k q hk => ?_⟩
  · obtain ⟨-, hok, -, rfl⟩ := am_ws_in hk
    obtain ⟨i, hi, hc⟩ := hf _ _ hok
    have he := dm_ws_at ad cA h d hi
    rw [hc] at he
    have hP := hW.1 i _ he
    have e2 := (hW.2.2.2 i _ hi hc).2
    rw [e2]
    exact hP
  · obtain ⟨-, ok1, r1, rfl⟩ := am_ws_in hi
    obtain ⟨-, ok2, r2, rfl⟩ := am_ws_in hj
    obtain ⟨i1, hi1, hc1⟩ := hf _ _ ok1
    obtain ⟨i2, hi2, hc2⟩ := hf _ _ ok2
    have e1 := (hW.2.2.2 i1 _ hi1 hc1).2
    have e2 := (hW.2.2.2 i2 _ hi2 hc2).2
    have e : ad (am_un i).1 (am_un i).2 = ad (am_un j).1 (am_un j).2 := e
    have e1 : ad (am_un i).1 (am_un i).2 = ad (.inl 0) i1 := e1
    have e2 : ad (am_un j).1 (am_un j).2 = ad (.inl 0) i2 := e2
    rw [e1, e2, ha i1, ha i2] at e
    have e3 : i1 = i2 := by omega
    subst e3
    rw [hc1] at hc2
    have e4 : ((am_un i).1, (am_un i).2) = ((am_un j).1, (am_un j).2) := by
      injection hc2 with q1
      injection q1 with q2
      injection q2
    have e5 : am_un i = am_un j := e4
    rw [← r1, ← r2, e5]
  · obtain ⟨-, ok1, -, rfl⟩ := am_ws_in hk
    exact Or.inl ⟨_, _, ok1, rfl⟩
theorem dm_lc_lo {ad : am_G → Nat → Nat} {D : va_G} {cA : Nat → ClassId} {h : am_H} {d : dm_D} {H : Heap} (ha : dm_ad ad) (hf : dm_full d) (hW : dm_WH ad D cA h d H) : ∀ q, dm_lc ad H.size q → dm_lo ad q := by
  rintro q (⟨g, o, hok, rfl⟩ | hq)
  · obtain ⟨i, hi, hc⟩ := hf _ _ hok
    have e2 : ad g o = ad (.inl 0) i := (hW.2.2.2 i _ hi hc).2
    show ad (.inl 0) 0 ≤ ad g o
    rw [e2, ha i]
    omega
  · have := hW.2.1
    show ad (.inl 0) 0 ≤ q
    omega
/-- behind a call of the class -/
theorem dm_back {ad : am_G → Nat → Nat} {D : va_G} {cA : Nat → ClassId} {h h' : am_H} {d : dm_D} {H H1 : Heap} (ha : dm_ad ad) (hf : dm_full d) (hW : dm_WH ad D cA h d H) (hW1 : am_WH (dm_lc ad H.size) ad D cA h' H1) (hk : ∀ q : Nat, q < H.size → ¬ dm_lc ad H.size q → H1[q]? = H[q]?) (hz : H1.size = H.size) : dm_WH ad D cA h' d H1 := by
  refine ⟨fun k q hq => ?_, hz.trans hW.2.1, hW.2.2.1, hW.2.2.2⟩
  obtain ⟨hi, rfl⟩ := dm_ws_in hq
  have he := dm_ws_at ad cA h d hi
  have hP := hW.1 k _ he
  match hc : d.2.2 k with
  | .inr (.inr (.inr g)) =>
    obtain ⟨hok, e2⟩ := hW.2.2.2 k _ hi hc
    have h1 := hW1.1 _ _ (am_ws_at ad cA h' hok)
    rw [e2] at h1
    exact h1
  | .inl o =>
    rw [hc] at hP
    refine hP.kept (hk _ ?_ ?_)
    · show ad (.inl 0) k < H.size
      rw [hW.2.1, ha k]
      omega
    · rintro (⟨g, o, hok, e⟩ | hq)
      · obtain ⟨i, hi2, hc2⟩ := hf _ _ hok
        have e2 : ad g o = ad (.inl 0) i := (hW.2.2.2 i _ hi2 hc2).2
        have e : ad (.inl 0) k = ad g o := e
        rw [e2, ha k, ha i] at e
        have e3 : k = i := by omega
        subst e3
        rw [hc] at hc2
        cases hc2
      · have hq : H.size ≤ ad (.inl 0) k := hq
        rw [hW.2.1, ha k] at hq
        omega
  | .inr (.inl o) =>
    rw [hc] at hP
    refine hP.kept (hk _ ?_ ?_)
    · show ad (.inl 0) k < H.size
      rw [hW.2.1, ha k]
      omega
    · rintro (⟨g, o, hok, e⟩ | hq)
      · obtain ⟨i, hi2, hc2⟩ := hf _ _ hok
        have e2 : ad g o = ad (.inl 0) i := (hW.2.2.2 i _ hi2 hc2).2
        have e : ad (.inl 0) k = ad g o := e
        rw [e2, ha k, ha i] at e
        have e3 : k = i := by omega
        subst e3
        rw [hc] at hc2
        cases hc2
      · have hq : H.size ≤ ad (.inl 0) k := hq
        rw [hW.2.1, ha k] at hq
        omega
  | .inr (.inr (.inl o)) =>
    rw [hc] at hP
    refine hP.kept (hk _ ?_ ?_)
    · show ad (.inl 0) k < H.size
      rw [hW.2.1, ha k]
      omega
    · rintro (⟨g, o, hok, e⟩ | hq)
      · obtain ⟨i, hi2, hc2⟩ := hf _ _ hok
        have e2 : ad g o = ad (.inl 0) i := (hW.2.2.2 i _ hi2 hc2).2
        have e : ad (.inl 0) k = ad g o := e
        rw [e2, ha k, ha i] at e
        have e3 : k = i := by omega
        subst e3
        rw [hc] at hc2
        cases hc2
      · have hq : H.size ≤ ad (.inl 0) k := hq
        rw [hW.2.1, ha k] at hq
        omega
section DMK
variable {own nm : String} {cc : ByteArray} {nL : Nat} {ret : Option FieldType} {fr lc k0 : Nat} {X : dm_X} {Tm : Nat → List am_v → am_H → dm_D → Prop} {pc : Nat} {A : List (Option am_v)} {st : List am_v} {h : am_H} {d : dm_D}
theorem dr_callC {idx nLy n9 fr9 lc9 : Nat} {y : MethodName} {bs : ByteArray} {rety : Option FieldType} {Q : Option am_v → am_H → Prop} {As : List am_v} (hd : decode cc pc = .ok (.invokevirtual idx, 3)) (L : Cond.methodLink own idx y ∈ am_gT) (Y : am_cv y bs nLy rety n9) (hM : am_M y bs nLy rety fr9 lc9 0 0 (am_r (.inl 1) 0 :: As) h Q) (hcy : RX11 = y.cls) (hf : dm_full d) (hn : As.length = n9) (hfr : Nat.ble (fr9 + 1) fr = true) (hlc : Nat.ble (8 + (nLy + 11) + lc9) lc = true) (hst : Nat.ble (st.map am_ct).sum 8 = true) (kk : ∀ (r : Option am_v) (h9 : am_H), Q r h9 → dm_V own nm cc nL ret fr lc k0 X Tm (pc + 3) A (r.toList ++ st) h9 d) : dm_V own nm cc nL ret fr lc k0 X Tm pc A (As.reverse ++ am_r (.inl 1) 0 :: st) h d := by
  intro p l e9 R s m args below meth c ad D cA Z F K cs ss H locs ls hW hS hz hL
  obtain ⟨y1, y2, y3, y4, y5, y6, y7⟩ := Y
  have hts := F.2.2.2.2.1
  have hfr' := F.2.2.2.2.2.2.2.2.2.2.1
  have hlc' := F.2.2.2.2.2.2.2.2.2.2.2.1
  have hfr := Nat.le_of_ble_eq_true hfr
  have hlc := Nat.le_of_ble_eq_true hlc
  have hst := Nat.le_of_ble_eq_true hst
  have hk1 := hW.2.2.1
  have ha := F.2.2.2.2.2.2.2.2.1
  have hME := hM l (dm_lc ad H.size) ad D cA F.2.2.2.2.2.2.2.2.2.2.2.2.2.2
  have hstk : 2 * 0 + ((st.map (am_enc ad)).map fun v => v.category).sum ≤ 8 := by rw [am_ct_sum]; omega
  have hWc := dm_cls ha hf hW
  have hlo := dm_lc_lo ha hf hW
  have hrc : ∃ cell : Cell, H[ad (.inl 1) 0]? = some cell ∧ cell.vm.isStatics = false ∧ s.vm.findClass y.cls = some cell.cls := by
    rw [← hcy]
    have he := am_ws_at ad cA h (g := .inl 1) (o := 0) (ok_X rfl)
    exact va_recv F.2.2.2.2.2.1.1.1 hWc.1 (ci := 11) rfl he
  refine W_exact (fun c2 s2 z1 z2 _ _ => ?_)
  have b1 := dm_rd (fr9 := 0) (lc9 := 0) (cs := c2) (k1 := d.2.1) F (by omega) hk1
  have b2 := dm_rd (fr9 := 0) (lc9 := 0) (cs := s2) (k1 := d.2.1) F (by omega) hk1
  have hr := va_runV (p := p) (l := l) (e := e9) (R := R) (below := below) (meth := meth) (locs := locs) (cells := c2) (slots := s2) (H := H) (As := As.map (am_enc ad)) (rest := st.map (am_enc ad)) (g := F0 m pc ls ((As.reverse ++ am_r (.inl 1) 0 :: st).map (am_enc ad))) (own := own) (index := idx) (Ts := am_gT) (cc := cc) (nL := nL) (n := n9) (b := ad (.inl 1) 0) (C := y.cls)
    ⟨F.1, F.2.1, F.2.2.1, F.2.2.2.1, hts⟩ hME ⟨⟨rfl, rfl, Nat.le_trans hfr hfr', Nat.le_trans hlc hlc', am_pay hts y1, List.mem_cons_self, hts _ y1, hts _ y4, ⟨y5, y6⟩, (fun sig h => by rw [h] at y7; exact (Option.some.inj y7).symm), hts _ L⟩, hts _ y2, hts _ y3⟩
    ⟨am_blind _ _ _ _ _ _, hrc, fun U hU hw => ⟨rfl, by rw [hU]; exact hWc, am_E_narrow (dm_E_call F.2.2.2.2.2.1 hS hU hw).1 hlo (fun q hq => Or.inr (by rw [← hU]; exact hq))⟩⟩ rfl (by rw [List.length_map]; exact hn) hL.1 (by simp only [List.map_append, List.map_cons, List.map_reverse]; rfl) hstk hd ⟨by omega, by omega⟩
  intro T hT X9
  obtain ⟨v, st₀, t, T', L9, h0, X', hL9, e1, e2, ⟨⟨v9, h', hv, hq, hw⟩, hz1, hk⟩, st9⟩ := hr T hT X9
  have hv : v = v9.map (am_enc ad) := by cases hv; rfl
  subst hv
  rw [h0] at hz1 hk
  have hS1 : va_S (dm_lo ad) s.heap T'.heap (locs ++ L9) := ⟨Nat.le_trans hS.1 (by rw [e1]; exact hz1), fun q h1 h2 => by rw [e1, hk q (Nat.lt_of_lt_of_le h1 hS.1) (fun z => h2 (hlo q z))]; exact hS.2.1 q h1 h2, fun q hq => by
    rcases List.mem_append.mp hq with h | h
    · exact hS.2.2 q h
    · exact hlo _ (hL9 q h)⟩
  have key : W p l e9 R s m args below meth c T'.heap (locs ++ L9) (c2 + 0) (s2 + 0) Z (F0 m (pc + 3) ls ((v9.toList ++ st).map (am_enc ad))) := by
    refine hsz_le (fun y1 y2 => ?_)
    have hz2 : T'.heap.size = H.size := by
      have : H.size ≤ T'.heap.size := by rw [e1]; exact hz1
      omega
    exact kk v9 h' hq p l e9 R s m args below meth c ad D cA Z F K _ _ T'.heap (locs ++ L9) ls (dm_back ha hf hW (by rw [e1]; exact hw) (fun q h1 h2 => by rw [e1]; exact hk q h1 h2) hz2) hS1 (by omega) hL
  obtain ⟨t2, a1, b3⟩ := key T' rfl X'
  refine ⟨t2, st9 t2 ?_, b3⟩
  have e3 : (v9.map (am_enc ad)).toList ++ st.map (am_enc ad) = (v9.toList ++ st).map (am_enc ad) := by rw [List.map_append]; cases v9 <;> rfl
  rw [← e3] at a1
  exact a1
end DMK
