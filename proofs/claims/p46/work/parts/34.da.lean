/-! cells are made; statics; references compared, cast; rows copied -/
def am_v0 (ty : FieldType) : am_v := .inl (defaultValue ty)
/-- the fields of a new object -/
def dm_f0 : Nat → List am_v
  | 12 => [am_i 0, am_i 0, am_i 0, am_i 0, am_i 0, .inl .null, .inl .null, .inl .null, .inl .null, .inl .null, .inl .null]
  | 13 => [.inl .null, am_i 0, am_i 0, am_i 0]
  | 14 => [.inl .null, am_i 0, am_i 0, am_i 0]
  | 15 => [am_i 0, am_i 0, am_i 0, .inl .null]
  | 16 => [am_i 0, .inl .null, am_i 0]
  | _ => []
def dm_no (d : dm_D) (ci : Nat) : Option dm_D := dm_mk d (dm_f0 ci).length (.inl (ci, dm_f0 ci))
def dm_na (d : dm_D) (t : Nat) (n : Int32) : Option dm_D := if 0 ≤ n.toInt then dm_mk d n.toNatClampNeg (.inr (.inl (t, n.toNatClampNeg, fun _ => 0))) else none
def dm_nr (d : dm_D) (n : Int32) : Option dm_D := if 0 ≤ n.toInt then dm_mk d n.toNatClampNeg (.inr (.inr (.inl (n.toNatClampNeg, fun _ => none)))) else none
/-- bytes are copied, references -/
def dm_tc : am_G × Nat → Option (Nat × (Nat → Int32))
  | (.inl 3, t) => if t < 22 then some ((am_tx t).length, fun j => (am_tx t).getD j 0) else none
  | _ => none
def dm_by (d : dm_D) (q : am_G × Nat) : Option (Nat × (Nat → Int32)) := ((dm_ar d q).bind (fun o => if o.2.1 = 1 then some o.2.2 else none)).or (dm_tc q)
def dm_cb (d : dm_D) (q : am_G × Nat) (sp : Int32) (w : am_G × Nat) (dp n : Int32) : Option dm_D := (dm_by d q).bind (fun a => (dm_ar d w).bind (fun o =>
  if o.2.1 = 1 ∧ (¬ sp < 0 ∧ ¬ dp < 0 ∧ ¬ n < 0) ∧ (sp.toNatClampNeg + n.toNatClampNeg ≤ a.1 ∧ dp.toNatClampNeg + n.toNatClampNeg ≤ o.2.2.1) ∧ (∀ i, i < n.toNatClampNeg → fits .byte (.int (a.2 (sp.toNatClampNeg + i))) = true) then some (dm_se d o.1 (.inr (.inl (1, o.2.2.1, va_cpy a.2 o.2.2.2 sp.toNatClampNeg dp.toNatClampNeg n.toNatClampNeg)))) else none))
/-- are all those rows of ints -/
def dm_ri (d : dm_D) (f : Nat → Option Nat) (sp n : Nat) : Prop := ∀ i, i < n → ∀ k, f (sp + i) = some k → ∃ m g, dm_ar d (.inl 0, k) = some (k, 0, m, g)
noncomputable def dm_cr (d : dm_D) (q : am_G × Nat) (sp : Int32) (w : am_G × Nat) (dp n : Int32) : Option dm_D := (dm_rr d q).bind (fun a => (dm_rr d w).bind (fun o =>
  @ite _ ((¬ sp < 0 ∧ ¬ dp < 0 ∧ ¬ n < 0) ∧ (sp.toNatClampNeg + n.toNatClampNeg ≤ a.2.1 ∧ dp.toNatClampNeg + n.toNatClampNeg ≤ o.2.1) ∧ dm_ri d a.2.2 sp.toNatClampNeg n.toNatClampNeg) (Classical.propDecidable _) (some (dm_se d o.1 (.inr (.inr (.inl (o.2.1, va_cpy a.2.2 o.2.2 sp.toNatClampNeg dp.toNatClampNeg n.toNatClampNeg)))))) none))
/-- two references are one: their names tell, the few that lie below are apart from all that were made -/
def dm_ne : am_G × Nat → Prop
  | (.inl 0, _) => True
  | (.inl 4, 0) => True
  | _ => False
theorem dm_mk_some {d d' : dm_D} {n : Nat} {c : dm_C} (h : dm_mk d n c = some d') : d.2.1 + n + 1 ≤ dm_L ∧ d' = dm_nw d n c := by
  obtain ⟨h1, h2⟩ := if_some h
  cases h2
  exact ⟨h1, rfl⟩
section DMA
variable {own nm : String} {cc : ByteArray} {nL : Nat} {ret : Option FieldType} {fr lc k0 : Nat} {X : dm_X} {Tm : Nat → List am_v → am_H → dm_D → Prop} {pc : Nat} {A : List (Option am_v)} {st : List am_v} {h : am_H} {d : dm_D}
/-- behind any making -/
theorem dm_made {p : Program} {l : Launch} {e9 : Env} {R : Room} {s : State} {m : MethodId} {args : Array Value} {below : List Frame} {meth : Method} {c : Code} {ad : am_G → Nat → Nat} {D : va_G} {cA : Nat → ClassId} {Z : State → Prop} {H H1 : Heap} {locs : List Loc} {ls : Array Slot} {c2 s2 n q len : Nat} {x : dm_C}
    (F : dm_F own nm cc nL ret fr lc k0 X p l R s m args meth c ad D cA)
    (K : ∀ (pc' : Nat) (st' : List am_v) (h' : am_H) (d' : dm_D) (cs' ss' : Nat) (H' : Heap) (locs' : List Loc) (ls' : Array Slot), Tm pc' st' h' d' → dm_WH ad D cA h' d' H' → va_S (dm_lo ad) s.heap H' locs' → hsz H' + k0 ≤ hsz s.heap + d'.2.1 → cs' ≤ dm_L - k0 → ss' ≤ dm_L - k0 → ls'.size = nL → W p l e9 R s m args below meth c H' locs' cs' ss' Z (F0 m pc' ls' (st'.map (am_enc ad))))
    (hW : dm_WH ad D cA h d H) (hz : hsz H + k0 ≤ hsz s.heap + d.2.1) (hL : am_L ad nL A ls) (z1 : c2 + s2 + hsz s.heap = hsz H) (z2 : H.size = s.heap.size + c2) (hk : d.2.1 + n + 1 ≤ dm_L) (hx : ∀ g, x ≠ .inr (.inr (.inr g)))
    (p1 : va_P D vwCl (dm_ws ad cA h d ++ [(q, dm_ce ad cA h x)]) H1) (p2 : va_D (dm_lo ad) (dm_ws ad cA h d ++ [(q, dm_ce ad cA h x)])) (p3 : va_S (dm_lo ad) s.heap H1 locs)
    (kk : dm_V own nm cc nL ret fr lc k0 X Tm (pc + len) A (dm_o d.1 :: st) h (dm_nw d n x)) : W p l e9 R s m args below meth c H1 locs (c2 + 1) (s2 + n) Z (F0 m (pc + len) ls (.ref q :: st.map (am_enc ad))) := by
  have ha := F.2.2.2.2.2.2.2.2.1
  refine hsz_le (fun y1 y2 => ?_)
  obtain ⟨rfl, hz1⟩ := dm_newq ha p1 p2 hW.2.1 (by omega)
  rw [dm_ws_nw (n := n)] at p1
  exact kk p l e9 R s m args below meth c ad D cA Z F K _ _ H1 locs ls ⟨p1, hz1, hk, dm_holn hW hx⟩ p3 (by show hsz H1 + k0 ≤ hsz s.heap + (d.2.1 + n + 1); omega) hL
theorem dr_new {idx ci N : Nat} {C : String} {T : u_T} {d' : dm_D} (hd : decode cc pc = .ok (.new idx, 3)) (g1 : vwCl[ci]? = some (C, T, N)) (w1 : Cond.classLink own idx C ∈ am_gT) (w2 : Cond.instantiable C N ∈ am_gT) (w3 : Cond.initialized C ∈ am_gT) (hl : (dm_f0 ci).length = N) (hf : ∀ j, j < N → ∃ ty, parseFieldDescriptor (T j).2.2.1 = some ty ∧ ∃ v, (dm_f0 ci)[j]? = some v ∧ ∀ ad, am_enc ad v = defaultValue ty) (e : dm_no d ci = some d') (kk : dm_V own nm cc nL ret fr lc k0 X Tm (pc + 3) A (dm_o d.1 :: st) h d') : dm_V own nm cc nL ret fr lc k0 X Tm pc A st h d := by
  intro p l e9 R s m args below meth c ad D cA Z F K cs ss H locs ls hW hS hz hL
  obtain ⟨hk, rfl⟩ := dm_mk_some e
  rw [hl] at hk kk
  have hts := F.2.2.2.2.1
  have hE := F.2.2.2.2.2.1.1
  have ha := F.2.2.2.2.2.2.2.2.1
  have hc9 := F.2.2.2.2.2.2.2.2.2.2.2.2.1
  have hs9 := F.2.2.2.2.2.2.2.2.2.2.2.2.2.1
  obtain ⟨hin, ⟨ty0, hty⟩, hnm⟩ := am_cl ci _ g1
  refine W_exact (fun c2 s2 z1 z2 _ _ => ?_)
  refine va_new (fs := (dm_f0 ci).map (am_enc ad)) F.1 F.2.1 hts hin ty0 hty F.2.2.2.1 (hts _ w1) (hts _ w2) (hts _ w3) hE.1 hW.1 (dm_ws_D ha) hS hE.2.2.1 g1 (fun j hj => ?_) (by omega) (show s2 + N ≤ R.slots by omega) hd (fun q H1 p1 p2 p3 => ?_)
  · obtain ⟨ty, t1, v, t2, t3⟩ := hf j hj
    have t4 := hty j hj
    rw [t1] at t4
    cases t4
    unfold vp_V
    rw [List.getD_eq_getElem?_getD, List.getElem?_map, t2, ← t3 ad]
    rfl
  · exact dm_made (x := .inl (ci, dm_f0 ci)) F K hW hz hL z1 z2 hk (fun g z => by cases z) p1 p2 p3 kk
theorem dr_newa {t : Nat} {atype : ArrayType} {n : Int32} {d' : dm_D} (hd : decode cc pc = .ok (.newarray atype, 2)) (w1 : Cond.arrayClass (newarray.typeOf atype) ∈ am_gT) (ht : ∀ cA : Nat → ClassId, (am_ty cA)[t]? = some (cA t, newarray.typeOf atype)) (hb : componentBytes (newarray.typeOf atype) ≤ 4) (hv : ∀ (c : ClassId) (N : Nat), vp_cell c (N, .inl (fun _ => 0)) = arrV c N (fun _ => defaultValue (newarray.typeOf atype))) (e : dm_na d t n = some d') (kk : dm_V own nm cc nL ret fr lc k0 X Tm (pc + 2) A (dm_o d.1 :: st) h d') : dm_V own nm cc nL ret fr lc k0 X Tm pc A (am_i n :: st) h d := by
  intro p l e9 R s m args below meth c ad D cA Z F K cs ss H locs ls hW hS hz hL
  obtain ⟨hn, e5⟩ := if_some e
  clear e
  obtain ⟨hk, rfl⟩ := dm_mk_some e5
  have hts := F.2.2.2.2.1
  have hE := F.2.2.2.2.2.1.1
  have hK := hE.1
  have ha := F.2.2.2.2.2.2.2.2.1
  have hc9 := F.2.2.2.2.2.2.2.2.2.2.2.2.1
  have hs9 := F.2.2.2.2.2.2.2.2.2.2.2.2.2.1
  have hkl : dm_L = 600000 := rfl
  refine W_exact (fun c2 s2 z1 z2 _ _ => ?_)
  refine va_newa F.1 F.2.1 (hts _ w1) rfl hK hW.1 (dm_ws_D ha) hS hE.2.2.1 (a0 := (n.toNatClampNeg, .inl (fun _ => 0))) (N' := n.toNatClampNeg) (fun c => hv c _) (fun z => by have := Int32.lt_iff_toInt_lt.mp z; simp at this; omega) rfl (Nat.le_trans (Nat.mul_le_mul_left _ hb) (by omega)) (by omega) (by omega) hd (fun q c1 H1 k1 p1 p2 p3 => ?_)
  have hc1 : c1 = cA t := by
    have r1 := (hK.2 t _ (ht cA)).2
    have r2 := (k1.2 (am_ty cA).length (c1, newarray.typeOf atype) (by rw [List.getElem?_append_right (Nat.le_refl _), Nat.sub_self]; rfl)).2
    cases atype <;> exact Option.some.inj (r2.symm.trans r1)
  subst hc1
  exact dm_made (x := .inr (.inl (t, n.toNatClampNeg, fun _ => 0))) F K hW hz hL z1 z2 hk (fun g z => by cases z) p1 p2 p3 kk
theorem dr_anew {idx : Nat} {n : Int32} {d' : dm_D} (hd : decode cc pc = .ok (.anewarray idx, 3)) (w1 : Cond.classLink own idx "java/lang/Object" ∈ am_gT) (e : dm_nr d n = some d') (kk : dm_V own nm cc nL ret fr lc k0 X Tm (pc + 3) A (dm_o d.1 :: st) h d') : dm_V own nm cc nL ret fr lc k0 X Tm pc A (am_i n :: st) h d := by
  intro p l e9 R s m args below meth c ad D cA Z F K cs ss H locs ls hW hS hz hL
  obtain ⟨hn, e5⟩ := if_some e
  clear e
  obtain ⟨hk, rfl⟩ := dm_mk_some e5
  have hts := F.2.2.2.2.1
  have hE := F.2.2.2.2.2.1.1
  have hK := hE.1
  obtain ⟨x0, x1, x2, x3, x4, x5, x6, x7, x13, x14⟩ := F.2.2.2.2.2.1
  have ha := F.2.2.2.2.2.2.2.2.1
  have hc9 := F.2.2.2.2.2.2.2.2.2.2.2.2.1
  have hs9 := F.2.2.2.2.2.2.2.2.2.2.2.2.2.1
  have hkl : dm_L = 600000 := rfl
  refine W_exact (fun c2 s2 z1 z2 _ _ => ?_)
  refine va_newq (C := "java/lang/Object") F.1 F.2.1 F.2.2.2.1 (hts _ w1) x14.1 hK hW.1 (dm_ws_D ha) hS hE.2.2.1 (fun z => by have := Int32.lt_iff_toInt_lt.mp z; simp at this; omega) rfl (by omega) (by omega) (by omega) hd (fun q c1 H1 k1 p1 p2 p3 => ?_)
  have hc1 : c1 = cA 3 := by
    obtain ⟨_, _, -, -, -, r1⟩ := (hK.2 3 _ rfl).2
    obtain ⟨_, _, -, -, -, r2⟩ := (k1.2 (am_ty cA).length (c1, .object "java/lang/Object") (by rw [List.getElem?_append_right (Nat.le_refl _), Nat.sub_self]; rfl)).2
    exact Option.some.inj (r2.symm.trans r1)
  subst hc1
  exact dm_made (x := .inr (.inr (.inl (n.toNatClampNeg, fun _ => none)))) F K hW hz hL z1 z2 hk (fun g z => by cases z) p1 p2 p3 kk
/-- statics -/
theorem dr_getsC {idx : Nat} (hd : decode cc pc = .ok (.getstatic idx, 3)) (L : Cond.fieldLink own idx "java/lang/String" "COMPACT_STRINGS" "Z" ∈ am_gT) (kk : dm_V own nm cc nL ret fr lc k0 X Tm (pc + 3) A (am_i 1 :: st) h d) : dm_V own nm cc nL ret fr lc k0 X Tm pc A st h d := by
  intro p l e9 R s m args below meth c ad D cA Z F K cs ss H locs ls hW hS hz hL
  obtain ⟨e1, e2, e3, e6, e7, e8, e12⟩ := F.2.2.2.2.2.1.1
  exact va_gets F.1 F.2.1 e7 hS F.2.2.2.1 (F.2.2.2.2.1 _ L) (fun _ z => z) hd (kk p l e9 R s m args below meth c ad D cA Z F K cs ss H locs ls hW hS hz hL)
theorem dr_getsE {idx : Nat} (hd : decode cc pc = .ok (.getstatic idx, 3)) (L : Cond.fieldLink own idx "java/util/ArrayList" "DEFAULTCAPACITY_EMPTY_ELEMENTDATA" "[Ljava/lang/Object;" ∈ am_gT) (kk : dm_V own nm cc nL ret fr lc k0 X Tm (pc + 3) A (.inr (.inl 4, 0) :: st) h d) : dm_V own nm cc nL ret fr lc k0 X Tm pc A st h d := by
  intro p l e9 R s m args below meth c ad D cA Z F K cs ss H locs ls hW hS hz hL
  obtain ⟨x0, ⟨x2, x3⟩, x4⟩ := F.2.2.2.2.2.1
  exact va_gets F.1 F.2.1 x2 hS F.2.2.2.1 (F.2.2.2.2.1 _ L) (fun _ z => z) hd (kk p l e9 R s m args below meth c ad D cA Z F K cs ss H locs ls hW hS hz hL)
theorem dr_gets1 {idx : Nat} (hd : decode cc pc = .ok (.getstatic idx, 3)) (L : Cond.fieldLink own idx "java/lang/Integer" "DigitOnes" "[B" ∈ am_gT) (kk : dm_V own nm cc nL ret fr lc k0 X Tm (pc + 3) A (.inr (.inl 4, 1) :: st) h d) : dm_V own nm cc nL ret fr lc k0 X Tm pc A st h d := by
  intro p l e9 R s m args below meth c ad D cA Z F K cs ss H locs ls hW hS hz hL
  obtain ⟨x0, x1, ⟨x2, x3⟩, x4⟩ := F.2.2.2.2.2.1
  exact va_gets F.1 F.2.1 x2 hS F.2.2.2.1 (F.2.2.2.2.1 _ L) (fun _ z => z) hd (kk p l e9 R s m args below meth c ad D cA Z F K cs ss H locs ls hW hS hz hL)
theorem dr_gets2 {idx : Nat} (hd : decode cc pc = .ok (.getstatic idx, 3)) (L : Cond.fieldLink own idx "java/lang/Integer" "DigitTens" "[B" ∈ am_gT) (kk : dm_V own nm cc nL ret fr lc k0 X Tm (pc + 3) A (.inr (.inl 4, 2) :: st) h d) : dm_V own nm cc nL ret fr lc k0 X Tm pc A st h d := by
  intro p l e9 R s m args below meth c ad D cA Z F K cs ss H locs ls hW hS hz hL
  obtain ⟨x0, x1, x9, ⟨x2, x3⟩, x4⟩ := F.2.2.2.2.2.1
  exact va_gets F.1 F.2.1 x2 hS F.2.2.2.1 (F.2.2.2.2.1 _ L) (fun _ z => z) hd (kk p l e9 R s m args below meth c ad D cA Z F K cs ss H locs ls hW hS hz hL)
theorem dr_ldcT {idx t : Nat} {text : String} (hd : decode cc pc = .ok (.ldc idx, 2)) (hw : (own, idx, text, t) ∈ am_sT) (kk : dm_V own nm cc nL ret fr lc k0 X Tm (pc + 2) A (.inr (.inl 2, t) :: st) h d) : dm_V own nm cc nL ret fr lc k0 X Tm pc A st h d := by
  intro p l e9 R s m args below meth c ad D cA Z F K cs ss H locs ls hW hS hz hL
  obtain ⟨e1, e2, e3, e6, e7, e8, e12⟩ := F.2.2.2.2.2.1.1
  exact va_ldcS F.1 F.2.1 F.2.2.2.1 (e8 _ hw) hd (kk p l e9 R s m args below meth c ad D cA Z F K cs ss H locs ls hW hS hz hL)
/-- null, and what isn't; two swapped -/
theorem dr_null (hd : decode cc pc = .ok (.aconst_null, 1)) (kk : dm_V own nm cc nL ret fr lc k0 X Tm (pc + 1) A (.inl .null :: st) h d) : dm_V own nm cc nL ret fr lc k0 X Tm pc A st h d := by
  intro p l e9 R s m args below meth c ad D cA Z F K cs ss H locs ls hW hS hz hL
  exact lv_null F.1 F.2.1 hd (kk p l e9 R s m args below meth c ad D cA Z F K cs ss H locs ls hW hS hz hL)
theorem dr_ifnonnull {q : am_G × Nat} {off : Int} (tgt : Nat) (hd : decode cc pc = .ok (.ifnonnull off, 3)) (ht : (pc : Int) + off = (tgt : Int)) (kk : dm_V own nm cc nL ret fr lc k0 X Tm tgt A st h d) : dm_V own nm cc nL ret fr lc k0 X Tm pc A (.inr q :: st) h d := by
  intro p l e9 R s m args below meth c ad D cA Z F K cs ss H locs ls hW hS hz hL
  exact lv_ifnonnull F.1 F.2.1 hd ht (kk p l e9 R s m args below meth c ad D cA Z F K cs ss H locs ls hW hS hz hL)
theorem dr_dup_x1 {v w : am_v} (hd : decode cc pc = .ok (.dup_x1, 1)) (hv : am_ct v = 1) (hw : am_ct w = 1) (kk : dm_V own nm cc nL ret fr lc k0 X Tm (pc + 1) A (v :: w :: v :: st) h d) : dm_V own nm cc nL ret fr lc k0 X Tm pc A (v :: w :: st) h d := by
  intro p l e9 R s m args below meth c ad D cA Z F K cs ss H locs ls hW hS hz hL
  exact lv_dup_x1 F.1 F.2.1 hd ((am_ct_eq ad v).trans hv) ((am_ct_eq ad w).trans hw) (kk p l e9 R s m args below meth c ad D cA Z F K cs ss H locs ls hW hS hz hL)
/-- a row of ints is one -/
theorem dr_cast {q : am_G × Nat} {idx : Nat} (hd : decode cc pc = .ok (.checkcast idx, 3)) (w1 : Cond.classLink own idx "[I" ∈ am_gT) (hq : ∃ o, dm_ar d q = some o ∧ o.2.1 = 0) (kk : dm_V own nm cc nL ret fr lc k0 X Tm (pc + 3) A (.inr q :: st) h d) : dm_V own nm cc nL ret fr lc k0 X Tm pc A (.inr q :: st) h d := by
  intro p l e9 R s m args below meth c ad D cA Z F K cs ss H locs ls hW hS hz hL
  obtain ⟨⟨i, t, n, f⟩, e, ht⟩ := hq
  have ht : t = 0 := ht
  subst ht
  obtain ⟨rfl, hi, hc⟩ := dm_ar_some e
  have he := dm_ws_at ad cA h d hi
  rw [hc] at he
  exact va_castA F.1 F.2.1 F.2.2.2.1 (F.2.2.2.2.1 _ w1) hW.1 i he (F.2.2.2.2.2.1.1.1.2 0 _ rfl).2 hd (kk p l e9 R s m args below meth c ad D cA Z F K cs ss H locs ls hW hS hz hL)
/-- ArrayList's empty row, or another -/
theorem dr_acmpE {q : am_G × Nat} {off : Int} (tgt : Nat) (hd : decode cc pc = .ok (.if_acmp .eq off, 3)) (ht : (pc : Int) + off = (tgt : Int)) (hq : dm_ne q) (hz9 : ∀ ad, dm_ad ad → ad (.inl 4) 0 < ad (.inl 0) 0 → True) (kt : q = (.inl 4, 0) → dm_V own nm cc nL ret fr lc k0 X Tm tgt A st h d) (kf : ¬ q = (.inl 4, 0) → dm_V own nm cc nL ret fr lc k0 X Tm (pc + 3) A st h d) : dm_V own nm cc nL ret fr lc k0 X Tm pc A (.inr (.inl 4, 0) :: .inr q :: st) h d := by
  intro p l e9 R s m args below meth c ad D cA Z F K cs ss H locs ls hW hS hz hL
  obtain ⟨x0, ⟨x2, x3⟩, x4⟩ := F.2.2.2.2.2.1
  have ha := F.2.2.2.2.2.2.2.2.1
  refine lv_acmp_eq (rx := some (ad q.1 q.2)) (ry := some (ad (.inl 4) 0)) F.1 F.2.1 hd ht (fun z => ?_) (fun z => ?_)
  · refine kt ?_ p l e9 R s m args below meth c ad D cA Z F K cs ss H locs ls hW hS hz hL
    match q, hq with
    | (.inl 0, i), _ =>
      exfalso
      obtain ⟨cell, -, -, -, -, -, -, h7⟩ := x3
      have z : ad (.inl 0) i = ad (.inl 4) 0 := Option.some.inj z
      have h8 := ha i
      exact h7 (by show ad (.inl 0) 0 ≤ ad (.inl 4) 0; omega)
    | (.inl 4, 0), _ => rfl
  · refine kf (fun z9 => z ?_) p l e9 R s m args below meth c ad D cA Z F K cs ss H locs ls hW hS hz hL
    rw [z9]
end DMA
