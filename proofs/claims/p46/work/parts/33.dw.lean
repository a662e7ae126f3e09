/-! the rules of cells -/
theorem dm_lt {D : va_G} {ws : va_W} {H1 : Heap} (h : va_P D vwCl ws H1) {k : Nat} {q : Nat × va_E} (hk : ws[k]? = some q) : q.1 < H1.size := vx_lt h hk
/-- behind a write: as large as before -/
theorem dm_keep {ad : am_G → Nat → Nat} {D : va_G} {cA : Nat → ClassId} {h : am_H} {d : dm_D} {i : Nat} {H H1 : Heap} (ha : dm_ad ad) (hi : i < d.1) (hP : va_P D vwCl (dm_ws ad cA h d) H1) (hz : H.size = ad (.inl 0) 0 + d.1) (hz1 : H1.size ≤ H.size) : H1.size = ad (.inl 0) 0 + d.1 := by
  have h1 := dm_lt hP (dm_ws_at ad cA h d (show d.1 - 1 < d.1 by omega))
  have h2 := ha (d.1 - 1)
  have h1 : ad (.inl 0) (d.1 - 1) < H1.size := h1
  omega
/-- where a new cell lies -/
theorem dm_newq {ad : am_G → Nat → Nat} {D : va_G} {cA : Nat → ClassId} {h : am_H} {d : dm_D} {q : Nat} {x : va_E} {H H1 : Heap} (ha : dm_ad ad) (hP : va_P D vwCl (dm_ws ad cA h d ++ [(q, x)]) H1) (hD : va_D (dm_lo ad) (dm_ws ad cA h d ++ [(q, x)])) (hz : H.size = ad (.inl 0) 0 + d.1) (hz1 : H1.size ≤ H.size + 1) : q = ad (.inl 0) d.1 ∧ H1.size = ad (.inl 0) 0 + (d.1 + 1) := by
  have hq : (dm_ws ad cA h d ++ [(q, x)])[d.1]? = some (q, x) := by
    rw [List.getElem?_append_right (by rw [dm_ws_len]; exact Nat.le_refl _), dm_ws_len, Nat.sub_self]
    rfl
  have h1 : q < H1.size := dm_lt hP hq
  have h2 : ad (.inl 0) 0 ≤ q := hD.2 _ _ hq
  have h3 := ha d.1
  by_cases e : q = ad (.inl 0) d.1
  · exact ⟨e, by omega⟩
  · exfalso
    have hlt : q - ad (.inl 0) 0 < d.1 := by omega
    have h4 : (dm_ws ad cA h d ++ [(q, x)])[q - ad (.inl 0) 0]? = some (ad (.inl 0) (q - ad (.inl 0) 0), dm_ce ad cA h (d.2.2 (q - ad (.inl 0) 0))) := by
      rw [List.getElem?_append_left (by rw [dm_ws_len]; exact hlt)]
      exact dm_ws_at ad cA h d hlt
    have h5 := hD.1 _ _ _ _ hq h4 (by show q = ad (.inl 0) (q - ad (.inl 0) 0); rw [ha (q - ad (.inl 0) 0)]; omega)
    omega
theorem dm_same {s : State} {args : Array Value} {ref o n d9 : String} (w : (Cond.sameField ref o n d9).before args s = true) : ∀ x, s.fieldFound? o n d9 = some x → s.fieldFound? ref n d9 = some x := fun x hx => by
  cases hr : s.fieldFound? ref n d9 with
  | none => simp [Cond.before, Cond.holds, Cond.value, hr] at w
  | some y => obtain ⟨c1, k1, i1, f1⟩ := y; rw [Cond.sameField_spec hr w] at hx; exact hx
section DMW
variable {own nm : String} {cc : ByteArray} {nL : Nat} {ret : Option FieldType} {fr lc k0 : Nat} {X : dm_X} {Tm : Nat → List am_v → am_H → dm_D → Prop} {pc : Nat} {A : List (Option am_v)} {st : List am_v} {h : am_H} {d : dm_D}
theorem dr_get0 {q : am_G × Nat} {idx ci k : Nat} {ty : FieldType} {fin : Bool} {v : am_v} (hd : decode cc pc = .ok (.getfield idx, 3)) (G : am_gf own idx ci k ty fin) (e : dm_fl d q ci k = some v) (kk : dm_V own nm cc nL ret fr lc k0 X Tm (pc + 3) A (v :: st) h d) : dm_V own nm cc nL ret fr lc k0 X Tm pc A (.inr q :: st) h d := by
  intro p l e9 R s m args below meth c ad D cA Z F K cs ss H locs ls hW hS hz hL
  obtain ⟨i, fs, rfl, hi, hc, hk⟩ := dm_fl_some e
  obtain ⟨⟨C, T, N⟩, g1, g2, -, -, g5⟩ := G
  have he := dm_ws_at ad cA h d hi
  rw [hc] at he
  have hv : (fs.map (am_enc ad))[k]? = some (am_enc ad v) := by rw [List.getElem?_map, hk]; rfl
  have hK := F.2.2.2.2.2.1.1.1
  have hin := (am_cl ci _ g1).1
  rcases g5 with g5 | ⟨host, g5⟩
  · exact va_get F.1 F.2.1 F.2.2.2.2.1 hin F.2.2.2.1 hK hW.1 i he g1 k g2 (F.2.2.2.2.1 _ g5) (fun _ z => z) hv hd (kk p l e9 R s m args below meth c ad D cA Z F K cs ss H locs ls hW hS hz hL)
  · exact va_getN F.1 F.2.1 F.2.2.2.2.1 hin F.2.2.2.1 hK hW.1 i he g1 k g2 (am_nest_use g5 F.2.2.2.2.2.1.1.2.1) (fun _ z => z) hv hd (kk p l e9 R s m args below meth c ad D cA Z F K cs ss H locs ls hW hS hz hL)
theorem dr_getI {q : am_G × Nat} {idx ci k : Nat} {ty : FieldType} {fin : Bool} {x : Int32} (hd : decode cc pc = .ok (.getfield idx, 3)) (G : am_gf own idx ci k ty fin) (e : dm_fi d q ci k = some x) (kk : dm_V own nm cc nL ret fr lc k0 X Tm (pc + 3) A (am_i x :: st) h d) : dm_V own nm cc nL ret fr lc k0 X Tm pc A (.inr q :: st) h d := by
  obtain ⟨v, e1, e2⟩ := bd_some e
  rw [dm_vi_some e2] at e1
  exact dr_get0 hd G e1 kk
theorem dr_getR {q w : am_G × Nat} {idx ci k : Nat} {ty : FieldType} {fin : Bool} (hd : decode cc pc = .ok (.getfield idx, 3)) (G : am_gf own idx ci k ty fin) (e : dm_fr d q ci k = some w) (kk : dm_V own nm cc nL ret fr lc k0 X Tm (pc + 3) A (.inr w :: st) h d) : dm_V own nm cc nL ret fr lc k0 X Tm pc A (.inr q :: st) h d := by
  obtain ⟨v, e1, e2⟩ := bd_some e
  rw [dm_vr_some e2] at e1
  exact dr_get0 hd G e1 kk
/-- a field of a class below, named by the class itself -/
theorem dr_getM {q : am_G × Nat} {idx : Nat} {x : Int32} (hd : decode cc pc = .ok (.getfield idx, 3)) (w1 : Cond.fieldLink own idx "java/util/ArrayList" "modCount" "I" ∈ am_gT) (w2 : Cond.sameField "java/util/ArrayList" "java/util/AbstractList" "modCount" "I" ∈ am_gT) (e : dm_fi d q 16 0 = some x) (kk : dm_V own nm cc nL ret fr lc k0 X Tm (pc + 3) A (am_i x :: st) h d) : dm_V own nm cc nL ret fr lc k0 X Tm pc A (.inr q :: st) h d := by
  intro p l e9 R s m args below meth c ad D cA Z F K cs ss H locs ls hW hS hz hL
  obtain ⟨v, e1, e2⟩ := bd_some e
  rw [dm_vi_some e2] at e1
  obtain ⟨i, fs, rfl, hi, hc, hk⟩ := dm_fl_some e1
  have he := dm_ws_at ad cA h d hi
  rw [hc] at he
  have hv : (fs.map (am_enc ad))[0]? = some (.int x) := by rw [List.getElem?_map, hk]; rfl
  have hK := F.2.2.2.2.2.1.1.1
  have hin := (am_cl 16 _ rfl).1
  exact va_get (C := RJx4a65c) (T := TJx4a65c) F.1 F.2.1 F.2.2.2.2.1 hin F.2.2.2.1 hK hW.1 i he rfl 0 (by decide) (F.2.2.2.2.1 _ w1) (dm_same (F.2.2.2.2.1 _ w2)) hv hd (kk p l e9 R s m args below meth c ad D cA Z F K cs ss H locs ls hW hS hz hL)
/-- a String's field -/
theorem dr_getS0 {q : am_G × Nat} {idx k : Nat} {v : am_v} (hd : decode cc pc = .ok (.getfield idx, 3)) (hk : k < 4) (w1 : Cond.fieldLink own idx (TJ0 k).1 (TJ0 k).2.1 (TJ0 k).2.2.1 ∈ am_gT) (e : (dm_fl d q 13 k).or (dm_ft q k) = some v) (kk : dm_V own nm cc nL ret fr lc k0 X Tm (pc + 3) A (v :: st) h d) : dm_V own nm cc nL ret fr lc k0 X Tm pc A (.inr q :: st) h d := by
  rcases dm_or_some e with e | ⟨-, e⟩
  · have G : ∀ ty, parseFieldDescriptor (TJ0 k).2.2.1 = some ty → am_gf own idx 13 k ty (TJ0 k).2.2.2 := fun ty h9 => ⟨(RJ0, TJ0, 4), rfl, hk, rfl, h9, Or.inl w1⟩
    match k, hk with
    | 0, _ => exact dr_get0 hd (G (.array .byte) (by decide +kernel)) e kk
    | 1, _ => exact dr_get0 hd (G .byte (by decide +kernel)) e kk
    | 2, _ => exact dr_get0 hd (G .int (by decide +kernel)) e kk
    | 3, _ => exact dr_get0 hd (G .boolean (by decide +kernel)) e kk
  · intro p l e9 R s m args below meth c ad D cA Z F K cs ss H locs ls hW hS hz hL
    obtain ⟨e1, e2, e3, e6, e7, e8, e12⟩ := F.2.2.2.2.2.1.1
    match q, k, e with
    | (.inl 2, t), 0, e =>
      obtain ⟨ht, e⟩ := if_some (show (if t < 22 then some (Sum.inr (Sum.inl 3, t) : am_v) else none) = some v from e)
      cases e
      exact vk_getf F.1 F.2.1 (e6.1 t ht).2.2.1 hS F.2.2.2.1 (F.2.2.2.2.1 _ w1) (fun _ z => z) hd (kk p l e9 R s m args below meth c ad D cA Z F K cs ss H locs ls hW hS hz hL)
    | (.inl 2, t), 1, e =>
      obtain ⟨ht, e⟩ := if_some (show (if t < 22 then some (am_i 0) else none) = some v from e)
      cases e
      exact vk_getf F.1 F.2.1 (e6.1 t ht).2.1 hS F.2.2.2.1 (F.2.2.2.2.1 _ w1) (fun _ z => z) hd (kk p l e9 R s m args below meth c ad D cA Z F K cs ss H locs ls hW hS hz hL)
theorem dr_getSI {q : am_G × Nat} {idx k : Nat} {x : Int32} (hd : decode cc pc = .ok (.getfield idx, 3)) (hk : k < 4) (w1 : Cond.fieldLink own idx (TJ0 k).1 (TJ0 k).2.1 (TJ0 k).2.2.1 ∈ am_gT) (e : dm_si d q k = some x) (kk : dm_V own nm cc nL ret fr lc k0 X Tm (pc + 3) A (am_i x :: st) h d) : dm_V own nm cc nL ret fr lc k0 X Tm pc A (.inr q :: st) h d := by
  obtain ⟨v, e1, e2⟩ := bd_some e
  rw [dm_vi_some e2] at e1
  exact dr_getS0 hd hk w1 e1 kk
theorem dr_getSR {q w : am_G × Nat} {idx k : Nat} (hd : decode cc pc = .ok (.getfield idx, 3)) (hk : k < 4) (w1 : Cond.fieldLink own idx (TJ0 k).1 (TJ0 k).2.1 (TJ0 k).2.2.1 ∈ am_gT) (e : dm_sr d q k = some w) (kk : dm_V own nm cc nL ret fr lc k0 X Tm (pc + 3) A (.inr w :: st) h d) : dm_V own nm cc nL ret fr lc k0 X Tm pc A (.inr q :: st) h d := by
  obtain ⟨v, e1, e2⟩ := bd_some e
  rw [dm_vr_some e2] at e1
  exact dr_getS0 hd hk w1 e1 kk
/-- a field is written -/
theorem dr_put0 {q : am_G × Nat} {idx ci k : Nat} {ty : FieldType} {fin : Bool} {w : am_v} {d' : dm_D} (hd : decode cc pc = .ok (.putfield idx, 3)) (G : ∃ r : vw_C, vwCl[ci]? = some r ∧ k < r.2.2 ∧ (r.2.1 k).2.2.2 = fin ∧ parseFieldDescriptor (r.2.1 k).2.2.1 = some ty ∧ ((∃ ref, Cond.fieldLink own idx ref (r.2.1 k).2.1 (r.2.1 k).2.2.1 ∈ am_gT ∧ (ref = (r.2.1 k).1 ∨ Cond.sameField ref (r.2.1 k).1 (r.2.1 k).2.1 (r.2.1 k).2.2.1 ∈ am_gT)) ∨ (fin = false ∧ ∃ host : String, Cond.fieldLinkNest own idx (r.2.1 k).1 (r.2.1 k).2.1 (r.2.1 k).2.2.1 host ∈ am_nT)) ∧ (fin = true → nm = "<init>" ∧ (r.2.1 k).1 = own)) (hn : ∀ ad, narrow ty (am_enc ad w) = am_enc ad w) (hfit : ∀ ad, fits ty (am_enc ad w) = true) (e : dm_pu d q ci k w = some d') (kk : dm_V own nm cc nL ret fr lc k0 X Tm (pc + 3) A st h d') : dm_V own nm cc nL ret fr lc k0 X Tm pc A (w :: .inr q :: st) h d := by
  intro p l e9 R s m args below meth c ad D cA Z F K cs ss H locs ls hW hS hz hL
  obtain ⟨i, fs, rfl, hi, hc, hlen, rfl⟩ := dm_pu_some e
  obtain ⟨⟨C, T, N⟩, g1, g2, g3, g4, g5, g6⟩ := G
  have he := dm_ws_at ad cA h d hi
  rw [hc] at he
  have hK := F.2.2.2.2.2.1.1.1
  have ha := F.2.2.2.2.2.2.2.2.1
  obtain ⟨hin, ⟨ty0, hty⟩, hnm⟩ := am_cl ci _ g1
  refine W_exact (fun c2 s2 z1 z2 _ _ => ?_)
  have fin9 : ∀ (H1 : Heap) (locs1 : List Loc), va_P D vwCl ((dm_ws ad cA h d).set i (ad (.inl 0) i, .inr (ci, (fs.map (am_enc ad)).set k (am_enc ad w)))) H1 → va_S (dm_lo ad) s.heap H1 locs1 → W p l e9 R s m args below meth c H1 locs1 c2 s2 Z (F0 m (pc + 3) ls (st.map (am_enc ad))) := by
    intro H1 locs1 p1 p3
    have e2 : (fs.map (am_enc ad)).set k (am_enc ad w) = (fs.set k w).map (am_enc ad) := by rw [List.map_set]
    rw [e2] at p1
    have e3 : (dm_ws ad cA h d).set i (ad (.inl 0) i, .inr (ci, (fs.set k w).map (am_enc ad))) = dm_ws ad cA h (dm_se d i (.inl (ci, fs.set k w))) := dm_ws_se (ad := ad) (cA := cA) (h := h) (c := (.inl (ci, fs.set k w))) hi
    rw [e3] at p1
    refine hsz_le (fun y1 y2 => ?_)
    exact kk p l e9 R s m args below meth c ad D cA Z F K c2 s2 H1 locs1 ls ⟨p1, dm_keep (d := dm_se d i (.inl (ci, fs.set k w))) ha hi p1 hW.2.1 (by omega), hW.2.2.1, dm_hole hW (fun g z => by cases z)⟩ p3 (by show hsz H1 + k0 ≤ hsz s.heap + d.2.1; omega) hL
  have hl9 : k < (fs.map (am_enc ad)).length := by rw [List.length_map]; exact hlen
  rcases g5 with ⟨ref, g5, g7⟩ | ⟨hf9, host, g5⟩
  · have hsame : ∀ x, s.fieldFound? (T k).1 (T k).2.1 (T k).2.2.1 = some x → s.fieldFound? ref (T k).2.1 (T k).2.2.1 = some x := by
      rcases g7 with g7 | g7
      · have g7 : ref = (T k).1 := g7
        subst g7
        exact fun _ z => z
      · exact dm_same (F.2.2.2.2.1 _ g7)
    cases hf : fin with
    | false => exact va_put F.1 F.2.1 F.2.2.2.2.1 hin ty0 hty hnm F.2.2.2.1 hK hW.1 (dm_ws_D ha) hS i he g1 k g2 (F.2.2.2.2.1 _ g5) hsame (g3.trans hf) g4 (hn ad) (hfit ad) hl9 hd (fun H1 locs1 p1 p2 p3 => fin9 H1 locs1 p1 p3)
    | true => exact va_putF F.1 F.2.1 F.2.2.2.2.1 hin ty0 hty hnm F.2.2.2.1 hK hW.1 (dm_ws_D ha) hS i he g1 k g2 (F.2.2.2.2.1 _ g5) hsame (g3.trans hf) (F.2.2.2.2.2.2.2.2.2.1.trans (g6 hf).1) (g6 hf).2 g4 (hn ad) (hfit ad) hl9 hd (fun H1 locs1 p1 p2 p3 => fin9 H1 locs1 p1 p3)
  · exact va_putN F.1 F.2.1 F.2.2.2.2.1 hin ty0 hty hnm F.2.2.2.1 hK hW.1 (dm_ws_D ha) hS i he g1 k g2 (am_nest_use g5 F.2.2.2.2.2.1.1.2.1) (fun _ z => z) (g3.trans hf9) g4 (hn ad) (hfit ad) hl9 hd (fun H1 locs1 p1 p2 p3 => fin9 H1 locs1 p1 p3)
theorem dr_putI {q : am_G × Nat} {idx ci k : Nat} {ty : FieldType} {x : Int32} {d' : dm_D} (hd : decode cc pc = .ok (.putfield idx, 3)) (G : am_gf own idx ci k ty false) (hn : narrow ty (.int x) = .int x) (hfit : fits ty (.int x) = true) (e : dm_pu d q ci k (am_i x) = some d') (kk : dm_V own nm cc nL ret fr lc k0 X Tm (pc + 3) A st h d') : dm_V own nm cc nL ret fr lc k0 X Tm pc A (am_i x :: .inr q :: st) h d := by
  obtain ⟨r, g1, g2, g3, g4, g5⟩ := G
  exact dr_put0 hd ⟨r, g1, g2, g3, g4, g5.imp (fun z => ⟨_, z, Or.inl rfl⟩) (fun z => ⟨rfl, z⟩), fun z => by cases z⟩ (fun _ => hn) (fun _ => hfit) e kk
theorem dr_putR {q w : am_G × Nat} {idx ci k : Nat} {ty : FieldType} {d' : dm_D} (hd : decode cc pc = .ok (.putfield idx, 3)) (G : am_gf own idx ci k ty false) (hty : ∀ a, narrow ty (.ref a) = .ref a ∧ fits ty (.ref a) = true) (e : dm_pu d q ci k (.inr w) = some d') (kk : dm_V own nm cc nL ret fr lc k0 X Tm (pc + 3) A st h d') : dm_V own nm cc nL ret fr lc k0 X Tm pc A (.inr w :: .inr q :: st) h d := by
  obtain ⟨r, g1, g2, g3, g4, g5⟩ := G
  exact dr_put0 hd ⟨r, g1, g2, g3, g4, g5.imp (fun z => ⟨_, z, Or.inl rfl⟩) (fun z => ⟨rfl, z⟩), fun z => by cases z⟩ (fun _ => (hty _).1) (fun _ => (hty _).2) e kk
/-- a final field, in its constructor -/
theorem dr_putFR {q w : am_G × Nat} {idx ci k : Nat} {ty : FieldType} {r : vw_C} {d' : dm_D} (hd : decode cc pc = .ok (.putfield idx, 3)) (g1 : vwCl[ci]? = some r) (g2 : k < r.2.2) (g3 : (r.2.1 k).2.2.2 = true) (g4 : parseFieldDescriptor (r.2.1 k).2.2.1 = some ty) (g5 : Cond.fieldLink own idx (r.2.1 k).1 (r.2.1 k).2.1 (r.2.1 k).2.2.1 ∈ am_gT) (g6 : nm = "<init>") (g7 : (r.2.1 k).1 = own) (hty : ∀ a, narrow ty (.ref a) = .ref a ∧ fits ty (.ref a) = true) (e : dm_pu d q ci k (.inr w) = some d') (kk : dm_V own nm cc nL ret fr lc k0 X Tm (pc + 3) A st h d') : dm_V own nm cc nL ret fr lc k0 X Tm pc A (.inr w :: .inr q :: st) h d :=
  dr_put0 hd ⟨r, g1, g2, g3, g4, Or.inl ⟨_, g5, Or.inl rfl⟩, fun _ => ⟨g6, g7⟩⟩ (fun _ => (hty _).1) (fun _ => (hty _).2) e kk
theorem dr_putFI {q : am_G × Nat} {idx ci k : Nat} {ty : FieldType} {x : Int32} {r : vw_C} {d' : dm_D} (hd : decode cc pc = .ok (.putfield idx, 3)) (g1 : vwCl[ci]? = some r) (g2 : k < r.2.2) (g3 : (r.2.1 k).2.2.2 = true) (g4 : parseFieldDescriptor (r.2.1 k).2.2.1 = some ty) (g5 : Cond.fieldLink own idx (r.2.1 k).1 (r.2.1 k).2.1 (r.2.1 k).2.2.1 ∈ am_gT) (g6 : nm = "<init>") (g7 : (r.2.1 k).1 = own) (hn : narrow ty (.int x) = .int x) (hfit : fits ty (.int x) = true) (e : dm_pu d q ci k (am_i x) = some d') (kk : dm_V own nm cc nL ret fr lc k0 X Tm (pc + 3) A st h d') : dm_V own nm cc nL ret fr lc k0 X Tm pc A (am_i x :: .inr q :: st) h d :=
  dr_put0 hd ⟨r, g1, g2, g3, g4, Or.inl ⟨_, g5, Or.inl rfl⟩, fun _ => ⟨g6, g7⟩⟩ (fun _ => hn) (fun _ => hfit) e kk
theorem dr_putM {q : am_G × Nat} {idx : Nat} {x : Int32} {d' : dm_D} (hd : decode cc pc = .ok (.putfield idx, 3)) (w1 : Cond.fieldLink own idx "java/util/ArrayList" "modCount" "I" ∈ am_gT) (w2 : Cond.sameField "java/util/ArrayList" "java/util/AbstractList" "modCount" "I" ∈ am_gT) (e : dm_pu d q 16 0 (am_i x) = some d') (kk : dm_V own nm cc nL ret fr lc k0 X Tm (pc + 3) A st h d') : dm_V own nm cc nL ret fr lc k0 X Tm pc A (am_i x :: .inr q :: st) h d :=
  dr_put0 (fin := false) hd ⟨(RJx4a65c, TJx4a65c, 3), rfl, (by decide), rfl, rfl, Or.inl ⟨_, w1, Or.inr w2⟩, fun z => by cases z⟩ (fun _ => rfl) (fun _ => rfl) e kk
/-- how long a row is -/
theorem dr_len {q : am_G × Nat} {x : Int32} (hd : decode cc pc = .ok (.arraylength, 1)) (e : dm_ln X d q = some x) (kk : dm_V own nm cc nL ret fr lc k0 X Tm (pc + 1) A (am_i x :: st) h d) : dm_V own nm cc nL ret fr lc k0 X Tm pc A (.inr q :: st) h d := by
  intro p l e9 R s m args below meth c ad D cA Z F K cs ss H locs ls hW hS hz hL
  have hK := F.2.2.2.2.2.1.1.1
  unfold dm_ln at e
  obtain ⟨n, e5, e6⟩ := Option.map_eq_some_iff.mp e
  clear e
  subst e6
  rcases dm_or_some e5 with e | ⟨-, e⟩
  · rcases dm_or_some e with e | ⟨-, e⟩
    · obtain ⟨⟨i, t, n', f⟩, e1, e2⟩ := bd_some e
      obtain ⟨ht, e2⟩ := if_some e2
      cases e2
      obtain ⟨rfl, hi, hc⟩ := dm_ar_some e1
      have he := dm_ws_at ad cA h d hi
      rw [hc] at he
      have hk := kk p l e9 R s m args below meth c ad D cA Z F K cs ss H locs ls hW hS hz hL
      have hty : ∃ ty, (am_ty cA)[t]? = some (cA t, ty) := by
        match t, ht with
        | 0, _ => exact ⟨_, rfl⟩
        | 1, _ => exact ⟨_, rfl⟩
        | 2, _ => exact ⟨_, rfl⟩
        | 3, _ => exact ⟨_, rfl⟩
        | 4, _ => exact ⟨_, rfl⟩
      obtain ⟨ty, hty⟩ := hty
      exact va_alen F.1 F.2.1 hK hW.1 i t he hty rfl hd hk
    · obtain ⟨⟨i, n', f⟩, e1, rfl⟩ := Option.map_eq_some_iff.mp e
      obtain ⟨rfl, hi, hc⟩ := dm_rr_some e1
      have he := dm_ws_at ad cA h d hi
      rw [hc] at he
      exact va_alen F.1 F.2.1 hK hW.1 i 3 he rfl rfl hd (kk p l e9 R s m args below meth c ad D cA Z F K cs ss H locs ls hW hS hz hL)
  · have hk := kk p l e9 R s m args below meth c ad D cA Z F K cs ss H locs ls hW hS hz hL
    obtain ⟨⟨e1, e2, e3, e6, e7, e8, e12⟩, ⟨x2, x3⟩, ⟨x4, x5⟩, ⟨x6, x7⟩, ⟨x8, x9⟩, x10⟩ := F.2.2.2.2.2.1
    by_cases hq : q = (.inl 4, 3)
    · rw [if_pos hq] at e
      cases e
      subst hq
      obtain ⟨scr, g1, -⟩ := id x8
      exact va_slen F.1 F.2.1 x8 (Array.getElem?_eq_some_iff.mp g1).1 (fun z => by have z : ad (.inl 0) 0 ≤ ad (.inl 4) 3 := z; omega) hS hd hk
    · rw [if_neg hq] at e
      match q, e with
      | (.inl 3, t), e =>
        obtain ⟨ht, e⟩ := if_some (show (if t < 22 then some (am_tx t).length else none) = some n from e)
        cases e
        exact va_tlen F.1 F.2.1 (e6.1 t ht).2.2.2 hS (by rw [(am_sl_at (Nat.blt_eq.mpr ht)).1]) hd hk
      | (.inl 4, 0), e =>
        cases e
        exact va_tlen F.1 F.2.1 x3 hS rfl hd hk
/-- a number of a row is read -/
theorem dr_iald {q : am_G × Nat} {i x : Int32} (hd : decode cc pc = .ok (.iaload, 1)) (e : dm_li X d q i = some x) (kk : dm_V own nm cc nL ret fr lc k0 X Tm (pc + 1) A (am_i x :: st) h d) : dm_V own nm cc nL ret fr lc k0 X Tm pc A (am_i i :: .inr q :: st) h d := by
  intro p l e9 R s m args below meth c ad D cA Z F K cs ss H locs ls hW hS hz hL
  have hk := kk p l e9 R s m args below meth c ad D cA Z F K cs ss H locs ls hW hS hz hL
  rcases dm_or_some e with e | ⟨-, e⟩
  · obtain ⟨j, n, f, rfl, hj, hc, hin, rfl⟩ := dm_ai_some e
    have he := dm_ws_at ad cA h d hj
    rw [hc] at he
    exact va_iald F.1 F.2.1 F.2.2.2.2.2.1.1.1 hW.1 j 0 he rfl (ib_in hin) hd hk
  · obtain ⟨⟨hq, hin⟩, e5⟩ := if_some e
    clear e
    subst hq
    cases e5
    obtain ⟨x0, x1, x2, x3, ⟨x8, x9⟩, x10⟩ := F.2.2.2.2.2.1
    obtain ⟨scr, g1, -⟩ := id x8
    exact va_sld F.1 F.2.1 x8 (Array.getElem?_eq_some_iff.mp g1).1 (fun z => by have z : ad (.inl 0) 0 ≤ ad (.inl 4) 3 := z; omega) hS (ib_in hin) hd hk
theorem dr_bald {q : am_G × Nat} {i x : Int32} (hd : decode cc pc = .ok (.baload, 1)) (e : dm_lb d q i = some x) (kk : dm_V own nm cc nL ret fr lc k0 X Tm (pc + 1) A (am_i x :: st) h d) : dm_V own nm cc nL ret fr lc k0 X Tm pc A (am_i i :: .inr q :: st) h d := by
  intro p l e9 R s m args below meth c ad D cA Z F K cs ss H locs ls hW hS hz hL
  have hk := kk p l e9 R s m args below meth c ad D cA Z F K cs ss H locs ls hW hS hz hL
  rcases dm_or_some e with e | ⟨-, e⟩
  · obtain ⟨j, n, f, rfl, hj, hc, hin, rfl⟩ := dm_ai_some e
    have he := dm_ws_at ad cA h d hj
    rw [hc] at he
    exact va_bald F.1 F.2.1 F.2.2.2.2.2.1.1.1 hW.1 j 1 he rfl (ib_in hin) hd hk
  · obtain ⟨⟨e1, e2, e3, e6, e7, e8, e12⟩, ⟨x2, x3⟩, ⟨x4, x5⟩, ⟨x6, x7⟩, x8⟩ := F.2.2.2.2.2.1
    match q, e with
    | (.inl 3, t), e =>
      obtain ⟨⟨ht, hin⟩, e⟩ := if_some (show (if t < 22 ∧ ib i (am_tx t).length then some ((am_tx t).getD i.toNatClampNeg 0) else none) = some x from e)
      cases e
      obtain ⟨s1, s2⟩ := am_sl_at (Nat.blt_eq.mpr ht)
      exact va_tb F.1 F.2.1 (e6.1 t ht).2.2.2 hS (by rw [s1]; exact ib_in hin) (by rw [s2]; rfl) hd hk
    | (.inl 4, 1), e =>
      obtain ⟨hin, e⟩ := if_some (show (if ib i 100 then some (dm_d1 i.toNatClampNeg) else none) = some x from e)
      cases e
      exact va_tb F.1 F.2.1 x5 hS (ib_in hin) rfl hd hk
    | (.inl 4, 2), e =>
      obtain ⟨hin, e⟩ := if_some (show (if ib i 100 then some (dm_d10 i.toNatClampNeg) else none) = some x from e)
      cases e
      exact va_tb F.1 F.2.1 x7 hS (ib_in hin) rfl hd hk
theorem dr_aald {q w : am_G × Nat} {i : Int32} (hd : decode cc pc = .ok (.aaload, 1)) (e : dm_lr d q i = some w) (kk : dm_V own nm cc nL ret fr lc k0 X Tm (pc + 1) A (.inr w :: st) h d) : dm_V own nm cc nL ret fr lc k0 X Tm pc A (am_i i :: .inr q :: st) h d := by
  intro p l e9 R s m args below meth c ad D cA Z F K cs ss H locs ls hW hS hz hL
  have hk := kk p l e9 R s m args below meth c ad D cA Z F K cs ss H locs ls hW hS hz hL
  obtain ⟨j, n, f, k, rfl, hj, hc, hin, hf, rfl⟩ := dm_lr_some e
  have he := dm_ws_at ad cA h d hj
  rw [hc] at he
  refine va_aldq F.1 F.2.1 F.2.2.2.2.2.1.1.1 hW.1 j 3 he rfl (ib_in hin) hd ?_
  show W p l e9 R s m args below meth c H locs cs ss Z (F0 m (pc + 1) ls (va_rf ((f i.toNatClampNeg).map (ad (.inl 0))) :: st.map (am_enc ad)))
  rw [hf]
  exact hk
/-- a number of a row is written -/
theorem dr_iast {q : am_G × Nat} {i x : Int32} {d' : dm_D} (hd : decode cc pc = .ok (.iastore, 1)) (e : dm_wi d q 0 i x = some d') (kk : dm_V own nm cc nL ret fr lc k0 X Tm (pc + 1) A st h d') : dm_V own nm cc nL ret fr lc k0 X Tm pc A (am_i x :: am_i i :: .inr q :: st) h d := by
  intro p l e9 R s m args below meth c ad D cA Z F K cs ss H locs ls hW hS hz hL
  obtain ⟨j, n, f, rfl, hj, hc, hin, rfl⟩ := dm_wi_some e
  have he := dm_ws_at ad cA h d hj
  rw [hc] at he
  have ha := F.2.2.2.2.2.2.2.2.1
  refine W_exact (fun c2 s2 z1 z2 _ _ => ?_)
  refine va_iast F.1 F.2.1 F.2.2.2.2.2.1.1.1 hW.1 (dm_ws_D ha) hS j 0 he rfl (ib_in hin) hd (fun H1 locs1 p1 p2 p3 => ?_)
  have e3 : (dm_ws ad cA h d).set j (ad (.inl 0) j, .inl (cA 0, n, .inl (upd f i.toNatClampNeg x))) = dm_ws ad cA h (dm_se d j (.inr (.inl (0, n, upd f i.toNatClampNeg x)))) := dm_ws_se (ad := ad) (cA := cA) (h := h) (c := (.inr (.inl (0, n, upd f i.toNatClampNeg x)))) hj
  rw [e3] at p1
  refine hsz_le (fun y1 y2 => ?_)
  exact kk p l e9 R s m args below meth c ad D cA Z F K c2 s2 H1 locs1 ls ⟨p1, dm_keep (d := dm_se d j (.inr (.inl (0, n, upd f i.toNatClampNeg x)))) ha hj p1 hW.2.1 (by omega), hW.2.2.1, dm_hole hW (fun g z => by cases z)⟩ p3 (by show hsz H1 + k0 ≤ hsz s.heap + d.2.1; omega) hL
theorem dr_bast {q : am_G × Nat} {i x : Int32} {d' : dm_D} (hd : decode cc pc = .ok (.bastore, 1)) (e : dm_wi d q 1 i (vp_nar .byte x) = some d') (kk : dm_V own nm cc nL ret fr lc k0 X Tm (pc + 1) A st h d') : dm_V own nm cc nL ret fr lc k0 X Tm pc A (am_i x :: am_i i :: .inr q :: st) h d := by
  intro p l e9 R s m args below meth c ad D cA Z F K cs ss H locs ls hW hS hz hL
  obtain ⟨j, n, f, rfl, hj, hc, hin, rfl⟩ := dm_wi_some e
  have he := dm_ws_at ad cA h d hj
  rw [hc] at he
  have ha := F.2.2.2.2.2.2.2.2.1
  refine W_exact (fun c2 s2 z1 z2 _ _ => ?_)
  refine va_bast F.1 F.2.1 F.2.2.2.2.2.1.1.1 hW.1 (dm_ws_D ha) hS j 1 he rfl (ib_in hin) hd (fun H1 locs1 p1 p2 p3 => ?_)
  have e3 : (dm_ws ad cA h d).set j (ad (.inl 0) j, .inl (cA 1, n, .inl (upd f i.toNatClampNeg (vp_nar .byte x)))) = dm_ws ad cA h (dm_se d j (.inr (.inl (1, n, upd f i.toNatClampNeg (vp_nar .byte x))))) := dm_ws_se (ad := ad) (cA := cA) (h := h) (c := (.inr (.inl (1, n, upd f i.toNatClampNeg (vp_nar .byte x))))) hj
  rw [e3] at p1
  refine hsz_le (fun y1 y2 => ?_)
  exact kk p l e9 R s m args below meth c ad D cA Z F K c2 s2 H1 locs1 ls ⟨p1, dm_keep (d := dm_se d j (.inr (.inl (1, n, upd f i.toNatClampNeg (vp_nar .byte x))))) ha hj p1 hW.2.1 (by omega), hW.2.2.1, dm_hole hW (fun g z => by cases z)⟩ p3 (by show hsz H1 + k0 ≤ hsz s.heap + d.2.1; omega) hL
/-- null, or a row of ints, into a row of references -/
theorem dr_aastN {q : am_G × Nat} {i : Int32} {d' : dm_D} (hd : decode cc pc = .ok (.aastore, 1)) (e : dm_wr d q i none = some d') (kk : dm_V own nm cc nL ret fr lc k0 X Tm (pc + 1) A st h d') : dm_V own nm cc nL ret fr lc k0 X Tm pc A (.inl .null :: am_i i :: .inr q :: st) h d := by
  intro p l e9 R s m args below meth c ad D cA Z F K cs ss H locs ls hW hS hz hL
  obtain ⟨j, n, f, rfl, hj, hc, hin, rfl⟩ := dm_wr_some e
  have he := dm_ws_at ad cA h d hj
  rw [hc] at he
  have ha := F.2.2.2.2.2.2.2.2.1
  refine W_exact (fun c2 s2 z1 z2 _ _ => ?_)
  refine va_astqN F.1 F.2.1 F.2.2.2.2.2.1.1.1 hW.1 (dm_ws_D ha) hS j 3 he rfl (ib_in hin) hd (fun H1 locs1 p1 p2 p3 => ?_)
  have e4 : va_up (fun i => (f i).map (ad (.inl 0))) i.toNatClampNeg none = fun k => (va_up f i.toNatClampNeg none k).map (ad (.inl 0)) := by
    funext k
    unfold va_up
    split <;> rfl
  rw [e4] at p1
  have e3 : (dm_ws ad cA h d).set j (ad (.inl 0) j, .inl (cA 3, n, .inr (.inr (.inr (.inr (fun k => (va_up f i.toNatClampNeg none k).map (ad (.inl 0)))))))) = dm_ws ad cA h (dm_se d j (.inr (.inr (.inl (n, va_up f i.toNatClampNeg none))))) := dm_ws_se (ad := ad) (cA := cA) (h := h) (c := (.inr (.inr (.inl (n, va_up f i.toNatClampNeg none))))) hj
  rw [e3] at p1
  refine hsz_le (fun y1 y2 => ?_)
  exact kk p l e9 R s m args below meth c ad D cA Z F K c2 s2 H1 locs1 ls ⟨p1, dm_keep (d := dm_se d j (.inr (.inr (.inl (n, va_up f i.toNatClampNeg none))))) ha hj p1 hW.2.1 (by omega), hW.2.2.1, dm_hole hW (fun g z => by cases z)⟩ p3 (by show hsz H1 + k0 ≤ hsz s.heap + d.2.1; omega) hL
/-- the cell of a row of ints -/
theorem dm_rcI {ad : am_G → Nat → Nat} {D : va_G} {cA : Nat → ClassId} {h : am_H} {d : dm_D} {H : Heap} {s : State} {k n : Nat} {f : Nat → Int32} (hK : va_K D vwCl (am_ty cA) s) (hP : va_P D vwCl (dm_ws ad cA h d) H) (hk : k < d.1) (hc : d.2.2 k = .inr (.inl (0, n, f))) : ∃ cellV : Cell, H[ad (.inl 0) k]? = some cellV ∧ cellV.vm.isStatics = false ∧ s.vm.findClass "[I" = some cellV.cls := by
  have he := dm_ws_at ad cA h d hk
  rw [hc] at he
  have h1 := hP k _ he
  refine ⟨_, h1, rfl, ?_⟩
  exact (hK.2 0 _ rfl).2
theorem dr_aast {q w : am_G × Nat} {i : Int32} {d' : dm_D} (hd : decode cc pc = .ok (.aastore, 1)) (e : dm_as d q i w = some d') (kk : dm_V own nm cc nL ret fr lc k0 X Tm (pc + 1) A st h d') : dm_V own nm cc nL ret fr lc k0 X Tm pc A (.inr w :: am_i i :: .inr q :: st) h d := by
  intro p l e9 R s m args below meth c ad D cA Z F K cs ss H locs ls hW hS hz hL
  obtain ⟨⟨k, t9, n9, f9⟩, hc9, e5⟩ := bd_some e
  obtain ⟨ht9, e6⟩ := if_some e5
  clear e e5
  have ht9 : t9 = 0 := ht9
  subst ht9
  obtain ⟨rfl, hk9, hc8⟩ := dm_ar_some hc9
  obtain ⟨j, n, f, rfl, hj, hc, hin, rfl⟩ := dm_wr_some e6
  have he := dm_ws_at ad cA h d hj
  rw [hc] at he
  have ha := F.2.2.2.2.2.2.2.2.1
  have hE := F.2.2.2.2.2.1
  obtain ⟨x0, x1, x2, x3, x4, x5, x6, x7, x13, x14⟩ := hE
  refine W_exact (fun c2 s2 z1 z2 _ _ => ?_)
  refine vb_astq (C := "[I") (E := "java/lang/Object") F.1 F.2.1 F.2.2.2.2.2.1.1.1 hW.1 (dm_ws_D ha) hS j 3 he rfl (dm_rcI F.2.2.2.2.2.1.1.1 hW.1 hk9 hc8) (vb_asgC x13.1) (ib_in hin) hd (fun H1 locs1 p1 p2 p3 => ?_)
  have e4 : va_up (fun i => (f i).map (ad (.inl 0))) i.toNatClampNeg (some (ad (.inl 0) k)) = fun m => (va_up f i.toNatClampNeg (some k) m).map (ad (.inl 0)) := by
    funext m
    unfold va_up
    split <;> rfl
  rw [e4] at p1
  have e3 : (dm_ws ad cA h d).set j (ad (.inl 0) j, .inl (cA 3, n, .inr (.inr (.inr (.inr (fun m => (va_up f i.toNatClampNeg (some k) m).map (ad (.inl 0)))))))) = dm_ws ad cA h (dm_se d j (.inr (.inr (.inl (n, va_up f i.toNatClampNeg (some k)))))) := dm_ws_se (ad := ad) (cA := cA) (h := h) (c := (.inr (.inr (.inl (n, va_up f i.toNatClampNeg (some k)))))) hj
  rw [e3] at p1
  refine hsz_le (fun y1 y2 => ?_)
  exact kk p l e9 R s m args below meth c ad D cA Z F K c2 s2 H1 locs1 ls ⟨p1, dm_keep (d := dm_se d j (.inr (.inr (.inl (n, va_up f i.toNatClampNeg (some k)))))) ha hj p1 hW.2.1 (by omega), hW.2.2.1, dm_hole hW (fun g z => by cases z)⟩ p3 (by show hsz H1 + k0 ≤ hsz s.heap + d.2.1; omega) hL
end DMW
