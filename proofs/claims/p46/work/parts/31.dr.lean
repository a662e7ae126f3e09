section DMR
variable {own nm : String} {cc : ByteArray} {nL : Nat} {ret : Option FieldType} {fr lc k0 : Nat} {X : dm_X} {Tm : Nat → List am_v → am_H → dm_D → Prop} {pc : Nat} {A : List (Option am_v)} {st : List am_v} {h : am_H} {d : dm_D}
theorem dr_iconst {n : Int} (v : Int32) (hd : decode cc pc = .ok (.iconst n, 1)) (hv : Int32.ofInt n = v) (k : dm_V own nm cc nL ret fr lc k0 X Tm (pc + 1) (A) (am_i v :: st) h d) : dm_V own nm cc nL ret fr lc k0 X Tm (pc) (A) (st) h d := by
  intro p l e R s m args below meth c ad D cA Z F K cs ss H locs ls hW hS hz hL
  exact lv_iconst F.1 F.2.1 hd hv (k p l e R s m args below meth c ad D cA Z F K cs ss H locs ls hW hS hz hL)
theorem dr_bipush {n : Int} (v : Int32) (hd : decode cc pc = .ok (.bipush n, 2)) (hv : (Int8.ofInt n).toInt32 = v) (k : dm_V own nm cc nL ret fr lc k0 X Tm (pc + 2) (A) (am_i v :: st) h d) : dm_V own nm cc nL ret fr lc k0 X Tm (pc) (A) (st) h d := by
  intro p l e R s m args below meth c ad D cA Z F K cs ss H locs ls hW hS hz hL
  exact lv_bipush F.1 F.2.1 hd hv (k p l e R s m args below meth c ad D cA Z F K cs ss H locs ls hW hS hz hL)
theorem dr_sipush {n : Int} (v : Int32) (hd : decode cc pc = .ok (.sipush n, 3)) (hv : (Int16.ofInt n).toInt32 = v) (k : dm_V own nm cc nL ret fr lc k0 X Tm (pc + 3) (A) (am_i v :: st) h d) : dm_V own nm cc nL ret fr lc k0 X Tm (pc) (A) (st) h d := by
  intro p l e R s m args below meth c ad D cA Z F K cs ss H locs ls hW hS hz hL
  exact lv_sipush F.1 F.2.1 hd hv (k p l e R s m args below meth c ad D cA Z F K cs ss H locs ls hW hS hz hL)
theorem dr_ldc {idx : Nat} (v : Int32) (hd : decode cc pc = .ok (.ldc idx, 2)) (hw : Cond.constant own idx v ∈ am_gT) (k : dm_V own nm cc nL ret fr lc k0 X Tm (pc + 2) (A) (am_i v :: st) h d) : dm_V own nm cc nL ret fr lc k0 X Tm (pc) (A) (st) h d := by
  intro p l e R s m args below meth c ad D cA Z F K cs ss H locs ls hW hS hz hL
  exact lv_ldc F.1 F.2.1 F.2.2.2.1 (F.2.2.2.2.1 _ hw) hd (k p l e R s m args below meth c ad D cA Z F K cs ss H locs ls hW hS hz hL)
theorem dr_iload {i : Nat} {x : Int32} (hd : decode cc pc = .ok (.iload i, 2)) (hi : A[i]? = some (some (am_i x))) (k : dm_V own nm cc nL ret fr lc k0 X Tm (pc + 2) (A) (am_i x :: st) h d) : dm_V own nm cc nL ret fr lc k0 X Tm (pc) (A) (st) h d := by
  intro p l e R s m args below meth c ad D cA Z F K cs ss H locs ls hW hS hz hL
  exact lv_iload F.1 F.2.1 hd (hL.2.2 i _ hi) (k p l e R s m args below meth c ad D cA Z F K cs ss H locs ls hW hS hz hL)
theorem dr_iload_n {i : Nat} {f : Fin 4} {x : Int32} (hd : decode cc pc = .ok (.iload_n f, 1)) (hf : (f : Nat) = i) (hi : A[i]? = some (some (am_i x))) (k : dm_V own nm cc nL ret fr lc k0 X Tm (pc + 1) (A) (am_i x :: st) h d) : dm_V own nm cc nL ret fr lc k0 X Tm (pc) (A) (st) h d := by
  intro p l e R s m args below meth c ad D cA Z F K cs ss H locs ls hW hS hz hL
  exact lv_iload_n F.1 F.2.1 hd hf (hL.2.2 i _ hi) (k p l e R s m args below meth c ad D cA Z F K cs ss H locs ls hW hS hz hL)
theorem dr_aload {i : Nat} {q : am_G × Nat} (hd : decode cc pc = .ok (.aload i, 2)) (hi : A[i]? = some (some (.inr q))) (k : dm_V own nm cc nL ret fr lc k0 X Tm (pc + 2) (A) (.inr q :: st) h d) : dm_V own nm cc nL ret fr lc k0 X Tm (pc) (A) (st) h d := by
  intro p l e R s m args below meth c ad D cA Z F K cs ss H locs ls hW hS hz hL
  exact lv_aload F.1 F.2.1 hd (hL.2.2 i _ hi) (k p l e R s m args below meth c ad D cA Z F K cs ss H locs ls hW hS hz hL)
theorem dr_aload_n {i : Nat} {f : Fin 4} {q : am_G × Nat} (hd : decode cc pc = .ok (.aload_n f, 1)) (hf : (f : Nat) = i) (hi : A[i]? = some (some (.inr q))) (k : dm_V own nm cc nL ret fr lc k0 X Tm (pc + 1) (A) (.inr q :: st) h d) : dm_V own nm cc nL ret fr lc k0 X Tm (pc) (A) (st) h d := by
  intro p l e R s m args below meth c ad D cA Z F K cs ss H locs ls hW hS hz hL
  exact lv_aload_n F.1 F.2.1 hd hf (hL.2.2 i _ hi) (k p l e R s m args below meth c ad D cA Z F K cs ss H locs ls hW hS hz hL)
theorem dr_istore {i : Nat} {x : Int32} {Aq : List (Option am_v)} (hd : decode cc pc = .ok (.istore i, 2)) (hi : i < A.length) (hn : i < nL) (hb : am_b4 A i) (hA : A.set i (some (am_i x)) = Aq) (k : dm_V own nm cc nL ret fr lc k0 X Tm (pc + 2) (Aq) (st) h d) : dm_V own nm cc nL ret fr lc k0 X Tm (pc) (A) (am_i x :: st) h d := by
  intro p l e R s m args below meth c ad D cA Z F K cs ss H locs ls hW hS hz hL
  subst hA
  obtain ⟨lv, h1, h2⟩ := hL.list
  exact lv_istore F.1 F.2.1 hd h1 hn rfl (fun ls' hl => k p l e R s m args below meth c ad D cA Z F K cs ss H locs ls' hW hS hz (am_L.st1 h2 hl hi hb))
theorem dr_istore_n {i : Nat} {f : Fin 4} {x : Int32} {Aq : List (Option am_v)} (hd : decode cc pc = .ok (.istore_n f, 1)) (hf : (f : Nat) = i) (hi : i < A.length) (hn : i < nL) (hb : am_b4 A i) (hA : A.set i (some (am_i x)) = Aq) (k : dm_V own nm cc nL ret fr lc k0 X Tm (pc + 1) (Aq) (st) h d) : dm_V own nm cc nL ret fr lc k0 X Tm (pc) (A) (am_i x :: st) h d := by
  intro p l e R s m args below meth c ad D cA Z F K cs ss H locs ls hW hS hz hL
  subst hA
  obtain ⟨lv, h1, h2⟩ := hL.list
  exact lv_istore_n F.1 F.2.1 hd hf h1 hn rfl (fun ls' hl => k p l e R s m args below meth c ad D cA Z F K cs ss H locs ls' hW hS hz (am_L.st1 h2 hl hi hb))
theorem dr_astore {i : Nat} {q : am_G × Nat} {Aq : List (Option am_v)} (hd : decode cc pc = .ok (.astore i, 2)) (hi : i < A.length) (hn : i < nL) (hb : am_b4 A i) (hA : A.set i (some (.inr q)) = Aq) (k : dm_V own nm cc nL ret fr lc k0 X Tm (pc + 2) (Aq) (st) h d) : dm_V own nm cc nL ret fr lc k0 X Tm (pc) (A) (.inr q :: st) h d := by
  intro p l e R s m args below meth c ad D cA Z F K cs ss H locs ls hW hS hz hL
  subst hA
  obtain ⟨lv, h1, h2⟩ := hL.list
  exact lv_astore F.1 F.2.1 hd h1 hn rfl (fun ls' hl => k p l e R s m args below meth c ad D cA Z F K cs ss H locs ls' hW hS hz (am_L.st1 h2 hl hi hb))
theorem dr_astore_n {i : Nat} {f : Fin 4} {q : am_G × Nat} {Aq : List (Option am_v)} (hd : decode cc pc = .ok (.astore_n f, 1)) (hf : (f : Nat) = i) (hi : i < A.length) (hn : i < nL) (hb : am_b4 A i) (hA : A.set i (some (.inr q)) = Aq) (k : dm_V own nm cc nL ret fr lc k0 X Tm (pc + 1) (Aq) (st) h d) : dm_V own nm cc nL ret fr lc k0 X Tm (pc) (A) (.inr q :: st) h d := by
  intro p l e R s m args below meth c ad D cA Z F K cs ss H locs ls hW hS hz hL
  subst hA
  obtain ⟨lv, h1, h2⟩ := hL.list
  exact lv_astore_n F.1 F.2.1 hd hf h1 hn rfl (fun ls' hl => k p l e R s m args below meth c ad D cA Z F K cs ss H locs ls' hW hS hz (am_L.st1 h2 hl hi hb))
theorem dr_iinc {i : Nat} {n : Int} {x v : Int32} {Aq : List (Option am_v)} (hd : decode cc pc = .ok (.iinc i n, 3)) (hi : A[i]? = some (some (am_i x))) (hn : i < nL) (hv : x + Int32.ofInt n = v) (hb : am_b4 A i) (hA : A.set i (some (am_i v)) = Aq) (k : dm_V own nm cc nL ret fr lc k0 X Tm (pc + 3) (Aq) (st) h d) : dm_V own nm cc nL ret fr lc k0 X Tm (pc) (A) (st) h d := by
  intro p l e R s m args below meth c ad D cA Z F K cs ss H locs ls hW hS hz hL
  subst hA
  obtain ⟨lv, h1, h2⟩ := hL.list
  obtain ⟨q, hq⟩ := List.getElem?_of_mem (h2 i _ hi)
  exact lv_iinc F.1 F.2.1 hd h1 hq hv hn rfl (fun ls' hl => k p l e R s m args below meth c ad D cA Z F K cs ss H locs ls' hW hS hz (am_L.st1 h2 hl (List.getElem?_eq_some_iff.mp hi).1 hb))
theorem dr_iadd {x y : Int32} (hd : decode cc pc = .ok (.iadd, 1))  (k : dm_V own nm cc nL ret fr lc k0 X Tm (pc + 1) (A) (am_i (x + y) :: st) h d) : dm_V own nm cc nL ret fr lc k0 X Tm (pc) (A) (am_i y :: am_i x :: st) h d := by
  intro p l e R s m args below meth c ad D cA Z F K cs ss H locs ls hW hS hz hL
  exact lv_iadd F.1 F.2.1 hd (k p l e R s m args below meth c ad D cA Z F K cs ss H locs ls hW hS hz hL)
theorem dr_isub {x y : Int32} (hd : decode cc pc = .ok (.isub, 1))  (k : dm_V own nm cc nL ret fr lc k0 X Tm (pc + 1) (A) (am_i (x - y) :: st) h d) : dm_V own nm cc nL ret fr lc k0 X Tm (pc) (A) (am_i y :: am_i x :: st) h d := by
  intro p l e R s m args below meth c ad D cA Z F K cs ss H locs ls hW hS hz hL
  exact lv_isub F.1 F.2.1 hd (k p l e R s m args below meth c ad D cA Z F K cs ss H locs ls hW hS hz hL)
theorem dr_imul {x y : Int32} (hd : decode cc pc = .ok (.imul, 1))  (k : dm_V own nm cc nL ret fr lc k0 X Tm (pc + 1) (A) (am_i (x * y) :: st) h d) : dm_V own nm cc nL ret fr lc k0 X Tm (pc) (A) (am_i y :: am_i x :: st) h d := by
  intro p l e R s m args below meth c ad D cA Z F K cs ss H locs ls hW hS hz hL
  exact lv_imul F.1 F.2.1 hd (k p l e R s m args below meth c ad D cA Z F K cs ss H locs ls hW hS hz hL)
theorem dr_iand {x y : Int32} (hd : decode cc pc = .ok (.iand, 1))  (k : dm_V own nm cc nL ret fr lc k0 X Tm (pc + 1) (A) (am_i (x &&& y) :: st) h d) : dm_V own nm cc nL ret fr lc k0 X Tm (pc) (A) (am_i y :: am_i x :: st) h d := by
  intro p l e R s m args below meth c ad D cA Z F K cs ss H locs ls hW hS hz hL
  exact lv_iand F.1 F.2.1 hd (k p l e R s m args below meth c ad D cA Z F K cs ss H locs ls hW hS hz hL)
theorem dr_ior {x y : Int32} (hd : decode cc pc = .ok (.ior, 1))  (k : dm_V own nm cc nL ret fr lc k0 X Tm (pc + 1) (A) (am_i (x ||| y) :: st) h d) : dm_V own nm cc nL ret fr lc k0 X Tm (pc) (A) (am_i y :: am_i x :: st) h d := by
  intro p l e R s m args below meth c ad D cA Z F K cs ss H locs ls hW hS hz hL
  exact lv_ior F.1 F.2.1 hd (k p l e R s m args below meth c ad D cA Z F K cs ss H locs ls hW hS hz hL)
theorem dr_ixor {x y : Int32} (hd : decode cc pc = .ok (.ixor, 1))  (k : dm_V own nm cc nL ret fr lc k0 X Tm (pc + 1) (A) (am_i (x ^^^ y) :: st) h d) : dm_V own nm cc nL ret fr lc k0 X Tm (pc) (A) (am_i y :: am_i x :: st) h d := by
  intro p l e R s m args below meth c ad D cA Z F K cs ss H locs ls hW hS hz hL
  exact lv_ixor F.1 F.2.1 hd (k p l e R s m args below meth c ad D cA Z F K cs ss H locs ls hW hS hz hL)
theorem dr_idiv {x y : Int32} (hd : decode cc pc = .ok (.idiv, 1)) (hne : ¬ y = 0) (k : dm_V own nm cc nL ret fr lc k0 X Tm (pc + 1) (A) (am_i (x / y) :: st) h d) : dm_V own nm cc nL ret fr lc k0 X Tm (pc) (A) (am_i y :: am_i x :: st) h d := by
  intro p l e R s m args below meth c ad D cA Z F K cs ss H locs ls hW hS hz hL
  exact lv_idiv F.1 F.2.1 hd hne (k p l e R s m args below meth c ad D cA Z F K cs ss H locs ls hW hS hz hL)
theorem dr_irem {x y : Int32} (hd : decode cc pc = .ok (.irem, 1)) (hne : ¬ y = 0) (k : dm_V own nm cc nL ret fr lc k0 X Tm (pc + 1) (A) (am_i (x - x / y * y) :: st) h d) : dm_V own nm cc nL ret fr lc k0 X Tm (pc) (A) (am_i y :: am_i x :: st) h d := by
  intro p l e R s m args below meth c ad D cA Z F K cs ss H locs ls hW hS hz hL
  exact lv_irem F.1 F.2.1 hd hne (k p l e R s m args below meth c ad D cA Z F K cs ss H locs ls hW hS hz hL)
theorem dr_ineg {x : Int32} (hd : decode cc pc = .ok (.ineg, 1))  (k : dm_V own nm cc nL ret fr lc k0 X Tm (pc + 1) (A) (am_i (-x) :: st) h d) : dm_V own nm cc nL ret fr lc k0 X Tm (pc) (A) (am_i x :: st) h d := by
  intro p l e R s m args below meth c ad D cA Z F K cs ss H locs ls hW hS hz hL
  exact lv_ineg F.1 F.2.1 hd (k p l e R s m args below meth c ad D cA Z F K cs ss H locs ls hW hS hz hL)
theorem dr_ishl {x y : Int32} (hd : decode cc pc = .ok (.ishl, 1))  (k : dm_V own nm cc nL ret fr lc k0 X Tm (pc + 1) (A) (am_i (x <<< (y &&& 31)) :: st) h d) : dm_V own nm cc nL ret fr lc k0 X Tm (pc) (A) (am_i y :: am_i x :: st) h d := by
  intro p l e R s m args below meth c ad D cA Z F K cs ss H locs ls hW hS hz hL
  exact lv_ishl F.1 F.2.1 hd (k p l e R s m args below meth c ad D cA Z F K cs ss H locs ls hW hS hz hL)
theorem dr_ishr {x y : Int32} (hd : decode cc pc = .ok (.ishr, 1))  (k : dm_V own nm cc nL ret fr lc k0 X Tm (pc + 1) (A) (am_i (x >>> (y &&& 31)) :: st) h d) : dm_V own nm cc nL ret fr lc k0 X Tm (pc) (A) (am_i y :: am_i x :: st) h d := by
  intro p l e R s m args below meth c ad D cA Z F K cs ss H locs ls hW hS hz hL
  exact lv_ishr F.1 F.2.1 hd (k p l e R s m args below meth c ad D cA Z F K cs ss H locs ls hW hS hz hL)
theorem dr_iushr {x y : Int32} (hd : decode cc pc = .ok (.iushr, 1))  (k : dm_V own nm cc nL ret fr lc k0 X Tm (pc + 1) (A) (am_i ((x.toUInt32 >>> (y.toUInt32 &&& Int32.toUInt32 31)).toInt32) :: st) h d) : dm_V own nm cc nL ret fr lc k0 X Tm (pc) (A) (am_i y :: am_i x :: st) h d := by
  intro p l e R s m args below meth c ad D cA Z F K cs ss H locs ls hW hS hz hL
  exact lv_iushr F.1 F.2.1 hd rfl (k p l e R s m args below meth c ad D cA Z F K cs ss H locs ls hW hS hz hL)
theorem dr_i2b {x : Int32} (hd : decode cc pc = .ok (.i2b, 1))  (k : dm_V own nm cc nL ret fr lc k0 X Tm (pc + 1) (A) (am_i x.toInt8.toInt32 :: st) h d) : dm_V own nm cc nL ret fr lc k0 X Tm (pc) (A) (am_i x :: st) h d := by
  intro p l e R s m args below meth c ad D cA Z F K cs ss H locs ls hW hS hz hL
  exact lv_i2b F.1 F.2.1 hd rfl (k p l e R s m args below meth c ad D cA Z F K cs ss H locs ls hW hS hz hL)
theorem dr_dup {v : am_v} (hd : decode cc pc = .ok (.dup, 1)) (hv : am_c1 (some v)) (k : dm_V own nm cc nL ret fr lc k0 X Tm (pc + 1) (A) (v :: v :: st) h d) : dm_V own nm cc nL ret fr lc k0 X Tm (pc) (A) (v :: st) h d := by
  intro p l e R s m args below meth c ad D cA Z F K cs ss H locs ls hW hS hz hL
  exact lv_dup F.1 F.2.1 hd (am_enc_c1 hv) (k p l e R s m args below meth c ad D cA Z F K cs ss H locs ls hW hS hz hL)
theorem dr_dup2 {v w : am_v} (hd : decode cc pc = .ok (.dup2, 1)) (hv : am_c1 (some v)) (hw : am_c1 (some w)) (k : dm_V own nm cc nL ret fr lc k0 X Tm (pc + 1) (A) (v :: w :: v :: w :: st) h d) : dm_V own nm cc nL ret fr lc k0 X Tm (pc) (A) (v :: w :: st) h d := by
  intro p l e R s m args below meth c ad D cA Z F K cs ss H locs ls hW hS hz hL
  exact lv_dup2_11 F.1 F.2.1 hd (am_enc_c1 hv) (am_enc_c1 hw) (k p l e R s m args below meth c ad D cA Z F K cs ss H locs ls hW hS hz hL)
theorem dr_pop {v : am_v} (hd : decode cc pc = .ok (.pop, 1)) (hv : am_c1 (some v)) (k : dm_V own nm cc nL ret fr lc k0 X Tm (pc + 1) (A) (st) h d) : dm_V own nm cc nL ret fr lc k0 X Tm (pc) (A) (v :: st) h d := by
  intro p l e R s m args below meth c ad D cA Z F K cs ss H locs ls hW hS hz hL
  exact lv_pop F.1 F.2.1 hd (am_enc_c1 hv) (k p l e R s m args below meth c ad D cA Z F K cs ss H locs ls hW hS hz hL)
theorem dr_goto {off : Int} (tgt : Nat) (hd : decode cc pc = .ok (.goto off, 3)) (ht : (pc : Int) + off = (tgt : Int)) (k : dm_V own nm cc nL ret fr lc k0 X Tm (tgt) (A) (st) h d) : dm_V own nm cc nL ret fr lc k0 X Tm (pc) (A) (st) h d := by
  intro p l e R s m args below meth c ad D cA Z F K cs ss H locs ls hW hS hz hL
  exact lv_goto F.1 F.2.1 hd ht (k p l e R s m args below meth c ad D cA Z F K cs ss H locs ls hW hS hz hL)
theorem dr_if_eq {x : Int32} {off : Int} (tgt : Nat) (hd : decode cc pc = .ok (.ifCond .eq off, 3)) (ht : (pc : Int) + off = (tgt : Int)) (kt : x = 0 → dm_V own nm cc nL ret fr lc k0 X Tm (tgt) (A) (st) h d) (kf : ¬ x = 0 → dm_V own nm cc nL ret fr lc k0 X Tm (pc + 3) (A) (st) h d) : dm_V own nm cc nL ret fr lc k0 X Tm (pc) (A) (am_i x :: st) h d := by
  intro p l e R s m args below meth c ad D cA Z F K cs ss H locs ls hW hS hz hL
  exact lv_if_eq F.1 F.2.1 hd ht (fun z => kt z p l e R s m args below meth c ad D cA Z F K cs ss H locs ls hW hS hz hL) (fun z => kf z p l e R s m args below meth c ad D cA Z F K cs ss H locs ls hW hS hz hL)
theorem dr_if_ne {x : Int32} {off : Int} (tgt : Nat) (hd : decode cc pc = .ok (.ifCond .ne off, 3)) (ht : (pc : Int) + off = (tgt : Int)) (kt : ¬ x = 0 → dm_V own nm cc nL ret fr lc k0 X Tm (tgt) (A) (st) h d) (kf : x = 0 → dm_V own nm cc nL ret fr lc k0 X Tm (pc + 3) (A) (st) h d) : dm_V own nm cc nL ret fr lc k0 X Tm (pc) (A) (am_i x :: st) h d := by
  intro p l e R s m args below meth c ad D cA Z F K cs ss H locs ls hW hS hz hL
  exact lv_if_ne F.1 F.2.1 hd ht (fun z => kt z p l e R s m args below meth c ad D cA Z F K cs ss H locs ls hW hS hz hL) (fun z => kf z p l e R s m args below meth c ad D cA Z F K cs ss H locs ls hW hS hz hL)
theorem dr_if_lt {x : Int32} {off : Int} (tgt : Nat) (hd : decode cc pc = .ok (.ifCond .lt off, 3)) (ht : (pc : Int) + off = (tgt : Int)) (kt : x < 0 → dm_V own nm cc nL ret fr lc k0 X Tm (tgt) (A) (st) h d) (kf : ¬ x < 0 → dm_V own nm cc nL ret fr lc k0 X Tm (pc + 3) (A) (st) h d) : dm_V own nm cc nL ret fr lc k0 X Tm (pc) (A) (am_i x :: st) h d := by
  intro p l e R s m args below meth c ad D cA Z F K cs ss H locs ls hW hS hz hL
  exact lv_if_lt F.1 F.2.1 hd ht (fun z => kt z p l e R s m args below meth c ad D cA Z F K cs ss H locs ls hW hS hz hL) (fun z => kf z p l e R s m args below meth c ad D cA Z F K cs ss H locs ls hW hS hz hL)
theorem dr_if_ge {x : Int32} {off : Int} (tgt : Nat) (hd : decode cc pc = .ok (.ifCond .ge off, 3)) (ht : (pc : Int) + off = (tgt : Int)) (kt : 0 ≤ x → dm_V own nm cc nL ret fr lc k0 X Tm (tgt) (A) (st) h d) (kf : ¬ 0 ≤ x → dm_V own nm cc nL ret fr lc k0 X Tm (pc + 3) (A) (st) h d) : dm_V own nm cc nL ret fr lc k0 X Tm (pc) (A) (am_i x :: st) h d := by
  intro p l e R s m args below meth c ad D cA Z F K cs ss H locs ls hW hS hz hL
  exact lv_if_ge F.1 F.2.1 hd ht (fun z => kt z p l e R s m args below meth c ad D cA Z F K cs ss H locs ls hW hS hz hL) (fun z => kf z p l e R s m args below meth c ad D cA Z F K cs ss H locs ls hW hS hz hL)
theorem dr_if_gt {x : Int32} {off : Int} (tgt : Nat) (hd : decode cc pc = .ok (.ifCond .gt off, 3)) (ht : (pc : Int) + off = (tgt : Int)) (kt : 0 < x → dm_V own nm cc nL ret fr lc k0 X Tm (tgt) (A) (st) h d) (kf : ¬ 0 < x → dm_V own nm cc nL ret fr lc k0 X Tm (pc + 3) (A) (st) h d) : dm_V own nm cc nL ret fr lc k0 X Tm (pc) (A) (am_i x :: st) h d := by
  intro p l e R s m args below meth c ad D cA Z F K cs ss H locs ls hW hS hz hL
  exact lv_if_gt F.1 F.2.1 hd ht (fun z => kt z p l e R s m args below meth c ad D cA Z F K cs ss H locs ls hW hS hz hL) (fun z => kf z p l e R s m args below meth c ad D cA Z F K cs ss H locs ls hW hS hz hL)
theorem dr_if_le {x : Int32} {off : Int} (tgt : Nat) (hd : decode cc pc = .ok (.ifCond .le off, 3)) (ht : (pc : Int) + off = (tgt : Int)) (kt : x ≤ 0 → dm_V own nm cc nL ret fr lc k0 X Tm (tgt) (A) (st) h d) (kf : ¬ x ≤ 0 → dm_V own nm cc nL ret fr lc k0 X Tm (pc + 3) (A) (st) h d) : dm_V own nm cc nL ret fr lc k0 X Tm (pc) (A) (am_i x :: st) h d := by
  intro p l e R s m args below meth c ad D cA Z F K cs ss H locs ls hW hS hz hL
  exact lv_if_le F.1 F.2.1 hd ht (fun z => kt z p l e R s m args below meth c ad D cA Z F K cs ss H locs ls hW hS hz hL) (fun z => kf z p l e R s m args below meth c ad D cA Z F K cs ss H locs ls hW hS hz hL)
theorem dr_ic_eq {x y : Int32} {off : Int} (tgt : Nat) (hd : decode cc pc = .ok (.if_icmp .eq off, 3)) (ht : (pc : Int) + off = (tgt : Int)) (kt : x = y → dm_V own nm cc nL ret fr lc k0 X Tm (tgt) (A) (st) h d) (kf : ¬ x = y → dm_V own nm cc nL ret fr lc k0 X Tm (pc + 3) (A) (st) h d) : dm_V own nm cc nL ret fr lc k0 X Tm (pc) (A) (am_i y :: am_i x :: st) h d := by
  intro p l e R s m args below meth c ad D cA Z F K cs ss H locs ls hW hS hz hL
  exact lv_icmp_eq F.1 F.2.1 hd ht (fun z => kt z p l e R s m args below meth c ad D cA Z F K cs ss H locs ls hW hS hz hL) (fun z => kf z p l e R s m args below meth c ad D cA Z F K cs ss H locs ls hW hS hz hL)
theorem dr_ic_ne {x y : Int32} {off : Int} (tgt : Nat) (hd : decode cc pc = .ok (.if_icmp .ne off, 3)) (ht : (pc : Int) + off = (tgt : Int)) (kt : ¬ x = y → dm_V own nm cc nL ret fr lc k0 X Tm (tgt) (A) (st) h d) (kf : x = y → dm_V own nm cc nL ret fr lc k0 X Tm (pc + 3) (A) (st) h d) : dm_V own nm cc nL ret fr lc k0 X Tm (pc) (A) (am_i y :: am_i x :: st) h d := by
  intro p l e R s m args below meth c ad D cA Z F K cs ss H locs ls hW hS hz hL
  exact lv_icmp_ne F.1 F.2.1 hd ht (fun z => kt z p l e R s m args below meth c ad D cA Z F K cs ss H locs ls hW hS hz hL) (fun z => kf z p l e R s m args below meth c ad D cA Z F K cs ss H locs ls hW hS hz hL)
theorem dr_ic_lt {x y : Int32} {off : Int} (tgt : Nat) (hd : decode cc pc = .ok (.if_icmp .lt off, 3)) (ht : (pc : Int) + off = (tgt : Int)) (kt : x < y → dm_V own nm cc nL ret fr lc k0 X Tm (tgt) (A) (st) h d) (kf : ¬ x < y → dm_V own nm cc nL ret fr lc k0 X Tm (pc + 3) (A) (st) h d) : dm_V own nm cc nL ret fr lc k0 X Tm (pc) (A) (am_i y :: am_i x :: st) h d := by
  intro p l e R s m args below meth c ad D cA Z F K cs ss H locs ls hW hS hz hL
  exact lv_icmp_lt F.1 F.2.1 hd ht (fun z => kt z p l e R s m args below meth c ad D cA Z F K cs ss H locs ls hW hS hz hL) (fun z => kf z p l e R s m args below meth c ad D cA Z F K cs ss H locs ls hW hS hz hL)
theorem dr_ic_ge {x y : Int32} {off : Int} (tgt : Nat) (hd : decode cc pc = .ok (.if_icmp .ge off, 3)) (ht : (pc : Int) + off = (tgt : Int)) (kt : y ≤ x → dm_V own nm cc nL ret fr lc k0 X Tm (tgt) (A) (st) h d) (kf : ¬ y ≤ x → dm_V own nm cc nL ret fr lc k0 X Tm (pc + 3) (A) (st) h d) : dm_V own nm cc nL ret fr lc k0 X Tm (pc) (A) (am_i y :: am_i x :: st) h d := by
  intro p l e R s m args below meth c ad D cA Z F K cs ss H locs ls hW hS hz hL
  exact lv_icmp_ge F.1 F.2.1 hd ht (fun z => kt z p l e R s m args below meth c ad D cA Z F K cs ss H locs ls hW hS hz hL) (fun z => kf z p l e R s m args below meth c ad D cA Z F K cs ss H locs ls hW hS hz hL)
theorem dr_ic_gt {x y : Int32} {off : Int} (tgt : Nat) (hd : decode cc pc = .ok (.if_icmp .gt off, 3)) (ht : (pc : Int) + off = (tgt : Int)) (kt : y < x → dm_V own nm cc nL ret fr lc k0 X Tm (tgt) (A) (st) h d) (kf : ¬ y < x → dm_V own nm cc nL ret fr lc k0 X Tm (pc + 3) (A) (st) h d) : dm_V own nm cc nL ret fr lc k0 X Tm (pc) (A) (am_i y :: am_i x :: st) h d := by
  intro p l e R s m args below meth c ad D cA Z F K cs ss H locs ls hW hS hz hL
  exact lv_icmp_gt F.1 F.2.1 hd ht (fun z => kt z p l e R s m args below meth c ad D cA Z F K cs ss H locs ls hW hS hz hL) (fun z => kf z p l e R s m args below meth c ad D cA Z F K cs ss H locs ls hW hS hz hL)
theorem dr_ic_le {x y : Int32} {off : Int} (tgt : Nat) (hd : decode cc pc = .ok (.if_icmp .le off, 3)) (ht : (pc : Int) + off = (tgt : Int)) (kt : x ≤ y → dm_V own nm cc nL ret fr lc k0 X Tm (tgt) (A) (st) h d) (kf : ¬ x ≤ y → dm_V own nm cc nL ret fr lc k0 X Tm (pc + 3) (A) (st) h d) : dm_V own nm cc nL ret fr lc k0 X Tm (pc) (A) (am_i y :: am_i x :: st) h d := by
  intro p l e R s m args below meth c ad D cA Z F K cs ss H locs ls hW hS hz hL
  exact lv_icmp_le F.1 F.2.1 hd ht (fun z => kt z p l e R s m args below meth c ad D cA Z F K cs ss H locs ls hW hS hz hL) (fun z => kf z p l e R s m args below meth c ad D cA Z F K cs ss H locs ls hW hS hz hL)
theorem dr_i2c {x : Int32} (hd : decode cc pc = .ok (.i2c, 1)) (k : dm_V own nm cc nL ret fr lc k0 X Tm (pc + 1) A (am_i (x.toUInt32 % 65536).toInt32 :: st) h d) : dm_V own nm cc nL ret fr lc k0 X Tm pc A (am_i x :: st) h d := by
  intro p l e R s m args below meth c ad D cA Z F K cs ss H locs ls hW hS hz hL
  exact lv_i2c F.1 F.2.1 hd rfl (k p l e R s m args below meth c ad D cA Z F K cs ss H locs ls hW hS hz hL)
theorem dr_iret {Q : Option am_v → am_H → dm_D → Prop} {x : Int32} {ty : FieldType} (hd : decode cc pc = .ok (.ireturn, 1)) (hr : ret = some ty) (hn : narrow ty (.int x) = .int x) (hq : Q (some (am_i x)) h d) : dm_V own nm cc nL ret fr lc k0 X (dm_Tm cc ret Q) pc A [am_i x] h d := dm_done ⟨some (am_i x), Or.inl ⟨x, ty, rfl, hr, hn, hd⟩, rfl, hq⟩
theorem dr_vret {Q : Option am_v → am_H → dm_D → Prop} (hd : decode cc pc = .ok (.return_, 1)) (hr : ret = none) (hq : Q none h d) : dm_V own nm cc nL ret fr lc k0 X (dm_Tm cc ret Q) pc A [] h d := dm_done ⟨none, Or.inr (Or.inl ⟨rfl, hr, hd⟩), rfl, hq⟩
theorem dr_aret {Q : Option am_v → am_H → dm_D → Prop} {q : am_G × Nat} {ty : FieldType} (hd : decode cc pc = .ok (.areturn, 1)) (hr : ret = some ty) (hn : (∃ n, ty = .object n) ∨ ∃ t, ty = .array t) (hq : Q (some (.inr q)) h d) : dm_V own nm cc nL ret fr lc k0 X (dm_Tm cc ret Q) pc A [.inr q] h d := dm_done ⟨some (.inr q), Or.inr (Or.inr ⟨q, ty, rfl, hr, hn, hd⟩), rfl, hq⟩
theorem dr_wk {A' : List (Option am_v)} (hs : am_sub A' A) (k : dm_V own nm cc nL ret fr lc k0 X Tm pc A' st h d) : dm_V own nm cc nL ret fr lc k0 X Tm pc A st h d := by
  intro p l e R s m args below meth c ad D cA Z F K cs ss H locs ls hW hS hz hL
  exact k p l e R s m args below meth c ad D cA Z F K cs ss H locs ls hW hS hz ⟨hL.1, hL.2.1, fun i v hi => hL.2.2 i v (hs i v hi)⟩
end DMR
