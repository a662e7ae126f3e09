theorem am_shp4 {g : am_G} {o n : Nat} (hv : am_ok g o) (hs : am_shp g o = .inr (4, n)) : (g, o) = (.inl 1, 1) := by
  match g, hv with
  | .inl 0, hv => exact hv.elim
  | .inl 1, hv =>
    have hv : o < 18 := hv
    have : ∀ o : Nat, o < 18 → o ≠ 1 → ∀ n, am_shp (.inl 1) o ≠ .inr (4, n) := by
      intro o ho h1 n
      rcases (show o = 0 ∨ o = 2 ∨ o = 3 ∨ o = 4 ∨ o = 5 ∨ o = 6 ∨ o = 7 ∨ o = 8 ∨ o = 9 ∨ o = 10 ∨ o = 11 ∨ o = 12 ∨ o = 13 ∨ o = 14 ∨ o = 15 ∨ o = 16 ∨ o = 17 by omega) with rfl | rfl | rfl | rfl | rfl | rfl | rfl | rfl | rfl | rfl | rfl | rfl | rfl | rfl | rfl | rfl | rfl <;> (intro z; cases z)
    by_cases h1 : o = 1
    · rw [h1]
    · exact absurd hs (this o hv h1 n)
  | .inl (k + 2), hv => exact hv.elim
  | .inr k, hv =>
    have hv : k < 10 ∧ o < 20 := hv
    have : ∀ o : Nat, o < 20 → ∀ n, am_shp (.inr k) o ≠ .inr (4, n) := by
      intro o ho n
      rcases (show o = 0 ∨ o = 1 ∨ o = 2 ∨ o = 3 ∨ o = 4 ∨ o = 5 ∨ o = 6 ∨ o = 7 ∨ o = 8 ∨ o = 9 ∨ o = 10 ∨ o = 11 ∨ o = 12 ∨ o = 13 ∨ o = 14 ∨ o = 15 ∨ o = 16 ∨ o = 17 ∨ o = 18 ∨ o = 19 by omega) with rfl | rfl | rfl | rfl | rfl | rfl | rfl | rfl | rfl | rfl | rfl | rfl | rfl | rfl | rfl | rfl | rfl | rfl | rfl | rfl <;> (intro z; cases z)
    exact absurd hs (this o hv.2 n)
theorem am_cl (ci : Nat) (r : vw_C) (h : vwCl[ci]? = some r) : (∀ w ∈ u_ws r.1 r.2.1 r.2.2, w ∈ am_gT) ∧ (∃ ty0 : Nat → FieldType, ∀ k, k < r.2.2 → parseFieldDescriptor (r.2.1 k).2.2.1 = some (ty0 k)) ∧ (∀ a, a < r.2.2 → ∀ b, b < r.2.2 → a ≠ b → (r.2.1 a).2.1 ≠ (r.2.1 b).2.1) := by
  match ci, h with
  | 0, h => cases h; exact ⟨am_in0, ⟨tyX0, tyX0_ok⟩, nmX0⟩
  | 1, h => cases h; exact ⟨am_in1, ⟨tyX1, tyX1_ok⟩, nmX1⟩
  | 2, h => cases h; exact ⟨am_in2, ⟨tyX2, tyX2_ok⟩, nmX2⟩
  | 3, h => cases h; exact ⟨am_in3, ⟨tyX3, tyX3_ok⟩, nmX3⟩
  | 4, h => cases h; exact ⟨am_in4, ⟨tyX4, tyX4_ok⟩, nmX4⟩
  | 5, h => cases h; exact ⟨am_in5, ⟨tyX5, tyX5_ok⟩, nmX5⟩
  | 6, h => cases h; exact ⟨am_in6, ⟨tyX6, tyX6_ok⟩, nmX6⟩
  | 7, h => cases h; exact ⟨am_in7, ⟨tyX7, tyX7_ok⟩, nmX7⟩
  | 8, h => cases h; exact ⟨am_in8, ⟨tyX8, tyX8_ok⟩, nmX8⟩
  | 9, h => cases h; exact ⟨am_in9, ⟨tyX9, tyX9_ok⟩, nmX9⟩
  | 10, h => cases h; exact ⟨am_in10, ⟨tyX10, tyX10_ok⟩, nmX10⟩
  | 11, h => cases h; exact ⟨am_in11, ⟨tyX11, tyX11_ok⟩, nmX11⟩
  | 12, h => cases h; exact ⟨am_in12, ⟨tyX12, tyX12_ok⟩, nmX12⟩
  | 13, h => cases h; exact ⟨am_in13, ⟨tyJ0, tyJ0_ok⟩, nmJ0⟩
  | 14, h => cases h; exact ⟨am_in14, ⟨tyJ4, tyJ4_ok⟩, nmJ4⟩
  | 15, h => cases h; exact ⟨am_in15, ⟨tyJx35411, tyJx35411_ok⟩, nmJx35411⟩
  | 16, h => cases h; exact ⟨am_in16, ⟨tyJx4a65c, tyJx4a65c_ok⟩, nmJx4a65c⟩
  | n + 17, h => cases h
section AMR
variable {own : String} {cc : ByteArray} {nL : Nat} {ret : Option FieldType} {fr lc mc ms : Nat} {tb : am_tb} {Tm : Nat → List am_v → am_H → Prop} {cs ss pc : Nat} {A : List (Option am_v)} {st : List am_v} {h : am_H}
theorem ar_iconst {n : Int} (v : Int32) (hd : decode cc pc = .ok (.iconst n, 1)) (hv : Int32.ofInt n = v) (k : am_V own cc nL ret fr lc mc ms tb Tm cs ss (pc + 1) (A) (am_i v :: st) h) : am_V own cc nL ret fr lc mc ms tb Tm cs ss (pc) (A) (st) h := by
  intro p l e R s m args below meth c lo ad D cA Z F K hc hcs H locs ls hW hS hL
  exact lv_iconst F.1 F.2.1 hd hv (k p l e R s m args below meth c lo ad D cA Z F K hc hcs H locs ls hW hS hL)
theorem ar_bipush {n : Int} (v : Int32) (hd : decode cc pc = .ok (.bipush n, 2)) (hv : (Int8.ofInt n).toInt32 = v) (k : am_V own cc nL ret fr lc mc ms tb Tm cs ss (pc + 2) (A) (am_i v :: st) h) : am_V own cc nL ret fr lc mc ms tb Tm cs ss (pc) (A) (st) h := by
  intro p l e R s m args below meth c lo ad D cA Z F K hc hcs H locs ls hW hS hL
  exact lv_bipush F.1 F.2.1 hd hv (k p l e R s m args below meth c lo ad D cA Z F K hc hcs H locs ls hW hS hL)
theorem ar_sipush {n : Int} (v : Int32) (hd : decode cc pc = .ok (.sipush n, 3)) (hv : (Int16.ofInt n).toInt32 = v) (k : am_V own cc nL ret fr lc mc ms tb Tm cs ss (pc + 3) (A) (am_i v :: st) h) : am_V own cc nL ret fr lc mc ms tb Tm cs ss (pc) (A) (st) h := by
  intro p l e R s m args below meth c lo ad D cA Z F K hc hcs H locs ls hW hS hL
  exact lv_sipush F.1 F.2.1 hd hv (k p l e R s m args below meth c lo ad D cA Z F K hc hcs H locs ls hW hS hL)
theorem ar_lconst {n : Fin 2} (v : Int64) (hd : decode cc pc = .ok (.lconst n, 1)) (hv : Int64.ofNat (n : Nat) = v) (k : am_V own cc nL ret fr lc mc ms tb Tm cs ss (pc + 1) (A) (am_l v :: st) h) : am_V own cc nL ret fr lc mc ms tb Tm cs ss (pc) (A) (st) h := by
  intro p l e R s m args below meth c lo ad D cA Z F K hc hcs H locs ls hW hS hL
  exact lv_lconst F.1 F.2.1 hd hv (k p l e R s m args below meth c lo ad D cA Z F K hc hcs H locs ls hW hS hL)
theorem ar_ldc {idx : Nat} (v : Int32) (hd : decode cc pc = .ok (.ldc idx, 2)) (hw : Cond.constant own idx v ∈ am_gT) (k : am_V own cc nL ret fr lc mc ms tb Tm cs ss (pc + 2) (A) (am_i v :: st) h) : am_V own cc nL ret fr lc mc ms tb Tm cs ss (pc) (A) (st) h := by
  intro p l e R s m args below meth c lo ad D cA Z F K hc hcs H locs ls hW hS hL
  exact lv_ldc F.1 F.2.1 F.2.2.2.1 (F.2.2.2.2.1 _ hw) hd (k p l e R s m args below meth c lo ad D cA Z F K hc hcs H locs ls hW hS hL)
theorem ar_ldc2 {idx : Nat} (v : Int64) (hd : decode cc pc = .ok (.ldc2_w idx, 3)) (hw : Cond.constantLong own idx v ∈ am_gT) (k : am_V own cc nL ret fr lc mc ms tb Tm cs ss (pc + 3) (A) (am_l v :: st) h) : am_V own cc nL ret fr lc mc ms tb Tm cs ss (pc) (A) (st) h := by
  intro p l e R s m args below meth c lo ad D cA Z F K hc hcs H locs ls hW hS hL
  exact lv_ldc2 F.1 F.2.1 F.2.2.2.1 (F.2.2.2.2.1 _ hw) hd (k p l e R s m args below meth c lo ad D cA Z F K hc hcs H locs ls hW hS hL)
theorem ar_iload {i : Nat} {x : Int32} (hd : decode cc pc = .ok (.iload i, 2)) (hi : A[i]? = some (some (am_i x))) (k : am_V own cc nL ret fr lc mc ms tb Tm cs ss (pc + 2) (A) (am_i x :: st) h) : am_V own cc nL ret fr lc mc ms tb Tm cs ss (pc) (A) (st) h := by
  intro p l e R s m args below meth c lo ad D cA Z F K hc hcs H locs ls hW hS hL
  exact lv_iload F.1 F.2.1 hd (hL.2.2 i _ hi) (k p l e R s m args below meth c lo ad D cA Z F K hc hcs H locs ls hW hS hL)
theorem ar_iload_n {i : Nat} {f : Fin 4} {x : Int32} (hd : decode cc pc = .ok (.iload_n f, 1)) (hf : (f : Nat) = i) (hi : A[i]? = some (some (am_i x))) (k : am_V own cc nL ret fr lc mc ms tb Tm cs ss (pc + 1) (A) (am_i x :: st) h) : am_V own cc nL ret fr lc mc ms tb Tm cs ss (pc) (A) (st) h := by
  intro p l e R s m args below meth c lo ad D cA Z F K hc hcs H locs ls hW hS hL
  exact lv_iload_n F.1 F.2.1 hd hf (hL.2.2 i _ hi) (k p l e R s m args below meth c lo ad D cA Z F K hc hcs H locs ls hW hS hL)
theorem ar_lload {i : Nat} {x : Int64} (hd : decode cc pc = .ok (.lload i, 2)) (hi : A[i]? = some (some (am_l x))) (k : am_V own cc nL ret fr lc mc ms tb Tm cs ss (pc + 2) (A) (am_l x :: st) h) : am_V own cc nL ret fr lc mc ms tb Tm cs ss (pc) (A) (st) h := by
  intro p l e R s m args below meth c lo ad D cA Z F K hc hcs H locs ls hW hS hL
  exact lv_lload F.1 F.2.1 hd (hL.2.2 i _ hi) (k p l e R s m args below meth c lo ad D cA Z F K hc hcs H locs ls hW hS hL)
theorem ar_lload_n {i : Nat} {f : Fin 4} {x : Int64} (hd : decode cc pc = .ok (.lload_n f, 1)) (hf : (f : Nat) = i) (hi : A[i]? = some (some (am_l x))) (k : am_V own cc nL ret fr lc mc ms tb Tm cs ss (pc + 1) (A) (am_l x :: st) h) : am_V own cc nL ret fr lc mc ms tb Tm cs ss (pc) (A) (st) h := by
  intro p l e R s m args below meth c lo ad D cA Z F K hc hcs H locs ls hW hS hL
  exact lv_lload_n F.1 F.2.1 hd hf (hL.2.2 i _ hi) (k p l e R s m args below meth c lo ad D cA Z F K hc hcs H locs ls hW hS hL)
theorem ar_aload {i : Nat} {g : am_G} {o : Nat} (hd : decode cc pc = .ok (.aload i, 2)) (hi : A[i]? = some (some (am_r g o))) (k : am_V own cc nL ret fr lc mc ms tb Tm cs ss (pc + 2) (A) (am_r g o :: st) h) : am_V own cc nL ret fr lc mc ms tb Tm cs ss (pc) (A) (st) h := by
  intro p l e R s m args below meth c lo ad D cA Z F K hc hcs H locs ls hW hS hL
  exact lv_aload F.1 F.2.1 hd (hL.2.2 i _ hi) (k p l e R s m args below meth c lo ad D cA Z F K hc hcs H locs ls hW hS hL)
theorem ar_aload_n {i : Nat} {f : Fin 4} {g : am_G} {o : Nat} (hd : decode cc pc = .ok (.aload_n f, 1)) (hf : (f : Nat) = i) (hi : A[i]? = some (some (am_r g o))) (k : am_V own cc nL ret fr lc mc ms tb Tm cs ss (pc + 1) (A) (am_r g o :: st) h) : am_V own cc nL ret fr lc mc ms tb Tm cs ss (pc) (A) (st) h := by
  intro p l e R s m args below meth c lo ad D cA Z F K hc hcs H locs ls hW hS hL
  exact lv_aload_n F.1 F.2.1 hd hf (hL.2.2 i _ hi) (k p l e R s m args below meth c lo ad D cA Z F K hc hcs H locs ls hW hS hL)
/-- the place below holds no long or double that would be cut -/
def am_c1 : Option am_v → Prop
  | some (.inl (.long _)) => False
  | some (.inl (.double _)) => False
  | _ => True
def am_b4 (A : List (Option am_v)) : Nat → Prop
  | 0 => True
  | i + 1 => match A[i]? with
    | some v => am_c1 v
    | none => True
theorem am_enc_c1 {ad : am_G → Nat → Nat} {v : am_v} (h : am_c1 (some v)) : (am_enc ad v).category = 1 := by
  match v, h with
  | .inl (.int _), _ => rfl
  | .inl (.float _), _ => rfl
  | .inl .null, _ => rfl
  | .inl (.ref _), _ => rfl
  | .inl (.retAddr _), _ => rfl
  | .inr _, _ => rfl
theorem am_L.list {ad : am_G → Nat → Nat} {A : List (Option am_v)} {ls : Array Slot} (hL : am_L ad nL A ls) : ∃ lv : List (Nat × Value), lv_has ls nL lv ∧ ∀ (i : Nat) (v : am_v), A[i]? = some (some v) → (i, am_enc ad v) ∈ lv := by
  refine ⟨(List.range A.length).filterMap (fun i => match A[i]? with | some (some v) => some (i, am_enc ad v) | _ => none), ⟨hL.1, hL.2.1, fun q hq => ?_⟩, fun i v hi => ?_⟩
  · obtain ⟨i, -, h2⟩ := List.mem_filterMap.mp hq
    split at h2
    · next v hv => cases h2; exact hL.2.2 i v hv
    · cases h2
  · refine List.mem_filterMap.mpr ⟨i, List.mem_range.mpr (List.getElem?_eq_some_iff.mp hi).1, ?_⟩
    rw [hi]
theorem am_L.st1 {ad : am_G → Nat → Nat} {A : List (Option am_v)} {ls' : Array Slot} {i : Nat} {v : am_v} {lv : List (Nat × Value)} (hm : ∀ (i : Nat) (v : am_v), A[i]? = some (some v) → (i, am_enc ad v) ∈ lv)
    (h : lv_has ls' nL ((i, am_enc ad v) :: lv.filter (fun q => !(q.1 == i) && !(q.1 + 1 == i && q.2.category == 2)))) (hi : i < A.length) (hb : am_b4 A i) : am_L ad nL (A.set i (some v)) ls' := by
  refine ⟨h.1, h.2.1, fun j w hj => ?_⟩
  by_cases e : j = i
  · subst e
    rw [List.getElem?_set_self hi] at hj
    cases hj
    exact h.2.2 _ List.mem_cons_self
  · rw [List.getElem?_set_ne (Ne.symm e)] at hj
    refine h.2.2 (j, am_enc ad w) (List.mem_cons_of_mem _ (List.mem_filter.mpr ⟨hm j w hj, ?_⟩))
    have e1 : (j == i) = false := beq_eq_false_iff_ne.mpr e
    by_cases e2 : j + 1 = i
    · subst e2
      have hc : am_c1 (some w) := by
        have hb : (match A[j]? with | some v => am_c1 v | none => True) := hb
        rw [hj] at hb
        exact hb
      have h1 := am_enc_c1 (ad := ad) hc
      simp [e1, h1]
    · have e3 : (j + 1 == i) = false := beq_eq_false_iff_ne.mpr e2
      simp [e1, e3]
theorem ar_istore {i : Nat} {x : Int32} {Aq : List (Option am_v)} (hd : decode cc pc = .ok (.istore i, 2)) (hi : i < A.length) (hn : i < nL) (hb : am_b4 A i) (hA : A.set i (some (am_i x)) = Aq) (k : am_V own cc nL ret fr lc mc ms tb Tm cs ss (pc + 2) (Aq) (st) h) : am_V own cc nL ret fr lc mc ms tb Tm cs ss (pc) (A) (am_i x :: st) h := by
  intro p l e R s m args below meth c lo ad D cA Z F K hc hcs H locs ls hW hS hL
  subst hA
  obtain ⟨lv, h1, h2⟩ := hL.list
  exact lv_istore F.1 F.2.1 hd h1 hn rfl (fun ls' hl => k p l e R s m args below meth c lo ad D cA Z F K hc hcs H locs ls' hW hS (am_L.st1 h2 hl hi hb))
theorem ar_istore_n {i : Nat} {f : Fin 4} {x : Int32} {Aq : List (Option am_v)} (hd : decode cc pc = .ok (.istore_n f, 1)) (hf : (f : Nat) = i) (hi : i < A.length) (hn : i < nL) (hb : am_b4 A i) (hA : A.set i (some (am_i x)) = Aq) (k : am_V own cc nL ret fr lc mc ms tb Tm cs ss (pc + 1) (Aq) (st) h) : am_V own cc nL ret fr lc mc ms tb Tm cs ss (pc) (A) (am_i x :: st) h := by
  intro p l e R s m args below meth c lo ad D cA Z F K hc hcs H locs ls hW hS hL
  subst hA
  obtain ⟨lv, h1, h2⟩ := hL.list
  exact lv_istore_n F.1 F.2.1 hd hf h1 hn rfl (fun ls' hl => k p l e R s m args below meth c lo ad D cA Z F K hc hcs H locs ls' hW hS (am_L.st1 h2 hl hi hb))
theorem ar_astore {i : Nat} {g : am_G} {o : Nat} {Aq : List (Option am_v)} (hd : decode cc pc = .ok (.astore i, 2)) (hi : i < A.length) (hn : i < nL) (hb : am_b4 A i) (hA : A.set i (some (am_r g o)) = Aq) (k : am_V own cc nL ret fr lc mc ms tb Tm cs ss (pc + 2) (Aq) (st) h) : am_V own cc nL ret fr lc mc ms tb Tm cs ss (pc) (A) (am_r g o :: st) h := by
  intro p l e R s m args below meth c lo ad D cA Z F K hc hcs H locs ls hW hS hL
  subst hA
  obtain ⟨lv, h1, h2⟩ := hL.list
  exact lv_astore F.1 F.2.1 hd h1 hn rfl (fun ls' hl => k p l e R s m args below meth c lo ad D cA Z F K hc hcs H locs ls' hW hS (am_L.st1 h2 hl hi hb))
theorem ar_astore_n {i : Nat} {f : Fin 4} {g : am_G} {o : Nat} {Aq : List (Option am_v)} (hd : decode cc pc = .ok (.astore_n f, 1)) (hf : (f : Nat) = i) (hi : i < A.length) (hn : i < nL) (hb : am_b4 A i) (hA : A.set i (some (am_r g o)) = Aq) (k : am_V own cc nL ret fr lc mc ms tb Tm cs ss (pc + 1) (Aq) (st) h) : am_V own cc nL ret fr lc mc ms tb Tm cs ss (pc) (A) (am_r g o :: st) h := by
  intro p l e R s m args below meth c lo ad D cA Z F K hc hcs H locs ls hW hS hL
  subst hA
  obtain ⟨lv, h1, h2⟩ := hL.list
  exact lv_astore_n F.1 F.2.1 hd hf h1 hn rfl (fun ls' hl => k p l e R s m args below meth c lo ad D cA Z F K hc hcs H locs ls' hW hS (am_L.st1 h2 hl hi hb))
theorem ar_iinc {i : Nat} {n : Int} {x v : Int32} {Aq : List (Option am_v)} (hd : decode cc pc = .ok (.iinc i n, 3)) (hi : A[i]? = some (some (am_i x))) (hn : i < nL) (hv : x + Int32.ofInt n = v) (hb : am_b4 A i) (hA : A.set i (some (am_i v)) = Aq) (k : am_V own cc nL ret fr lc mc ms tb Tm cs ss (pc + 3) (Aq) (st) h) : am_V own cc nL ret fr lc mc ms tb Tm cs ss (pc) (A) (st) h := by
  intro p l e R s m args below meth c lo ad D cA Z F K hc hcs H locs ls hW hS hL
  subst hA
  obtain ⟨lv, h1, h2⟩ := hL.list
  obtain ⟨q, hq⟩ := List.getElem?_of_mem (h2 i _ hi)
  exact lv_iinc F.1 F.2.1 hd h1 hq hv hn rfl (fun ls' hl => k p l e R s m args below meth c lo ad D cA Z F K hc hcs H locs ls' hW hS (am_L.st1 h2 hl (List.getElem?_eq_some_iff.mp hi).1 hb))
theorem ar_iadd {x y : Int32} (hd : decode cc pc = .ok (.iadd, 1))  (k : am_V own cc nL ret fr lc mc ms tb Tm cs ss (pc + 1) (A) (am_i (x + y) :: st) h) : am_V own cc nL ret fr lc mc ms tb Tm cs ss (pc) (A) (am_i y :: am_i x :: st) h := by
  intro p l e R s m args below meth c lo ad D cA Z F K hc hcs H locs ls hW hS hL
  exact lv_iadd F.1 F.2.1 hd (k p l e R s m args below meth c lo ad D cA Z F K hc hcs H locs ls hW hS hL)
theorem ar_isub {x y : Int32} (hd : decode cc pc = .ok (.isub, 1))  (k : am_V own cc nL ret fr lc mc ms tb Tm cs ss (pc + 1) (A) (am_i (x - y) :: st) h) : am_V own cc nL ret fr lc mc ms tb Tm cs ss (pc) (A) (am_i y :: am_i x :: st) h := by
  intro p l e R s m args below meth c lo ad D cA Z F K hc hcs H locs ls hW hS hL
  exact lv_isub F.1 F.2.1 hd (k p l e R s m args below meth c lo ad D cA Z F K hc hcs H locs ls hW hS hL)
theorem ar_imul {x y : Int32} (hd : decode cc pc = .ok (.imul, 1))  (k : am_V own cc nL ret fr lc mc ms tb Tm cs ss (pc + 1) (A) (am_i (x * y) :: st) h) : am_V own cc nL ret fr lc mc ms tb Tm cs ss (pc) (A) (am_i y :: am_i x :: st) h := by
  intro p l e R s m args below meth c lo ad D cA Z F K hc hcs H locs ls hW hS hL
  exact lv_imul F.1 F.2.1 hd (k p l e R s m args below meth c lo ad D cA Z F K hc hcs H locs ls hW hS hL)
theorem ar_iand {x y : Int32} (hd : decode cc pc = .ok (.iand, 1))  (k : am_V own cc nL ret fr lc mc ms tb Tm cs ss (pc + 1) (A) (am_i (x &&& y) :: st) h) : am_V own cc nL ret fr lc mc ms tb Tm cs ss (pc) (A) (am_i y :: am_i x :: st) h := by
  intro p l e R s m args below meth c lo ad D cA Z F K hc hcs H locs ls hW hS hL
  exact lv_iand F.1 F.2.1 hd (k p l e R s m args below meth c lo ad D cA Z F K hc hcs H locs ls hW hS hL)
theorem ar_ior {x y : Int32} (hd : decode cc pc = .ok (.ior, 1))  (k : am_V own cc nL ret fr lc mc ms tb Tm cs ss (pc + 1) (A) (am_i (x ||| y) :: st) h) : am_V own cc nL ret fr lc mc ms tb Tm cs ss (pc) (A) (am_i y :: am_i x :: st) h := by
  intro p l e R s m args below meth c lo ad D cA Z F K hc hcs H locs ls hW hS hL
  exact lv_ior F.1 F.2.1 hd (k p l e R s m args below meth c lo ad D cA Z F K hc hcs H locs ls hW hS hL)
theorem ar_ixor {x y : Int32} (hd : decode cc pc = .ok (.ixor, 1))  (k : am_V own cc nL ret fr lc mc ms tb Tm cs ss (pc + 1) (A) (am_i (x ^^^ y) :: st) h) : am_V own cc nL ret fr lc mc ms tb Tm cs ss (pc) (A) (am_i y :: am_i x :: st) h := by
  intro p l e R s m args below meth c lo ad D cA Z F K hc hcs H locs ls hW hS hL
  exact lv_ixor F.1 F.2.1 hd (k p l e R s m args below meth c lo ad D cA Z F K hc hcs H locs ls hW hS hL)
theorem ar_idiv {x y : Int32} (hd : decode cc pc = .ok (.idiv, 1)) (hne : ¬ y = 0) (k : am_V own cc nL ret fr lc mc ms tb Tm cs ss (pc + 1) (A) (am_i (x / y) :: st) h) : am_V own cc nL ret fr lc mc ms tb Tm cs ss (pc) (A) (am_i y :: am_i x :: st) h := by
  intro p l e R s m args below meth c lo ad D cA Z F K hc hcs H locs ls hW hS hL
  exact lv_idiv F.1 F.2.1 hd hne (k p l e R s m args below meth c lo ad D cA Z F K hc hcs H locs ls hW hS hL)
theorem ar_irem {x y : Int32} (hd : decode cc pc = .ok (.irem, 1)) (hne : ¬ y = 0) (k : am_V own cc nL ret fr lc mc ms tb Tm cs ss (pc + 1) (A) (am_i (x - x / y * y) :: st) h) : am_V own cc nL ret fr lc mc ms tb Tm cs ss (pc) (A) (am_i y :: am_i x :: st) h := by
  intro p l e R s m args below meth c lo ad D cA Z F K hc hcs H locs ls hW hS hL
  exact lv_irem F.1 F.2.1 hd hne (k p l e R s m args below meth c lo ad D cA Z F K hc hcs H locs ls hW hS hL)
theorem ar_ineg {x : Int32} (hd : decode cc pc = .ok (.ineg, 1))  (k : am_V own cc nL ret fr lc mc ms tb Tm cs ss (pc + 1) (A) (am_i (-x) :: st) h) : am_V own cc nL ret fr lc mc ms tb Tm cs ss (pc) (A) (am_i x :: st) h := by
  intro p l e R s m args below meth c lo ad D cA Z F K hc hcs H locs ls hW hS hL
  exact lv_ineg F.1 F.2.1 hd (k p l e R s m args below meth c lo ad D cA Z F K hc hcs H locs ls hW hS hL)
theorem ar_ishl {x y : Int32} (hd : decode cc pc = .ok (.ishl, 1))  (k : am_V own cc nL ret fr lc mc ms tb Tm cs ss (pc + 1) (A) (am_i (x <<< (y &&& 31)) :: st) h) : am_V own cc nL ret fr lc mc ms tb Tm cs ss (pc) (A) (am_i y :: am_i x :: st) h := by
  intro p l e R s m args below meth c lo ad D cA Z F K hc hcs H locs ls hW hS hL
  exact lv_ishl F.1 F.2.1 hd (k p l e R s m args below meth c lo ad D cA Z F K hc hcs H locs ls hW hS hL)
theorem ar_ishr {x y : Int32} (hd : decode cc pc = .ok (.ishr, 1))  (k : am_V own cc nL ret fr lc mc ms tb Tm cs ss (pc + 1) (A) (am_i (x >>> (y &&& 31)) :: st) h) : am_V own cc nL ret fr lc mc ms tb Tm cs ss (pc) (A) (am_i y :: am_i x :: st) h := by
  intro p l e R s m args below meth c lo ad D cA Z F K hc hcs H locs ls hW hS hL
  exact lv_ishr F.1 F.2.1 hd (k p l e R s m args below meth c lo ad D cA Z F K hc hcs H locs ls hW hS hL)
theorem ar_iushr {x y : Int32} (hd : decode cc pc = .ok (.iushr, 1))  (k : am_V own cc nL ret fr lc mc ms tb Tm cs ss (pc + 1) (A) (am_i ((x.toUInt32 >>> (y.toUInt32 &&& Int32.toUInt32 31)).toInt32) :: st) h) : am_V own cc nL ret fr lc mc ms tb Tm cs ss (pc) (A) (am_i y :: am_i x :: st) h := by
  intro p l e R s m args below meth c lo ad D cA Z F K hc hcs H locs ls hW hS hL
  exact lv_iushr F.1 F.2.1 hd rfl (k p l e R s m args below meth c lo ad D cA Z F K hc hcs H locs ls hW hS hL)
theorem ar_ladd {x y : Int64} (hd : decode cc pc = .ok (.ladd, 1))  (k : am_V own cc nL ret fr lc mc ms tb Tm cs ss (pc + 1) (A) (am_l (x + y) :: st) h) : am_V own cc nL ret fr lc mc ms tb Tm cs ss (pc) (A) (am_l y :: am_l x :: st) h := by
  intro p l e R s m args below meth c lo ad D cA Z F K hc hcs H locs ls hW hS hL
  exact lv_ladd F.1 F.2.1 hd (k p l e R s m args below meth c lo ad D cA Z F K hc hcs H locs ls hW hS hL)
theorem ar_land {x y : Int64} (hd : decode cc pc = .ok (.land, 1))  (k : am_V own cc nL ret fr lc mc ms tb Tm cs ss (pc + 1) (A) (am_l (x &&& y) :: st) h) : am_V own cc nL ret fr lc mc ms tb Tm cs ss (pc) (A) (am_l y :: am_l x :: st) h := by
  intro p l e R s m args below meth c lo ad D cA Z F K hc hcs H locs ls hW hS hL
  exact lv_land F.1 F.2.1 hd (k p l e R s m args below meth c lo ad D cA Z F K hc hcs H locs ls hW hS hL)
theorem ar_lor {x y : Int64} (hd : decode cc pc = .ok (.lor, 1))  (k : am_V own cc nL ret fr lc mc ms tb Tm cs ss (pc + 1) (A) (am_l (x ||| y) :: st) h) : am_V own cc nL ret fr lc mc ms tb Tm cs ss (pc) (A) (am_l y :: am_l x :: st) h := by
  intro p l e R s m args below meth c lo ad D cA Z F K hc hcs H locs ls hW hS hL
  exact lv_lor F.1 F.2.1 hd (k p l e R s m args below meth c lo ad D cA Z F K hc hcs H locs ls hW hS hL)
theorem ar_lshl {x : Int64} {y : Int32} (hd : decode cc pc = .ok (.lshl, 1))  (k : am_V own cc nL ret fr lc mc ms tb Tm cs ss (pc + 1) (A) (am_l (x <<< (y.toInt64 &&& 63)) :: st) h) : am_V own cc nL ret fr lc mc ms tb Tm cs ss (pc) (A) (am_i y :: am_l x :: st) h := by
  intro p l e R s m args below meth c lo ad D cA Z F K hc hcs H locs ls hW hS hL
  exact lv_lshl F.1 F.2.1 hd rfl (k p l e R s m args below meth c lo ad D cA Z F K hc hcs H locs ls hW hS hL)
theorem ar_lshr {x : Int64} {y : Int32} (hd : decode cc pc = .ok (.lshr, 1))  (k : am_V own cc nL ret fr lc mc ms tb Tm cs ss (pc + 1) (A) (am_l (x >>> (y.toInt64 &&& 63)) :: st) h) : am_V own cc nL ret fr lc mc ms tb Tm cs ss (pc) (A) (am_i y :: am_l x :: st) h := by
  intro p l e R s m args below meth c lo ad D cA Z F K hc hcs H locs ls hW hS hL
  exact lv_lshr F.1 F.2.1 hd rfl (k p l e R s m args below meth c lo ad D cA Z F K hc hcs H locs ls hW hS hL)
theorem ar_l2i {x : Int64} (hd : decode cc pc = .ok (.l2i, 1))  (k : am_V own cc nL ret fr lc mc ms tb Tm cs ss (pc + 1) (A) (am_i x.toInt32 :: st) h) : am_V own cc nL ret fr lc mc ms tb Tm cs ss (pc) (A) (am_l x :: st) h := by
  intro p l e R s m args below meth c lo ad D cA Z F K hc hcs H locs ls hW hS hL
  exact lv_l2i F.1 F.2.1 hd rfl (k p l e R s m args below meth c lo ad D cA Z F K hc hcs H locs ls hW hS hL)
theorem ar_i2l {x : Int32} (hd : decode cc pc = .ok (.i2l, 1))  (k : am_V own cc nL ret fr lc mc ms tb Tm cs ss (pc + 1) (A) (am_l x.toInt64 :: st) h) : am_V own cc nL ret fr lc mc ms tb Tm cs ss (pc) (A) (am_i x :: st) h := by
  intro p l e R s m args below meth c lo ad D cA Z F K hc hcs H locs ls hW hS hL
  exact lv_i2l F.1 F.2.1 hd rfl (k p l e R s m args below meth c lo ad D cA Z F K hc hcs H locs ls hW hS hL)
theorem ar_i2b {x : Int32} (hd : decode cc pc = .ok (.i2b, 1))  (k : am_V own cc nL ret fr lc mc ms tb Tm cs ss (pc + 1) (A) (am_i x.toInt8.toInt32 :: st) h) : am_V own cc nL ret fr lc mc ms tb Tm cs ss (pc) (A) (am_i x :: st) h := by
  intro p l e R s m args below meth c lo ad D cA Z F K hc hcs H locs ls hW hS hL
  exact lv_i2b F.1 F.2.1 hd rfl (k p l e R s m args below meth c lo ad D cA Z F K hc hcs H locs ls hW hS hL)
theorem ar_lcmp {x y : Int64} (hd : decode cc pc = .ok (.lcmp, 1))  (k : am_V own cc nL ret fr lc mc ms tb Tm cs ss (pc + 1) (A) (am_i (lg_cmp x y) :: st) h) : am_V own cc nL ret fr lc mc ms tb Tm cs ss (pc) (A) (am_l y :: am_l x :: st) h := by
  intro p l e R s m args below meth c lo ad D cA Z F K hc hcs H locs ls hW hS hL
  exact W.lcmp F.1 F.2.1 hd (k p l e R s m args below meth c lo ad D cA Z F K hc hcs H locs ls hW hS hL)
theorem ar_i2d {x : Int32} (hd : decode cc pc = .ok (.i2d, 1))  (k : am_V own cc nL ret fr lc mc ms tb Tm cs ss (pc + 1) (A) (.inl (.double (FP.i2d x)) :: st) h) : am_V own cc nL ret fr lc mc ms tb Tm cs ss (pc) (A) (am_i x :: st) h := by
  intro p l e R s m args below meth c lo ad D cA Z F K hc hcs H locs ls hW hS hL
  exact lv_i2d F.1 F.2.1 hd (k p l e R s m args below meth c lo ad D cA Z F K hc hcs H locs ls hW hS hL)
theorem ar_i2f {x : Int32} (hd : decode cc pc = .ok (.i2f, 1))  (k : am_V own cc nL ret fr lc mc ms tb Tm cs ss (pc + 1) (A) (.inl (.float (FP.i2f x)) :: st) h) : am_V own cc nL ret fr lc mc ms tb Tm cs ss (pc) (A) (am_i x :: st) h := by
  intro p l e R s m args below meth c lo ad D cA Z F K hc hcs H locs ls hW hS hL
  exact lv_i2f F.1 F.2.1 hd (k p l e R s m args below meth c lo ad D cA Z F K hc hcs H locs ls hW hS hL)
theorem ar_ddiv {x y : UInt64} (hd : decode cc pc = .ok (.ddiv, 1)) (hne : vf_n64 (FP.ddiv x y)) (k : am_V own cc nL ret fr lc mc ms tb Tm cs ss (pc + 1) (A) (.inl (.double (FP.ddiv x y)) :: st) h) : am_V own cc nL ret fr lc mc ms tb Tm cs ss (pc) (A) (.inl (.double y) :: .inl (.double x) :: st) h := by
  intro p l e R s m args below meth c lo ad D cA Z F K hc hcs H locs ls hW hS hL
  exact lv_ddiv F.1 F.2.1 hd hne (k p l e R s m args below meth c lo ad D cA Z F K hc hcs H locs ls hW hS hL)
theorem ar_fdiv {x y : UInt32} (hd : decode cc pc = .ok (.fdiv, 1)) (hne : vf_n32 (FP.fdiv x y)) (k : am_V own cc nL ret fr lc mc ms tb Tm cs ss (pc + 1) (A) (.inl (.float (FP.fdiv x y)) :: st) h) : am_V own cc nL ret fr lc mc ms tb Tm cs ss (pc) (A) (.inl (.float y) :: .inl (.float x) :: st) h := by
  intro p l e R s m args below meth c lo ad D cA Z F K hc hcs H locs ls hW hS hL
  exact lv_fdiv F.1 F.2.1 hd hne (k p l e R s m args below meth c lo ad D cA Z F K hc hcs H locs ls hW hS hL)
theorem ar_f2d {x : UInt32} (hd : decode cc pc = .ok (.f2d, 1)) (hne : vf_n64 (FP.f2d x)) (k : am_V own cc nL ret fr lc mc ms tb Tm cs ss (pc + 1) (A) (.inl (.double (FP.f2d x)) :: st) h) : am_V own cc nL ret fr lc mc ms tb Tm cs ss (pc) (A) (.inl (.float x) :: st) h := by
  intro p l e R s m args below meth c lo ad D cA Z F K hc hcs H locs ls hW hS hL
  exact lv_f2d F.1 F.2.1 hd hne (k p l e R s m args below meth c lo ad D cA Z F K hc hcs H locs ls hW hS hL)
theorem ar_dcmp {x y : UInt64} {op : CmpOp} (hd : decode cc pc = .ok (.dcmp op, 1))  (k : am_V own cc nL ret fr lc mc ms tb Tm cs ss (pc + 1) (A) (am_i (Op.cmpValue (FP.dcmp x y) op) :: st) h) : am_V own cc nL ret fr lc mc ms tb Tm cs ss (pc) (A) (.inl (.double y) :: .inl (.double x) :: st) h := by
  intro p l e R s m args below meth c lo ad D cA Z F K hc hcs H locs ls hW hS hL
  exact lv_dcmp F.1 F.2.1 hd (k p l e R s m args below meth c lo ad D cA Z F K hc hcs H locs ls hW hS hL)
theorem ar_fconst0  (hd : decode cc pc = .ok (.fconst 0, 1))  (k : am_V own cc nL ret fr lc mc ms tb Tm cs ss (pc + 1) (A) (.inl (.float FP.fconst0) :: st) h) : am_V own cc nL ret fr lc mc ms tb Tm cs ss (pc) (A) (st) h := by
  intro p l e R s m args below meth c lo ad D cA Z F K hc hcs H locs ls hW hS hL
  exact lv_fconst0 F.1 F.2.1 hd (k p l e R s m args below meth c lo ad D cA Z F K hc hcs H locs ls hW hS hL)
theorem ar_dconst0  (hd : decode cc pc = .ok (.dconst 0, 1))  (k : am_V own cc nL ret fr lc mc ms tb Tm cs ss (pc + 1) (A) (.inl (.double FP.dconst0) :: st) h) : am_V own cc nL ret fr lc mc ms tb Tm cs ss (pc) (A) (st) h := by
  intro p l e R s m args below meth c lo ad D cA Z F K hc hcs H locs ls hW hS hL
  exact lv_dconst0 F.1 F.2.1 hd (k p l e R s m args below meth c lo ad D cA Z F K hc hcs H locs ls hW hS hL)
theorem ar_dup {v : am_v} (hd : decode cc pc = .ok (.dup, 1)) (hv : am_c1 (some v)) (k : am_V own cc nL ret fr lc mc ms tb Tm cs ss (pc + 1) (A) (v :: v :: st) h) : am_V own cc nL ret fr lc mc ms tb Tm cs ss (pc) (A) (v :: st) h := by
  intro p l e R s m args below meth c lo ad D cA Z F K hc hcs H locs ls hW hS hL
  exact lv_dup F.1 F.2.1 hd (am_enc_c1 hv) (k p l e R s m args below meth c lo ad D cA Z F K hc hcs H locs ls hW hS hL)
theorem ar_dup2 {v w : am_v} (hd : decode cc pc = .ok (.dup2, 1)) (hv : am_c1 (some v)) (hw : am_c1 (some w)) (k : am_V own cc nL ret fr lc mc ms tb Tm cs ss (pc + 1) (A) (v :: w :: v :: w :: st) h) : am_V own cc nL ret fr lc mc ms tb Tm cs ss (pc) (A) (v :: w :: st) h := by
  intro p l e R s m args below meth c lo ad D cA Z F K hc hcs H locs ls hW hS hL
  exact lv_dup2_11 F.1 F.2.1 hd (am_enc_c1 hv) (am_enc_c1 hw) (k p l e R s m args below meth c lo ad D cA Z F K hc hcs H locs ls hW hS hL)
theorem ar_dup2l {x : Int64} (hd : decode cc pc = .ok (.dup2, 1))  (k : am_V own cc nL ret fr lc mc ms tb Tm cs ss (pc + 1) (A) (am_l x :: am_l x :: st) h) : am_V own cc nL ret fr lc mc ms tb Tm cs ss (pc) (A) (am_l x :: st) h := by
  intro p l e R s m args below meth c lo ad D cA Z F K hc hcs H locs ls hW hS hL
  exact lv_dup2_2 F.1 F.2.1 hd rfl (k p l e R s m args below meth c lo ad D cA Z F K hc hcs H locs ls hW hS hL)
theorem ar_pop {v : am_v} (hd : decode cc pc = .ok (.pop, 1)) (hv : am_c1 (some v)) (k : am_V own cc nL ret fr lc mc ms tb Tm cs ss (pc + 1) (A) (st) h) : am_V own cc nL ret fr lc mc ms tb Tm cs ss (pc) (A) (v :: st) h := by
  intro p l e R s m args below meth c lo ad D cA Z F K hc hcs H locs ls hW hS hL
  exact lv_pop F.1 F.2.1 hd (am_enc_c1 hv) (k p l e R s m args below meth c lo ad D cA Z F K hc hcs H locs ls hW hS hL)
theorem ar_goto {off : Int} (tgt : Nat) (hd : decode cc pc = .ok (.goto off, 3)) (ht : (pc : Int) + off = (tgt : Int)) (k : am_V own cc nL ret fr lc mc ms tb Tm cs ss (tgt) (A) (st) h) : am_V own cc nL ret fr lc mc ms tb Tm cs ss (pc) (A) (st) h := by
  intro p l e R s m args below meth c lo ad D cA Z F K hc hcs H locs ls hW hS hL
  exact lv_goto F.1 F.2.1 hd ht (k p l e R s m args below meth c lo ad D cA Z F K hc hcs H locs ls hW hS hL)
theorem ar_if_eq {x : Int32} {off : Int} (tgt : Nat) (hd : decode cc pc = .ok (.ifCond .eq off, 3)) (ht : (pc : Int) + off = (tgt : Int)) (kt : x = 0 → am_V own cc nL ret fr lc mc ms tb Tm cs ss (tgt) (A) (st) h) (kf : ¬ x = 0 → am_V own cc nL ret fr lc mc ms tb Tm cs ss (pc + 3) (A) (st) h) : am_V own cc nL ret fr lc mc ms tb Tm cs ss (pc) (A) (am_i x :: st) h := by
  intro p l e R s m args below meth c lo ad D cA Z F K hc hcs H locs ls hW hS hL
  exact lv_if_eq F.1 F.2.1 hd ht (fun z => kt z p l e R s m args below meth c lo ad D cA Z F K hc hcs H locs ls hW hS hL) (fun z => kf z p l e R s m args below meth c lo ad D cA Z F K hc hcs H locs ls hW hS hL)
theorem ar_if_ne {x : Int32} {off : Int} (tgt : Nat) (hd : decode cc pc = .ok (.ifCond .ne off, 3)) (ht : (pc : Int) + off = (tgt : Int)) (kt : ¬ x = 0 → am_V own cc nL ret fr lc mc ms tb Tm cs ss (tgt) (A) (st) h) (kf : x = 0 → am_V own cc nL ret fr lc mc ms tb Tm cs ss (pc + 3) (A) (st) h) : am_V own cc nL ret fr lc mc ms tb Tm cs ss (pc) (A) (am_i x :: st) h := by
  intro p l e R s m args below meth c lo ad D cA Z F K hc hcs H locs ls hW hS hL
  exact lv_if_ne F.1 F.2.1 hd ht (fun z => kt z p l e R s m args below meth c lo ad D cA Z F K hc hcs H locs ls hW hS hL) (fun z => kf z p l e R s m args below meth c lo ad D cA Z F K hc hcs H locs ls hW hS hL)
theorem ar_if_lt {x : Int32} {off : Int} (tgt : Nat) (hd : decode cc pc = .ok (.ifCond .lt off, 3)) (ht : (pc : Int) + off = (tgt : Int)) (kt : x < 0 → am_V own cc nL ret fr lc mc ms tb Tm cs ss (tgt) (A) (st) h) (kf : ¬ x < 0 → am_V own cc nL ret fr lc mc ms tb Tm cs ss (pc + 3) (A) (st) h) : am_V own cc nL ret fr lc mc ms tb Tm cs ss (pc) (A) (am_i x :: st) h := by
  intro p l e R s m args below meth c lo ad D cA Z F K hc hcs H locs ls hW hS hL
  exact lv_if_lt F.1 F.2.1 hd ht (fun z => kt z p l e R s m args below meth c lo ad D cA Z F K hc hcs H locs ls hW hS hL) (fun z => kf z p l e R s m args below meth c lo ad D cA Z F K hc hcs H locs ls hW hS hL)
theorem ar_if_ge {x : Int32} {off : Int} (tgt : Nat) (hd : decode cc pc = .ok (.ifCond .ge off, 3)) (ht : (pc : Int) + off = (tgt : Int)) (kt : 0 ≤ x → am_V own cc nL ret fr lc mc ms tb Tm cs ss (tgt) (A) (st) h) (kf : ¬ 0 ≤ x → am_V own cc nL ret fr lc mc ms tb Tm cs ss (pc + 3) (A) (st) h) : am_V own cc nL ret fr lc mc ms tb Tm cs ss (pc) (A) (am_i x :: st) h := by
  intro p l e R s m args below meth c lo ad D cA Z F K hc hcs H locs ls hW hS hL
  exact lv_if_ge F.1 F.2.1 hd ht (fun z => kt z p l e R s m args below meth c lo ad D cA Z F K hc hcs H locs ls hW hS hL) (fun z => kf z p l e R s m args below meth c lo ad D cA Z F K hc hcs H locs ls hW hS hL)
theorem ar_if_gt {x : Int32} {off : Int} (tgt : Nat) (hd : decode cc pc = .ok (.ifCond .gt off, 3)) (ht : (pc : Int) + off = (tgt : Int)) (kt : 0 < x → am_V own cc nL ret fr lc mc ms tb Tm cs ss (tgt) (A) (st) h) (kf : ¬ 0 < x → am_V own cc nL ret fr lc mc ms tb Tm cs ss (pc + 3) (A) (st) h) : am_V own cc nL ret fr lc mc ms tb Tm cs ss (pc) (A) (am_i x :: st) h := by
  intro p l e R s m args below meth c lo ad D cA Z F K hc hcs H locs ls hW hS hL
  exact lv_if_gt F.1 F.2.1 hd ht (fun z => kt z p l e R s m args below meth c lo ad D cA Z F K hc hcs H locs ls hW hS hL) (fun z => kf z p l e R s m args below meth c lo ad D cA Z F K hc hcs H locs ls hW hS hL)
theorem ar_if_le {x : Int32} {off : Int} (tgt : Nat) (hd : decode cc pc = .ok (.ifCond .le off, 3)) (ht : (pc : Int) + off = (tgt : Int)) (kt : x ≤ 0 → am_V own cc nL ret fr lc mc ms tb Tm cs ss (tgt) (A) (st) h) (kf : ¬ x ≤ 0 → am_V own cc nL ret fr lc mc ms tb Tm cs ss (pc + 3) (A) (st) h) : am_V own cc nL ret fr lc mc ms tb Tm cs ss (pc) (A) (am_i x :: st) h := by
  intro p l e R s m args below meth c lo ad D cA Z F K hc hcs H locs ls hW hS hL
  exact lv_if_le F.1 F.2.1 hd ht (fun z => kt z p l e R s m args below meth c lo ad D cA Z F K hc hcs H locs ls hW hS hL) (fun z => kf z p l e R s m args below meth c lo ad D cA Z F K hc hcs H locs ls hW hS hL)
theorem ar_ic_eq {x y : Int32} {off : Int} (tgt : Nat) (hd : decode cc pc = .ok (.if_icmp .eq off, 3)) (ht : (pc : Int) + off = (tgt : Int)) (kt : x = y → am_V own cc nL ret fr lc mc ms tb Tm cs ss (tgt) (A) (st) h) (kf : ¬ x = y → am_V own cc nL ret fr lc mc ms tb Tm cs ss (pc + 3) (A) (st) h) : am_V own cc nL ret fr lc mc ms tb Tm cs ss (pc) (A) (am_i y :: am_i x :: st) h := by
  intro p l e R s m args below meth c lo ad D cA Z F K hc hcs H locs ls hW hS hL
  exact lv_icmp_eq F.1 F.2.1 hd ht (fun z => kt z p l e R s m args below meth c lo ad D cA Z F K hc hcs H locs ls hW hS hL) (fun z => kf z p l e R s m args below meth c lo ad D cA Z F K hc hcs H locs ls hW hS hL)
theorem ar_ic_ne {x y : Int32} {off : Int} (tgt : Nat) (hd : decode cc pc = .ok (.if_icmp .ne off, 3)) (ht : (pc : Int) + off = (tgt : Int)) (kt : ¬ x = y → am_V own cc nL ret fr lc mc ms tb Tm cs ss (tgt) (A) (st) h) (kf : x = y → am_V own cc nL ret fr lc mc ms tb Tm cs ss (pc + 3) (A) (st) h) : am_V own cc nL ret fr lc mc ms tb Tm cs ss (pc) (A) (am_i y :: am_i x :: st) h := by
  intro p l e R s m args below meth c lo ad D cA Z F K hc hcs H locs ls hW hS hL
  exact lv_icmp_ne F.1 F.2.1 hd ht (fun z => kt z p l e R s m args below meth c lo ad D cA Z F K hc hcs H locs ls hW hS hL) (fun z => kf z p l e R s m args below meth c lo ad D cA Z F K hc hcs H locs ls hW hS hL)
theorem ar_ic_lt {x y : Int32} {off : Int} (tgt : Nat) (hd : decode cc pc = .ok (.if_icmp .lt off, 3)) (ht : (pc : Int) + off = (tgt : Int)) (kt : x < y → am_V own cc nL ret fr lc mc ms tb Tm cs ss (tgt) (A) (st) h) (kf : ¬ x < y → am_V own cc nL ret fr lc mc ms tb Tm cs ss (pc + 3) (A) (st) h) : am_V own cc nL ret fr lc mc ms tb Tm cs ss (pc) (A) (am_i y :: am_i x :: st) h := by
  intro p l e R s m args below meth c lo ad D cA Z F K hc hcs H locs ls hW hS hL
  exact lv_icmp_lt F.1 F.2.1 hd ht (fun z => kt z p l e R s m args below meth c lo ad D cA Z F K hc hcs H locs ls hW hS hL) (fun z => kf z p l e R s m args below meth c lo ad D cA Z F K hc hcs H locs ls hW hS hL)
theorem ar_ic_ge {x y : Int32} {off : Int} (tgt : Nat) (hd : decode cc pc = .ok (.if_icmp .ge off, 3)) (ht : (pc : Int) + off = (tgt : Int)) (kt : y ≤ x → am_V own cc nL ret fr lc mc ms tb Tm cs ss (tgt) (A) (st) h) (kf : ¬ y ≤ x → am_V own cc nL ret fr lc mc ms tb Tm cs ss (pc + 3) (A) (st) h) : am_V own cc nL ret fr lc mc ms tb Tm cs ss (pc) (A) (am_i y :: am_i x :: st) h := by
  intro p l e R s m args below meth c lo ad D cA Z F K hc hcs H locs ls hW hS hL
  exact lv_icmp_ge F.1 F.2.1 hd ht (fun z => kt z p l e R s m args below meth c lo ad D cA Z F K hc hcs H locs ls hW hS hL) (fun z => kf z p l e R s m args below meth c lo ad D cA Z F K hc hcs H locs ls hW hS hL)
theorem ar_ic_gt {x y : Int32} {off : Int} (tgt : Nat) (hd : decode cc pc = .ok (.if_icmp .gt off, 3)) (ht : (pc : Int) + off = (tgt : Int)) (kt : y < x → am_V own cc nL ret fr lc mc ms tb Tm cs ss (tgt) (A) (st) h) (kf : ¬ y < x → am_V own cc nL ret fr lc mc ms tb Tm cs ss (pc + 3) (A) (st) h) : am_V own cc nL ret fr lc mc ms tb Tm cs ss (pc) (A) (am_i y :: am_i x :: st) h := by
  intro p l e R s m args below meth c lo ad D cA Z F K hc hcs H locs ls hW hS hL
  exact lv_icmp_gt F.1 F.2.1 hd ht (fun z => kt z p l e R s m args below meth c lo ad D cA Z F K hc hcs H locs ls hW hS hL) (fun z => kf z p l e R s m args below meth c lo ad D cA Z F K hc hcs H locs ls hW hS hL)
theorem ar_ic_le {x y : Int32} {off : Int} (tgt : Nat) (hd : decode cc pc = .ok (.if_icmp .le off, 3)) (ht : (pc : Int) + off = (tgt : Int)) (kt : x ≤ y → am_V own cc nL ret fr lc mc ms tb Tm cs ss (tgt) (A) (st) h) (kf : ¬ x ≤ y → am_V own cc nL ret fr lc mc ms tb Tm cs ss (pc + 3) (A) (st) h) : am_V own cc nL ret fr lc mc ms tb Tm cs ss (pc) (A) (am_i y :: am_i x :: st) h := by
  intro p l e R s m args below meth c lo ad D cA Z F K hc hcs H locs ls hW hS hL
  exact lv_icmp_le F.1 F.2.1 hd ht (fun z => kt z p l e R s m args below meth c lo ad D cA Z F K hc hcs H locs ls hW hS hL) (fun z => kf z p l e R s m args below meth c lo ad D cA Z F K hc hcs H locs ls hW hS hL)
theorem ar_swIn {dflt lo9 hi9 : Int} {offs : Array Int} {len : Nat} {x : Int32} {off : Int} (tgt : Nat) (hd : decode cc pc = .ok (.tableswitch dflt lo9 hi9 offs, len)) (h1 : ¬ x.toInt < lo9) (h2 : ¬ hi9 < x.toInt) (ho : offs[(x.toInt - lo9).toNat]? = some off) (ht : (pc : Int) + off = (tgt : Int)) (k : am_V own cc nL ret fr lc mc ms tb Tm cs ss (tgt) (A) (st) h) : am_V own cc nL ret fr lc mc ms tb Tm cs ss (pc) (A) (am_i x :: st) h := by
  intro p l e R s m args below meth c lo ad D cA Z F K hc hcs H locs ls hW hS hL
  exact lv_tableIn F.1 F.2.1 hd h1 h2 ho ht (k p l e R s m args below meth c lo ad D cA Z F K hc hcs H locs ls hW hS hL)
theorem ar_swOut {dflt lo9 hi9 : Int} {offs : Array Int} {len : Nat} {x : Int32} (tgt : Nat) (hd : decode cc pc = .ok (.tableswitch dflt lo9 hi9 offs, len)) (h1 : x.toInt < lo9 ∨ hi9 < x.toInt) (ht : (pc : Int) + dflt = (tgt : Int)) (k : am_V own cc nL ret fr lc mc ms tb Tm cs ss (tgt) (A) (st) h) : am_V own cc nL ret fr lc mc ms tb Tm cs ss (pc) (A) (am_i x :: st) h := by
  intro p l e R s m args below meth c lo ad D cA Z F K hc hcs H locs ls hW hS hL
  exact lv_tableOut F.1 F.2.1 hd h1 ht (k p l e R s m args below meth c lo ad D cA Z F K hc hcs H locs ls hW hS hL)
theorem ar_iret {Q : Option am_v → am_H → Prop} {x : Int32} {ty : FieldType} (hd : decode cc pc = .ok (.ireturn, 1)) (hr : ret = some ty) (hn : narrow ty (.int x) = .int x) (hq : Q (some (am_i x)) h) : am_V own cc nL ret fr lc mc ms tb (am_Tm cc ret Q) cs ss (pc) (A) ([am_i x]) h := am_done ⟨some (am_i x), Or.inl ⟨x, ty, rfl, hr, hn, hd⟩, rfl, hq⟩
theorem ar_vret {Q : Option am_v → am_H → Prop} (hd : decode cc pc = .ok (.return_, 1)) (hr : ret = none) (hq : Q none h) : am_V own cc nL ret fr lc mc ms tb (am_Tm cc ret Q) cs ss (pc) (A) ([]) h := am_done ⟨none, Or.inr (Or.inl ⟨rfl, hr, hd⟩), rfl, hq⟩
theorem ar_dret {Q : Option am_v → am_H → Prop} {x : UInt64} (hd : decode cc pc = .ok (.dreturn, 1)) (hr : ret = some .double) (hq : Q (some (.inl (.double x))) h) : am_V own cc nL ret fr lc mc ms tb (am_Tm cc ret Q) cs ss (pc) (A) ([.inl (.double x)]) h := am_done ⟨some (.inl (.double x)), Or.inr (Or.inr (Or.inl ⟨x, rfl, hr, hd⟩)), rfl, hq⟩
theorem ar_fret {Q : Option am_v → am_H → Prop} {x : UInt32} (hd : decode cc pc = .ok (.freturn, 1)) (hr : ret = some .float) (hq : Q (some (.inl (.float x))) h) : am_V own cc nL ret fr lc mc ms tb (am_Tm cc ret Q) cs ss (pc) (A) ([.inl (.float x)]) h := am_done ⟨some (.inl (.float x)), Or.inr (Or.inr (Or.inr ⟨x, rfl, hr, hd⟩)), rfl, hq⟩
theorem am_nest_use {w : Cond} {args : Array Value} {s : State} (hm : w ∈ am_nT) (hN : ∀ w ∈ am_nT, va_Nw w s) : w.before args s = true := by
  refine va_Nw.use ?_ (hN w hm)
  have h2 : am_nest w = true := (List.mem_filter.mp hm).2
  cases w <;> first | rfl | exact absurd h2 (by simp [am_nest])
theorem ar_getI {g : am_G} {o idx ci k : Nat} {ty : FieldType} {fin : Bool} (hd : decode cc pc = .ok (.getfield idx, 3)) (G : am_gf own idx ci k ty fin) (hs : am_shp g o = .inl ci) (hf : (am_fk ci)[k]? = some 0) (hv : am_ok g o) (kk : am_V own cc nL ret fr lc mc ms tb Tm cs ss (pc + 3) (A) (am_i (h.1 g o k) :: st) h) : am_V own cc nL ret fr lc mc ms tb Tm cs ss (pc) (A) (am_r g o :: st) h := by
  intro p l e R s m args below meth c lo ad D cA Z F K hc hcs H locs ls hW hS hL
  obtain ⟨⟨C, T, N⟩, g1, g2, -, -, g5⟩ := G
  have he := am_ws_at ad cA h hv
  have e1 : am_ce ad cA h g o = .inr (ci, am_fl ad h g o ci) := by unfold am_ce; rw [hs]
  rw [e1] at he
  have hK := F.2.2.2.2.2.1.1
  have hin := (am_cl ci _ g1).1
  rcases g5 with g5 | ⟨host, g5⟩
  · exact va_get F.1 F.2.1 F.2.2.2.2.1 hin F.2.2.2.1 hK hW.1 (am_rk g o) he g1 k g2 (F.2.2.2.2.1 _ g5) (fun _ z => z) (am_fl_at ad h g o ci hf) hd (kk p l e R s m args below meth c lo ad D cA Z F K hc hcs H locs ls hW hS hL)
  · exact va_getN F.1 F.2.1 F.2.2.2.2.1 hin F.2.2.2.1 hK hW.1 (am_rk g o) he g1 k g2 (am_nest_use g5 F.2.2.2.2.2.1.2.1) (fun _ z => z) (am_fl_at ad h g o ci hf) hd (kk p l e R s m args below meth c lo ad D cA Z F K hc hcs H locs ls hW hS hL)
theorem ar_getR {g : am_G} {o idx ci k : Nat} {ty : FieldType} {fin : Bool} (hd : decode cc pc = .ok (.getfield idx, 3)) (G : am_gf own idx ci k ty fin) (hs : am_shp g o = .inl ci) (hf : (am_fk ci)[k]? = some 1) (hv : am_ok g o) (kk : am_V own cc nL ret fr lc mc ms tb Tm cs ss (pc + 3) (A) (am_r (am_tg g o k).1 (am_tg g o k).2 :: st) h) : am_V own cc nL ret fr lc mc ms tb Tm cs ss (pc) (A) (am_r g o :: st) h := by
  intro p l e R s m args below meth c lo ad D cA Z F K hc hcs H locs ls hW hS hL
  obtain ⟨⟨C, T, N⟩, g1, g2, -, -, g5⟩ := G
  have he := am_ws_at ad cA h hv
  have e1 : am_ce ad cA h g o = .inr (ci, am_fl ad h g o ci) := by unfold am_ce; rw [hs]
  rw [e1] at he
  have hK := F.2.2.2.2.2.1.1
  have hin := (am_cl ci _ g1).1
  rcases g5 with g5 | ⟨host, g5⟩
  · exact va_get F.1 F.2.1 F.2.2.2.2.1 hin F.2.2.2.1 hK hW.1 (am_rk g o) he g1 k g2 (F.2.2.2.2.1 _ g5) (fun _ z => z) (am_fl_at ad h g o ci hf) hd (kk p l e R s m args below meth c lo ad D cA Z F K hc hcs H locs ls hW hS hL)
  · exact va_getN F.1 F.2.1 F.2.2.2.2.1 hin F.2.2.2.1 hK hW.1 (am_rk g o) he g1 k g2 (am_nest_use g5 F.2.2.2.2.2.1.2.1) (fun _ z => z) (am_fl_at ad h g o ci hf) hd (kk p l e R s m args below meth c lo ad D cA Z F K hc hcs H locs ls hW hS hL)
theorem ar_getL {g : am_G} {o idx ci k : Nat} {ty : FieldType} {fin : Bool} (hd : decode cc pc = .ok (.getfield idx, 3)) (G : am_gf own idx ci k ty fin) (hs : am_shp g o = .inl ci) (hf : (am_fk ci)[k]? = some 2) (hv : am_ok g o) (kk : am_V own cc nL ret fr lc mc ms tb Tm cs ss (pc + 3) (A) (am_l (h.2.1 g o k) :: st) h) : am_V own cc nL ret fr lc mc ms tb Tm cs ss (pc) (A) (am_r g o :: st) h := by
  intro p l e R s m args below meth c lo ad D cA Z F K hc hcs H locs ls hW hS hL
  obtain ⟨⟨C, T, N⟩, g1, g2, -, -, g5⟩ := G
  have he := am_ws_at ad cA h hv
  have e1 : am_ce ad cA h g o = .inr (ci, am_fl ad h g o ci) := by unfold am_ce; rw [hs]
  rw [e1] at he
  have hK := F.2.2.2.2.2.1.1
  have hin := (am_cl ci _ g1).1
  rcases g5 with g5 | ⟨host, g5⟩
  · exact va_get F.1 F.2.1 F.2.2.2.2.1 hin F.2.2.2.1 hK hW.1 (am_rk g o) he g1 k g2 (F.2.2.2.2.1 _ g5) (fun _ z => z) (am_fl_at ad h g o ci hf) hd (kk p l e R s m args below meth c lo ad D cA Z F K hc hcs H locs ls hW hS hL)
  · exact va_getN F.1 F.2.1 F.2.2.2.2.1 hin F.2.2.2.1 hK hW.1 (am_rk g o) he g1 k g2 (am_nest_use g5 F.2.2.2.2.2.1.2.1) (fun _ z => z) (am_fl_at ad h g o ci hf) hd (kk p l e R s m args below meth c lo ad D cA Z F K hc hcs H locs ls hW hS hL)
theorem ar_putI {g : am_G} {o idx ci k : Nat} {ty : FieldType} {x : Int32} (hd : decode cc pc = .ok (.putfield idx, 3)) (G : am_gf own idx ci k ty false) (hs : am_shp g o = .inl ci) (hf : (am_fk ci)[k]? = some 0) (hv : am_ok g o) (hn : narrow ty (.int x) = .int x) (hfit : fits ty (.int x) = true) (kk : am_V own cc nL ret fr lc mc ms tb Tm cs ss (pc + 3) (A) (st) (am_u h g o k x)) : am_V own cc nL ret fr lc mc ms tb Tm cs ss (pc) (A) (am_i x :: am_r g o :: st) h := by
  intro p l e R s m args below meth c lo ad D cA Z F K hc hcs H locs ls hW hS hL
  obtain ⟨⟨C, T, N⟩, g1, g2, g3, g4, g5⟩ := G
  have he := am_ws_at ad cA h hv
  have e1 : am_ce ad cA h g o = .inr (ci, am_fl ad h g o ci) := by unfold am_ce; rw [hs]
  rw [e1] at he
  have hK := F.2.2.2.2.2.1.1
  obtain ⟨hin, ⟨ty0, hty⟩, hnm⟩ := am_cl ci _ g1
  have hl : k < (am_fl ad h g o ci).length := by rw [am_fl_len]; exact (List.getElem?_eq_some_iff.mp hf).1
  have e2 : (am_ws ad cA h).set (am_rk g o) (ad g o, .inr (ci, (am_fl ad h g o ci).set k (.int x))) = am_ws ad cA (am_u h g o k x) := by
    rw [← am_fl_u ad h g o ci hf x]
    have e3 : am_ce ad cA (am_u h g o k x) g o = .inr (ci, am_fl ad (am_u h g o k x) g o ci) := by unfold am_ce; rw [hs]
    rw [← e3]
    exact am_ws_set ad cA h _ hv (fun g' o' _ hne => am_ce_ne ad cA h _ (am_u_row hne) rfl (Or.inl rfl))
  rcases g5 with g5 | ⟨host, g5⟩
  · refine va_put F.1 F.2.1 F.2.2.2.2.1 hin ty0 hty hnm F.2.2.2.1 hK hW.1 hW.2 hS (am_rk g o) he g1 k g2 (F.2.2.2.2.1 _ g5) (fun _ z => z) g3 g4 hn hfit hl hd (fun H1 locs1 p1 p2 p3 => ?_)
    change va_P D vwCl (List.set (am_ws ad cA h) (am_rk g o) (ad g o, Sum.inr (ci, (am_fl ad h g o ci).set k (.int x)))) H1 at p1
    change va_D lo (List.set (am_ws ad cA h) (am_rk g o) (ad g o, Sum.inr (ci, (am_fl ad h g o ci).set k (.int x)))) at p2
    rw [e2] at p1 p2
    exact kk p l e R s m args below meth c lo ad D cA Z F K hc hcs H1 locs1 ls ⟨p1, p2⟩ p3 hL
  · refine va_putN F.1 F.2.1 F.2.2.2.2.1 hin ty0 hty hnm F.2.2.2.1 hK hW.1 hW.2 hS (am_rk g o) he g1 k g2 (am_nest_use g5 F.2.2.2.2.2.1.2.1) (fun _ z => z) g3 g4 hn hfit hl hd (fun H1 locs1 p1 p2 p3 => ?_)
    change va_P D vwCl (List.set (am_ws ad cA h) (am_rk g o) (ad g o, Sum.inr (ci, (am_fl ad h g o ci).set k (.int x)))) H1 at p1
    change va_D lo (List.set (am_ws ad cA h) (am_rk g o) (ad g o, Sum.inr (ci, (am_fl ad h g o ci).set k (.int x)))) at p2
    rw [e2] at p1 p2
    exact kk p l e R s m args below meth c lo ad D cA Z F K hc hcs H1 locs1 ls ⟨p1, p2⟩ p3 hL
theorem ar_putL {g : am_G} {o idx ci k : Nat} {ty : FieldType} {x : Int64} (hd : decode cc pc = .ok (.putfield idx, 3)) (G : am_gf own idx ci k ty false) (hs : am_shp g o = .inl ci) (hf : (am_fk ci)[k]? = some 2) (hv : am_ok g o) (hn : narrow ty (.long x) = .long x) (hfit : fits ty (.long x) = true) (kk : am_V own cc nL ret fr lc mc ms tb Tm cs ss (pc + 3) (A) (st) (am_ul h g o k x)) : am_V own cc nL ret fr lc mc ms tb Tm cs ss (pc) (A) (am_l x :: am_r g o :: st) h := by
  intro p l e R s m args below meth c lo ad D cA Z F K hc hcs H locs ls hW hS hL
  obtain ⟨⟨C, T, N⟩, g1, g2, g3, g4, g5⟩ := G
  have he := am_ws_at ad cA h hv
  have e1 : am_ce ad cA h g o = .inr (ci, am_fl ad h g o ci) := by unfold am_ce; rw [hs]
  rw [e1] at he
  have hK := F.2.2.2.2.2.1.1
  obtain ⟨hin, ⟨ty0, hty⟩, hnm⟩ := am_cl ci _ g1
  have hl : k < (am_fl ad h g o ci).length := by rw [am_fl_len]; exact (List.getElem?_eq_some_iff.mp hf).1
  have e2 : (am_ws ad cA h).set (am_rk g o) (ad g o, .inr (ci, (am_fl ad h g o ci).set k (.long x))) = am_ws ad cA (am_ul h g o k x) := by
    rw [← am_fl_ul ad h g o ci hf x]
    have e3 : am_ce ad cA (am_ul h g o k x) g o = .inr (ci, am_fl ad (am_ul h g o k x) g o ci) := by unfold am_ce; rw [hs]
    rw [← e3]
    exact am_ws_set ad cA h _ hv (fun g' o' _ hne => am_ce_ne ad cA h _ rfl (am_ul_row hne) (Or.inl rfl))
  rcases g5 with g5 | ⟨host, g5⟩
  · refine va_put F.1 F.2.1 F.2.2.2.2.1 hin ty0 hty hnm F.2.2.2.1 hK hW.1 hW.2 hS (am_rk g o) he g1 k g2 (F.2.2.2.2.1 _ g5) (fun _ z => z) g3 g4 hn hfit hl hd (fun H1 locs1 p1 p2 p3 => ?_)
    change va_P D vwCl (List.set (am_ws ad cA h) (am_rk g o) (ad g o, Sum.inr (ci, (am_fl ad h g o ci).set k (.long x)))) H1 at p1
    change va_D lo (List.set (am_ws ad cA h) (am_rk g o) (ad g o, Sum.inr (ci, (am_fl ad h g o ci).set k (.long x)))) at p2
    rw [e2] at p1 p2
    exact kk p l e R s m args below meth c lo ad D cA Z F K hc hcs H1 locs1 ls ⟨p1, p2⟩ p3 hL
  · refine va_putN F.1 F.2.1 F.2.2.2.2.1 hin ty0 hty hnm F.2.2.2.1 hK hW.1 hW.2 hS (am_rk g o) he g1 k g2 (am_nest_use g5 F.2.2.2.2.2.1.2.1) (fun _ z => z) g3 g4 hn hfit hl hd (fun H1 locs1 p1 p2 p3 => ?_)
    change va_P D vwCl (List.set (am_ws ad cA h) (am_rk g o) (ad g o, Sum.inr (ci, (am_fl ad h g o ci).set k (.long x)))) H1 at p1
    change va_D lo (List.set (am_ws ad cA h) (am_rk g o) (ad g o, Sum.inr (ci, (am_fl ad h g o ci).set k (.long x)))) at p2
    rw [e2] at p1 p2
    exact kk p l e R s m args below meth c lo ad D cA Z F K hc hcs H1 locs1 ls ⟨p1, p2⟩ p3 hL
theorem ar_iald {g : am_G} {o n : Nat} {i : Int32} (hd : decode cc pc = .ok (.iaload, 1)) (hs : am_shp g o = .inr (0, n)) (hv : am_ok g o) (hin : vp_in i n) (kk : am_V own cc nL ret fr lc mc ms tb Tm cs ss (pc + 1) (A) (am_i (h.1 g o i.toNatClampNeg) :: st) h) : am_V own cc nL ret fr lc mc ms tb Tm cs ss (pc) (A) (am_i i :: am_r g o :: st) h := by
  intro p l e R s m args below meth c lo ad D cA Z F K hc hcs H locs ls hW hS hL
  have he := am_ws_at ad cA h hv
  have e1 : am_ce ad cA h g o = .inl (cA 0, n, am_ar ad h g o 0) := by unfold am_ce; rw [hs]
  rw [e1] at he
  exact va_iald F.1 F.2.1 F.2.2.2.2.2.1.1 hW.1 (am_rk g o) 0 he rfl hin hd (kk p l e R s m args below meth c lo ad D cA Z F K hc hcs H locs ls hW hS hL)
theorem ar_bald {g : am_G} {o n : Nat} {i : Int32} (hd : decode cc pc = .ok (.baload, 1)) (hs : am_shp g o = .inr (1, n)) (hv : am_ok g o) (hin : vp_in i n) (kk : am_V own cc nL ret fr lc mc ms tb Tm cs ss (pc + 1) (A) (am_i (h.1 g o i.toNatClampNeg) :: st) h) : am_V own cc nL ret fr lc mc ms tb Tm cs ss (pc) (A) (am_i i :: am_r g o :: st) h := by
  intro p l e R s m args below meth c lo ad D cA Z F K hc hcs H locs ls hW hS hL
  have he := am_ws_at ad cA h hv
  have e1 : am_ce ad cA h g o = .inl (cA 1, n, am_ar ad h g o 1) := by unfold am_ce; rw [hs]
  rw [e1] at he
  exact va_bald F.1 F.2.1 F.2.2.2.2.2.1.1 hW.1 (am_rk g o) 1 he rfl hin hd (kk p l e R s m args below meth c lo ad D cA Z F K hc hcs H locs ls hW hS hL)
theorem ar_zald {g : am_G} {o n : Nat} {i : Int32} (hd : decode cc pc = .ok (.baload, 1)) (hs : am_shp g o = .inr (2, n)) (hv : am_ok g o) (hin : vp_in i n) (kk : am_V own cc nL ret fr lc mc ms tb Tm cs ss (pc + 1) (A) (am_i (h.1 g o i.toNatClampNeg) :: st) h) : am_V own cc nL ret fr lc mc ms tb Tm cs ss (pc) (A) (am_i i :: am_r g o :: st) h := by
  intro p l e R s m args below meth c lo ad D cA Z F K hc hcs H locs ls hW hS hL
  have he := am_ws_at ad cA h hv
  have e1 : am_ce ad cA h g o = .inl (cA 2, n, am_ar ad h g o 2) := by unfold am_ce; rw [hs]
  rw [e1] at he
  exact va_zald F.1 F.2.1 F.2.2.2.2.2.1.1 hW.1 (am_rk g o) 2 he rfl hin hd (kk p l e R s m args below meth c lo ad D cA Z F K hc hcs H locs ls hW hS hL)
theorem ar_iast {g : am_G} {o n : Nat} {i : Int32} {x : Int32} (hd : decode cc pc = .ok (.iastore, 1)) (hs : am_shp g o = .inr (0, n)) (hv : am_ok g o) (hin : vp_in i n) (kk : am_V own cc nL ret fr lc mc ms tb Tm cs ss (pc + 1) (A) (st) (am_u h g o i.toNatClampNeg x)) : am_V own cc nL ret fr lc mc ms tb Tm cs ss (pc) (A) (am_i x :: am_i i :: am_r g o :: st) h := by
  intro p l e R s m args below meth c lo ad D cA Z F K hc hcs H locs ls hW hS hL
  have he := am_ws_at ad cA h hv
  have e1 : am_ce ad cA h g o = .inl (cA 0, n, am_ar ad h g o 0) := by unfold am_ce; rw [hs]
  rw [e1] at he
  refine va_iast F.1 F.2.1 F.2.2.2.2.2.1.1 hW.1 hW.2 hS (am_rk g o) 0 he rfl hin hd (fun H1 locs1 p1 p2 p3 => ?_)
  have e2 : (am_ws ad cA h).set (am_rk g o) (ad g o, .inl (cA 0, n, .inl (upd (h.1 g o) i.toNatClampNeg x))) = am_ws ad cA (am_u h g o i.toNatClampNeg x) := by
    have e3 : am_ce ad cA (am_u h g o i.toNatClampNeg x) g o = .inl (cA 0, n, .inl (upd (h.1 g o) i.toNatClampNeg x)) := by
      have e4 : am_ce ad cA (am_u h g o i.toNatClampNeg x) g o = .inl (cA 0, n, am_ar ad (am_u h g o i.toNatClampNeg x) g o 0) := by unfold am_ce; rw [hs]
      rw [e4]
      show (Sum.inl (cA 0, n, .inl ((am_u h g o i.toNatClampNeg x).1 g o)) : va_E) = _
      rw [am_u_self]
    rw [← e3]
    exact am_ws_set ad cA h _ hv (fun g' o' _ hne => am_ce_ne ad cA h _ (am_u_row hne) rfl (Or.inl rfl))
  rw [e2] at p1 p2
  exact kk p l e R s m args below meth c lo ad D cA Z F K hc hcs H1 locs1 ls ⟨p1, p2⟩ p3 hL
theorem ar_bast {g : am_G} {o n : Nat} {i : Int32} {x : Int32} (hd : decode cc pc = .ok (.bastore, 1)) (hs : am_shp g o = .inr (1, n)) (hv : am_ok g o) (hin : vp_in i n) (kk : am_V own cc nL ret fr lc mc ms tb Tm cs ss (pc + 1) (A) (st) (am_u h g o i.toNatClampNeg (vp_nar .byte x))) : am_V own cc nL ret fr lc mc ms tb Tm cs ss (pc) (A) (am_i x :: am_i i :: am_r g o :: st) h := by
  intro p l e R s m args below meth c lo ad D cA Z F K hc hcs H locs ls hW hS hL
  have he := am_ws_at ad cA h hv
  have e1 : am_ce ad cA h g o = .inl (cA 1, n, am_ar ad h g o 1) := by unfold am_ce; rw [hs]
  rw [e1] at he
  refine va_bast F.1 F.2.1 F.2.2.2.2.2.1.1 hW.1 hW.2 hS (am_rk g o) 1 he rfl hin hd (fun H1 locs1 p1 p2 p3 => ?_)
  have e2 : (am_ws ad cA h).set (am_rk g o) (ad g o, .inl (cA 1, n, .inl (upd (h.1 g o) i.toNatClampNeg (vp_nar .byte x)))) = am_ws ad cA (am_u h g o i.toNatClampNeg (vp_nar .byte x)) := by
    have e3 : am_ce ad cA (am_u h g o i.toNatClampNeg (vp_nar .byte x)) g o = .inl (cA 1, n, .inl (upd (h.1 g o) i.toNatClampNeg (vp_nar .byte x))) := by
      have e4 : am_ce ad cA (am_u h g o i.toNatClampNeg (vp_nar .byte x)) g o = .inl (cA 1, n, am_ar ad (am_u h g o i.toNatClampNeg (vp_nar .byte x)) g o 1) := by unfold am_ce; rw [hs]
      rw [e4]
      show (Sum.inl (cA 1, n, .inl ((am_u h g o i.toNatClampNeg (vp_nar .byte x)).1 g o)) : va_E) = _
      rw [am_u_self]
    rw [← e3]
    exact am_ws_set ad cA h _ hv (fun g' o' _ hne => am_ce_ne ad cA h _ (am_u_row hne) rfl (Or.inl rfl))
  rw [e2] at p1 p2
  exact kk p l e R s m args below meth c lo ad D cA Z F K hc hcs H1 locs1 ls ⟨p1, p2⟩ p3 hL
theorem ar_zast {g : am_G} {o n : Nat} {i : Int32} {x : Int32} (hd : decode cc pc = .ok (.bastore, 1)) (hs : am_shp g o = .inr (2, n)) (hv : am_ok g o) (hin : vp_in i n) (kk : am_V own cc nL ret fr lc mc ms tb Tm cs ss (pc + 1) (A) (st) (am_u h g o i.toNatClampNeg (vp_nar .boolean x))) : am_V own cc nL ret fr lc mc ms tb Tm cs ss (pc) (A) (am_i x :: am_i i :: am_r g o :: st) h := by
  intro p l e R s m args below meth c lo ad D cA Z F K hc hcs H locs ls hW hS hL
  have he := am_ws_at ad cA h hv
  have e1 : am_ce ad cA h g o = .inl (cA 2, n, am_ar ad h g o 2) := by unfold am_ce; rw [hs]
  rw [e1] at he
  refine va_zast F.1 F.2.1 F.2.2.2.2.2.1.1 hW.1 hW.2 hS (am_rk g o) 2 he rfl hin hd (fun H1 locs1 p1 p2 p3 => ?_)
  have e2 : (am_ws ad cA h).set (am_rk g o) (ad g o, .inl (cA 2, n, .inl (upd (h.1 g o) i.toNatClampNeg (vp_nar .boolean x)))) = am_ws ad cA (am_u h g o i.toNatClampNeg (vp_nar .boolean x)) := by
    have e3 : am_ce ad cA (am_u h g o i.toNatClampNeg (vp_nar .boolean x)) g o = .inl (cA 2, n, .inl (upd (h.1 g o) i.toNatClampNeg (vp_nar .boolean x))) := by
      have e4 : am_ce ad cA (am_u h g o i.toNatClampNeg (vp_nar .boolean x)) g o = .inl (cA 2, n, am_ar ad (am_u h g o i.toNatClampNeg (vp_nar .boolean x)) g o 2) := by unfold am_ce; rw [hs]
      rw [e4]
      show (Sum.inl (cA 2, n, .inl ((am_u h g o i.toNatClampNeg (vp_nar .boolean x)).1 g o)) : va_E) = _
      rw [am_u_self]
    rw [← e3]
    exact am_ws_set ad cA h _ hv (fun g' o' _ hne => am_ce_ne ad cA h _ (am_u_row hne) rfl (Or.inl rfl))
  rw [e2] at p1 p2
  exact kk p l e R s m args below meth c lo ad D cA Z F K hc hcs H1 locs1 ls ⟨p1, p2⟩ p3 hL
theorem ar_aald {i : Int32} (hd : decode cc pc = .ok (.aaload, 1)) (hin : vp_in i 6) (kk : am_V own cc nL ret fr lc mc ms tb Tm cs ss (pc + 1) (A) (am_r (.inr (h.2.2 i.toNatClampNeg)) 0 :: st) h) : am_V own cc nL ret fr lc mc ms tb Tm cs ss (pc) (A) (am_i i :: am_r (.inl 1) 1 :: st) h := by
  intro p l e R s m args below meth c lo ad D cA Z F K hc hcs H locs ls hW hS hL
  have he := am_ws_at ad cA h (show am_ok (.inl 1) 1 from (show 1 < 18 by decide))
  exact va_aldq F.1 F.2.1 F.2.2.2.2.2.1.1 hW.1 (am_rk (.inl 1) 1) 4 he rfl hin hd (kk p l e R s m args below meth c lo ad D cA Z F K hc hcs H locs ls hW hS hL)
theorem ar_aast {i : Int32} {k : Nat} (hd : decode cc pc = .ok (.aastore, 1)) (hv : am_ok (.inr k) 0) (hin : vp_in i 6) (kk : am_V own cc nL ret fr lc mc ms tb Tm cs ss (pc + 1) (A) (st) (am_up h i.toNatClampNeg k)) : am_V own cc nL ret fr lc mc ms tb Tm cs ss (pc) (A) (am_r (.inr k) 0 :: am_i i :: am_r (.inl 1) 1 :: st) h := by
  intro p l e R s m args below meth c lo ad D cA Z F K hc hcs H locs ls hW hS hL
  have hv1 : am_ok (.inl 1) 1 := (show 1 < 18 by decide)
  have he := am_ws_at ad cA h hv1
  have hk := am_ws_at ad cA h hv
  refine va_astq F.1 F.2.1 F.2.2.2.2.2.1.1 hW.1 hW.2 hS (am_rk (.inl 1) 1) 4 (am_rk (.inr k) 0) 5 he (r := (RX5, TX5, 6)) rfl hk rfl hin hd (fun H1 locs1 p1 p2 p3 => ?_)
  have e2 : (am_ws ad cA h).set (am_rk (.inl 1) 1) (ad (.inl 1) 1, .inl (cA 4, 6, .inr (.inr (.inr (.inr (va_up (fun i => some (ad (.inr (h.2.2 i)) 0)) i.toNatClampNeg (some (ad (.inr k) 0)))))))) = am_ws ad cA (am_up h i.toNatClampNeg k) := by
    have e3 : am_ce ad cA (am_up h i.toNatClampNeg k) (.inl 1) 1 = .inl (cA 4, 6, .inr (.inr (.inr (.inr (va_up (fun i => some (ad (.inr (h.2.2 i)) 0)) i.toNatClampNeg (some (ad (.inr k) 0))))))) := by
      show (Sum.inl (cA 4, 6, .inr (.inr (.inr (.inr (fun j => some (ad (.inr ((am_up h i.toNatClampNeg k).2.2 j)) 0)))))) : va_E) = _
      congr 7
      funext j
      show some (ad (.inr (if j = i.toNatClampNeg then k else h.2.2 j)) 0) = if j = i.toNatClampNeg then some (ad (.inr k) 0) else some (ad (.inr (h.2.2 j)) 0)
      split <;> rfl
    rw [← e3]
    refine am_ws_set ad cA h _ hv1 (fun g' o' hv' hne => am_ce_ne ad cA h _ rfl rfl (Or.inr fun n => ?_))
    intro hs
    refine hne ?_
    exact am_shp4 hv' hs
  rw [e2] at p1 p2
  exact kk p l e R s m args below meth c lo ad D cA Z F K hc hcs H1 locs1 ls ⟨p1, p2⟩ p3 hL
/-- depth of the operand stack in words -/
def am_ct : am_v → Nat
  | .inl (.long _) => 2
  | .inl (.double _) => 2
  | _ => 1
theorem am_ct_eq (ad : am_G → Nat → Nat) (v : am_v) : (am_enc ad v).category = am_ct v := by
  match v with
  | .inl (.int _) => rfl
  | .inl (.long _) => rfl
  | .inl (.float _) => rfl
  | .inl (.double _) => rfl
  | .inl .null => rfl
  | .inl (.ref _) => rfl
  | .inl (.retAddr _) => rfl
  | .inr _ => rfl
theorem am_ct_sum (ad : am_G → Nat → Nat) (st : List am_v) : ((st.map (am_enc ad)).map fun v => v.category).sum = (st.map am_ct).sum := by
  rw [List.map_map]
  congr 1
  exact List.map_congr_left (fun v _ => am_ct_eq ad v)
/-- behind a call that was run: what it left -/
theorem am_after {p : Program} {l : Launch} {e : Env} {R : Room} {s : State} {m : MethodId} {args : Array Value} {below : List Frame} {meth : Method} {c : Code} {H : Heap} {locs : List Loc} {ls : Array Slot} {rest st0 : List Value} {Z : State → Prop} {mc9 ms9 : Nat} {lo : Nat → Prop} {ad : am_G → Nat → Nat} {D : va_G} {cA : Nat → ClassId} {Q : Option am_v → am_H → Prop} {aa : Array Value}
    (hr : va_Run p l e R s m args below meth c H locs cs ss mc9 ms9 (F0 m pc ls st0) rest (am_Qc Q lo ad D cA aa) lo) (hS : va_S lo s.heap H locs)
    (kk : ∀ (v : Option am_v) (h' : am_H) (H1 : Heap) (locs1 : List Loc), Q v h' → am_WH lo ad D cA h' H1 → va_S lo s.heap H1 locs1 → W p l e R s m args below meth c H1 locs1 (cs + mc9) (ss + ms9) Z (F0 m (pc + 3) ls (v.toList.map (am_enc ad) ++ rest))) : W p l e R s m args below meth c H locs cs ss Z (F0 m pc ls st0) := by
  intro T hT X
  obtain ⟨v, st₀, t, T', L, h0, X', hL, e1, e2, ⟨⟨v9, h', hv, hq, hw⟩, hz, hk⟩, st⟩ := hr T hT X
  have hv : v = v9.map (am_enc ad) := by cases hv; rfl
  subst hv
  rw [h0] at hz hk
  have hS1 : va_S lo s.heap T'.heap (locs ++ L) := ⟨Nat.le_trans hS.1 (by rw [e1]; exact hz), fun q h1 h2 => by rw [e1, hk q (Nat.lt_of_lt_of_le h1 hS.1) h2]; exact hS.2.1 q h1 h2, fun q hq => by
    rcases List.mem_append.mp hq with h | h
    · exact hS.2.2 q h
    · exact hL q h⟩
  obtain ⟨t2, a1, b1⟩ := kk v9 h' T'.heap (locs ++ L) hq (by rw [e1]; exact hw) hS1 T' rfl X'
  refine ⟨t2, st t2 ?_, b1⟩
  have e3 : (v9.map (am_enc ad)).toList ++ rest = v9.toList.map (am_enc ad) ++ rest := by cases v9 <;> rfl
  rw [e3]
  exact a1
theorem am_pay {args : Array Value} {s : State} (hts : ∀ w ∈ am_gT, w.before args s = true) {y : MethodName} {bs : ByteArray} {n : Nat} {r : Option FieldType} (hc : Cond.code y bs n r ∈ am_gT) : ∀ w ∈ Cond.code y bs n r :: am_gT, ∀ (a' : Array Value) (U : State), s.WarmedH U.vm → w.before a' U = true := pay_in hts (am_good0 hc)
theorem ar_callV {idx nLy n9 fr9 lc9 mc9 ms9 : Nat} {y : MethodName} {bs : ByteArray} {rety : Option FieldType} {Q : Option am_v → am_H → Prop} {g : am_G} {o ci : Nat} {As : List am_v} {C : vw_C} (hd : decode cc pc = .ok (.invokevirtual idx, 3)) (L : Cond.methodLink own idx y ∈ am_gT) (Y : am_cv y bs nLy rety n9) (hM : am_M y bs nLy rety fr9 lc9 mc9 ms9 (am_r g o :: As) h Q) (hs : am_shp g o = .inl ci) (hcl : vwCl[ci]? = some C) (hcy : C.1 = y.cls) (hv : am_ok g o) (hn : As.length = n9) (hfr : fr9 + 1 ≤ fr) (hlc : 8 + (nLy + 11) + lc9 ≤ lc) (hcs9 : cs + mc9 ≤ mc) (hss9 : ss + ms9 ≤ ms) (hst : (st.map am_ct).sum ≤ 8) (kk : ∀ (r : Option am_v) (h9 : am_H), Q r h9 → am_V own cc nL ret fr lc mc ms tb Tm (cs + mc9) (ss + ms9) (pc + 3) (A) (r.toList ++ st) h9) : am_V own cc nL ret fr lc mc ms tb Tm cs ss (pc) (A) (As.reverse ++ am_r g o :: st) h := by
  intro p l e R s m args below meth c lo ad D cA Z F K hc hcs H locs ls hW hS hL
  obtain ⟨y1, y2, y3, y4, y5, y6, y7⟩ := Y
  have hts := F.2.2.2.2.1
  have he := am_ws_at ad cA h hv
  have e1 : am_ce ad cA h g o = .inr (ci, am_fl ad h g o ci) := by unfold am_ce; rw [hs]
  rw [e1] at he
  have hfr' := F.2.2.2.2.2.2.2.2.2.1
  have hlc' := F.2.2.2.2.2.2.2.2.2.2.1
  have hmc' := F.2.2.2.2.2.2.2.2.2.2.2.1
  have hms' := F.2.2.2.2.2.2.2.2.2.2.2.2.1
  have hr := va_runV (p := p) (l := l) (e := e) (R := R) (below := below) (meth := meth) (locs := locs) (cells := cs) (slots := ss) (H := H) (As := As.map (am_enc ad)) (b := ad g o) (rest := st.map (am_enc ad)) (g := F0 m pc ls ((As.reverse ++ am_r g o :: st).map (am_enc ad))) (C := y.cls) (own := own) (index := idx) (Ts := am_gT) (cc := cc) (nL := nL) (n := n9)
    ⟨F.1, F.2.1, F.2.2.1, F.2.2.2.1, hts⟩ (hM l lo ad D cA F.2.2.2.2.2.2.2.2.1) ⟨⟨rfl, rfl, Nat.le_trans hfr hfr', Nat.le_trans hlc hlc', am_pay hts y1, List.mem_cons_self, hts _ y1, hts _ y4, ⟨y5, y6⟩, (fun sig h => by rw [h] at y7; exact (Option.some.inj y7).symm), hts _ L⟩, hts _ y2, hts _ y3⟩
    ⟨am_blind _ _ _ _ _ _, by rw [← hcy]; exact va_recv F.2.2.2.2.2.1.1 hW.1 hcl he, fun U hU hw => ⟨rfl, by rw [hU]; exact hW, am_E_call F.2.2.2.2.2.1 hS hU hw⟩⟩ rfl (by rw [List.length_map]; exact hn) hL.1 (by simp only [List.map_append, List.map_cons, List.map_reverse]; rfl) (by rw [am_ct_sum]; exact Nat.le_trans (by show 2 * 0 + _ ≤ _; omega) hst) hd ⟨Nat.le_trans hcs9 hmc', Nat.le_trans hss9 hms'⟩
  refine am_after hr hS (fun v h9 H1 locs1 q1 q2 q3 => ?_)
  have := kk v h9 q1 p l e R s m args below meth c lo ad D cA Z F K hcs9 hss9 H1 locs1 ls q2 q3 hL
  rw [List.map_append] at this
  exact this
theorem ar_callS {idx nLy n9 fr9 lc9 mc9 ms9 : Nat} {y : MethodName} {bs : ByteArray} {rety : Option FieldType} {Q : Option am_v → am_H → Prop} {As : List am_v} (hd : decode cc pc = .ok (.invokestatic idx, 3)) (L : Cond.methodLink own idx y ∈ am_gT) (Y : am_cs y bs nLy rety n9) (hM : am_M y bs nLy rety fr9 lc9 mc9 ms9 As h Q) (hn : As.length = n9) (hfr : fr9 + 1 ≤ fr) (hlc : 8 + (nLy + 11) + lc9 ≤ lc) (hcs9 : cs + mc9 ≤ mc) (hss9 : ss + ms9 ≤ ms) (hst : (st.map am_ct).sum ≤ 8) (kk : ∀ (r : Option am_v) (h9 : am_H), Q r h9 → am_V own cc nL ret fr lc mc ms tb Tm (cs + mc9) (ss + ms9) (pc + 3) (A) (r.toList ++ st) h9) : am_V own cc nL ret fr lc mc ms tb Tm cs ss (pc) (A) (As.reverse ++ st) h := by
  intro p l e R s m args below meth c lo ad D cA Z F K hc hcs H locs ls hW hS hL
  obtain ⟨y1, y2, y4, y5, y6, y7⟩ := Y
  have hts := F.2.2.2.2.1
  have hfr' := F.2.2.2.2.2.2.2.2.2.1
  have hlc' := F.2.2.2.2.2.2.2.2.2.2.1
  have hmc' := F.2.2.2.2.2.2.2.2.2.2.2.1
  have hms' := F.2.2.2.2.2.2.2.2.2.2.2.2.1
  have hr := va_runS (p := p) (l := l) (e := e) (R := R) (below := below) (meth := meth) (locs := locs) (cells := cs) (slots := ss) (H := H) (As := As.map (am_enc ad)) (rest := st.map (am_enc ad)) (g := F0 m pc ls ((As.reverse ++ st).map (am_enc ad))) (own := own) (index := idx) (Ts := am_gT) (cc := cc) (nL := nL) (n := n9)
    ⟨F.1, F.2.1, F.2.2.1, F.2.2.2.1, hts⟩ (hM l lo ad D cA F.2.2.2.2.2.2.2.2.1) ⟨⟨rfl, rfl, Nat.le_trans hfr hfr', Nat.le_trans hlc hlc', am_pay hts y1, List.mem_cons_self, hts _ y1, hts _ y4, ⟨y5, y6⟩, (fun sig h => by rw [h] at y7; exact (Option.some.inj y7).symm), hts _ L⟩, hts _ y2⟩
    ⟨am_blind _ _ _ _ _ _, fun U hU hw => ⟨rfl, by rw [hU]; exact hW, am_E_call F.2.2.2.2.2.1 hS hU hw⟩⟩ rfl (by rw [List.length_map]; exact hn) hL.1 (by simp only [List.map_append, List.map_reverse]) (by rw [am_ct_sum]; exact Nat.le_trans (by show 2 * 0 + _ ≤ _; omega) hst) hd ⟨Nat.le_trans hcs9 hmc', Nat.le_trans hss9 hms'⟩
  refine am_after hr hS (fun v h9 H1 locs1 q1 q2 q3 => ?_)
  have := kk v h9 q1 p l e R s m args below meth c lo ad D cA Z F K hcs9 hss9 H1 locs1 ls q2 q3 hL
  rw [List.map_append] at this
  exact this
theorem ar_callN {idx nLy n9 fr9 lc9 mc9 ms9 : Nat} {y : MethodName} {bs : ByteArray} {rety : Option FieldType} {Q : Option am_v → am_H → Prop} {As : List am_v} {host : String} (hd : decode cc pc = .ok (.invokestatic idx, 3)) (L : Cond.methodLinkNest own idx y host ∈ am_nT) (Y : am_cs y bs nLy rety n9) (hM : am_M y bs nLy rety fr9 lc9 mc9 ms9 As h Q) (hn : As.length = n9) (hfr : fr9 + 1 ≤ fr) (hlc : 8 + (nLy + 11) + lc9 ≤ lc) (hcs9 : cs + mc9 ≤ mc) (hss9 : ss + ms9 ≤ ms) (hst : (st.map am_ct).sum ≤ 8) (kk : ∀ (r : Option am_v) (h9 : am_H), Q r h9 → am_V own cc nL ret fr lc mc ms tb Tm (cs + mc9) (ss + ms9) (pc + 3) (A) (r.toList ++ st) h9) : am_V own cc nL ret fr lc mc ms tb Tm cs ss (pc) (A) (As.reverse ++ st) h := by
  intro p l e R s m args below meth c lo ad D cA Z F K hc hcs H locs ls hW hS hL
  obtain ⟨y1, y2, y4, y5, y6, y7⟩ := Y
  have hts := F.2.2.2.2.1
  have hfr' := F.2.2.2.2.2.2.2.2.2.1
  have hlc' := F.2.2.2.2.2.2.2.2.2.2.1
  have hmc' := F.2.2.2.2.2.2.2.2.2.2.2.1
  have hms' := F.2.2.2.2.2.2.2.2.2.2.2.2.1
  have hr := va_runSN (p := p) (l := l) (e := e) (R := R) (below := below) (meth := meth) (locs := locs) (cells := cs) (slots := ss) (H := H) (As := As.map (am_enc ad)) (rest := st.map (am_enc ad)) (g := F0 m pc ls ((As.reverse ++ st).map (am_enc ad))) (own := own) (index := idx) (Ts := am_gT) (cc := cc) (nL := nL) (n := n9) (host := host)
    ⟨F.1, F.2.1, F.2.2.1, F.2.2.2.1, hts⟩ (hM l lo ad D cA F.2.2.2.2.2.2.2.2.1) ⟨⟨⟨rfl, rfl, Nat.le_trans hfr hfr', Nat.le_trans hlc hlc', am_pay hts y1, List.mem_cons_self⟩, hts _ y1, hts _ y4, ⟨y5, y6⟩, (fun sig h => by rw [h] at y7; exact (Option.some.inj y7).symm), am_nest_use L F.2.2.2.2.2.1.2.1⟩, hts _ y2, trivial⟩
    ⟨am_blind _ _ _ _ _ _, fun U hU hw => ⟨rfl, by rw [hU]; exact hW, am_E_call F.2.2.2.2.2.1 hS hU hw⟩⟩ rfl (by rw [List.length_map]; exact hn) hL.1 (by simp only [List.map_append, List.map_reverse]) (by rw [am_ct_sum]; exact Nat.le_trans (by show 2 * 0 + _ ≤ _; omega) hst) hd ⟨Nat.le_trans hcs9 hmc', Nat.le_trans hss9 hms'⟩
  refine am_after hr hS (fun v h9 H1 locs1 q1 q2 q3 => ?_)
  have := kk v h9 q1 p l e R s m args below meth c lo ad D cA Z F K hcs9 hss9 H1 locs1 ls q2 q3 hL
  rw [List.map_append] at this
  exact this
end AMR
