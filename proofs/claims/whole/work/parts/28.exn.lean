/-! methods that throw -/
/-- a place of a throw: what is thrown, its words -/
def am_ts (own : String) (cc : ByteArray) (pc e : Nat) : Prop := ∃ (names : List String) (ik is ic : Nat) (text : String), Bundle.fit (am_exn e) = true ∧ (∀ n ∈ names, Bundle.fit n = true) ∧ names.length = 2 ∧ Cond.classLink own ik (am_exn e) ∈ am_gT ∧ Cond.initialized (am_exn e) ∈ am_gT ∧ (own, is, text) ∈ am_xT ∧
  (∀ w ∈ (vx_atS own ic (am_exn e) names).filter goodWord, w ∈ am_gT) ∧ (∀ w ∈ (vx_atS own ic (am_exn e) names).filter (fun w => !goodWord w), w ∈ am_dT) ∧ (∀ w ∈ Cond.classLink own ik (am_exn e) :: Cond.initialized (am_exn e) :: vx_atS own ic (am_exn e) names, vx_ot w = true) ∧
  decode cc pc = .ok (.new ik, 3) ∧ decode cc (pc + 3) = .ok (.dup, 1) ∧ ((decode cc (pc + 4) = .ok (.ldc is, 2) ∧ decode cc (pc + 6) = .ok (.invokespecial ic, 3) ∧ decode cc (pc + 9) = .ok (.athrow, 1)) ∨ (decode cc (pc + 4) = .ok (.ldc_w is, 3) ∧ decode cc (pc + 7) = .ok (.invokespecial ic, 3) ∧ decode cc (pc + 10) = .ok (.athrow, 1)))
/-- the world behind a throw -/
def am_QX (QX : Nat → am_H → Prop) (lo : Nat) (ad : am_G → Nat → Nat) (D : va_G) (cA : Nat → ClassId) : String → State → State → Prop := fun E st t => ∃ (e : Nat) (h' : am_H), e < 3 ∧ E = am_exn e ∧ QX e h' ∧ am_WH lo ad D cA h' t.heap ∧ va_F (fun q => lo ≤ q) st t
/-- A CONTRACT of a method that returns or throws: a cell of 6 slots is new at most -/
def am_X (y : MethodName) (bs : ByteArray) (nL : Nat) (ret : Option FieldType) (fr lc : Nat) (as : List am_v) (h : am_H) (Q : Option am_v → am_H → Prop) (QX : Nat → am_H → Prop) : Prop :=
  ∀ (l : Launch) (lo : Nat) (ad : am_G → Nat → Nat) (D : va_G) (cA : Nat → ClassId), l.flags = flags0 → vx_Met l y (.code y bs nL ret :: am_gT) { frames := fr, cells := 1, slots := 6, locals := lc } (am_Pc as h lo ad D cA) (am_Qc Q lo ad D cA) (am_QX QX lo ad D cA) 1 6 (fun q => lo ≤ q)
/-- the ends of a body that returns or throws -/
def am_Tx (own : String) (cc : ByteArray) (ret : Option FieldType) (Q : Option am_v → am_H → Prop) (QX : Nat → am_H → Prop) : Nat → List am_v → am_H → Prop := fun pc st h => am_Tm cc ret Q pc st h ∨ (st = [] ∧ ∃ e, e < 3 ∧ am_ts own cc pc e ∧ QX e h)
theorem am_noTrace {l : Launch} (hf : l.flags = flags0) : l.stackTraces = false := by
  unfold Launch.stackTraces
  rw [hf]
  decide +kernel
theorem am_WH.kept {lo : Nat} {ad : am_G → Nat → Nat} {D : va_G} {cA : Nat → ClassId} {h : am_H} {H H1 : Heap} (hW : am_WH lo ad D cA h H) (hq : ∀ q : Nat, q < H.size → H1[q]? = H[q]?) : am_WH lo ad D cA h H1 := ⟨hW.1.kept (fun k q hk => hq _ (vx_lt hW.1 hk)), hW.2⟩
theorem am_X.of {y : MethodName} {bs : ByteArray} {nL : Nat} {ret : Option FieldType} {fr lc : Nat} {as : List am_v} {h : am_H} {Q : Option am_v → am_H → Prop} {QX : Nat → am_H → Prop} {A : List (Option am_v)} (hy : plainName y.cls = true) (hA : am_A0 as ++ List.replicate (nL - (am_A0 as).length) none = A) (hl : (am_A0 as).length ≤ nL) (hfr : Nat.ble 6 fr = true) (hlc : Nat.ble 90 lc = true)
    (body : am_V y.cls bs nL ret fr lc 0 0 none (am_Tx y.cls bs ret Q QX) 0 0 0 A [] h) : am_X y bs nL ret fr lc as h Q QX := by
  subst hA
  have hfr := Nat.le_of_ble_eq_true hfr
  have hlc := Nat.le_of_ble_eq_true hlc
  intro l lo ad D cA hf
  refine vx_ofW (cc := bs) (maxL := nL) (ret := ret) hy rfl ?_
  intro p e s m args below meth c s₁ B hml hno hv
  obtain ⟨rfl, hW, hE⟩ := hv
  have hts := atoms_spec (ws := .code y bs nL ret :: am_gT) B.pre
  have htg : ∀ w ∈ am_gT, w.before (List.map (am_enc ad) as).toArray s = true := fun w hw => hts w (List.mem_cons_of_mem _ hw)
  rw [lg_entry_eq]
  refine body p l e _ s m _ below meth c lo ad D cA _ ⟨B.exec, B.bytes, hml, findClass_of_methodNamed B.named, htg, hE, B.returns, B.notSynchronized, hf, Nat.le_refl _, Nat.le_refl _, Nat.zero_le _, Nat.zero_le _, fun t h => by cases h⟩ ?_ (Nat.zero_le _) (Nat.zero_le _) s.heap [] _ hW va_S.rf (am_L0 ad as hl)
  have hlocks := B.notSynchronized
  rintro pc' st' h' cs' ss' H' locs' ls' (⟨v, hk, rfl, hQ⟩ | ⟨rfl, ex, he3, hts9, hQX⟩) hW' hS' h1 h2 hsz
  · refine W.widen (Nat.le_trans h1 (Nat.zero_le 1)) (Nat.le_trans h2 (Nat.zero_le 6)) (vx_ret ?_)
    rcases hk with ⟨x, ty, rfl, hr, hn, hd⟩ | ⟨rfl, hr, hd⟩ | ⟨x, rfl, hr, hd⟩ | ⟨x, rfl, hr, hd⟩
    · exact W.zret B.exec B.bytes (B.returns.trans hr) hn (fun t ht hw => ⟨⟨some (am_i x), h', rfl, hQ, by rw [ht]; exact hW'⟩, hS'.F ht⟩) hS'.2.2 hd
    · exact W.vret B.exec B.bytes (B.returns.trans hr) (fun t ht hw => ⟨⟨none, h', rfl, hQ, by rw [ht]; exact hW'⟩, hS'.F ht⟩) hS'.2.2 hd
    · exact W.dret B.exec B.bytes (B.returns.trans hr) (fun t ht hw => ⟨⟨some (.inl (.double x)), h', rfl, hQ, by rw [ht]; exact hW'⟩, hS'.F ht⟩) hS'.2.2 hd
    · exact W.fret B.exec B.bytes (B.returns.trans hr) (fun t ht hw => ⟨⟨some (.inl (.float x)), h', rfl, hQ, by rw [ht]; exact hW'⟩, hS'.F ht⟩) hS'.2.2 hd
  · obtain ⟨names, ik, is, ic, text, a1, a2, a3, a4, a5, a6, a7, a8, a9, d0, d3, hd⟩ := hts9
    obtain ⟨e1, e2, e3, e4, e5, e6, e7, e8, e9, e10, e11, e12⟩ := hE
    obtain ⟨sa, hsa⟩ := e9 _ a6
    have hat : ∀ w ∈ vx_atS y.cls ic (am_exn ex) names, w.before (List.map (am_enc ad) as).toArray s = true := by
      intro w hw
      by_cases g : goodWord w = true
      · exact htg w (a7 w (List.mem_filter.mpr ⟨hw, g⟩))
      · have hm := a8 w (List.mem_filter.mpr ⟨hw, by simpa using g⟩)
        refine va_Nw.use ?_ (e10 w hm)
        have h2 : am_decl w = true := (List.mem_filter.mp hm).2
        cases w <;> first | rfl | exact absurd h2 (by simp [am_decl])
    have hx : ∀ t : State, s.vm.Alike t.vm → H'.size ≤ t.heap.size → (∀ q : Nat, q < H'.size → t.heap[q]? = H'[q]?) → am_QX QX lo ad D cA (am_exn ex) s t := fun t _ t1 t2 =>
      ⟨ex, h', he3, rfl, hQX, hW'.kept t2, Nat.le_trans hS'.1 t1, fun q hq hn => (t2 q (Nat.lt_of_lt_of_le hq hS'.1)).trans (hS'.2.1 q hq hn)⟩
    have r1 : names.length + 3 < fr := by omega
    have r2 : (([] : List Value).map fun v => v.category).sum + (13 * (names.length + 1) + 43) ≤ lc := by rw [a3]; exact (show 0 + 82 ≤ lc by omega)
    rcases hd with ⟨d4, d6, d9⟩ | ⟨d4, d7, d10⟩
    · exact vx_throwS B.exec B.bytes (am_noTrace hf) (findClass_of_methodNamed B.named) a1 a2 (htg _ a4) (htg _ a5) hsa hat a9 e4 e5 hS' (hsz.trans hml.symm) d0 d3 d4 d6 d9 (fun x hx9 => (hno x hx9).elim) r1 r2 (Nat.succ_le_succ h1) (Nat.add_le_add_right h2 6) hlocks hx hS'.2.2 (Nat.succ_le_succ h1) (Nat.add_le_add_right h2 6)
    · exact vx_throwSW B.exec B.bytes (am_noTrace hf) (findClass_of_methodNamed B.named) a1 a2 (htg _ a4) (htg _ a5) hsa hat a9 e4 e5 hS' (hsz.trans hml.symm) d0 d3 d4 d7 d10 (fun x hx9 => (hno x hx9).elim) r1 r2 (Nat.succ_le_succ h1) (Nat.add_le_add_right h2 6) hlocks hx hS'.2.2 (Nat.succ_le_succ h1) (Nat.add_le_add_right h2 6)
theorem am_xf (e : Nat) : Bundle.fit (am_exn e) = true := by
  match e with
  | 0 => decide +kernel
  | 1 => decide +kernel
  | n + 2 => show Bundle.fit "java/lang/IndexOutOfBoundsException" = true; decide +kernel
def am_xn : List String := ["java/lang/RuntimeException", "java/lang/Exception"]
theorem am_x0 : (∀ w ∈ (vx_atS RX11 79 (am_exn 0) am_xn).filter goodWord, w ∈ am_gT) ∧ (∀ w ∈ (vx_atS RX11 79 (am_exn 0) am_xn).filter (fun w => !goodWord w), w ∈ am_dT) ∧ (∀ w ∈ Cond.classLink RX11 75 (am_exn 0) :: Cond.initialized (am_exn 0) :: vx_atS RX11 79 (am_exn 0) am_xn, vx_ot w = true) ∧ Cond.classLink RX11 75 (am_exn 0) ∈ am_gT ∧ Cond.initialized (am_exn 0) ∈ am_gT := ⟨by decide +kernel, by decide +kernel, by decide +kernel, by decide +kernel, by decide +kernel⟩
theorem am_x1 : (∀ w ∈ (vx_atS RX11 94 (am_exn 1) am_xn).filter goodWord, w ∈ am_gT) ∧ (∀ w ∈ (vx_atS RX11 94 (am_exn 1) am_xn).filter (fun w => !goodWord w), w ∈ am_dT) ∧ (∀ w ∈ Cond.classLink RX11 90 (am_exn 1) :: Cond.initialized (am_exn 1) :: vx_atS RX11 94 (am_exn 1) am_xn, vx_ot w = true) ∧ Cond.classLink RX11 90 (am_exn 1) ∈ am_gT ∧ Cond.initialized (am_exn 1) ∈ am_gT := ⟨by decide +kernel, by decide +kernel, by decide +kernel, by decide +kernel, by decide +kernel⟩
theorem am_x2 : (∀ w ∈ (vx_atS RX11 202 (am_exn 2) am_xn).filter goodWord, w ∈ am_gT) ∧ (∀ w ∈ (vx_atS RX11 202 (am_exn 2) am_xn).filter (fun w => !goodWord w), w ∈ am_dT) ∧ (∀ w ∈ Cond.classLink RX11 198 (am_exn 2) :: Cond.initialized (am_exn 2) :: vx_atS RX11 202 (am_exn 2) am_xn, vx_ot w = true) ∧ Cond.classLink RX11 198 (am_exn 2) ∈ am_gT ∧ Cond.initialized (am_exn 2) ∈ am_gT := ⟨by decide +kernel, by decide +kernel, by decide +kernel, by decide +kernel, by decide +kernel⟩
theorem am_xfn : ∀ n ∈ am_xn, Bundle.fit n = true := by decide +kernel
def xK (Q : Option am_v → am_H → Prop) (QX : Nat → am_H → Prop) (h : am_H) : Int32 ⊕ Nat → Prop
  | .inl v => Q (some (am_i v)) h
  | .inr e => QX e h
theorem xK_self (a : Int32 ⊕ Nat) (h : am_H) : xK (fun r h9 => ∃ v, a = .inl v ∧ r = some (am_i v) ∧ h9 = h) (fun e h9 => a = .inr e ∧ h9 = h) h a := by
  cases a with
  | inl v => exact ⟨v, rfl, rfl, rfl⟩
  | inr e => exact ⟨rfl, rfl⟩
section AMX
variable {own : String} {cc : ByteArray} {nL : Nat} {ret : Option FieldType} {fr lc mc ms : Nat} {tb : am_tb} {cs ss pc : Nat} {A : List (Option am_v)} {h : am_H} {Q : Option am_v → am_H → Prop} {QX : Nat → am_H → Prop}
theorem ar_iretx {x : Int32} {ty : FieldType} (hd : decode cc pc = .ok (.ireturn, 1)) (hr : ret = some ty) (hn : narrow ty (.int x) = .int x) (hq : xK Q QX h (.inl x)) : am_V own cc nL ret fr lc mc ms tb (am_Tx own cc ret Q QX) cs ss pc A [am_i x] h := am_done (Or.inl ⟨some (am_i x), Or.inl ⟨x, ty, rfl, hr, hn, hd⟩, rfl, hq⟩)
theorem ar_throw {e : Nat} (he : e < 3) (hx : am_ts own cc pc e) (hq : xK Q QX h (.inr e)) : am_V own cc nL ret fr lc mc ms tb (am_Tx own cc ret Q QX) cs ss pc A [] h := am_done (Or.inr ⟨rfl, e, he, hx, hq⟩)
end AMX
