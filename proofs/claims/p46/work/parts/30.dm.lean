/-! A SECOND MACHINE, over cells that are made as the law runs: they have names by their order; the class's own cells (am_H) lie between them. -/
/-- a cell: an object of a class and its fields; a row of numbers (0 int, 1 byte, 2 boolean); a row of references; a cell of the class's -/
abbrev dm_C : Type := (Nat × List am_v) ⊕ (Nat × Nat × (Nat → Int32)) ⊕ (Nat × (Nat → Option Nat)) ⊕ (am_G × Nat)
/-- how many cells there are, what they cost, what they are -/
abbrev dm_D : Type := Nat × Nat × (Nat → dm_C)
/-- the script -/
abbrev dm_X : Type := Nat × (Nat → Int32)
abbrev dm_o (i : Nat) : am_v := .inr (.inl 0, i)
abbrev dm_z (j : Nat) : am_v := .inr (.inl 4, j)
abbrev dm_s : am_v := .inr (.inl 4, 3)
def dm_L : Nat := 600000
/-- cells and slots of a heap -/
def hsz (H : Heap) : Nat := H.size + H.foldl (fun n c => n + c.slots.size) 0
section DME
variable (ad : am_G → Nat → Nat) (cA : Nat → ClassId) (h : am_H)
def dm_ce : dm_C → va_E
  | .inl o => .inr (o.1, o.2.map (am_enc ad))
  | .inr (.inl a) => .inl (cA a.1, a.2.1, .inl a.2.2)
  | .inr (.inr (.inl r)) => .inl (cA 3, r.1, .inr (.inr (.inr (.inr (fun i => (r.2 i).map (ad (.inl 0)))))))
  | .inr (.inr (.inr g)) => am_ce ad cA h g.1 g.2
def dm_ws (d : dm_D) : va_W := (List.range d.1).map (fun i => (ad (.inl 0) i, dm_ce ad cA h (d.2.2 i)))
end DME
theorem dm_ws_at (ad : am_G → Nat → Nat) (cA : Nat → ClassId) (h : am_H) (d : dm_D) {i : Nat} (hi : i < d.1) : (dm_ws ad cA h d)[i]? = some (ad (.inl 0) i, dm_ce ad cA h (d.2.2 i)) := by
  rw [dm_ws, List.getElem?_map, List.getElem?_range hi]
  rfl
theorem dm_ws_len (ad : am_G → Nat → Nat) (cA : Nat → ClassId) (h : am_H) (d : dm_D) : (dm_ws ad cA h d).length = d.1 := by simp [dm_ws]
theorem dm_ws_in {ad : am_G → Nat → Nat} {cA : Nat → ClassId} {h : am_H} {d : dm_D} {i : Nat} {q : Nat × va_E} (hq : (dm_ws ad cA h d)[i]? = some q) : i < d.1 ∧ q = (ad (.inl 0) i, dm_ce ad cA h (d.2.2 i)) := by
  have h1 := (List.getElem?_eq_some_iff.mp hq).1
  rw [dm_ws_len] at h1
  rw [dm_ws_at ad cA h d h1] at hq
  exact ⟨h1, (Option.some.inj hq).symm⟩
/-- the cells made lie one behind the other -/
def dm_ad (ad : am_G → Nat → Nat) : Prop := ∀ i, ad (.inl 0) i = ad (.inl 0) 0 + i
def dm_lo (ad : am_G → Nat → Nat) : Nat → Prop := fun q => ad (.inl 0) 0 ≤ q
theorem dm_ws_D {ad : am_G → Nat → Nat} {cA : Nat → ClassId} {h : am_H} {d : dm_D} (ha : dm_ad ad) : va_D (dm_lo ad) (dm_ws ad cA h d) := by
  refine ⟨fun i j p q hi hj e => ?_, fun k q hk => ?_⟩
  · obtain ⟨-, rfl⟩ := dm_ws_in hi
    obtain ⟨-, rfl⟩ := dm_ws_in hj
    have e : ad (.inl 0) i = ad (.inl 0) j := e
    rw [ha i, ha j] at e
    omega
  · obtain ⟨-, rfl⟩ := dm_ws_in hk
    show ad (.inl 0) 0 ≤ ad (.inl 0) k
    rw [ha k]
    omega
def dm_se (d : dm_D) (i : Nat) (c : dm_C) : dm_D := (d.1, d.2.1, fun j => if j = i then c else d.2.2 j)
theorem dm_ws_se {ad : am_G → Nat → Nat} {cA : Nat → ClassId} {h : am_H} {d : dm_D} {i : Nat} {c : dm_C} (hi : i < d.1) : (dm_ws ad cA h d).set i (ad (.inl 0) i, dm_ce ad cA h c) = dm_ws ad cA h (dm_se d i c) := by
  apply List.ext_getElem?
  intro j
  by_cases e : j = i
  · subst e
    rw [List.getElem?_set_self (by rw [dm_ws_len]; exact hi), dm_ws_at ad cA h (dm_se d j c) hi]
    show _ = some (_, dm_ce ad cA h (if j = j then c else d.2.2 j))
    rw [if_pos rfl]
  · rw [List.getElem?_set_ne (Ne.symm e)]
    by_cases hj : j < d.1
    · rw [dm_ws_at ad cA h d hj, dm_ws_at ad cA h (dm_se d i c) hj]
      show _ = some (_, dm_ce ad cA h (if j = i then c else d.2.2 j))
      rw [if_neg e]
    · rw [List.getElem?_eq_none (by rw [dm_ws_len]; omega), List.getElem?_eq_none (by rw [dm_ws_len]; show d.1 ≤ j; omega)]
/-- a new cell with n slots -/
def dm_nw (d : dm_D) (n : Nat) (c : dm_C) : dm_D := (d.1 + 1, d.2.1 + n + 1, fun j => if j = d.1 then c else d.2.2 j)
theorem dm_ws_nw {ad : am_G → Nat → Nat} {cA : Nat → ClassId} {h : am_H} {d : dm_D} {n : Nat} {c : dm_C} : dm_ws ad cA h d ++ [(ad (.inl 0) d.1, dm_ce ad cA h c)] = dm_ws ad cA h (dm_nw d n c) := by
  apply List.ext_getElem?
  intro j
  by_cases hj : j < d.1
  · rw [List.getElem?_append_left (by rw [dm_ws_len]; exact hj), dm_ws_at ad cA h d hj, dm_ws_at ad cA h (dm_nw d n c) (show j < d.1 + 1 by omega)]
    show _ = some (_, dm_ce ad cA h (if j = d.1 then c else d.2.2 j))
    rw [if_neg (by omega)]
  · rw [List.getElem?_append_right (by rw [dm_ws_len]; omega), dm_ws_len]
    by_cases e : j = d.1
    · subst e
      rw [Nat.sub_self, dm_ws_at ad cA h (dm_nw d n c) (show d.1 < d.1 + 1 by omega)]
      show _ = some (_, dm_ce ad cA h (if d.1 = d.1 then c else d.2.2 d.1))
      rw [if_pos rfl]
      rfl
    · rw [List.getElem?_eq_none (by simp; omega), List.getElem?_eq_none (by rw [dm_ws_len]; show d.1 + 1 ≤ j; omega)]
/-- the world in a heap -/
def dm_WH (ad : am_G → Nat → Nat) (D : va_G) (cA : Nat → ClassId) (h : am_H) (d : dm_D) (H : Heap) : Prop :=
  va_P D vwCl (dm_ws ad cA h d) H ∧ H.size = ad (.inl 0) 0 + d.1 ∧ d.2.1 ≤ dm_L ∧ ∀ (i : Nat) (g : am_G × Nat), i < d.1 → d.2.2 i = .inr (.inr (.inr g)) → am_ok g.1 g.2 ∧ ad g.1 g.2 = ad (.inl 0) i
/-- what an ArrayList's empty row, Integer's digits are -/
def dm_d1 (j : Nat) : Int32 := Int32.ofNat (48 + j % 10)
def dm_d10 (j : Nat) : Int32 := Int32.ofNat (48 + j / 10)
/-- private methods of AbstractStringBuilder, called of a StringBuilder -/
def dm_pT : List MethodName := [yJ5_newCapacity_0f7a4, yJ5_ensureCapacityInternal_d00df, yJ5_inflateIfNeededFor_a7421, yJ5_putStringAt_47b60]
/-- interfaces: by class, the interface's method, its own -/
def dm_fT : List (String × MethodName × MethodName) := [(RJx4a65c, yI_add, yJx4a65c_add_9ea2d), (RJx4a65c, yI_isEmpty, yJx4a65c_isEmpty_aae02), (RJx4a65c, yI_size, yJx4a65c_size_8abf5), (RJx4a65c, yI_get, yJx4a65c_get_915e3), (RJx4a65c, yI_remove, yJx4a65c_remove_915e3), (RJx4a65c, yI_iterator, yJx4a65c_iterator_32c93), (RJx35411, yI_hasNext, yJx35411_hasNext_aae02), (RJx35411, yI_next, yJx35411_next_0502b)]
/-- what stays of the start -/
def dm_E (X : dm_X) (ad : am_G → Nat → Nat) (D : va_G) (cA : Nat → ClassId) (s : State) : Prop :=
  am_E (dm_lo ad) ad D cA s ∧
  (va_Z "java/util/ArrayList" "DEFAULTCAPACITY_EMPTY_ELEMENTDATA" "[Ljava/lang/Object;" (.ref (ad (.inl 4) 0)) (dm_lo ad) s s.heap ∧ va_T (.object "java/lang/Object") (ad (.inl 4) 0) 0 (fun _ => .null) (dm_lo ad) s s.heap) ∧
  (va_Z "java/lang/Integer" "DigitOnes" "[B" (.ref (ad (.inl 4) 1)) (dm_lo ad) s s.heap ∧ va_T .byte (ad (.inl 4) 1) 100 (fun j => .int (dm_d1 j)) (dm_lo ad) s s.heap) ∧
  (va_Z "java/lang/Integer" "DigitTens" "[B" (.ref (ad (.inl 4) 2)) (dm_lo ad) s s.heap ∧ va_T .byte (ad (.inl 4) 2) 100 (fun j => .int (dm_d10 j)) (dm_lo ad) s s.heap) ∧
  (va_X (ad (.inl 4) 3) X.1 X.2 s s.heap ∧ ad (.inl 4) 3 < ad (.inl 0) 0) ∧
  va_Mi "[Ljava/lang/Object;" (ad (.inl 4) 4) s ∧
  (∀ q ∈ dm_fT, va_Fw q.1 q.2.1 q.2.2 s) ∧ va_Dc s ∧ (va_Nw (.castable "[I" "java/lang/Object") s ∧ va_Nw (.castable "[B" "java/lang/Cloneable") s) ∧ va_AO "java/lang/Object" s ∧ ∀ y ∈ dm_pT, (Cond.selects RJ4 y y).before #[] s = true
theorem dm_fT_ok : ∀ q ∈ dm_fT, q.2.1.cls ≠ "java/lang/invoke/MethodHandle" ∧ q.2.1.cls ≠ "java/lang/invoke/VarHandle" := by decide +kernel
theorem dm_pT_move {s U : State} (hW : s.WarmedH U.vm) (h : ∀ y ∈ dm_pT, (Cond.selects RJ4 y y).before #[] s = true) : ∀ y ∈ dm_pT, (Cond.selects RJ4 y y).before #[] U = true := fun y hy =>
  pay_in (args := #[]) (big := [Cond.selects RJ4 y y]) (ws := [Cond.selects RJ4 y y]) (fun w hw => by rw [List.mem_singleton.mp hw]; exact h y hy) (fun w hw => ⟨hw, good_of_word (by rw [List.mem_singleton.mp hw]; rfl)⟩) _ (List.mem_singleton.mpr rfl) #[] U hW
theorem dm_E_call {X : dm_X} {ad : am_G → Nat → Nat} {D : va_G} {cA : Nat → ClassId} {s U : State} {H : Heap} {locs : List Loc} (hE : dm_E X ad D cA s) (hS : va_S (dm_lo ad) s.heap H locs) (hU : U.heap = H) (hW : s.WarmedH U.vm) : dm_E X ad D cA U := by
  obtain ⟨e1, ⟨e2, e3⟩, ⟨e4, e5⟩, ⟨e6, e7⟩, ⟨e8, e9⟩, e10, e11, e12, e13, e14, e15⟩ := hE
  have ha := hW.alike
  have hz : ad (.inl 0) 0 ≤ s.heap.size ∨ s.heap.size < ad (.inl 0) 0 := by omega
  have hx : H[ad (.inl 4) 3]? = s.heap[ad (.inl 4) 3]? := by
    obtain ⟨scr, h1, -⟩ := e8
    exact hS.2.1 _ (Array.getElem?_eq_some_iff.mp h1).1 (fun z => by have z : ad (.inl 0) 0 ≤ _ := z; omega)
  have hE1 := am_E_call e1 hS hU hW
  subst hU
  exact ⟨hE1, ⟨(e2.kept hS.2.1).moved ha, (e3.kept hS.2.1).moved ha⟩, ⟨(e4.kept hS.2.1).moved ha, (e5.kept hS.2.1).moved ha⟩, ⟨(e6.kept hS.2.1).moved ha, (e7.kept hS.2.1).moved ha⟩, ⟨(e8.kept hx).moved ha, e9⟩, e10.moved ha, fun q hq => (e11 q hq).moved (dm_fT_ok q hq) ha, e12.moved ha, ⟨va_Nw.warmC hW e13.1, va_Nw.warmC hW e13.2⟩, va_AO.moved ha e14, dm_pT_move hW e15⟩
theorem dm_E_blind {X : dm_X} {ad : am_G → Nat → Nat} {D : va_G} {cA : Nat → ClassId} {U : State} (hE : dm_E X ad D cA U) (g : JFrame) (mk : MethodId) (a : Array Value) : dm_E X ad D cA (U.calling g mk a) := by
  obtain ⟨e1, ⟨e2, e3⟩, ⟨e4, e5⟩, ⟨e6, e7⟩, ⟨e8, e9⟩, e10, e11, e12, e13, e14, e15⟩ := hE
  have hr : U.vm.Alike (U.calling g mk a).vm := Vm.Alike.refl U.vm
  exact ⟨am_E_blind e1 g mk a, ⟨e2.moved hr, e3.moved hr⟩, ⟨e4.moved hr, e5.moved hr⟩, ⟨e6.moved hr, e7.moved hr⟩, ⟨e8.moved hr, e9⟩, e10.moved hr, fun q hq => (e11 q hq).moved (dm_fT_ok q hq) hr, e12.moved hr, ⟨va_Nw.same (u := U) (U := U.calling g mk a) rfl rfl e13.1, va_Nw.same (u := U) (U := U.calling g mk a) rfl rfl e13.2⟩, va_AO.moved (u := U) (U := U.calling g mk a) hr e14, dm_pT_move (U := U.calling g mk a) (State.WarmedH.refl U) e15⟩
/-- what a body stands on; k0: what all had cost at its start -/
def dm_F (own nm : String) (cc : ByteArray) (nL : Nat) (ret : Option FieldType) (fr lc k0 : Nat) (X : dm_X) (p : Program) (l : Launch) (R : Room) (s : State) (m : MethodId) (args : Array Value) (meth : Method) (c : Code) (ad : am_G → Nat → Nat) (D : va_G) (cA : Nat → ClassId) : Prop :=
  p.tables.exec = Jvm.exec ∧ c.code = cc ∧ c.maxLocals = nL ∧ s.vm.findClass own = some m.cls ∧ (∀ w ∈ am_gT, w.before args s = true) ∧ dm_E X ad D cA s ∧ meth.sig.returnType = ret ∧ meth.locks = false ∧ dm_ad ad ∧ meth.name = nm ∧
  fr ≤ R.frames ∧ lc ≤ R.locals ∧ dm_L - k0 ≤ R.cells ∧ dm_L - k0 ≤ R.slots ∧ l.flags = flags0
/-- cells and slots as they are -/
theorem W_exact {p : Program} {l : Launch} {e : Env} {R : Room} {s : State} {m : MethodId} {args : Array Value} {below : List Frame} {meth : Method} {c : Code} {H : Heap} {locs : List Loc} {cs ss : Nat} {Q : State → Prop} {g : JFrame}
    (kk : ∀ c2 s2, c2 + s2 + hsz s.heap = hsz H → H.size = s.heap.size + c2 → c2 ≤ cs → s2 ≤ ss → W p l e R s m args below meth c H locs c2 s2 Q g) : W p l e R s m args below meth c H locs cs ss Q g := by
  intro T hT X
  have hb : T.slotsTrue = true := X.book
  have h0 : s.slotsTrue = true := by
    have h := X.room
    simp only [State.hasRoom, Bool.and_eq_true] at h
    exact h.2
  have b1 : T.slotsUsed = T.heap.foldl (fun n c => n + c.slots.size) 0 := by simpa [State.slotsTrue] using hb
  have b2 : s.slotsUsed = s.heap.foldl (fun n c => n + c.slots.size) 0 := by simpa [State.slotsTrue] using h0
  obtain ⟨e1, e2, e3, e4, e5, e6⟩ := X.same
  have e2 : s.heap.size ≤ T.heap.size := e2
  have e3 : T.heap.size ≤ s.heap.size + cs := e3
  have e4 : T.slotsUsed = s.slotsUsed + ((T.heap.toList.drop s.heap.size).map (·.slots.size)).sum := e4
  have e5 : ((T.heap.toList.drop s.heap.size).map (·.slots.size)).sum ≤ ss := e5
  subst hT
  refine kk (T.heap.size - s.heap.size) ((T.heap.toList.drop s.heap.size).map (·.slots.size)).sum ?_ (by omega) (by omega) e5 T rfl { X with same := ⟨e1, e2, ?_, e4, Nat.le_refl _, e6⟩ }
  · unfold hsz
    omega
  · show T.heap.size ≤ s.heap.size + (T.heap.size - s.heap.size)
    omega
/-- THE JUDGEMENT: wherever the machine stands at pc with locals A, stack st, memory h and the cells d, it comes to its goal Z, if Z is reached from all ends Tm -/
def dm_V (own nm : String) (cc : ByteArray) (nL : Nat) (ret : Option FieldType) (fr lc k0 : Nat) (X : dm_X) (Tm : Nat → List am_v → am_H → dm_D → Prop) (pc : Nat) (A : List (Option am_v)) (st : List am_v) (h : am_H) (d : dm_D) : Prop :=
  ∀ (p : Program) (l : Launch) (e : Env) (R : Room) (s : State) (m : MethodId) (args : Array Value) (below : List Frame) (meth : Method) (c : Code) (ad : am_G → Nat → Nat) (D : va_G) (cA : Nat → ClassId) (Z : State → Prop),
    dm_F own nm cc nL ret fr lc k0 X p l R s m args meth c ad D cA →
    (∀ (pc' : Nat) (st' : List am_v) (h' : am_H) (d' : dm_D) (cs' ss' : Nat) (H' : Heap) (locs' : List Loc) (ls' : Array Slot), Tm pc' st' h' d' → dm_WH ad D cA h' d' H' → va_S (dm_lo ad) s.heap H' locs' → hsz H' + k0 ≤ hsz s.heap + d'.2.1 → cs' ≤ dm_L - k0 → ss' ≤ dm_L - k0 → ls'.size = nL → W p l e R s m args below meth c H' locs' cs' ss' Z (F0 m pc' ls' (st'.map (am_enc ad)))) →
    ∀ (cs ss : Nat) (H : Heap) (locs : List Loc) (ls : Array Slot), dm_WH ad D cA h d H → va_S (dm_lo ad) s.heap H locs → hsz H + k0 ≤ hsz s.heap + d.2.1 → am_L ad nL A ls → W p l e R s m args below meth c H locs cs ss Z (F0 m pc ls (st.map (am_enc ad)))
theorem dm_done {own nm : String} {cc : ByteArray} {nL : Nat} {ret : Option FieldType} {fr lc k0 : Nat} {X : dm_X} {Tm : Nat → List am_v → am_H → dm_D → Prop} {pc : Nat} {A : List (Option am_v)} {st : List am_v} {h : am_H} {d : dm_D} (ht : Tm pc st h d) : dm_V own nm cc nL ret fr lc k0 X Tm pc A st h d := by
  intro p l e R s m args below meth c ad D cA Z F K cs ss H locs ls hW hS hz hL
  refine W_exact (fun c2 s2 z1 z2 _ _ => ?_)
  have hk := hW.2.2.1
  exact K _ _ _ _ _ _ _ _ _ ht hW hS hz (by omega) (by omega) hL.1
/-- the ends of a method that returns -/
def dm_RK (cc : ByteArray) (ret : Option FieldType) (pc : Nat) (v : Option am_v) : Prop :=
  (∃ x ty, v = some (am_i x) ∧ ret = some ty ∧ narrow ty (.int x) = .int x ∧ decode cc pc = .ok (.ireturn, 1)) ∨
  (v = none ∧ ret = none ∧ decode cc pc = .ok (.return_, 1)) ∨
  (∃ q ty, v = some (.inr q) ∧ ret = some ty ∧ ((∃ n, ty = .object n) ∨ ∃ t, ty = .array t) ∧ decode cc pc = .ok (.areturn, 1))
def dm_Tm (cc : ByteArray) (ret : Option FieldType) (Q : Option am_v → am_H → dm_D → Prop) : Nat → List am_v → am_H → dm_D → Prop := fun pc st h d => ∃ v : Option am_v, dm_RK cc ret pc v ∧ st = v.toList ∧ Q v h d
/-- a method's start, and its end -/
def dm_Pc (X : dm_X) (as : List am_v) (h : am_H) (d : dm_D) (ad : am_G → Nat → Nat) (D : va_G) (cA : Nat → ClassId) : Array Value → State → Prop := va_Pc (as.map (am_enc ad)) (fun U => dm_WH ad D cA h d U.heap ∧ dm_E X ad D cA U)
def dm_Qc (Q : Option am_v → am_H → dm_D → Prop) (k0 : Nat) (ad : am_G → Nat → Nat) (D : va_G) (cA : Nat → ClassId) : Array Value → State → Outcome → State → Prop := fun _ st oc t => (∃ (v : Option am_v) (h' : am_H) (d' : dm_D), oc = .returned (v.map (am_enc ad)) ∧ Q v h' d' ∧ dm_WH ad D cA h' d' t.heap ∧ hsz t.heap + k0 ≤ hsz st.heap + d'.2.1) ∧ va_F (dm_lo ad) st t
/-- A CONTRACT: called with as over the memory h and the cells d, y returns v over h' and d' with Q v h' d' -/
def dm_M (X : dm_X) (y : MethodName) (bs : ByteArray) (nL : Nat) (ret : Option FieldType) (fr lc : Nat) (as : List am_v) (h : am_H) (d : dm_D) (Q : Option am_v → am_H → dm_D → Prop) : Prop :=
  ∀ (l : Launch) (ad : am_G → Nat → Nat) (D : va_G) (cA : Nat → ClassId), dm_ad ad → l.flags = flags0 → Met l y (.code y bs nL ret :: am_gT) { frames := fr, cells := dm_L - d.2.1, slots := dm_L - d.2.1, locals := lc } (dm_Pc X as h d ad D cA) (dm_Qc Q d.2.1 ad D cA) (dm_L - d.2.1) (dm_L - d.2.1) (dm_lo ad)
theorem dm_blind (X : dm_X) (as : List am_v) (h : am_H) (d : dm_D) (ad : am_G → Nat → Nat) (D : va_G) (cA : Nat → ClassId) : FrameBlind (dm_Pc X as h d ad D cA) := fun a U g mk q => ⟨q.1, q.2.1, dm_E_blind q.2.2 g mk a⟩
/-- a method's contract out of the walk of its body -/
theorem dm_M.of {X : dm_X} {y : MethodName} {bs : ByteArray} {nL : Nat} {ret : Option FieldType} {fr lc : Nat} {as : List am_v} {h : am_H} {d : dm_D} {Q : Option am_v → am_H → dm_D → Prop} {A : List (Option am_v)} (hy : plainFor y = true) (hA : am_A0 as ++ List.replicate (nL - (am_A0 as).length) none = A) (hl : (am_A0 as).length ≤ nL)
    (body : dm_V y.cls y.name bs nL ret fr lc d.2.1 X (dm_Tm bs ret Q) 0 A [] h d) : dm_M X y bs nL ret fr lc as h d Q := by
  subst hA
  intro l ad D cA hf hfl
  refine am_ofW (cc := bs) (maxL := nL) (ret := ret) hy rfl ?_
  intro p e s m args below meth c s₁ B hml hv
  obtain ⟨rfl, hW, hE⟩ := hv
  have hts := atoms_spec (ws := .code y bs nL ret :: am_gT) B.pre
  rw [lg_entry_eq]
  refine body p l e _ s m _ below meth c ad D cA _ ⟨B.exec, B.bytes, hml, findClass_of_methodNamed B.named, fun w hw => hts w (List.mem_cons_of_mem _ hw), hE, B.returns, B.notSynchronized, hf, (name_of_methodNamed B.named B.method).1, Nat.le_refl _, Nat.le_refl _, Nat.le_refl _, Nat.le_refl _, hfl⟩ ?_ 0 0 s.heap [] _ hW va_S.rf (Nat.le_refl _) (am_L0 ad as hl)
  rintro pc' st' h' d' cs' ss' H' locs' ls' ⟨v, hk, rfl, hQ⟩ hW' hS' hz h1 h2 hsz9
  have hlocks := B.notSynchronized
  refine W.widen h1 h2 ?_
  rcases hk with ⟨x, ty, rfl, hr, hn, hd⟩ | ⟨rfl, hr, hd⟩ | ⟨q, ty, rfl, hr, hn, hd⟩
  · exact W.zret B.exec B.bytes (B.returns.trans hr) hn (fun t ht hw => ⟨⟨some (am_i x), h', d', rfl, hQ, by rw [ht]; exact hW', by rw [ht]; exact hz⟩, hS'.F ht⟩) hS'.2.2 hd
  · exact W.vret B.exec B.bytes (B.returns.trans hr) (fun t ht hw => ⟨⟨none, h', d', rfl, hQ, by rw [ht]; exact hW', by rw [ht]; exact hz⟩, hS'.F ht⟩) hS'.2.2 hd
  · exact W.aret B.exec B.bytes (B.returns.trans hr) hn (Or.inr ⟨_, rfl⟩) (fun t ht hw => ⟨⟨some (.inr q), h', d', rfl, hQ, by rw [ht]; exact hW', by rw [ht]; exact hz⟩, hS'.F ht⟩) hS'.2.2 hd
/-- behind a call that was run: what it left -/
theorem dm_after {own nm : String} {cc : ByteArray} {nL : Nat} {ret : Option FieldType} {fr lc k0 : Nat} {X : dm_X} {Tm : Nat → List am_v → am_H → dm_D → Prop} {pc len : Nat} {A : List (Option am_v)} {p : Program} {l : Launch} {e : Env} {R : Room} {s : State} {m : MethodId} {args : Array Value} {below : List Frame} {meth : Method} {c : Code} {ad : am_G → Nat → Nat} {D : va_G} {cA : Nat → ClassId} {Z : State → Prop} {d : dm_D} {st st0 : List am_v} {Q : Option am_v → am_H → dm_D → Prop} {aa : Array Value} {cs ss : Nat} {H : Heap} {locs : List Loc} {ls : Array Slot}
    (F : dm_F own nm cc nL ret fr lc k0 X p l R s m args meth c ad D cA)
    (K : ∀ (pc' : Nat) (st' : List am_v) (h' : am_H) (d' : dm_D) (cs' ss' : Nat) (H' : Heap) (locs' : List Loc) (ls' : Array Slot), Tm pc' st' h' d' → dm_WH ad D cA h' d' H' → va_S (dm_lo ad) s.heap H' locs' → hsz H' + k0 ≤ hsz s.heap + d'.2.1 → cs' ≤ dm_L - k0 → ss' ≤ dm_L - k0 → ls'.size = nL → W p l e R s m args below meth c H' locs' cs' ss' Z (F0 m pc' ls' (st'.map (am_enc ad))))
    (hS : va_S (dm_lo ad) s.heap H locs) (hz : hsz H + k0 ≤ hsz s.heap + d.2.1) (hL : am_L ad nL A ls)
    (kk : ∀ (v : Option am_v) (h' : am_H) (d' : dm_D), Q v h' d' → dm_V own nm cc nL ret fr lc k0 X Tm (pc + len) A (v.toList ++ st) h' d')
    (hr : ∀ T : State, T.heap = H → Stand p l e R s m args below meth c T locs cs ss → ∃ (v : Option Value) (st₀ t T' : State) (L : List Loc), st₀.heap = H ∧ Stand p l e R s m args below meth c T' (locs ++ L) (cs + (dm_L - d.2.1)) (ss + (dm_L - d.2.1)) ∧ (∀ q ∈ L, dm_lo ad q.base) ∧ T'.heap = t.heap ∧ dm_Qc Q d.2.1 ad D cA aa st₀ (.returned v) t ∧ ∀ tg, Steps p.tables e below (T'.setTop (F0 m (pc + len) ls (v.toList ++ st.map (am_enc ad)))) tg → Steps p.tables e below (T.setTop (F0 m pc ls (st0.map (am_enc ad)))) tg) :
    W p l e R s m args below meth c H locs cs ss Z (F0 m pc ls (st0.map (am_enc ad))) := by
  intro T hT X9
  obtain ⟨v, st₀, t, T', L, h0, X', hL9, e1, ⟨⟨v9, h', d', hv, hq, hw, hz9⟩, hz1, hk⟩, st9⟩ := hr T hT X9
  have hv : v = v9.map (am_enc ad) := by cases hv; rfl
  subst hv
  rw [h0] at hz1 hk hz9
  have hS1 : va_S (dm_lo ad) s.heap T'.heap (locs ++ L) := ⟨Nat.le_trans hS.1 (by rw [e1]; exact hz1), fun q h1 h2 => by rw [e1, hk q (Nat.lt_of_lt_of_le h1 hS.1) h2]; exact hS.2.1 q h1 h2, fun q hq => by
    rcases List.mem_append.mp hq with h | h
    · exact hS.2.2 q h
    · exact hL9 q h⟩
  obtain ⟨t2, a1, b1⟩ := kk v9 h' d' hq p l e R s m args below meth c ad D cA Z F K _ _ T'.heap (locs ++ L) ls (by rw [e1]; exact hw) hS1 (by rw [e1]; omega) hL T' rfl X'
  refine ⟨t2, st9 t2 ?_, b1⟩
  have e3 : (v9.map (am_enc ad)).toList ++ st.map (am_enc ad) = (v9.toList ++ st).map (am_enc ad) := by rw [List.map_append]; cases v9 <;> rfl
  rw [e3]
  exact a1
