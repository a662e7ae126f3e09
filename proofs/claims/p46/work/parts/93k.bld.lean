/-! building: cells one behind the other from b on -/
def bw : Nat → List va_E → va_W
  | _, [] => []
  | b, e :: es => (b, e) :: bw (b + 1) es
theorem bw_at : ∀ (es : List va_E) (b j : Nat), (bw b es)[j]? = es[j]?.map (fun e => (b + j, e))
  | [], b, j => rfl
  | e :: es, b, 0 => rfl
  | e :: es, b, j + 1 => by
    show (bw (b + 1) es)[j]? = es[j]?.map (fun x => (b + (j + 1), x))
    rw [bw_at es (b + 1) j, show b + 1 + j = b + (j + 1) from by omega]
theorem bw_len : ∀ (es : List va_E) (b : Nat), (bw b es).length = es.length
  | [], b => rfl
  | e :: es, b => congrArg (· + 1) (bw_len es (b + 1))
theorem bw_app : ∀ (xs ys : List va_E) (b : Nat), bw b (xs ++ ys) = bw b xs ++ bw (b + xs.length) ys
  | [], ys, b => rfl
  | x :: xs, ys, b => by
    show (b, x) :: bw (b + 1) (xs ++ ys) = (b, x) :: (bw (b + 1) xs ++ bw (b + (xs.length + 1)) ys)
    rw [bw_app xs ys (b + 1), show b + 1 + xs.length = b + (xs.length + 1) from by omega]
theorem bw_fst {b i : Nat} {es : List va_E} {p : Nat × va_E} (h : (bw b es)[i]? = some p) : p.1 = b + i := by
  rw [bw_at] at h
  cases he : es[i]? with
  | none => rw [he] at h; cases h
  | some e => rw [he] at h; cases h; rfl
theorem bw_D (b : Nat) (es : List va_E) : va_D (fun q => b ≤ q) (bw b es) := ⟨fun i j p q hi hj e => by
    have h1 := bw_fst hi
    have h2 := bw_fst hj
    omega, fun k q h => by
    have h1 := bw_fst h
    show b ≤ q.1
    omega⟩
theorem va_P.left {D : va_G} {w1 w2 : va_W} {H : Heap} (h : va_P D vwCl (w1 ++ w2) H) : va_P D vwCl w1 H := fun k q hq => h k q (by rw [List.getElem?_append_left (List.getElem?_eq_some_iff.mp hq).1]; exact hq)
theorem va_P.right {D : va_G} {w1 w2 : va_W} {H : Heap} (h : va_P D vwCl (w1 ++ w2) H) : va_P D vwCl w2 H := fun k q hq => h (w1.length + k) q (by rw [List.getElem?_append_right (Nat.le_add_right _ _), Nat.add_sub_cancel_left]; exact hq)
/-- a state of building: n cells es from b on -/
def BS (D : va_G) (b n : Nat) (s : State) (cs : Nat) (es : List va_E) (H : Heap) (locs : List Loc) : Prop := va_P D vwCl (bw b es) H ∧ H.size = b + n ∧ es.length = n ∧ s.heap.size + cs = b + n ∧ va_S (fun q => b ≤ q) s.heap H locs
/-- A CONTRACT of a method that builds: k0 cells come, mc more are made -/
def bd_M (y : MethodName) (bs : ByteArray) (nL fr lc mc ms k0 : Nat) (E K : (Nat → ClassId) → Nat → List va_E) : Prop :=
  ∀ (l : Launch) (lo : Nat → Prop) (ad : am_G → Nat → Nat) (D : va_G) (cA : Nat → ClassId) (b : Nat), l.flags = flags0 → (∀ q, b ≤ q → lo q) → Met l y (.code y bs nL none :: am_gT) { frames := fr, cells := mc, slots := ms, locals := lc } (va_Pc [.ref b] (fun U => (va_P D vwCl (bw b (E cA b)) U.heap ∧ U.heap.size = b + k0) ∧ am_E lo ad D cA U ∧ va_AO RX5 U)) (va_Qv (fun _ : Unit => True) (fun _ t => va_P D vwCl (bw b (K cA b)) t.heap ∧ t.heap.size = b + (k0 + mc)) (fun q => b ≤ q)) mc ms (fun q => b ≤ q)
theorem bd_M.of {y : MethodName} {bs : ByteArray} {nL fr lc mc ms k0 : Nat} {E K : (Nat → ClassId) → Nat → List va_E} (hy : plainName y.cls = true) (h1 : 1 ≤ nL) (hE : ∀ cA b, (E cA b).length = k0)
    (body : ∀ {p : Program} {l : Launch} {e : Env} {R : Room} {s : State} {m : MethodId} {args : Array Value} {below : List Frame} {meth : Method} {c : Code} {lo : Nat → Prop} {ad : am_G → Nat → Nat} {D : va_G} {cA : Nat → ClassId} {b : Nat} {Z : State → Prop} {ls : Array Slot}, am_F y.cls bs nL none fr lc mc ms none p l R s m args meth c lo ad D cA → meth.name = y.name → (∀ q, b ≤ q → lo q) → va_AO RX5 s →
      (∀ (H : Heap) (locs : List Loc) (pc : Nat) (ls : Array Slot), decode bs pc = .ok (.return_, 1) → BS D b (k0 + mc) s mc (K cA b) H locs → W p l e R s m args below meth c H locs mc ms Z (F0 m pc ls [])) →
      BS D b k0 s 0 (E cA b) s.heap [] → lv_has ls nL [(0, .ref b)] → W p l e R s m args below meth c s.heap [] 0 0 Z (F0 m 0 ls [])) : bd_M y bs nL fr lc mc ms k0 E K := by
  intro l lo ad D cA b hf hlo
  refine Met.ofW (cc := bs) (maxL := nL) (ret := none) hy rfl ?_
  intro p e s m args below meth c s₁ B hml hv
  obtain ⟨rfl, ⟨hP, hz⟩, hA, hO⟩ := hv
  have hts := atoms_spec (ws := .code y bs nL none :: am_gT) B.pre
  have hlocks := B.notSynchronized
  have hl := lv_entry ([.ref b]) (n := nL) h1
  rw [lg_entry_eq]
  generalize (lg_sl ([.ref b]) ++ List.replicate (nL - (lg_sl ([.ref b])).length) Slot.unset).toArray = ls at hl ⊢
  refine body (lo := lo) (ad := ad) (D := D) (cA := cA) (b := b) ⟨B.exec, B.bytes, hml, findClass_of_methodNamed B.named, fun w hw => hts w (List.mem_cons_of_mem _ hw), hA, B.returns, B.notSynchronized, hf, Nat.le_refl _, Nat.le_refl _, Nat.le_refl _, Nat.le_refl _, fun t h => by cases h⟩ (name_of_methodNamed B.named B.method).1 hlo hO (fun H locs pc ls hd BS => ?_) ⟨hP, hz, hE cA b, hz, va_S.rf⟩ hl
  exact W.vret B.exec B.bytes B.returns (fun t ht hW => ⟨⟨(), rfl, trivial, by rw [ht]; exact BS.1, by rw [ht]; exact BS.2.1⟩, BS.2.2.2.2.F ht⟩) BS.2.2.2.2.2.2 hd
section BLD
variable {p : Program} {l : Launch} {e : Env} {R : Room} {s : State} {m : MethodId} {args : Array Value} {below : List Frame} {meth : Method} {c : Code} {lo : Nat → Prop} {ad : am_G → Nat → Nat} {D : va_G} {cA : Nat → ClassId} {Z : State → Prop}
variable {own : String} {cc : ByteArray} {nL : Nat} {ret : Option FieldType} {fr lc mc ms : Nat} {tb : am_tb} {H : Heap} {locs : List Loc} {cs ss pc b n : Nat} {ls : Array Slot} {st : List Value} {es : List va_E}
/-- a new cell's place -/
theorem bn_al {H1 : Heap} {q : Nat} {x : va_E} {g : JFrame} (hn : es.length = n) (hc : s.heap.size + cs = b + n) (p1 : va_P D vwCl (bw b es ++ [(q, x)]) H1) (p2 : va_D (fun q => b ≤ q) (bw b es ++ [(q, x)])) (p3 : va_S (fun q => b ≤ q) s.heap H1 locs) (kk : BS D b (n + 1) s (cs + 1) (es ++ [x]) H1 locs → W p l e R s m args below meth c H1 locs (cs + 1) ss Z (F0 m pc ls (.ref (b + n) :: st))) : W p l e R s m args below meth c H1 locs (cs + 1) ss Z (F0 m pc ls (.ref q :: st)) := by
  have hx : (bw b es ++ [(q, x)])[n]? = some (q, x) := by
    rw [List.getElem?_append_right (by rw [bw_len, hn]; exact Nat.le_refl _), bw_len, hn, Nat.sub_self]
    rfl
  have hq1 : q < H1.size := (p1 n _ hx).lt
  have hq0 : b ≤ q := p2.2 n _ hx
  intro T hT X
  have hz : H1.size ≤ s.heap.size + (cs + 1) := by
    rw [← hT]
    exact X.same.2.2.1
  have hq : q = b + n := by
    refine Nat.le_antisymm (by omega) (Nat.not_lt.mp fun z => ?_)
    obtain ⟨j, hj⟩ : ∃ j, q = b + j := ⟨q - b, by omega⟩
    have hjn : j < es.length := by omega
    have hy : (bw b es ++ [(q, x)])[j]? = some (b + j, es[j]) := by
      rw [List.getElem?_append_left (by rw [bw_len]; exact hjn), bw_at, List.getElem?_eq_getElem hjn]
      rfl
    have := p2.1 j n _ _ hy hx hj.symm
    omega
  subst hq
  exact kk ⟨by rw [bw_app, hn]; exact p1, by omega, by rw [List.length_append, hn]; rfl, by omega, p3⟩ T hT X
/-- a write: no cell is new -/
theorem bn_sm {es' : List va_E} {H1 : Heap} {locs1 : List Loc} {g : JFrame} (B : BS D b n s cs es H locs) (hn : es'.length = n) (p1 : va_P D vwCl (bw b es') H1) (p3 : va_S (fun q => b ≤ q) H H1 locs1) (kk : BS D b n s cs es' H1 locs1 → W p l e R s m args below meth c H1 locs1 cs ss Z g) : W p l e R s m args below meth c H1 locs1 cs ss Z g := by
  obtain ⟨-, b2, b3, b4, b5⟩ := B
  intro T hT X
  have hz : H1.size ≤ s.heap.size + cs := by
    rw [← hT]
    exact X.same.2.2.1
  have := p3.1
  exact kk ⟨p1, by omega, hn, b4, ⟨Nat.le_trans b5.1 p3.1, fun q h1 h2 => (p3.2.1 q (Nat.lt_of_lt_of_le h1 b5.1) h2).trans (b5.2.1 q h1 h2), p3.2.2⟩⟩ T hT X
theorem BS.S0 (B : BS D b n s cs es H locs) : va_S (fun q => b ≤ q) H H locs := ⟨Nat.le_refl _, fun _ _ _ => rfl, B.2.2.2.2.2.2⟩
theorem bn_new {idx ci N : Nat} {C : String} {T : u_T} {fs : List Value} (F : am_F own cc nL ret fr lc mc ms tb p l R s m args meth c lo ad D cA) (B : BS D b n s cs es H locs) (hb0 : b ≤ s.heap.size) (hd : decode cc pc = .ok (.new idx, 3)) (hc : vwCl[ci]? = some (C, T, N)) (w1 : Cond.classLink own idx C ∈ am_gT) (w2 : Cond.instantiable C N ∈ am_gT) (w3 : Cond.initialized C ∈ am_gT) (hfs : ∀ j, j < N → (parseFieldDescriptor (T j).2.2.1).map defaultValue = some (vp_V fs j)) (hcs : cs + 1 ≤ mc) (hss : ss + N ≤ ms)
    (kk : ∀ H1, BS D b (n + 1) s (cs + 1) (es ++ [.inr (ci, fs)]) H1 locs → W p l e R s m args below meth c H1 locs (cs + 1) (ss + N) Z (F0 m (pc + 3) ls (.ref (b + n) :: st))) : W p l e R s m args below meth c H locs cs ss Z (F0 m pc ls st) := by
  obtain ⟨hin, ⟨ty0, hty⟩, hnm⟩ := am_cl ci _ hc
  have hts := F.2.2.2.2.1
  have hmc := F.2.2.2.2.2.2.2.2.2.2.2.1
  have hms := F.2.2.2.2.2.2.2.2.2.2.2.2.1
  refine va_new F.1 F.2.1 hts hin ty0 hty F.2.2.2.1 (hts _ w1) (hts _ w2) (hts _ w3) F.2.2.2.2.2.1.1 B.1 (bw_D b es) B.2.2.2.2 (fun q hq => Nat.le_trans hb0 hq) hc (fs := fs) (fun j hj => ?_) (Nat.le_trans hcs hmc) (Nat.le_trans hss hms) hd (fun q H1 p1 p2 p3 => ?_)
  · have := hfs j hj
    rw [hty j hj] at this
    exact Option.some.inj this
  · exact bn_al (g := F0 m pc ls st) B.2.2.1 B.2.2.2.1 p1 p2 p3 (kk H1)
theorem bn_arr {atype : ArrayType} {t N : Nat} {x : Int32} {a0 : (Nat → Int32) ⊕ (Nat → Int64) ⊕ (Nat → UInt32) ⊕ (Nat → UInt64) ⊕ (Nat → Option Nat)} (F : am_F own cc nL ret fr lc mc ms tb p l R s m args meth c lo ad D cA) (B : BS D b n s cs es H locs) (hb0 : b ≤ s.heap.size) (hd : decode cc pc = .ok (.newarray atype, 2)) (w1 : Cond.arrayClass (newarray.typeOf atype) ∈ am_gT) (ht : (am_ty cA)[t]? = some (cA t, newarray.typeOf atype)) (ha : ∀ c : ClassId, vp_cell c (N, a0) = arrV c N (fun _ => defaultValue (newarray.typeOf atype))) (hx : ¬ x < 0) (hN : x.toNatClampNeg = N) (hby : N * componentBytes (newarray.typeOf atype) ≤ 536870912) (hcs : cs + 1 ≤ mc) (hss : ss + N ≤ ms)
    (kk : ∀ H1, BS D b (n + 1) s (cs + 1) (es ++ [.inl (cA t, N, a0)]) H1 locs → W p l e R s m args below meth c H1 locs (cs + 1) (ss + N) Z (F0 m (pc + 2) ls (.ref (b + n) :: st))) : W p l e R s m args below meth c H locs cs ss Z (F0 m pc ls (.int x :: st)) := by
  have hts := F.2.2.2.2.1
  have hmc := F.2.2.2.2.2.2.2.2.2.2.2.1
  have hms := F.2.2.2.2.2.2.2.2.2.2.2.2.1
  have hK := F.2.2.2.2.2.1.1
  refine va_newa F.1 F.2.1 (hts _ w1) rfl hK B.1 (bw_D b es) B.2.2.2.2 (fun q hq => Nat.le_trans hb0 hq) ha hx hN hby (Nat.le_trans hcs hmc) (Nat.le_trans hss hms) hd (fun q c1 H1 k1 p1 p2 p3 => ?_)
  have hc1 : c1 = cA t := by
    have r1 := (hK.2 t _ ht).2
    have r2 := (k1.2 (am_ty cA).length (c1, newarray.typeOf atype) (by rw [List.getElem?_append_right (Nat.le_refl _), Nat.sub_self]; rfl)).2
    cases atype <;> exact Option.some.inj (r2.symm.trans r1)
  subst hc1
  exact bn_al (g := F0 m pc ls st) B.2.2.1 B.2.2.2.1 p1 p2 p3 (kk H1)
theorem bn_rows {idx N : Nat} {x : Int32} (F : am_F own cc nL ret fr lc mc ms tb p l R s m args meth c lo ad D cA) (B : BS D b n s cs es H locs) (hb0 : b ≤ s.heap.size) (hd : decode cc pc = .ok (.anewarray idx, 3)) (w1 : Cond.classLink own idx RX5 ∈ am_gT) (ho : va_AO RX5 s) (hx : ¬ x < 0) (hN : x.toNatClampNeg = N) (hby : N * 4 ≤ 536870912) (hcs : cs + 1 ≤ mc) (hss : ss + N ≤ ms)
    (kk : ∀ H1, BS D b (n + 1) s (cs + 1) (es ++ [.inl (cA 4, N, .inr (.inr (.inr (.inr (fun _ => none)))))]) H1 locs → W p l e R s m args below meth c H1 locs (cs + 1) (ss + N) Z (F0 m (pc + 3) ls (.ref (b + n) :: st))) : W p l e R s m args below meth c H locs cs ss Z (F0 m pc ls (.int x :: st)) := by
  have hts := F.2.2.2.2.1
  have hmc := F.2.2.2.2.2.2.2.2.2.2.2.1
  have hms := F.2.2.2.2.2.2.2.2.2.2.2.2.1
  have hK := F.2.2.2.2.2.1.1
  refine va_newq (C := RX5) F.1 F.2.1 F.2.2.2.1 (hts _ w1) ho hK B.1 (bw_D b es) B.2.2.2.2 (fun q hq => Nat.le_trans hb0 hq) hx hN hby (Nat.le_trans hcs hmc) (Nat.le_trans hss hms) hd (fun q c1 H1 k1 p1 p2 p3 => ?_)
  have hc1 : c1 = cA 4 := by
    obtain ⟨_, _, -, -, -, r1⟩ := (hK.2 4 _ rfl).2
    obtain ⟨_, _, -, -, -, r2⟩ := (k1.2 (am_ty cA).length (c1, .object RX5) (by rw [List.getElem?_append_right (Nat.le_refl _), Nat.sub_self]; rfl)).2
    exact Option.some.inj (r2.symm.trans r1)
  subst hc1
  exact bn_al (g := F0 m pc ls st) B.2.2.1 B.2.2.2.1 p1 p2 p3 (kk H1)
theorem bn_put {idx ci N k : Nat} {C : String} {T : u_T} {fs : List Value} {ty : FieldType} {v : Value} (F : am_F own cc nL ret fr lc mc ms tb p l R s m args meth c lo ad D cA) (B : BS D b n s cs (.inr (ci, fs) :: es) H locs) (hd : decode cc pc = .ok (.putfield idx, 3)) (hc : vwCl[ci]? = some (C, T, N)) (hk : k < N) (w : Cond.fieldLink own idx (T k).1 (T k).2.1 (T k).2.2.1 ∈ am_gT) (hi : (T k).2.2.2 = false ∨ ((T k).2.2.2 = true ∧ meth.name = "<init>" ∧ (T k).1 = own)) (hpd : parseFieldDescriptor (T k).2.2.1 = some ty) (hn : narrow ty v = v) (hfit : fits ty v = true) (hl : k < fs.length)
    (kk : ∀ (H1 : Heap) (locs1 : List Loc), BS D b n s cs (.inr (ci, fs.set k v) :: es) H1 locs1 → W p l e R s m args below meth c H1 locs1 cs ss Z (F0 m (pc + 3) ls st)) : W p l e R s m args below meth c H locs cs ss Z (F0 m pc ls (v :: .ref b :: st)) := by
  obtain ⟨hin, ⟨ty0, hty⟩, hnm⟩ := am_cl ci _ hc
  have hts := F.2.2.2.2.1
  have hK := F.2.2.2.2.2.1.1
  rcases hi with hi | ⟨hi, hm, ho⟩
  · exact va_put F.1 F.2.1 hts hin ty0 hty hnm F.2.2.2.1 hK B.1 (bw_D b _) B.S0 0 rfl hc k hk (hts _ w) (fun _ z => z) hi hpd hn hfit hl hd (fun H1 locs1 p1 p2 p3 => bn_sm (es' := .inr (ci, fs.set k v) :: es) B B.2.2.1 p1 p3 (kk H1 locs1))
  · exact va_putF F.1 F.2.1 hts hin ty0 hty hnm F.2.2.2.1 hK B.1 (bw_D b _) B.S0 0 rfl hc k hk (hts _ w) (fun _ z => z) hi hm ho hpd hn hfit hl hd (fun H1 locs1 p1 p2 p3 => bn_sm (es' := .inr (ci, fs.set k v) :: es) B B.2.2.1 p1 p3 (kk H1 locs1))
/-- behind a call -/
theorem bn_af {n0 k0 mc9 ms9 : Nat} {es0 E K : List va_E} {st0 : List Value} {a : Array Value} (hr : va_Run p l e R s m args below meth c H locs cs ss mc9 ms9 (F0 m pc ls st0) st (va_Qv (fun _ : Unit => True) (fun _ t => va_P D vwCl (bw (b + n0) K) t.heap ∧ t.heap.size = b + n0 + (k0 + mc9)) (fun q => b + n0 ≤ q) a) (fun q => b + n0 ≤ q)) (B : BS D b (n0 + k0) s cs (es0 ++ E) H locs) (h0 : es0.length = n0) (hk : K.length = k0 + mc9)
    (kk : ∀ (H1 : Heap) (locs1 : List Loc), BS D b (n0 + (k0 + mc9)) s (cs + mc9) (es0 ++ K) H1 locs1 → W p l e R s m args below meth c H1 locs1 (cs + mc9) (ss + ms9) Z (F0 m (pc + 3) ls st)) : W p l e R s m args below meth c H locs cs ss Z (F0 m pc ls st0) := by
  refine va_callv hr B.2.2.2.2 (fun q _ h => Nat.le_trans (Nat.le_add_right b n0) h) (fun q h => Nat.le_trans (Nat.le_add_right b n0) h) (fun u t H1 locs1 ht hvm hw hB hz1 hk1 hS => ?_)
  obtain ⟨p1, z1⟩ := hB
  rw [ht] at p1 z1
  obtain ⟨b1, b2, b3, b4, b5⟩ := B
  refine kk H1 locs1 ⟨?_, by omega, by rw [List.length_append, h0, hk], by omega, hS⟩
  rw [bw_app, h0]
  rw [bw_app, h0] at b1
  refine va_P.app (b1.left.kept (fun k q hq => ?_)) p1
  have := bw_fst hq
  have hlt := (List.getElem?_eq_some_iff.mp hq).1
  rw [bw_len, h0] at hlt
  exact hk1 q.1 (by omega) (by omega)
theorem bE {y : MethodName} {E : List va_E} {k0 : Nat} {q : Nat} (hE : am_E lo ad D cA s) (hO : va_AO RX5 s) (hS : va_S (fun x => b ≤ x) s.heap H locs) (hlo : ∀ q, b ≤ q → lo q) (hP : va_P D vwCl (bw q E) H) (hz : H.size = q + k0) : PreS s H (va_Pc [.ref q] (fun U => (va_P D vwCl (bw q E) U.heap ∧ U.heap.size = q + k0) ∧ am_E lo ad D cA U ∧ va_AO RX5 U)) [.ref q] :=
  ⟨fun a U g mk h => ⟨h.1, h.2.1, am_E_blind h.2.2.1 g mk a, va_AO.moved (u := U) (U := U.calling g mk a) (Vm.Alike.refl U.vm) h.2.2.2⟩, fun U hU hw => ⟨rfl, ⟨by rw [hU]; exact hP, by rw [hU]; exact hz⟩, am_E_call hE ⟨hS.1, fun x h1 h2 => hS.2.1 x h1 (fun z => h2 (hlo x z)), fun x hx => hlo x.base (hS.2.2 x hx)⟩ hU hw, va_AO.moved hw.alike hO⟩⟩
def bd_y (y : MethodName) (bs : ByteArray) (nL : Nat) : Prop := Cond.code y bs nL none ∈ am_gT ∧ Cond.instanceMethod y ∈ am_gT ∧ Cond.initialized y.cls ∈ am_gT ∧ y.cls ≠ "java/lang/invoke/MethodHandle" ∧ y.cls ≠ "java/lang/invoke/VarHandle" ∧ (parseMethodDescriptor y.desc).map (fun d => d.parameters.length) = some 0
/-- a constructor of another class of the nest, or of one that isn't private -/
theorem bn_ini {idx nLy fr9 lc9 mc9 ms9 n0 : Nat} {y : MethodName} {bs : ByteArray} {E K : (Nat → ClassId) → Nat → List va_E} {host : String} {es0 : List va_E} (F : am_F own cc nL ret fr lc mc ms tb p l R s m args meth c lo ad D cA) (hM : bd_M y bs nLy fr9 lc9 mc9 ms9 1 E K) (hlo : ∀ q, b ≤ q → lo q) (hO : va_AO RX5 s) (B : BS D b (n0 + 1) s cs (es0 ++ E cA (b + n0)) H locs) (h0 : es0.length = n0) (hk : (K cA (b + n0)).length = 1 + mc9) (hd : decode cc pc = .ok (.invokespecial idx, 3)) (Y : bd_y y bs nLy) (hyn : y.name = "<init>") (L : Cond.methodLink own idx y ∈ am_gT ∨ Cond.methodLinkNest own idx y host ∈ am_nT) (hfr : fr9 + 1 ≤ fr) (hlc : 8 + (nLy + 11) + lc9 ≤ lc) (hcs : cs + mc9 ≤ mc) (hss : ss + ms9 ≤ ms) (hls : ls.size = nL) (hst : (st.map fun v => v.category).sum ≤ 8)
    (kk : ∀ (H1 : Heap) (locs1 : List Loc), BS D b (n0 + (1 + mc9)) s (cs + mc9) (es0 ++ K cA (b + n0)) H1 locs1 → W p l e R s m args below meth c H1 locs1 (cs + mc9) (ss + ms9) Z (F0 m (pc + 3) ls st)) : W p l e R s m args below meth c H locs cs ss Z (F0 m pc ls (.ref (b + n0) :: st)) := by
  obtain ⟨y1, y2, y4, y5, y6, y7⟩ := Y
  have hts := F.2.2.2.2.1
  have hfr' := F.2.2.2.2.2.2.2.2.2.1
  have hlc' := F.2.2.2.2.2.2.2.2.2.2.1
  have hmc' := F.2.2.2.2.2.2.2.2.2.2.2.1
  have hms' := F.2.2.2.2.2.2.2.2.2.2.2.2.1
  have B1 := B.1
  rw [bw_app, h0] at B1
  have hp := bE (y := y) (k0 := 1) F.2.2.2.2.2.1 hO B.2.2.2.2 hlo B1.right (by rw [B.2.1]; omega)
  have hM' := hM l lo ad D cA (b + n0) F.2.2.2.2.2.2.2.2.1 (fun q z => hlo q (Nat.le_trans (Nat.le_add_right _ _) z))
  have hW : 2 * 0 + (st.map fun v => v.category).sum ≤ 8 := by omega
  rcases L with L | L
  · exact bn_af (va_runI (p := p) (l := l) (e := e) (R := R) (below := below) (meth := meth) (locs := locs) (cells := cs) (slots := ss) (H := H) (As := []) (b := b + n0) (rest := st) (g := F0 m pc ls (.ref (b + n0) :: st)) (own := own) (index := idx) (Ts := am_gT) (cc := cc) (nL := nL) (n := 0) ⟨F.1, F.2.1, F.2.2.1, F.2.2.2.1, hts⟩ hM' ⟨⟨rfl, rfl, Nat.le_trans hfr hfr', Nat.le_trans hlc hlc', am_pay hts y1, List.mem_cons_self, hts _ y1, hts _ y4, ⟨y5, y6⟩, (fun sig h => by rw [h] at y7; exact (Option.some.inj y7).symm), hts _ L⟩, hyn, hts _ y2⟩ hp rfl rfl hls rfl hW hd ⟨Nat.le_trans hcs hmc', Nat.le_trans hss hms'⟩) B h0 hk kk
  · exact bn_af (va_runIN (p := p) (l := l) (e := e) (R := R) (below := below) (meth := meth) (locs := locs) (cells := cs) (slots := ss) (H := H) (As := []) (b := b + n0) (rest := st) (g := F0 m pc ls (.ref (b + n0) :: st)) (own := own) (index := idx) (Ts := am_gT) (cc := cc) (nL := nL) (n := 0) (host := host) ⟨F.1, F.2.1, F.2.2.1, F.2.2.2.1, hts⟩ hM' ⟨⟨⟨rfl, rfl, Nat.le_trans hfr hfr', Nat.le_trans hlc hlc', am_pay hts y1, List.mem_cons_self⟩, hts _ y1, hts _ y4, ⟨y5, y6⟩, (fun sig h => by rw [h] at y7; exact (Option.some.inj y7).symm), am_nest_use L F.2.2.2.2.2.1.2.1⟩, hyn, hts _ y2⟩ hp rfl rfl hls rfl hW hd ⟨Nat.le_trans hcs hmc', Nat.le_trans hss hms'⟩) B h0 hk kk
/-- a method of the object that is built -/
theorem bn_own {idx nLy fr9 lc9 k0 ci : Nat} {C : vw_C} {y : MethodName} {bs : ByteArray} {E K : (Nat → ClassId) → Nat → List va_E} {fs : List Value} {es' : List va_E} (F : am_F own cc nL ret fr lc mc ms tb p l R s m args meth c lo ad D cA) (hM : bd_M y bs nLy fr9 lc9 0 0 k0 E K) (hlo : ∀ q, b ≤ q → lo q) (hO : va_AO RX5 s) (B : BS D b k0 s cs (E cA b) H locs) (hE : E cA b = .inr (ci, fs) :: es') (hcl : vwCl[ci]? = some C) (hcy : C.1 = y.cls) (hk : (K cA b).length = k0) (hd : decode cc pc = .ok (.invokevirtual idx, 3)) (Y : bd_y y bs nLy) (y3 : Cond.selects y.cls y y ∈ am_gT) (L : Cond.methodLink own idx y ∈ am_gT) (hfr : fr9 + 1 ≤ fr) (hlc : 8 + (nLy + 11) + lc9 ≤ lc) (hcs : cs ≤ mc) (hss : ss ≤ ms) (hls : ls.size = nL) (hst : (st.map fun v => v.category).sum ≤ 8)
    (kk : ∀ (H1 : Heap) (locs1 : List Loc), BS D b k0 s cs (K cA b) H1 locs1 → W p l e R s m args below meth c H1 locs1 cs ss Z (F0 m (pc + 3) ls st)) : W p l e R s m args below meth c H locs cs ss Z (F0 m pc ls (.ref b :: st)) := by
  obtain ⟨y1, y2, y4, y5, y6, y7⟩ := Y
  have hts := F.2.2.2.2.1
  have hfr' := F.2.2.2.2.2.2.2.2.2.1
  have hlc' := F.2.2.2.2.2.2.2.2.2.2.1
  have hmc' := F.2.2.2.2.2.2.2.2.2.2.2.1
  have hms' := F.2.2.2.2.2.2.2.2.2.2.2.2.1
  have hp := bE (y := y) (k0 := k0) F.2.2.2.2.2.1 hO B.2.2.2.2 hlo B.1 B.2.1
  have hM' := hM l lo ad D cA b F.2.2.2.2.2.2.2.2.1 hlo
  have hW : 2 * 0 + (st.map fun v => v.category).sum ≤ 8 := by omega
  have B1 := B.1
  rw [hE] at B1
  have hrv := va_recv (q0 := 0) F.2.2.2.2.2.1.1 B1 hcl rfl
  rw [hcy] at hrv
  refine bn_af (n0 := 0) (k0 := k0) (mc9 := 0) (ms9 := 0) (es0 := []) (E := E cA b) (K := K cA b) (va_runV (p := p) (l := l) (e := e) (R := R) (below := below) (meth := meth) (locs := locs) (cells := cs) (slots := ss) (H := H) (As := []) (b := b) (rest := st) (g := F0 m pc ls (.ref b :: st)) (C := y.cls) (own := own) (index := idx) (Ts := am_gT) (cc := cc) (nL := nL) (n := 0) ⟨F.1, F.2.1, F.2.2.1, F.2.2.2.1, hts⟩ hM' ⟨⟨rfl, rfl, Nat.le_trans hfr hfr', Nat.le_trans hlc hlc', am_pay hts y1, List.mem_cons_self, hts _ y1, hts _ y4, ⟨y5, y6⟩, (fun sig h => by rw [h] at y7; exact (Option.some.inj y7).symm), hts _ L⟩, hts _ y2, hts _ y3⟩ ⟨hp.1, hrv, hp.2⟩ rfl rfl hls rfl hW hd ⟨Nat.le_trans hcs hmc', Nat.le_trans hss hms'⟩) (by rw [Nat.zero_add]; exact B) rfl hk (fun H1 locs1 B1 => kk H1 locs1 (by rw [Nat.zero_add] at B1; exact B1))
end BLD
