/-! the law, from its entry, out of what its functions answer -/
def LawOk (X : dm_X) : Prop := ∃ (w : am_G × Nat) (d : dm_D), F_X12_grown X (.inl 4, 3) dm_0 = some (w, d) ∧ d.2.1 + 4311 ≤ dm_L ∧ dm_V RL "law" cL_law 4 (some .boolean) 13 498 0 X lawTm 12 [some dm_s, some (.inr w), none, none] [am_r (.inl 1) 0] h00 (dm_bt d)
theorem law_from {p : Program} {e : Env} {s : State} {m : MethodId} {below : List Frame} {meth : Method} {c : Code} {b L : Nat} {xs : Nat → Int32} {Z : State → Prop} (l : Launch) (hflags : l.flags = flags0) (hp : LawOk (L, xs)) (hx : p.tables.exec = Jvm.exec) (hb : c.code = cL_law) (hr : meth.sig.returnType = some .boolean) (hml : c.maxLocals = 4) (hown : s.vm.findClass RL = some m.cls) (hnm : meth.name = "law") (hts : ∀ w ∈ lw_tbl, w.before #[Value.ref b] s = true) (hX : va_X b L xs s s.heap) (hbl : b < s.heap.size) (hlocks : meth.locks = false) (hgv : gvT.before #[Value.ref b] s = true)
    (hE9 : ∀ (H : Heap) (locs : List Loc) (ls : Array Slot), va_S (fun q => s.heap.size ≤ q) s.heap H locs → W p l e room_1 s m #[Value.ref b] below meth c H locs 600086 7301442 Z (F0 m 84 ls [.int 1])) : W p l e room_1 s m #[Value.ref b] below meth c s.heap [] 0 0 Z (entryFrame m ([Value.ref b] : List Value).toArray 4) := by
  have htg : ∀ w ∈ am_gT, w.before #[Value.ref b] s = true := fun w hw => hts w (List.mem_filter.mp hw).1
  obtain ⟨D, cA, sa, sb, z, hz3, hE⟩ := st_E hts (flat_of_before _ hgv) hX hbl
  obtain ⟨w, d, hg, hc, tail⟩ := hp
  have hE := hE d.1
  have F : dm_F RL "law" cL_law 4 (some .boolean) 13 498 0 (L, xs) p l room_1 s m #[Value.ref b] meth c (ad00 s.heap.size d.1 sa sb z) D cA := ⟨hx, hb, hml, hown, htg, hE, hr, hlocks, ad00_ad, hnm, Nat.le_refl _, Nat.le_refl _, ble rfl, ble rfl, hflags⟩
  have hl := am_L0 (ad00 s.heap.size d.1 sa sb z) [dm_s] (nL := 4) (by decide)
  rw [lg_entry_eq]
  have e0 : am_enc (ad00 s.heap.size d.1 sa sb z) dm_s = .ref b := congrArg Value.ref hz3
  have e1 : List.map (am_enc (ad00 s.heap.size d.1 sa sb z)) [dm_s] = [Value.ref b] := congrArg (fun x => [x]) e0
  rw [e1] at hl
  refine law_walk (w := w) (d := d) (h := h00) F (va_AO.of (hts _ bq_ao)) rfl ?_ hg hc ad00_at tail hl
  rintro pc' st' h' d' cs' ss' H' locs' ls' ⟨rfl, rfl⟩ hW hS h1 h2 h3 h4
  exact W.widen (Nat.le_trans h2 (ble rfl)) (Nat.le_trans h3 (ble rfl)) (hE9 H' locs' ls' hS)
