/-! the law's beginning -/
theorem bq_cL_8 : Cond.classLink RL 8 RX11 ∈ am_gT := am_w 158 (by decide +kernel) rfl
theorem bq_cL_104 : Cond.classLink RL 104 RX12 ∈ am_gT := am_w 1531 (by decide +kernel) rfl
theorem law_from {p : Program} {e : Env} {s : State} {m : MethodId} {below : List Frame} {meth : Method} {c : Code} {b L : Nat} {xs : Nat → Int32} {Z : State → Prop} (l : Launch) (hflags : l.flags = flags0) (hL : L ≤ 3072) (hx : p.tables.exec = Jvm.exec) (hb : c.code = cL_law) (hr : meth.sig.returnType = some .boolean) (hml : c.maxLocals = 9) (hown : s.vm.findClass RL = some m.cls) (hts : ∀ w ∈ lw_tbl, w.before #[Value.ref b] s = true) (hX : va_X b L xs s s.heap) (hbl : b < s.heap.size) (hlocks : meth.locks = false) (hgv : gvT.before #[Value.ref b] s = true)
    (hE9 : ∀ (H : Heap) (locs : List Loc) (ls : Array Slot), va_S (fun q => s.heap.size ≤ q) s.heap H locs → W p l e room_1 s m #[Value.ref b] below meth c H locs 601024 7293034 Z (F0 m 2116 ls [.int 1])) : W p l e room_1 s m #[Value.ref b] below meth c s.heap [] 0 0 Z (entryFrame m ([Value.ref b] : List Value).toArray 9) := by
  have htg : ∀ w ∈ am_gT, w.before #[Value.ref b] s = true := fun w hw => hts w (List.mem_filter.mp hw).1
  obtain ⟨D, cA, sa, sb, hE⟩ := st_E hts (flat_of_before _ hgv)
  have hE := hE (ad0 s.heap.size sa sb) rfl rfl
  have hO : va_AO RX5 s := va_AO.of (hts _ bq_ao)
  have F : am_F RL cL_law 9 (some .boolean) 14 532 601024 7293034 (am_scr b L xs) p l room_1 s m #[Value.ref b] meth c s.heap.size (ad0 s.heap.size sa sb) D cA := ⟨hx, hb, hml, hown, htg, hE, hr, hlocks, hflags, Nat.le_refl _, Nat.le_refl _, Nat.le_refl _, Nat.le_refl _, fun t h => by cases h; exact ⟨hX, hbl, Nat.not_le.mpr hbl⟩⟩
  have hl := lv_entry ([.ref b]) (n := 9) (ble rfl)
  rw [lg_entry_eq]
  generalize (lg_sl ([.ref b]) ++ List.replicate (9 - (lg_sl ([.ref b])).length) Slot.unset).toArray = ls at hl ⊢
  have hl : lv_has ls 9 [(0, .ref b)] := hl
  have B : BS D s.heap.size 0 s 0 [] s.heap [] := ⟨fun k q h => (by cases h), rfl, rfl, rfl, va_S.rf⟩
  refine bn_new (C := RX11) (T := TX11) (N := 13) (ci := 11) (fs := [.null, .null, .null, .null, .int 0, .null, .int 0, .null, .null, .null, .null, .null, .null]) F B (Nat.le_refl _) dL_law_0 rfl bq_cL_8 bq_n11 bq_i11 bq_d11 (by decide) (by decide) (fun H B => ?_)
  refine lv_dup F.1 F.2.1 dL_law_3 rfl ?_
  refine bn_ini (n0 := 0) (es0 := []) (host := "") F (M_X11 kl5 kl1 kl3 kl10 kl9 kl8 kl6 (fun _ _ => ⟨_, rfl⟩) M_X5 M_X1 M_X3 M_X10 M_X9 M_X8 M_X6) (Nat.le_refl _) hO B rfl (by rw [kl11]) dL_law_4 bq_y11 rfl (Or.inl ml_L_103) (by decide) (by decide) (by decide) (by decide) hl.1 (ble rfl) (fun H locs B => ?_)
  have B : BS D s.heap.size 218 s 218 (KX11 KX5 KX1 KX3 KX10 KX9 KX8 KX6 cA s.heap.size) H locs := B
  refine lv_astore_n (lv' := [(1, .ref s.heap.size), (0, .ref b)]) F.1 F.2.1 dL_law_7 rfl hl (by decide) rfl (fun ls hl => ?_)
  refine bn_new (C := RX12) (T := TX12) (N := 37) (ci := 12) (fs := [.int 0, .null, .int 0, .int 0, .int 0, .int 0, .int 0, .int 0, .int 0, .int 0, .int 0, .int 0, .long 0, .null, .null, .null, .null, .null, .null, .null, .null, .int 0, .int 0, .int 0, .null, .null, .null, .null, .null, .null, .null, .int 0, .int 0, .int 0, .null, .int 0, .int 0]) F B (Nat.le_refl _) dL_law_8 rfl bq_cL_104 bq_n12 bq_i12 bq_d12 (by decide) (by decide) (fun H B => ?_)
  refine lv_dup F.1 F.2.1 dL_law_11 rfl ?_
  refine bn_ini (n0 := 218) (es0 := KX11 KX5 KX1 KX3 KX10 KX9 KX8 KX6 cA s.heap.size) (host := "") F M_X12 (Nat.le_refl _) hO B (kl11 _ _) (by rw [kl12]) dL_law_12 bq_y12 rfl (Or.inl ml_L_106) (by decide) (by decide) (by decide) (by decide) hl.1 (ble rfl) (fun H locs B => ?_)
  have B : BS D s.heap.size 236 s 236 (KX11 KX5 KX1 KX3 KX10 KX9 KX8 KX6 cA s.heap.size ++ KX12 cA (s.heap.size + 218)) H locs := B
  refine lv_astore_n (lv' := [(2, .ref (s.heap.size + 218)), (1, .ref s.heap.size), (0, .ref b)]) F.1 F.2.1 dL_law_15 rfl hl (by decide) rfl (fun ls hl => ?_)
  refine lv_iconst (v := 1) F.1 F.2.1 dL_law_16 (by decide) ?_
  refine bn_arr (t := 3) (N := 1) (a0 := .inr (.inl (fun _ => 0))) F B (Nat.le_refl _) dL_law_17 bq_a_long rfl (fun _ => rfl) (by decide) (by decide) (by decide) (by decide) (by decide) (fun H B => ?_)
  have B : BS D s.heap.size 237 s 237 (es00 cA s.heap.size) H locs := B
  refine lv_astore_n (lv' := [(3, .ref (s.heap.size + 236)), (2, .ref (s.heap.size + 218)), (1, .ref s.heap.size), (0, .ref b)]) F.1 F.2.1 dL_law_19 rfl hl (by decide) rfl (fun ls hl => ?_)
  refine lv_iconst (v := iI (0 : Nat)) F.1 F.2.1 dL_law_20 rfl ?_
  refine lv_istore (lv' := [(4, .int (iI (0 : Nat))), (3, .ref (s.heap.size + 236)), (2, .ref (s.heap.size + 218)), (1, .ref s.heap.size), (0, .ref b)]) F.1 F.2.1 dL_law_21 hl (by decide) rfl (fun ls hl => ?_)
  have hLL : am_L (ad0 s.heap.size sa sb) 9 (lawA b (iI (0 : Nat))) ls := ⟨hl.1, hl.2.1, fun i v h => by
    match i, h with
    | 0, h => cases h; exact lv_at hl 4 rfl
    | 1, h => cases h; exact lv_at hl 3 rfl
    | 2, h => cases h; exact lv_at hl 2 rfl
    | 3, h => cases h; exact lv_at hl 1 rfl
    | 4, h => cases h; exact lv_at hl 0 rfl
    | 5, h => cases h
    | 6, h => cases h
    | 7, h => cases h
    | 8, h => cases h
    | i + 9, h => cases h⟩
  refine law_loop (b := b) (xs := xs) hL (L + 1) (i := 0) (cs := 237) (ss := 9301) (h := h00) (Nat.zero_le _) (by omega) (by omega) (by omega) or00 p l e room_1 s m #[Value.ref b] below meth c s.heap.size (ad0 s.heap.size sa sb) D cA Z F ?_ (by decide) (by decide) H _ ls (wor_all B.1) B.2.2.2.2 hLL
  rintro pc' st' h' cs' ss' H' locs' ls' ⟨rfl, rfl⟩ hW hS h1 h2 h3
  exact W.widen h1 h2 (hE9 H' locs' ls' hS)
