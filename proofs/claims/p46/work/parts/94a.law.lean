/-! the law's own body -/
def lawTm : Nat → List am_v → am_H → dm_D → Prop := fun pc st _ _ => pc = 84 ∧ st = [am_i 1]
theorem law_loop {X : dm_X} {w : am_G × Nat} {I : Nat → am_H → dm_D → Prop} (step : ∀ i h d, i < 16 → I i h d → ∃ a1 a2 a3, F_L_acts X w (.inl 4, 3) (iI i) h d = some a1 ∧ a1.1 ≠ 0 ∧ F_L_holds X a1.2.1 a1.2.2 = some a2 ∧ a2.1 ≠ 0 ∧ F_L_comes X w a2.2.1 a2.2.2 = some a3 ∧ a3.1 ≠ 0 ∧ I (i + 1) a3.2.1 a3.2.2) : ∀ (k i : Nat) (h : am_H) (d : dm_D), i + k = 16 → I i h d → dm_V RL "law" cL_law 4 (some .boolean) 13 498 0 X lawTm 44 [some dm_s, some (.inr w), some (am_r (.inl 1) 0), some (am_i (iI i))] [] h d := by
  intro k
  induction k with
  | zero =>
    intro i h d hi _
    obtain rfl : i = 16 := by omega
    refine ql_i3 dL_law_44 ?_
    refine dr_bipush (iI (16 : Nat)) dL_law_45 rfl ?_
    refine dr_ic_ge 83 dL_law_47 (by decide) (fun _ => ?_) (fun z => absurd (Int32.le_refl _) z)
    refine dr_iconst 1 dL_law_83 (by decide) ?_
    exact dm_done ⟨rfl, rfl⟩
  | succ k ih =>
    intro i h d hi hI
    obtain ⟨⟨x1, h1, d1⟩, ⟨x2, h2, d2⟩, ⟨x3, h3, d3⟩, e1, n1, e2, n2, e3, n3, hI⟩ := step i h d (by omega) hI
    refine ql_i3 dL_law_44 ?_
    refine dr_bipush (iI (16 : Nat)) dL_law_45 rfl ?_
    refine dr_ic_ge 83 dL_law_47 (by decide) (fun z => absurd z (by rw [xI_le (by omega) (by omega) (by omega) (by omega)]; omega)) (fun _ => ?_)
    refine ql_a2 dL_law_50 ?_
    refine ql_a1 dL_law_51 ?_
    refine ql_a0 dL_law_52 ?_
    refine ql_i3 dL_law_53 ?_
    refine dc_S4i dL_law_54 ml_L_230 mc_L_acts (C_L_acts e1) rfl rfl rfl ?_
    refine dr_if_eq 75 dL_law_57 (by decide) (fun z => absurd z n1) (fun _ => ?_)
    refine ql_a2 dL_law_60 ?_
    refine dc_S1i dL_law_61 ml_L_234 mc_L_holds (C_L_holds e2) rfl rfl rfl ?_
    refine dr_if_eq 75 dL_law_64 (by decide) (fun z => absurd z n2) (fun _ => ?_)
    refine ql_a2 dL_law_67 ?_
    refine ql_a1 dL_law_68 ?_
    refine dc_S2i dL_law_69 ml_L_238 mc_L_comes (C_L_comes e3) rfl rfl rfl ?_
    refine dr_if_ne 77 dL_law_72 (by decide) (fun _ => ?_) (fun z => absurd z n3)
    refine qn_m_3 (v := iI ((i + 1 : Nat) : Int)) dL_law_77 rfl trivial (iI_a _ _) ?_
    refine dr_goto 44 dL_law_80 (by decide) ?_
    exact ih (i + 1) h3 d3 (by omega) hI
theorem law_tail {X : dm_X} {w t q : am_G × Nat} {I : Nat → am_H → dm_D → Prop} {h h1 h2 : am_H} {d d1 : dm_D} {v x : Int32} (step : ∀ i h d, i < 16 → I i h d → ∃ a1 a2 a3, F_L_acts X w (.inl 4, 3) (iI i) h d = some a1 ∧ a1.1 ≠ 0 ∧ F_L_holds X a1.2.1 a1.2.2 = some a2 ∧ a2.1 ≠ 0 ∧ F_L_comes X w a2.2.1 a2.2.2 = some a3 ∧ a3.1 ≠ 0 ∧ I (i + 1) a3.2.1 a3.2.2)
    (e1 : dm_fr d w 12 10 = some t) (e2 : F_L_feeds X t h d = some (x, h1, d1)) (n2 : x ≠ 0) (hf : dm_full d1) (e3 : f_X11_readText h1 = some (.inl v, h2)) (e4 : dm_fr d1 w 12 7 = some q) (e5 : dm_rk d1 q 16 = some ()) (e6 : F_Jx4a65c_size_8abf5 X q d1 = some v) (h0 : I 0 h2 d1) : dm_V RL "law" cL_law 4 (some .boolean) 13 498 0 X lawTm 12 [some dm_s, some (.inr w), none, none] [am_r (.inl 1) 0] h d := by
  refine qs_a2 dL_law_12 rfl trivial ?_
  refine ql_a2 dL_law_13 ?_
  refine ql_a1 dL_law_14 ?_
  refine dr_getR dL_law_15 fg_L_219 e1 ?_
  refine dc_S2i dL_law_18 ml_L_223 mc_L_feeds (C_L_feeds e2) rfl rfl rfl ?_
  refine dr_if_eq 40 dL_law_21 (by decide) (fun z => absurd z n2) (fun _ => ?_)
  refine ql_a2 dL_law_24 ?_
  refine dc_C0i dL_law_25 ml_L_227 mc_X11_readText (c_X11_readText e3) rfl hf rfl rfl rfl ?_
  refine ql_a1 dL_law_28 ?_
  refine dr_getR dL_law_29 fg_L_40 e4 ?_
  refine dc_F0i (C := (RJx4a65c, TJx4a65c, 3)) dL_law_32 ml_L_46 mf_Jx4a65c_size_8abf5 (List.mem_of_getElem? (i := 2) rfl) (C_Jx4a65c_size_8abf5 e6) (dm_rk_some e5) rfl rfl rfl rfl ?_
  refine dr_ic_eq 42 dL_law_37 (by decide) (fun _ => ?_) (fun z => absurd rfl z)
  refine dr_iconst (iI (0 : Nat)) dL_law_42 rfl ?_
  refine qs_i3 dL_law_43 rfl trivial ?_
  exact law_loop step 16 0 h2 d1 rfl h0
def dm_0 : dm_D := (0, 0, fun _ => .inr (.inr (.inl (0, fun _ => none))))
theorem nw_L_27 : Cond.classLink RL 27 RX11 ∈ am_gT ∧ Cond.instantiable RX11 13 ∈ am_gT ∧ Cond.initialized RX11 ∈ am_gT := by decide +kernel
section LAW
variable {p : Program} {l : Launch} {e9 : Env} {R : Room} {s : State} {m : MethodId} {args : Array Value} {below : List Frame} {meth : Method} {c : Code} {ad : am_G → Nat → Nat} {D : va_G} {cA : Nat → ClassId} {Z : State → Prop} {X : dm_X}
theorem law_num {x y z w c2 s2 c3 s3 k1 k2 k3 : Nat} (h6 : k1 + k2 + 14 = k3) (h1 : x ≤ y + (c3 + k1) + (s3 + k2)) (h2 : c3 ≤ c2 + 1) (h3 : s3 ≤ s2 + 13) (h4 : c2 + s2 + y = z) (h5 : z + 0 ≤ y + w) : x + 0 ≤ y + (w + k3) := by omega
theorem law_ctor {w : am_G × Nat} {h : am_H} {d : dm_D} {H : Heap} {locs : List Loc} {cs ss : Nat} {ls : Array Slot} (F : dm_F RL "law" cL_law 4 (some .boolean) 13 498 0 X p l R s m args meth c ad D cA) (hO : va_AO RX5 s)
    (K : ∀ (pc' : Nat) (st' : List am_v) (h' : am_H) (d' : dm_D) (cs' ss' : Nat) (H' : Heap) (locs' : List Loc) (ls' : Array Slot), lawTm pc' st' h' d' → dm_WH ad D cA h' d' H' → va_S (dm_lo ad) s.heap H' locs' → hsz H' + 0 ≤ hsz s.heap + d'.2.1 → cs' ≤ dm_L - 0 → ss' ≤ dm_L - 0 → ls'.size = 4 → W p l e9 R s m args below meth c H' locs' cs' ss' Z (F0 m pc' ls' (st'.map (am_enc ad))))
    (hc : d.2.1 + 4311 ≤ dm_L) (hd : ad_at ad (ad (.inl 0) d.1)) (tail : dm_V RL "law" cL_law 4 (some .boolean) 13 498 0 X lawTm 12 [some dm_s, some (.inr w), none, none] [am_r (.inl 1) 0] h00 (dm_bt d))
    (hW : dm_WH ad D cA h d H) (hS : va_S (dm_lo ad) s.heap H locs) (hz : hsz H + 0 ≤ hsz s.heap + d.2.1) (hL : am_L ad 4 [some dm_s, some (.inr w), none, none] ls) : W p l e9 R s m args below meth c H locs cs ss Z (F0 m 5 ls []) := by
  have hts := F.2.2.2.2.1
  have hE := F.2.2.2.2.2.1.1
  have ha := F.2.2.2.2.2.2.2.2.1
  have hfl := F.2.2.2.2.2.2.2.2.2.2.2.2.2.2
  have hfr9 := F.2.2.2.2.2.2.2.2.2.2.1
  have hlc9 := F.2.2.2.2.2.2.2.2.2.2.2.1
  have hc9 := F.2.2.2.2.2.2.2.2.2.2.2.2.1
  have hs9 := F.2.2.2.2.2.2.2.2.2.2.2.2.2.1
  obtain ⟨hin, ⟨ty0, hty⟩, hnm⟩ := am_cl 11 (RX11, TX11, 13) rfl
  refine W_exact (fun c2 s2 z1 z2 _ _ => ?_)
  refine va_new (fs := [.null, .null, .null, .null, .int 0, .null, .int 0, .null, .null, .null, .null, .null, .null]) (ci := 11) (C := RX11) (T := TX11) (N := 13) F.1 F.2.1 hts hin ty0 hty F.2.2.2.1 (hts _ nw_L_27.1) (hts _ nw_L_27.2.1) (hts _ nw_L_27.2.2) hE.1 hW.1 (dm_ws_D ha) hS hE.2.2.1 rfl (fun j hj => ?_) (by omega) (show s2 + 13 ≤ R.slots by omega) dL_law_5 (fun q H1 p1 p2 p3 => ?_)
  · have := bq_d11 j hj
    rw [hty j hj] at this
    exact Option.some.inj this
  · refine W_exact (fun c3 s3 z3 z4 z5 z6 => ?_)
    obtain ⟨rfl, hz1⟩ := dm_newq ha p1 p2 hW.2.1 (by omega)
    refine lv_dup F.1 F.2.1 dL_law_8 rfl ?_
    have hb : ad (.inl 0) d.1 = ad (.inl 0) 0 + d.1 := ha d.1
    have hlo : ∀ q, ad (.inl 0) d.1 ≤ q → dm_lo ad q := fun q hq => by
      show ad (.inl 0) 0 ≤ q
      omega
    have hM := M_X11 kl5 kl1 kl3 kl10 kl9 kl8 kl6 (fun _ _ => ⟨_, rfl⟩) M_X5 M_X1 M_X3 M_X10 M_X9 M_X8 M_X6 l (dm_lo ad) ad D cA (ad (.inl 0) d.1) hfl hlo
    have p4 : va_P D vwCl (bw (ad (.inl 0) d.1) [.inr (11, [.null, .null, .null, .null, .int 0, .null, .int 0, .null, .null, .null, .null, .null, .null])]) H1 := p1.right
    obtain ⟨y1, y2, y4, y5, y6, y7⟩ := bq_y11
    have hr := va_runI (p := p) (l := l) (e := e9) (R := R) (below := below) (meth := meth) (locs := locs) (cells := c3) (slots := s3) (H := H1) (As := []) (b := ad (.inl 0) d.1) (rest := [.ref (ad (.inl 0) d.1)]) (g := F0 m 9 ls [.ref (ad (.inl 0) d.1), .ref (ad (.inl 0) d.1)]) (own := RL) (index := 218) (Ts := am_gT) (cc := cL_law) (nL := 4) (n := 0) ⟨F.1, F.2.1, F.2.2.1, F.2.2.2.1, hts⟩ hM
      ⟨⟨rfl, rfl, Nat.le_trans (ble rfl) hfr9, Nat.le_trans (ble rfl) hlc9, am_pay hts y1, List.mem_cons_self, hts _ y1, hts _ y4, ⟨y5, y6⟩, (fun sig h => by rw [h] at y7; exact (Option.some.inj y7).symm), hts _ ml_L_218⟩, rfl, hts _ y2⟩
      ⟨fun a U g mk h => ⟨h.1, h.2.1, am_E_blind h.2.2.1 g mk a, va_AO.moved (u := U) (U := U.calling g mk a) (Vm.Alike.refl U.vm) h.2.2.2⟩, fun U hU hw => ⟨rfl, ⟨by rw [hU]; exact p4, by rw [hU]; omega⟩, (dm_E_call F.2.2.2.2.2.1 p3 hU hw).1, va_AO.moved hw.alike hO⟩⟩ rfl rfl hL.1 rfl (ble rfl) dL_law_9 ⟨by omega, by omega⟩
    refine va_callv hr p3 (fun q _ h => hlo q h) (fun q h => hlo q h) (fun u t H2 locs2 ht hvm hw hB hz2 hk2 hS2 => ?_)
    obtain ⟨p5, z7⟩ := hB
    rw [ht] at p5 z7
    refine hsz_le (fun y8 y9 => ?_)
    have hWW : dm_WH ad D cA h00 (dm_bt d) H2 := bt_WH ha hd p1.left hW.2.2.2 p5 (fun q hq => hk2 q (by omega) (by omega)) (by omega) hc
    have e0 : Value.ref (ad (.inl 0) d.1) = am_enc ad (am_r (.inl 1) 0) := by
      have : ad (.inl 1) 0 = ad (.inl 0) d.1 := ad_x hd (show 0 < 18 by omega)
      show _ = Value.ref (ad (.inl 1) 0)
      rw [this]
    rw [e0]
    have q1 : hsz H2 + 0 ≤ hsz s.heap + (d.2.1 + 4311) := law_num rfl y8 z5 z6 z1 hz
    exact tail p l e9 R s m args below meth c ad D cA Z F K _ _ H2 locs2 ls hWW hS2 q1 hL
theorem law_walk {w : am_G × Nat} {h : am_H} {d : dm_D} {ls : Array Slot} (F : dm_F RL "law" cL_law 4 (some .boolean) 13 498 0 X p l R s m args meth c ad D cA) (hO : va_AO RX5 s) (hs0 : s.heap.size = ad (.inl 0) 0)
    (K : ∀ (pc' : Nat) (st' : List am_v) (h' : am_H) (d' : dm_D) (cs' ss' : Nat) (H' : Heap) (locs' : List Loc) (ls' : Array Slot), lawTm pc' st' h' d' → dm_WH ad D cA h' d' H' → va_S (dm_lo ad) s.heap H' locs' → hsz H' + 0 ≤ hsz s.heap + d'.2.1 → cs' ≤ dm_L - 0 → ss' ≤ dm_L - 0 → ls'.size = 4 → W p l e9 R s m args below meth c H' locs' cs' ss' Z (F0 m pc' ls' (st'.map (am_enc ad))))
    (hg : F_X12_grown X (.inl 4, 3) dm_0 = some (w, d)) (hc : d.2.1 + 4311 ≤ dm_L) (hd : ad_at ad (ad (.inl 0) d.1)) (tail : dm_V RL "law" cL_law 4 (some .boolean) 13 498 0 X lawTm 12 [some dm_s, some (.inr w), none, none] [am_r (.inl 1) 0] h00 (dm_bt d))
    (hL : am_L ad 4 [some dm_s, none, none, none] ls) : W p l e9 R s m args below meth c s.heap [] 0 0 Z (F0 m 0 ls []) := by
  have hts := F.2.2.2.2.1
  have ha := F.2.2.2.2.2.2.2.2.1
  have hfl := F.2.2.2.2.2.2.2.2.2.2.2.2.2.2
  have hfr9 := F.2.2.2.2.2.2.2.2.2.2.1
  have hlc9 := F.2.2.2.2.2.2.2.2.2.2.2.1
  have hc9 := F.2.2.2.2.2.2.2.2.2.2.2.2.1
  have hs9 := F.2.2.2.2.2.2.2.2.2.2.2.2.2.1
  have hW0 : dm_WH ad D cA h00 dm_0 s.heap := ⟨fun k q hq => by have := (dm_ws_in hq).1; exact absurd this (Nat.not_lt_zero k), by rw [hs0]; rfl, Nat.zero_le _, fun i g hi => absurd hi (Nat.not_lt_zero i)⟩
  refine lv_aload_n F.1 F.2.1 dL_law_0 rfl (hL.2.2 0 _ rfl) ?_
  obtain ⟨y1, y2, y4, y5, y6, y7⟩ := mc_X12_grown
  have hr := va_runS (p := p) (l := l) (e := e9) (R := R) (below := below) (meth := meth) (locs := []) (cells := 0) (slots := 0) (H := s.heap) (As := [am_enc ad dm_s]) (rest := []) (g := F0 m 1 ls [am_enc ad dm_s]) (own := RL) (index := 214) (Ts := am_gT) (cc := cL_law) (nL := 4) (n := 1)
    ⟨F.1, F.2.1, F.2.2.1, F.2.2.2.1, hts⟩ (C_X12_grown (X := X) (h := h00) hg l ad D cA ha hfl) ⟨⟨rfl, rfl, Nat.le_trans (ble rfl) hfr9, Nat.le_trans (ble rfl) hlc9, am_pay hts y1, List.mem_cons_self, hts _ y1, hts _ y4, ⟨y5, y6⟩, (fun sig h => by rw [h] at y7; exact (Option.some.inj y7).symm), hts _ ml_L_214⟩, hts _ y2⟩
    ⟨dm_blind _ _ _ _ _ _ _, dm_pre F.2.2.2.2.2.1 hW0 va_S.rf⟩ rfl rfl hL.1 rfl (ble rfl) dL_law_1 ⟨by show 0 + (dm_L - 0) ≤ _; omega, by show 0 + (dm_L - 0) ≤ _; omega⟩
  intro T hT X9
  obtain ⟨v, st₀, t, T', L9, a1, a2, a3, a4, -, ⟨⟨v9, h9, d9, hv, ⟨rfl, rfl, rfl⟩, hw, hz9⟩, hz1, hk⟩, st9⟩ := hr T hT X9
  have hv : v = some (am_enc ad (.inr w)) := by cases hv; rfl
  subst hv
  rw [a1] at hz1 hk hz9
  have hS1 : va_S (dm_lo ad) s.heap T'.heap ([] ++ L9) := ⟨by rw [a4]; exact hz1, fun q h1 h2 => by rw [a4]; exact hk q h1 h2, fun q hq => by
    rcases List.mem_append.mp hq with h | h
    · exact absurd h List.not_mem_nil
    · exact a3 q h⟩
  obtain ⟨lv, h1, h2⟩ := hL.list
  have key : W p l e9 R s m args below meth c T'.heap ([] ++ L9) (0 + (dm_L - 0)) (0 + (dm_L - 0)) Z (F0 m 4 ls [am_enc ad (.inr w)]) := by
    refine lv_astore_n F.1 F.2.1 dL_law_4 rfl h1 (by decide) rfl (fun ls' hl => ?_)
    exact law_ctor F hO K hc hd tail (by rw [a4]; exact hw) hS1 (by rw [a4]; omega) (am_L.st1 (i := 1) h2 hl (by decide) trivial)
  obtain ⟨t2, b1, b2⟩ := key T' rfl a2
  exact ⟨t2, st9 t2 b1, b2⟩
end LAW
