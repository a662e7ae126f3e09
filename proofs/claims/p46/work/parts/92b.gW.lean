noncomputable def F_L_cell (X : dm_X) (q0 : am_G × Nat) (x1 : Int32) (d : dm_D) : Option Int32 :=
  (dm_ln X d q0).bind (fun a1 => if a1 ≤ x1 then (some (((1664525 : Int32) * x1) + (40394 : Int32))) else ((dm_li X d q0 x1).bind (fun a2 => some a2)))
theorem C_L_cell {X : dm_X} {q0 : am_G × Nat} {x1 : Int32} {h : am_H} {d : dm_D} {a : Int32} (e : F_L_cell X q0 x1 d = some a) : dm_Mx X yL_cell cL_cell 2 (some .int) 0 0 [.inr q0, am_i x1] h d (some (am_i a)) h d := by
  refine dm_M.ofx (A := [some (.inr q0), some (am_i x1)]) (by decide +kernel) rfl (ble rfl) (fun Q hQ => ?_)
  have H : wp (F_L_cell X q0 x1 d) (fun a => Q (some (am_i a)) h d) := ⟨_, e, hQ⟩
  unfold F_L_cell at H
  refine ql_i1 dL_cell_0 ?_
  refine ql_a0 dL_cell_1 ?_
  obtain ⟨a1, e1, H⟩ := wp_b H
  refine dr_len dL_cell_2 e1 ?_
  refine dr_ic_ge 12 dL_cell_3 (by decide) (fun c1 => ?_) (fun c1 => ?_)
  · replace H := wp_t c1 H
    refine dr_ldc (1664525) dL_cell_12 kc_L_7 ?_
    refine ql_i1 dL_cell_14 ?_
    refine dr_imul dL_cell_15 ?_
    refine dr_ldc (40394) dL_cell_16 kc_L_8 ?_
    refine dr_iadd dL_cell_18 ?_
    replace H := wp_s H
    exact dr_iret dL_cell_19 rfl rfl H
  · replace H := wp_f c1 H
    refine ql_a0 dL_cell_6 ?_
    refine ql_i1 dL_cell_7 ?_
    obtain ⟨a2, e2, H⟩ := wp_b H
    refine dr_iald dL_cell_8 e2 ?_
    refine dr_goto 19 dL_cell_9 (by decide) ?_
    replace H := wp_s H
    exact dr_iret dL_cell_19 rfl rfl H
noncomputable def F_L_pick (X : dm_X) (q0 : am_G × Nat) (x1 : Int32) (x2 : Int32) (d : dm_D) : Option Int32 :=
  (F_L_cell X q0 x1 d).bind (fun a1 => if x2 = 0 then none else (some ((a1 &&& (2147483647 : Int32)) - (a1 &&& (2147483647 : Int32)) / x2 * x2)))
theorem C_L_pick {X : dm_X} {q0 : am_G × Nat} {x1 : Int32} {x2 : Int32} {h : am_H} {d : dm_D} {a : Int32} (e : F_L_pick X q0 x1 x2 d = some a) : dm_Mx X yL_pick cL_pick 3 (some .int) 1 21 [.inr q0, am_i x1, am_i x2] h d (some (am_i a)) h d := by
  refine dm_M.ofx (A := [some (.inr q0), some (am_i x1), some (am_i x2)]) (by decide +kernel) rfl (ble rfl) (fun Q hQ => ?_)
  have H : wp (F_L_pick X q0 x1 x2 d) (fun a => Q (some (am_i a)) h d) := ⟨_, e, hQ⟩
  unfold F_L_pick at H
  refine ql_a0 dL_pick_0 ?_
  refine ql_i1 dL_pick_1 ?_
  obtain ⟨a1, e1, H⟩ := wp_b H
  refine dc_S2i dL_pick_2 ml_L_9 mc_L_cell (C_L_cell e1) rfl rfl rfl ?_
  refine dr_ldc (2147483647) dL_pick_5 kc_L_15 ?_
  refine dr_iand dL_pick_7 ?_
  refine ql_i2 dL_pick_8 ?_
  obtain ⟨b1, H⟩ := wp_d H
  refine dr_irem dL_pick_9 b1 ?_
  replace H := wp_s H
  exact dr_iret dL_pick_10 rfl rfl H
noncomputable def S_X12_scratchesOf (X : dm_X)  : dm_S dm_D → Option (dm_S dm_D ⊕ (Int32 × dm_D)) := fun s => match s with
  | (12, [x1, x2], [q3], d) => (dm_rk d q3 15).bind (fun u1 => (F_Jx35411_hasNext_aae02 X q3 d).bind (fun a1 => if a1 = 0 then (some (.inr (x2, d))) else ((dm_rk d q3 15).bind (fun u2 => (F_Jx35411_next_0502b X q3 d).bind (fun a2 => (dm_ck a2.2 a2.1).bind (fun u3 => (dm_li X a2.2 a2.1 (iI (0))).bind (fun a3 => if a3 = x1 then (some (.inl (12, [x1, (x2 + (iI (1)))], [q3], a2.2))) else (some (.inl (12, [x1, (x2 + (iI (0)))], [q3], a2.2))))))))))
  | _ => none
noncomputable def F_X12_scratchesOf_12 (X : dm_X) (x1 : Int32) (x2 : Int32) (q3 : am_G × Nat) (d : dm_D) : Option (Int32 × dm_D) := lp (S_X12_scratchesOf X) (12, [x1, x2], [q3], d)
theorem E_X12_scratchesOf_12 (X : dm_X) (x1 : Int32) (x2 : Int32) (q3 : am_G × Nat) (d : dm_D) : F_X12_scratchesOf_12 X x1 x2 q3 d = ((dm_rk d q3 15).bind (fun u1 => (F_Jx35411_hasNext_aae02 X q3 d).bind (fun a1 => if a1 = 0 then (some (x2, d)) else ((dm_rk d q3 15).bind (fun u2 => (F_Jx35411_next_0502b X q3 d).bind (fun a2 => (dm_ck a2.2 a2.1).bind (fun u3 => (dm_li X a2.2 a2.1 (iI (0))).bind (fun a3 => if a3 = x1 then (F_X12_scratchesOf_12 X x1 (x2 + (iI (1))) q3 a2.2) else (F_X12_scratchesOf_12 X x1 (x2 + (iI (0))) q3 a2.2))))))))) := by
  show lp _ _ = _
  rw [lp_eq, S_X12_scratchesOf]
  simp only [lpk_i, lpk_b, lpk_n, lpk_j, lpk_r] <;> rfl
noncomputable def F_X12_scratchesOf (X : dm_X) (q0 : am_G × Nat) (x1 : Int32) (d : dm_D) : Option (Int32 × dm_D) :=
  (dm_fr d q0 12 9).bind (fun w1 => (dm_rk d w1 16).bind (fun u1 => (F_Jx4a65c_iterator_32c93 X w1 d).bind (fun a1 => F_X12_scratchesOf_12 X x1 (iI (0)) a1.1 a1.2)))
theorem C_X12_scratchesOf_L {X : dm_X} {h : am_H} {k0 : Nat} {Q : Option am_v → am_H → dm_D → Prop} : ∀ s, wp (lp (S_X12_scratchesOf X) s) (fun a => Q (some (am_i a.1)) h a.2) → ((∀ x1 x2 q3 d, s = (12, [x1, x2], [q3], d) → dm_V RX12 "scratchesOf" cX12_scratchesOf 5 (some .int) 3 61 k0 X (dm_Tm cX12_scratchesOf (some .int) Q) 12 [none, some (am_i x1), some (am_i x2), some (.inr q3), none] [] h d)) := by
  refine lp_ind _ _ (fun s H => fun x1 x2 q3 d e => ?_)
  · subst e
    rw [S_X12_scratchesOf] at H
    refine ql_a3 dX12_scratchesOf_12 ?_
    obtain ⟨u1, e2, H⟩ := wp_b H
    obtain ⟨a1, e1, H⟩ := wp_b H
    refine dc_F0i (C := (RJx35411, TJx35411, 4)) dX12_scratchesOf_13 ml_X12_120 mf_Jx35411_hasNext_aae02 (List.mem_of_getElem? (i := 6) rfl) (C_Jx35411_hasNext_aae02 e1) (dm_rk_some e2) rfl rfl rfl rfl ?_
    refine dr_if_eq 51 dX12_scratchesOf_18 (by decide) (fun c1 => ?_) (fun c1 => ?_)
    · replace H := wp_t c1 H
      refine ql_i2 dX12_scratchesOf_51 ?_
      replace H := lp_re H
      exact dr_iret dX12_scratchesOf_52 rfl rfl H
    · replace H := wp_f c1 H
      refine ql_a3 dX12_scratchesOf_21 ?_
      obtain ⟨u2, e4, H⟩ := wp_b H
      obtain ⟨a2, e3, H⟩ := wp_b H
      refine dc_F0r (C := (RJx35411, TJx35411, 4)) dX12_scratchesOf_22 ml_X12_126 mf_Jx35411_next_0502b (List.mem_of_getElem? (i := 7) rfl) (C_Jx35411_next_0502b e3) (dm_rk_some e4) rfl rfl rfl rfl ?_
      obtain ⟨u3, e5, H⟩ := wp_b H
      refine dr_cast dX12_scratchesOf_27 fc_X12_112 (dm_ck_some e5) ?_
      refine qs_a4 dX12_scratchesOf_30 rfl trivial ?_
      refine ql_i2 dX12_scratchesOf_32 ?_
      refine ql_a4 dX12_scratchesOf_33 ?_
      refine dr_iconst (iI (0)) dX12_scratchesOf_35 rfl ?_
      obtain ⟨a3, e6, H⟩ := wp_b H
      refine dr_iald dX12_scratchesOf_36 e6 ?_
      refine ql_i1 dX12_scratchesOf_37 ?_
      refine dr_ic_ne 45 dX12_scratchesOf_38 (by decide) (fun c2 => ?_) (fun c2 => ?_)
      · replace H := wp_f c2 H
        refine dr_iconst (iI (0)) dX12_scratchesOf_45 rfl ?_
        refine dr_iadd dX12_scratchesOf_46 ?_
        refine qs_i2 dX12_scratchesOf_47 rfl trivial ?_
        refine dr_goto 12 dX12_scratchesOf_48 (by decide) ?_
        exact dr_wk (am_n (am_s (am_s (am_s (am_n am_0))))) ((lp_in H) _ _ _ _ rfl)
      · replace H := wp_t c2 H
        refine dr_iconst (iI (1)) dX12_scratchesOf_41 rfl ?_
        refine dr_goto 46 dX12_scratchesOf_42 (by decide) ?_
        refine dr_iadd dX12_scratchesOf_46 ?_
        refine qs_i2 dX12_scratchesOf_47 rfl trivial ?_
        refine dr_goto 12 dX12_scratchesOf_48 (by decide) ?_
        exact dr_wk (am_n (am_s (am_s (am_s (am_n am_0))))) ((lp_in H) _ _ _ _ rfl)
theorem C_X12_scratchesOf {X : dm_X} {q0 : am_G × Nat} {x1 : Int32} {h : am_H} {d : dm_D} {a : Int32 × dm_D} (e : F_X12_scratchesOf X q0 x1 d = some a) : dm_Mx X yX12_scratchesOf cX12_scratchesOf 5 (some .int) 3 61 [.inr q0, am_i x1] h d (some (am_i a.1)) h a.2 := by
  refine dm_M.ofx (A := [some (.inr q0), some (am_i x1), none, none, none]) (by decide +kernel) rfl (ble rfl) (fun Q hQ => ?_)
  have H : wp (F_X12_scratchesOf X q0 x1 d) (fun a => Q (some (am_i a.1)) h a.2) := ⟨_, e, hQ⟩
  unfold F_X12_scratchesOf at H
  refine dr_iconst (iI (0)) dX12_scratchesOf_0 rfl ?_
  refine qs_i2 dX12_scratchesOf_1 rfl trivial ?_
  refine ql_a0 dX12_scratchesOf_2 ?_
  obtain ⟨w1, e1, H⟩ := wp_b H
  refine dr_getR dX12_scratchesOf_3 fg_X12_36 e1 ?_
  obtain ⟨u1, e3, H⟩ := wp_b H
  obtain ⟨a1, e2, H⟩ := wp_b H
  refine dc_F0r (C := (RJx4a65c, TJx4a65c, 3)) dX12_scratchesOf_6 ml_X12_116 mf_Jx4a65c_iterator_32c93 (List.mem_of_getElem? (i := 5) rfl) (C_Jx4a65c_iterator_32c93 e2) (dm_rk_some e3) rfl rfl rfl rfl ?_
  refine qs_a3 dX12_scratchesOf_11 rfl trivial ?_
  exact dr_wk (am_n (am_s (am_s (am_s (am_n am_0))))) ((C_X12_scratchesOf_L _ H) _ _ _ _ rfl)
noncomputable def S_X12_engraved (X : dm_X)  : dm_S dm_D → Option (dm_S dm_D ⊕ (Int32 × dm_D)) := fun s => match s with
  | (12, [x1], [q2], d) => (dm_rk d q2 15).bind (fun u1 => (F_Jx35411_hasNext_aae02 X q2 d).bind (fun a1 => if a1 = 0 then (some (.inr (x1, d))) else ((dm_rk d q2 15).bind (fun u2 => (F_Jx35411_next_0502b X q2 d).bind (fun a2 => (dm_ck a2.2 a2.1).bind (fun u3 => (dm_li X a2.2 a2.1 (iI (1))).bind (fun a3 => some (.inl (12, [(x1 + a3)], [q2], a2.2)))))))))
  | _ => none
noncomputable def F_X12_engraved_12 (X : dm_X) (x1 : Int32) (q2 : am_G × Nat) (d : dm_D) : Option (Int32 × dm_D) := lp (S_X12_engraved X) (12, [x1], [q2], d)
theorem E_X12_engraved_12 (X : dm_X) (x1 : Int32) (q2 : am_G × Nat) (d : dm_D) : F_X12_engraved_12 X x1 q2 d = ((dm_rk d q2 15).bind (fun u1 => (F_Jx35411_hasNext_aae02 X q2 d).bind (fun a1 => if a1 = 0 then (some (x1, d)) else ((dm_rk d q2 15).bind (fun u2 => (F_Jx35411_next_0502b X q2 d).bind (fun a2 => (dm_ck a2.2 a2.1).bind (fun u3 => (dm_li X a2.2 a2.1 (iI (1))).bind (fun a3 => F_X12_engraved_12 X (x1 + a3) q2 a2.2)))))))) := by
  show lp _ _ = _
  rw [lp_eq, S_X12_engraved]
  simp only [lpk_i, lpk_b, lpk_n, lpk_j, lpk_r] <;> rfl
noncomputable def F_X12_engraved (X : dm_X) (q0 : am_G × Nat) (d : dm_D) : Option (Int32 × dm_D) :=
  (dm_fr d q0 12 7).bind (fun w1 => (dm_rk d w1 16).bind (fun u1 => (F_Jx4a65c_iterator_32c93 X w1 d).bind (fun a1 => F_X12_engraved_12 X (iI (0)) a1.1 a1.2)))
theorem C_X12_engraved_L {X : dm_X} {h : am_H} {k0 : Nat} {Q : Option am_v → am_H → dm_D → Prop} : ∀ s, wp (lp (S_X12_engraved X) s) (fun a => Q (some (am_i a.1)) h a.2) → ((∀ x1 q2 d, s = (12, [x1], [q2], d) → dm_V RX12 "engraved" cX12_engraved 4 (some .int) 3 61 k0 X (dm_Tm cX12_engraved (some .int) Q) 12 [none, some (am_i x1), some (.inr q2), none] [] h d)) := by
  refine lp_ind _ _ (fun s H => fun x1 q2 d e => ?_)
  · subst e
    rw [S_X12_engraved] at H
    refine ql_a2 dX12_engraved_12 ?_
    obtain ⟨u1, e2, H⟩ := wp_b H
    obtain ⟨a1, e1, H⟩ := wp_b H
    refine dc_F0i (C := (RJx35411, TJx35411, 4)) dX12_engraved_13 ml_X12_120 mf_Jx35411_hasNext_aae02 (List.mem_of_getElem? (i := 6) rfl) (C_Jx35411_hasNext_aae02 e1) (dm_rk_some e2) rfl rfl rfl rfl ?_
    refine dr_if_eq 40 dX12_engraved_18 (by decide) (fun c1 => ?_) (fun c1 => ?_)
    · replace H := wp_t c1 H
      refine ql_i1 dX12_engraved_40 ?_
      replace H := lp_re H
      exact dr_iret dX12_engraved_41 rfl rfl H
    · replace H := wp_f c1 H
      refine ql_a2 dX12_engraved_21 ?_
      obtain ⟨u2, e4, H⟩ := wp_b H
      obtain ⟨a2, e3, H⟩ := wp_b H
      refine dc_F0r (C := (RJx35411, TJx35411, 4)) dX12_engraved_22 ml_X12_126 mf_Jx35411_next_0502b (List.mem_of_getElem? (i := 7) rfl) (C_Jx35411_next_0502b e3) (dm_rk_some e4) rfl rfl rfl rfl ?_
      obtain ⟨u3, e5, H⟩ := wp_b H
      refine dr_cast dX12_engraved_27 fc_X12_112 (dm_ck_some e5) ?_
      refine qs_a3 dX12_engraved_30 rfl trivial ?_
      refine ql_i1 dX12_engraved_31 ?_
      refine ql_a3 dX12_engraved_32 ?_
      refine dr_iconst (iI (1)) dX12_engraved_33 rfl ?_
      obtain ⟨a3, e6, H⟩ := wp_b H
      refine dr_iald dX12_engraved_34 e6 ?_
      refine dr_iadd dX12_engraved_35 ?_
      refine qs_i1 dX12_engraved_36 rfl trivial ?_
      refine dr_goto 12 dX12_engraved_37 (by decide) ?_
      exact dr_wk (am_n (am_s (am_s (am_n am_0)))) ((lp_in H) _ _ _ rfl)
theorem C_X12_engraved {X : dm_X} {q0 : am_G × Nat} {h : am_H} {d : dm_D} {a : Int32 × dm_D} (e : F_X12_engraved X q0 d = some a) : dm_Mx X yX12_engraved cX12_engraved 4 (some .int) 3 61 [.inr q0] h d (some (am_i a.1)) h a.2 := by
  refine dm_M.ofx (A := [some (.inr q0), none, none, none]) (by decide +kernel) rfl (ble rfl) (fun Q hQ => ?_)
  have H : wp (F_X12_engraved X q0 d) (fun a => Q (some (am_i a.1)) h a.2) := ⟨_, e, hQ⟩
  unfold F_X12_engraved at H
  refine dr_iconst (iI (0)) dX12_engraved_0 rfl ?_
  refine qs_i1 dX12_engraved_1 rfl trivial ?_
  refine ql_a0 dX12_engraved_2 ?_
  obtain ⟨w1, e1, H⟩ := wp_b H
  refine dr_getR dX12_engraved_3 fg_X12_30 e1 ?_
  obtain ⟨u1, e3, H⟩ := wp_b H
  obtain ⟨a1, e2, H⟩ := wp_b H
  refine dc_F0r (C := (RJx4a65c, TJx4a65c, 3)) dX12_engraved_6 ml_X12_116 mf_Jx4a65c_iterator_32c93 (List.mem_of_getElem? (i := 5) rfl) (C_Jx4a65c_iterator_32c93 e2) (dm_rk_some e3) rfl rfl rfl rfl ?_
  refine qs_a2 dX12_engraved_11 rfl trivial ?_
  exact dr_wk (am_n (am_s (am_s (am_n am_0)))) ((C_X12_engraved_L _ H) _ _ _ rfl)
noncomputable def S_X12_whole (X : dm_X)  : dm_S dm_D → Option (dm_S dm_D ⊕ (Int32 × dm_D)) := fun s => match s with
  | (12, [x1], [q2], d) => (dm_rk d q2 15).bind (fun u1 => (F_Jx35411_hasNext_aae02 X q2 d).bind (fun a1 => if a1 = 0 then (some (.inr (x1, d))) else ((dm_rk d q2 15).bind (fun u2 => (F_Jx35411_next_0502b X q2 d).bind (fun a2 => (dm_ck a2.2 a2.1).bind (fun u3 => (dm_li X a2.2 a2.1 (iI (1))).bind (fun a3 => some (.inl (12, [(x1 + ((iI (10)) * a3))], [q2], a2.2)))))))))
  | _ => none
noncomputable def F_X12_whole_12 (X : dm_X) (x1 : Int32) (q2 : am_G × Nat) (d : dm_D) : Option (Int32 × dm_D) := lp (S_X12_whole X) (12, [x1], [q2], d)
theorem E_X12_whole_12 (X : dm_X) (x1 : Int32) (q2 : am_G × Nat) (d : dm_D) : F_X12_whole_12 X x1 q2 d = ((dm_rk d q2 15).bind (fun u1 => (F_Jx35411_hasNext_aae02 X q2 d).bind (fun a1 => if a1 = 0 then (some (x1, d)) else ((dm_rk d q2 15).bind (fun u2 => (F_Jx35411_next_0502b X q2 d).bind (fun a2 => (dm_ck a2.2 a2.1).bind (fun u3 => (dm_li X a2.2 a2.1 (iI (1))).bind (fun a3 => F_X12_whole_12 X (x1 + ((iI (10)) * a3)) q2 a2.2)))))))) := by
  show lp _ _ = _
  rw [lp_eq, S_X12_whole]
  simp only [lpk_i, lpk_b, lpk_n, lpk_j, lpk_r] <;> rfl
noncomputable def F_X12_whole (X : dm_X) (q0 : am_G × Nat) (d : dm_D) : Option (Int32 × dm_D) :=
  (dm_fr d q0 12 6).bind (fun w1 => (dm_rk d w1 16).bind (fun u1 => (F_Jx4a65c_iterator_32c93 X w1 d).bind (fun a1 => F_X12_whole_12 X (iI (0)) a1.1 a1.2)))
theorem C_X12_whole_L {X : dm_X} {h : am_H} {k0 : Nat} {Q : Option am_v → am_H → dm_D → Prop} : ∀ s, wp (lp (S_X12_whole X) s) (fun a => Q (some (am_i a.1)) h a.2) → ((∀ x1 q2 d, s = (12, [x1], [q2], d) → dm_V RX12 "whole" cX12_whole 4 (some .int) 3 61 k0 X (dm_Tm cX12_whole (some .int) Q) 12 [none, some (am_i x1), some (.inr q2), none] [] h d)) := by
  refine lp_ind _ _ (fun s H => fun x1 q2 d e => ?_)
  · subst e
    rw [S_X12_whole] at H
    refine ql_a2 dX12_whole_12 ?_
    obtain ⟨u1, e2, H⟩ := wp_b H
    obtain ⟨a1, e1, H⟩ := wp_b H
    refine dc_F0i (C := (RJx35411, TJx35411, 4)) dX12_whole_13 ml_X12_120 mf_Jx35411_hasNext_aae02 (List.mem_of_getElem? (i := 6) rfl) (C_Jx35411_hasNext_aae02 e1) (dm_rk_some e2) rfl rfl rfl rfl ?_
    refine dr_if_eq 43 dX12_whole_18 (by decide) (fun c1 => ?_) (fun c1 => ?_)
    · replace H := wp_t c1 H
      refine ql_i1 dX12_whole_43 ?_
      replace H := lp_re H
      exact dr_iret dX12_whole_44 rfl rfl H
    · replace H := wp_f c1 H
      refine ql_a2 dX12_whole_21 ?_
      obtain ⟨u2, e4, H⟩ := wp_b H
      obtain ⟨a2, e3, H⟩ := wp_b H
      refine dc_F0r (C := (RJx35411, TJx35411, 4)) dX12_whole_22 ml_X12_126 mf_Jx35411_next_0502b (List.mem_of_getElem? (i := 7) rfl) (C_Jx35411_next_0502b e3) (dm_rk_some e4) rfl rfl rfl rfl ?_
      obtain ⟨u3, e5, H⟩ := wp_b H
      refine dr_cast dX12_whole_27 fc_X12_112 (dm_ck_some e5) ?_
      refine qs_a3 dX12_whole_30 rfl trivial ?_
      refine ql_i1 dX12_whole_31 ?_
      refine dr_bipush (iI (10)) dX12_whole_32 rfl ?_
      refine ql_a3 dX12_whole_34 ?_
      refine dr_iconst (iI (1)) dX12_whole_35 rfl ?_
      obtain ⟨a3, e6, H⟩ := wp_b H
      refine dr_iald dX12_whole_36 e6 ?_
      refine dr_imul dX12_whole_37 ?_
      refine dr_iadd dX12_whole_38 ?_
      refine qs_i1 dX12_whole_39 rfl trivial ?_
      refine dr_goto 12 dX12_whole_40 (by decide) ?_
      exact dr_wk (am_n (am_s (am_s (am_n am_0)))) ((lp_in H) _ _ _ rfl)
theorem C_X12_whole {X : dm_X} {q0 : am_G × Nat} {h : am_H} {d : dm_D} {a : Int32 × dm_D} (e : F_X12_whole X q0 d = some a) : dm_Mx X yX12_whole cX12_whole 4 (some .int) 3 61 [.inr q0] h d (some (am_i a.1)) h a.2 := by
  refine dm_M.ofx (A := [some (.inr q0), none, none, none]) (by decide +kernel) rfl (ble rfl) (fun Q hQ => ?_)
  have H : wp (F_X12_whole X q0 d) (fun a => Q (some (am_i a.1)) h a.2) := ⟨_, e, hQ⟩
  unfold F_X12_whole at H
  refine dr_iconst (iI (0)) dX12_whole_0 rfl ?_
  refine qs_i1 dX12_whole_1 rfl trivial ?_
  refine ql_a0 dX12_whole_2 ?_
  obtain ⟨w1, e1, H⟩ := wp_b H
  refine dr_getR dX12_whole_3 fg_X12_26 e1 ?_
  obtain ⟨u1, e3, H⟩ := wp_b H
  obtain ⟨a1, e2, H⟩ := wp_b H
  refine dc_F0r (C := (RJx4a65c, TJx4a65c, 3)) dX12_whole_6 ml_X12_116 mf_Jx4a65c_iterator_32c93 (List.mem_of_getElem? (i := 5) rfl) (C_Jx4a65c_iterator_32c93 e2) (dm_rk_some e3) rfl rfl rfl rfl ?_
  refine qs_a2 dX12_whole_11 rfl trivial ?_
  exact dr_wk (am_n (am_s (am_s (am_n am_0)))) ((C_X12_whole_L _ H) _ _ _ rfl)
noncomputable def F_X12_centre (X : dm_X) (q0 : am_G × Nat) (x1 : Int32) (d : dm_D) : Option (Int32 × dm_D) :=
  (dm_rk d q0 12).bind (fun u1 => (F_X12_whole X q0 d).bind (fun a1 => (dm_fr a1.2 q0 12 7).bind (fun w1 => (dm_rk a1.2 w1 16).bind (fun u2 => (F_Jx4a65c_size_8abf5 X w1 a1.2).bind (fun a2 => if ((iI (2)) * a2) = 0 then none else (some ((((((iI (2)) * x1) + (iI (1))) * a1.1) / ((iI (2)) * a2)), a1.2)))))))
theorem C_X12_centre {X : dm_X} {q0 : am_G × Nat} {x1 : Int32} {h : am_H} {d : dm_D} {a : Int32 × dm_D} (e : F_X12_centre X q0 x1 d = some a) : dm_Mx X yX12_centre cX12_centre 2 (some .int) 4 84 [.inr q0, am_i x1] h d (some (am_i a.1)) h a.2 := by
  refine dm_M.ofx (A := [some (.inr q0), some (am_i x1)]) (by decide +kernel) rfl (ble rfl) (fun Q hQ => ?_)
  have H : wp (F_X12_centre X q0 x1 d) (fun a => Q (some (am_i a.1)) h a.2) := ⟨_, e, hQ⟩
  unfold F_X12_centre at H
  refine dr_iconst (iI (2)) dX12_centre_0 rfl ?_
  refine ql_i1 dX12_centre_1 ?_
  refine dr_imul dX12_centre_2 ?_
  refine dr_iconst (iI (1)) dX12_centre_3 rfl ?_
  refine dr_iadd dX12_centre_4 ?_
  refine ql_a0 dX12_centre_5 ?_
  obtain ⟨u1, e2, H⟩ := wp_b H
  obtain ⟨a1, e1, H⟩ := wp_b H
  refine dc_V0i (C := (RX12, TX12, 11)) dX12_centre_6 ml_X12_146 mc_X12_whole (C_X12_whole e1) (dm_rk_some e2) rfl rfl rfl rfl rfl ?_
  refine dr_imul dX12_centre_9 ?_
  refine dr_iconst (iI (2)) dX12_centre_10 rfl ?_
  refine ql_a0 dX12_centre_11 ?_
  obtain ⟨w1, e3, H⟩ := wp_b H
  refine dr_getR dX12_centre_12 fg_X12_30 e3 ?_
  obtain ⟨u2, e5, H⟩ := wp_b H
  obtain ⟨a2, e4, H⟩ := wp_b H
  refine dc_F0i (C := (RJx4a65c, TJx4a65c, 3)) dX12_centre_15 ml_X12_129 mf_Jx4a65c_size_8abf5 (List.mem_of_getElem? (i := 2) rfl) (C_Jx4a65c_size_8abf5 e4) (dm_rk_some e5) rfl rfl rfl rfl ?_
  refine dr_imul dX12_centre_20 ?_
  obtain ⟨b1, H⟩ := wp_d H
  refine dr_idiv dX12_centre_21 b1 ?_
  replace H := wp_s H
  exact dr_iret dX12_centre_22 rfl rfl H
noncomputable def S_X12_arcAt (X : dm_X)  (d : dm_D) : dm_S Unit → Option (dm_S Unit ⊕ Int32) := fun s => match s with
  | (4, [x2, x3], [q0], ()) => (dm_fr d q0 12 6).bind (fun w1 => (dm_rk d w1 16).bind (fun u1 => (F_Jx4a65c_size_8abf5 X w1 d).bind (fun a1 => if (a1 - (iI (1))) ≤ x2 then (some (.inl (68, [x2], [q0], ()))) else ((dm_fr d q0 12 6).bind (fun w2 => (dm_rk d w2 16).bind (fun u2 => (F_Jx4a65c_get_915e3 X w2 x2 d).bind (fun a2 => (dm_ck d a2).bind (fun u3 => (dm_li X d a2 (iI (1))).bind (fun a3 => if x3 < ((iI (10)) * a3) then (some (.inl (68, [x2], [q0], ()))) else ((dm_fr d q0 12 6).bind (fun w3 => (dm_rk d w3 16).bind (fun u4 => (F_Jx4a65c_get_915e3 X w3 x2 d).bind (fun a4 => (dm_ck d a4).bind (fun u5 => (dm_li X d a4 (iI (1))).bind (fun a5 => some (.inl (4, [(x2 + 1), (x3 - ((iI (10)) * a5))], [q0], ())))))))))))))))))
  | (68, [x2], [q0], ()) => (dm_fr d q0 12 6).bind (fun w1 => (dm_rk d w1 16).bind (fun u1 => (F_Jx4a65c_isEmpty_aae02 X w1 d).bind (fun a1 => if a1 = 0 then (some (.inr x2)) else (some (.inr (iI (-1)))))))
  | _ => none
noncomputable def F_X12_arcAt_4 (X : dm_X) (q0 : am_G × Nat) (x2 : Int32) (x3 : Int32) (d : dm_D) : Option Int32 := lp (S_X12_arcAt X d) (4, [x2, x3], [q0], ())
noncomputable def F_X12_arcAt_68 (X : dm_X) (q0 : am_G × Nat) (x2 : Int32) (d : dm_D) : Option Int32 := lp (S_X12_arcAt X d) (68, [x2], [q0], ())
theorem E_X12_arcAt_4 (X : dm_X) (q0 : am_G × Nat) (x2 : Int32) (x3 : Int32) (d : dm_D) : F_X12_arcAt_4 X q0 x2 x3 d = ((dm_fr d q0 12 6).bind (fun w1 => (dm_rk d w1 16).bind (fun u1 => (F_Jx4a65c_size_8abf5 X w1 d).bind (fun a1 => if (a1 - (iI (1))) ≤ x2 then (F_X12_arcAt_68 X q0 x2 d) else ((dm_fr d q0 12 6).bind (fun w2 => (dm_rk d w2 16).bind (fun u2 => (F_Jx4a65c_get_915e3 X w2 x2 d).bind (fun a2 => (dm_ck d a2).bind (fun u3 => (dm_li X d a2 (iI (1))).bind (fun a3 => if x3 < ((iI (10)) * a3) then (F_X12_arcAt_68 X q0 x2 d) else ((dm_fr d q0 12 6).bind (fun w3 => (dm_rk d w3 16).bind (fun u4 => (F_Jx4a65c_get_915e3 X w3 x2 d).bind (fun a4 => (dm_ck d a4).bind (fun u5 => (dm_li X d a4 (iI (1))).bind (fun a5 => F_X12_arcAt_4 X q0 (x2 + 1) (x3 - ((iI (10)) * a5)) d)))))))))))))))) := by
  show lp _ _ = _
  rw [lp_eq, S_X12_arcAt]
  simp only [lpk_i, lpk_b, lpk_n, lpk_j, lpk_r] <;> rfl
theorem E_X12_arcAt_68 (X : dm_X) (q0 : am_G × Nat) (x2 : Int32) (d : dm_D) : F_X12_arcAt_68 X q0 x2 d = ((dm_fr d q0 12 6).bind (fun w1 => (dm_rk d w1 16).bind (fun u1 => (F_Jx4a65c_isEmpty_aae02 X w1 d).bind (fun a1 => if a1 = 0 then (some x2) else (some (iI (-1))))))) := by
  show lp _ _ = _
  rw [lp_eq, S_X12_arcAt]
  simp only [lpk_i, lpk_b, lpk_n, lpk_j, lpk_r] <;> rfl
noncomputable def F_X12_arcAt (X : dm_X) (q0 : am_G × Nat) (x1 : Int32) (d : dm_D) : Option Int32 :=
  F_X12_arcAt_4 X q0 (iI (0)) x1 d
theorem C_X12_arcAt_L {X : dm_X} {h : am_H} {d : dm_D} {k0 : Nat} {Q : Option am_v → am_H → dm_D → Prop} : ∀ s, wp (lp (S_X12_arcAt X d) s) (fun a => Q (some (am_i a)) h d) → ((∀ q0 x2 x3, s = (4, [x2, x3], [q0], ()) → dm_V RX12 "arcAt" cX12_arcAt 4 (some .int) 3 72 k0 X (dm_Tm cX12_arcAt (some .int) Q) 4 [some (.inr q0), none, some (am_i x2), some (am_i x3)] [] h d) ∧ (∀ q0 x2, s = (68, [x2], [q0], ()) → dm_V RX12 "arcAt" cX12_arcAt 4 (some .int) 3 72 k0 X (dm_Tm cX12_arcAt (some .int) Q) 68 [some (.inr q0), none, some (am_i x2), none] [] h d)) := by
  refine lp_ind _ _ (fun s H => ⟨fun q0 x2 x3 e => ?_, fun q0 x2 e => ?_⟩)
  · subst e
    rw [S_X12_arcAt] at H
    refine ql_i2 dX12_arcAt_4 ?_
    refine ql_a0 dX12_arcAt_5 ?_
    obtain ⟨w1, e1, H⟩ := wp_b H
    refine dr_getR dX12_arcAt_6 fg_X12_26 e1 ?_
    obtain ⟨u1, e3, H⟩ := wp_b H
    obtain ⟨a1, e2, H⟩ := wp_b H
    refine dc_F0i (C := (RJx4a65c, TJx4a65c, 3)) dX12_arcAt_9 ml_X12_129 mf_Jx4a65c_size_8abf5 (List.mem_of_getElem? (i := 2) rfl) (C_Jx4a65c_size_8abf5 e2) (dm_rk_some e3) rfl rfl rfl rfl ?_
    refine dr_iconst (iI (1)) dX12_arcAt_14 rfl ?_
    refine dr_isub dX12_arcAt_15 ?_
    refine dr_ic_ge 68 dX12_arcAt_16 (by decide) (fun c1 => ?_) (fun c1 => ?_)
    · replace H := wp_t c1 H
      exact dr_wk (am_s (am_n (am_s (am_n am_0)))) ((lp_in H).2 _ _ rfl)
    · replace H := wp_f c1 H
      refine ql_i3 dX12_arcAt_19 ?_
      refine dr_bipush (iI (10)) dX12_arcAt_20 rfl ?_
      refine ql_a0 dX12_arcAt_22 ?_
      obtain ⟨w2, e4, H⟩ := wp_b H
      refine dr_getR dX12_arcAt_23 fg_X12_26 e4 ?_
      refine ql_i2 dX12_arcAt_26 ?_
      obtain ⟨u2, e6, H⟩ := wp_b H
      obtain ⟨a2, e5, H⟩ := wp_b H
      refine dc_F1r (C := (RJx4a65c, TJx4a65c, 3)) dX12_arcAt_27 ml_X12_133 mf_Jx4a65c_get_915e3 (List.mem_of_getElem? (i := 3) rfl) (C_Jx4a65c_get_915e3 e5) (dm_rk_some e6) rfl rfl rfl rfl ?_
      obtain ⟨u3, e7, H⟩ := wp_b H
      refine dr_cast dX12_arcAt_32 fc_X12_112 (dm_ck_some e7) ?_
      refine dr_iconst (iI (1)) dX12_arcAt_35 rfl ?_
      obtain ⟨a3, e8, H⟩ := wp_b H
      refine dr_iald dX12_arcAt_36 e8 ?_
      refine dr_imul dX12_arcAt_37 ?_
      refine dr_ic_lt 68 dX12_arcAt_38 (by decide) (fun c2 => ?_) (fun c2 => ?_)
      · replace H := wp_t c2 H
        exact dr_wk (am_s (am_n (am_s (am_n am_0)))) ((lp_in H).2 _ _ rfl)
      · replace H := wp_f c2 H
        refine ql_i3 dX12_arcAt_41 ?_
        refine dr_bipush (iI (10)) dX12_arcAt_42 rfl ?_
        refine ql_a0 dX12_arcAt_44 ?_
        obtain ⟨w3, e9, H⟩ := wp_b H
        refine dr_getR dX12_arcAt_45 fg_X12_26 e9 ?_
        refine ql_i2 dX12_arcAt_48 ?_
        obtain ⟨u4, e11, H⟩ := wp_b H
        obtain ⟨a4, e10, H⟩ := wp_b H
        refine dc_F1r (C := (RJx4a65c, TJx4a65c, 3)) dX12_arcAt_49 ml_X12_133 mf_Jx4a65c_get_915e3 (List.mem_of_getElem? (i := 3) rfl) (C_Jx4a65c_get_915e3 e10) (dm_rk_some e11) rfl rfl rfl rfl ?_
        obtain ⟨u5, e12, H⟩ := wp_b H
        refine dr_cast dX12_arcAt_54 fc_X12_112 (dm_ck_some e12) ?_
        refine dr_iconst (iI (1)) dX12_arcAt_57 rfl ?_
        obtain ⟨a5, e13, H⟩ := wp_b H
        refine dr_iald dX12_arcAt_58 e13 ?_
        refine dr_imul dX12_arcAt_59 ?_
        refine dr_isub dX12_arcAt_60 ?_
        refine qs_i3 dX12_arcAt_61 rfl trivial ?_
        refine qn_1_2 dX12_arcAt_62 rfl trivial ?_
        refine dr_goto 4 dX12_arcAt_65 (by decide) ?_
        exact dr_wk (am_s (am_n (am_s (am_s am_0)))) ((lp_in H).1 _ _ _ rfl)
  · subst e
    rw [S_X12_arcAt] at H
    refine ql_a0 dX12_arcAt_68 ?_
    obtain ⟨w1, e1, H⟩ := wp_b H
    refine dr_getR dX12_arcAt_69 fg_X12_26 e1 ?_
    obtain ⟨u1, e3, H⟩ := wp_b H
    obtain ⟨a1, e2, H⟩ := wp_b H
    refine dc_F0i (C := (RJx4a65c, TJx4a65c, 3)) dX12_arcAt_72 ml_X12_137 mf_Jx4a65c_isEmpty_aae02 (List.mem_of_getElem? (i := 1) rfl) (C_Jx4a65c_isEmpty_aae02 e2) (dm_rk_some e3) rfl rfl rfl rfl ?_
    refine dr_if_eq 84 dX12_arcAt_77 (by decide) (fun c1 => ?_) (fun c1 => ?_)
    · replace H := wp_t c1 H
      refine ql_i2 dX12_arcAt_84 ?_
      replace H := lp_re H
      exact dr_iret dX12_arcAt_85 rfl rfl H
    · replace H := wp_f c1 H
      refine dr_iconst (iI (-1)) dX12_arcAt_80 rfl ?_
      refine dr_goto 85 dX12_arcAt_81 (by decide) ?_
      replace H := lp_re H
      exact dr_iret dX12_arcAt_85 rfl rfl H
theorem C_X12_arcAt {X : dm_X} {q0 : am_G × Nat} {x1 : Int32} {h : am_H} {d : dm_D} {a : Int32} (e : F_X12_arcAt X q0 x1 d = some a) : dm_Mx X yX12_arcAt cX12_arcAt 4 (some .int) 3 72 [.inr q0, am_i x1] h d (some (am_i a)) h d := by
  refine dm_M.ofx (A := [some (.inr q0), some (am_i x1), none, none]) (by decide +kernel) rfl (ble rfl) (fun Q hQ => ?_)
  have H : wp (F_X12_arcAt X q0 x1 d) (fun a => Q (some (am_i a)) h d) := ⟨_, e, hQ⟩
  unfold F_X12_arcAt at H
  refine dr_iconst (iI (0)) dX12_arcAt_0 rfl ?_
  refine qs_i2 dX12_arcAt_1 rfl trivial ?_
  refine ql_i1 dX12_arcAt_2 ?_
  refine qs_i3 dX12_arcAt_3 rfl trivial ?_
  exact dr_wk (am_s (am_n (am_s (am_s am_0)))) ((C_X12_arcAt_L _ H).1 _ _ _ rfl)
noncomputable def F_X12_hard (X : dm_X) (q0 : am_G × Nat) (x1 : Int32) (d : dm_D) : Option (Int32 × dm_D) :=
  (dm_fr d q0 12 6).bind (fun w1 => (dm_rk d w1 16).bind (fun u1 => (F_Jx4a65c_isEmpty_aae02 X w1 d).bind (fun a1 => if a1 = 0 then ((dm_fr d q0 12 6).bind (fun w2 => (dm_rk d q0 12).bind (fun u2 => (F_X12_centre X q0 x1 d).bind (fun a2 => (dm_rk a2.2 q0 12).bind (fun u3 => (F_X12_arcAt X q0 a2.1 a2.2).bind (fun a3 => (dm_rk a2.2 w2 16).bind (fun u4 => (F_Jx4a65c_get_915e3 X w2 a3 a2.2).bind (fun a4 => (dm_ck a2.2 a4).bind (fun u5 => (dm_li X a2.2 a4 (iI (3))).bind (fun a5 => some (a5, a2.2))))))))))) else (some ((iI (0)), d)))))
theorem C_X12_hard {X : dm_X} {q0 : am_G × Nat} {x1 : Int32} {h : am_H} {d : dm_D} {a : Int32 × dm_D} (e : F_X12_hard X q0 x1 d = some a) : dm_Mx X yX12_hard cX12_hard 2 (some .int) 5 105 [.inr q0, am_i x1] h d (some (am_i a.1)) h a.2 := by
  refine dm_M.ofx (A := [some (.inr q0), some (am_i x1)]) (by decide +kernel) rfl (ble rfl) (fun Q hQ => ?_)
  have H : wp (F_X12_hard X q0 x1 d) (fun a => Q (some (am_i a.1)) h a.2) := ⟨_, e, hQ⟩
  unfold F_X12_hard at H
  refine ql_a0 dX12_hard_0 ?_
  obtain ⟨w1, e1, H⟩ := wp_b H
  refine dr_getR dX12_hard_1 fg_X12_26 e1 ?_
  obtain ⟨u1, e3, H⟩ := wp_b H
  obtain ⟨a1, e2, H⟩ := wp_b H
  refine dc_F0i (C := (RJx4a65c, TJx4a65c, 3)) dX12_hard_4 ml_X12_137 mf_Jx4a65c_isEmpty_aae02 (List.mem_of_getElem? (i := 1) rfl) (C_Jx4a65c_isEmpty_aae02 e2) (dm_rk_some e3) rfl rfl rfl rfl ?_
  refine dr_if_eq 16 dX12_hard_9 (by decide) (fun c1 => ?_) (fun c1 => ?_)
  · replace H := wp_t c1 H
    refine ql_a0 dX12_hard_16 ?_
    obtain ⟨w2, e4, H⟩ := wp_b H
    refine dr_getR dX12_hard_17 fg_X12_26 e4 ?_
    refine ql_a0 dX12_hard_20 ?_
    refine ql_a0 dX12_hard_21 ?_
    refine ql_i1 dX12_hard_22 ?_
    obtain ⟨u2, e6, H⟩ := wp_b H
    obtain ⟨a2, e5, H⟩ := wp_b H
    refine dc_V1i (C := (RX12, TX12, 11)) dX12_hard_23 ml_X12_149 mc_X12_centre (C_X12_centre e5) (dm_rk_some e6) rfl rfl rfl rfl rfl ?_
    obtain ⟨u3, e8, H⟩ := wp_b H
    obtain ⟨a3, e7, H⟩ := wp_b H
    refine dc_V1i (C := (RX12, TX12, 11)) dX12_hard_26 ml_X12_170 mc_X12_arcAt (C_X12_arcAt e7) (dm_rk_some e8) rfl rfl rfl rfl rfl ?_
    obtain ⟨u4, e10, H⟩ := wp_b H
    obtain ⟨a4, e9, H⟩ := wp_b H
    refine dc_F1r (C := (RJx4a65c, TJx4a65c, 3)) dX12_hard_29 ml_X12_133 mf_Jx4a65c_get_915e3 (List.mem_of_getElem? (i := 3) rfl) (C_Jx4a65c_get_915e3 e9) (dm_rk_some e10) rfl rfl rfl rfl ?_
    obtain ⟨u5, e11, H⟩ := wp_b H
    refine dr_cast dX12_hard_34 fc_X12_112 (dm_ck_some e11) ?_
    refine dr_iconst (iI (3)) dX12_hard_37 rfl ?_
    obtain ⟨a5, e12, H⟩ := wp_b H
    refine dr_iald dX12_hard_38 e12 ?_
    replace H := wp_s H
    exact dr_iret dX12_hard_39 rfl rfl H
  · replace H := wp_f c1 H
    refine dr_iconst (iI (0)) dX12_hard_12 rfl ?_
    refine dr_goto 39 dX12_hard_13 (by decide) ?_
    replace H := wp_s H
    exact dr_iret dX12_hard_39 rfl rfl H
noncomputable def F_X12_draw (X : dm_X) (q0 : am_G × Nat) (x1 : Int32) (d : dm_D) : Option (Int32 × dm_D) :=
  (dm_fi d q0 12 2).bind (fun a1 => (dm_pu d q0 12 2 (am_i ((a1 * (1103515245 : Int32)) + (iI (12345))))).bind (fun d1 => (dm_fi d1 q0 12 2).bind (fun a2 => if x1 = 0 then none else (some ((((a2.toUInt32 >>> ((iI (16)).toUInt32 &&& Int32.toUInt32 31)).toInt32) - ((a2.toUInt32 >>> ((iI (16)).toUInt32 &&& Int32.toUInt32 31)).toInt32) / x1 * x1), d1)))))
theorem C_X12_draw {X : dm_X} {q0 : am_G × Nat} {x1 : Int32} {h : am_H} {d : dm_D} {a : Int32 × dm_D} (e : F_X12_draw X q0 x1 d = some a) : dm_Mx X yX12_draw cX12_draw 2 (some .int) 0 0 [.inr q0, am_i x1] h d (some (am_i a.1)) h a.2 := by
  refine dm_M.ofx (A := [some (.inr q0), some (am_i x1)]) (by decide +kernel) rfl (ble rfl) (fun Q hQ => ?_)
  have H : wp (F_X12_draw X q0 x1 d) (fun a => Q (some (am_i a.1)) h a.2) := ⟨_, e, hQ⟩
  unfold F_X12_draw at H
  refine ql_a0 dX12_draw_0 ?_
  refine ql_a0 dX12_draw_1 ?_
  obtain ⟨a1, e1, H⟩ := wp_b H
  refine dr_getI dX12_draw_2 fg_X12_16 e1 ?_
  refine dr_ldc (1103515245) dX12_draw_5 kc_X12_169 ?_
  refine dr_imul dX12_draw_7 ?_
  refine dr_sipush (iI (12345)) dX12_draw_8 rfl ?_
  refine dr_iadd dX12_draw_11 ?_
  obtain ⟨d1, e2, H⟩ := wp_b H
  refine dr_putI dX12_draw_12 fg_X12_16 rfl rfl e2 ?_
  refine ql_a0 dX12_draw_15 ?_
  obtain ⟨a2, e3, H⟩ := wp_b H
  refine dr_getI dX12_draw_16 fg_X12_16 e3 ?_
  refine dr_bipush (iI (16)) dX12_draw_19 rfl ?_
  refine dr_iushr dX12_draw_21 ?_
  refine ql_i1 dX12_draw_22 ?_
  obtain ⟨b1, H⟩ := wp_d H
  refine dr_irem dX12_draw_23 b1 ?_
  replace H := wp_s H
  exact dr_iret dX12_draw_24 rfl rfl H
noncomputable def S_X12_engrave (X : dm_X)  : dm_S dm_D → Option (dm_S dm_D ⊕ (Int32 × dm_D)) := fun s => match s with
  | (4, [x1, x2, x3], [q0], d) => (dm_fr d q0 12 7).bind (fun w1 => (dm_rk d w1 16).bind (fun u1 => (F_Jx4a65c_get_915e3 X w1 x1 d).bind (fun a1 => (dm_ck d a1).bind (fun u2 => (dm_li X d a1 (iI (0))).bind (fun a2 => if (iI (4)) = 0 then none else (if (a2 - a2 / (iI (4)) * (iI (4))) < x3 then ((dm_fr d q0 12 7).bind (fun w2 => (dm_rk d w2 16).bind (fun u3 => (F_Jx4a65c_get_915e3 X w2 x1 d).bind (fun a3 => (dm_ck d a3).bind (fun u4 => (dm_wi d a3 0 (iI (1)) (iI (1))).bind (fun d1 => some (.inr (x2, d1)))))))) else ((dm_rk d q0 12).bind (fun u3 => (F_X12_hard X q0 x1 d).bind (fun a3 => (dm_fi a3.2 q0 12 0).bind (fun a4 => if (a3.1 - a4) ≤ 0 then (some (.inl (100, [x1, x2, x3], [q0], a3.2))) else ((dm_rk a3.2 q0 12).bind (fun u4 => (F_X12_draw X q0 (iI (100)) a3.2).bind (fun a5 => if ((iI (2)) * (a3.1 - a4)) ≤ a5.1 then (some (.inl (100, [x1, x2, x3], [q0], a5.2))) else ((dm_fr a5.2 q0 12 9).bind (fun w2 => (dm_na a5.2 0 (iI (2))).bind (fun d1 => (dm_wi d1 (.inl 0, a5.2.1) 0 (iI (0)) x1).bind (fun d2 => (dm_rk d2 q0 12).bind (fun u5 => (F_X12_draw X q0 (iI (20)) d2).bind (fun a6 => (dm_wi a6.2 (.inl 0, a5.2.1) 0 (iI (1)) ((iI (100)) + ((iI (100)) * a6.1))).bind (fun d3 => (dm_rk d3 w2 16).bind (fun u6 => (F_Jx4a65c_add_9ea2d X w2 (.inl 0, a5.2.1) d3).bind (fun a7 => (dm_fi a7.2 q0 12 3).bind (fun a8 => (dm_pu a7.2 q0 12 3 (am_i (a8 + (iI (1))))).bind (fun d4 => some (.inl (100, [x1, (x2 + 1), x3], [q0], d4))))))))))))))))))))))))))
  | (100, [x1, x2, x3], [q0], d) => (dm_fi d q0 12 4).bind (fun a1 => (dm_pu d q0 12 4 (am_i (a1 + (iI (1))))).bind (fun d1 => (dm_fi d1 q0 12 0).bind (fun a2 => if a2 = 0 then ((dm_pu d1 q0 12 0 (am_i (iI (0)))).bind (fun d2 => some (.inl (4, [x1, x2, (x3 + 1)], [q0], d2)))) else ((dm_fi d1 q0 12 0).bind (fun a3 => (dm_pu d1 q0 12 0 (am_i (a3 - (iI (1))))).bind (fun d2 => some (.inl (4, [x1, x2, (x3 + 1)], [q0], d2))))))))
  | _ => none
noncomputable def F_X12_engrave_4 (X : dm_X) (q0 : am_G × Nat) (x1 : Int32) (x2 : Int32) (x3 : Int32) (d : dm_D) : Option (Int32 × dm_D) := lp (S_X12_engrave X) (4, [x1, x2, x3], [q0], d)
noncomputable def F_X12_engrave_100 (X : dm_X) (q0 : am_G × Nat) (x1 : Int32) (x2 : Int32) (x3 : Int32) (d : dm_D) : Option (Int32 × dm_D) := lp (S_X12_engrave X) (100, [x1, x2, x3], [q0], d)
theorem E_X12_engrave_4 (X : dm_X) (q0 : am_G × Nat) (x1 : Int32) (x2 : Int32) (x3 : Int32) (d : dm_D) : F_X12_engrave_4 X q0 x1 x2 x3 d = ((dm_fr d q0 12 7).bind (fun w1 => (dm_rk d w1 16).bind (fun u1 => (F_Jx4a65c_get_915e3 X w1 x1 d).bind (fun a1 => (dm_ck d a1).bind (fun u2 => (dm_li X d a1 (iI (0))).bind (fun a2 => if (iI (4)) = 0 then none else (if (a2 - a2 / (iI (4)) * (iI (4))) < x3 then ((dm_fr d q0 12 7).bind (fun w2 => (dm_rk d w2 16).bind (fun u3 => (F_Jx4a65c_get_915e3 X w2 x1 d).bind (fun a3 => (dm_ck d a3).bind (fun u4 => (dm_wi d a3 0 (iI (1)) (iI (1))).bind (fun d1 => some (x2, d1))))))) else ((dm_rk d q0 12).bind (fun u3 => (F_X12_hard X q0 x1 d).bind (fun a3 => (dm_fi a3.2 q0 12 0).bind (fun a4 => if (a3.1 - a4) ≤ 0 then (F_X12_engrave_100 X q0 x1 x2 x3 a3.2) else ((dm_rk a3.2 q0 12).bind (fun u4 => (F_X12_draw X q0 (iI (100)) a3.2).bind (fun a5 => if ((iI (2)) * (a3.1 - a4)) ≤ a5.1 then (F_X12_engrave_100 X q0 x1 x2 x3 a5.2) else ((dm_fr a5.2 q0 12 9).bind (fun w2 => (dm_na a5.2 0 (iI (2))).bind (fun d1 => (dm_wi d1 (.inl 0, a5.2.1) 0 (iI (0)) x1).bind (fun d2 => (dm_rk d2 q0 12).bind (fun u5 => (F_X12_draw X q0 (iI (20)) d2).bind (fun a6 => (dm_wi a6.2 (.inl 0, a5.2.1) 0 (iI (1)) ((iI (100)) + ((iI (100)) * a6.1))).bind (fun d3 => (dm_rk d3 w2 16).bind (fun u6 => (F_Jx4a65c_add_9ea2d X w2 (.inl 0, a5.2.1) d3).bind (fun a7 => (dm_fi a7.2 q0 12 3).bind (fun a8 => (dm_pu a7.2 q0 12 3 (am_i (a8 + (iI (1))))).bind (fun d4 => F_X12_engrave_100 X q0 x1 (x2 + 1) x3 d4))))))))))))))))))))))))) := by
  show lp _ _ = _
  rw [lp_eq, S_X12_engrave]
  simp only [lpk_i, lpk_b, lpk_n, lpk_j, lpk_r] <;> rfl
theorem E_X12_engrave_100 (X : dm_X) (q0 : am_G × Nat) (x1 : Int32) (x2 : Int32) (x3 : Int32) (d : dm_D) : F_X12_engrave_100 X q0 x1 x2 x3 d = ((dm_fi d q0 12 4).bind (fun a1 => (dm_pu d q0 12 4 (am_i (a1 + (iI (1))))).bind (fun d1 => (dm_fi d1 q0 12 0).bind (fun a2 => if a2 = 0 then ((dm_pu d1 q0 12 0 (am_i (iI (0)))).bind (fun d2 => F_X12_engrave_4 X q0 x1 x2 (x3 + 1) d2)) else ((dm_fi d1 q0 12 0).bind (fun a3 => (dm_pu d1 q0 12 0 (am_i (a3 - (iI (1))))).bind (fun d2 => F_X12_engrave_4 X q0 x1 x2 (x3 + 1) d2))))))) := by
  show lp _ _ = _
  rw [lp_eq, S_X12_engrave]
  simp only [lpk_i, lpk_b, lpk_n, lpk_j, lpk_r] <;> rfl
noncomputable def F_X12_engrave (X : dm_X) (q0 : am_G × Nat) (x1 : Int32) (d : dm_D) : Option (Int32 × dm_D) :=
  F_X12_engrave_4 X q0 x1 (iI (0)) (iI (0)) d
theorem C_X12_engrave_L {X : dm_X} {h : am_H} {k0 : Nat} {Q : Option am_v → am_H → dm_D → Prop} : ∀ s, wp (lp (S_X12_engrave X) s) (fun a => Q (some (am_i a.1)) h a.2) → ((∀ q0 x1 x2 x3 d, s = (4, [x1, x2, x3], [q0], d) → dm_V RX12 "engrave" cX12_engrave 5 (some .int) 7 157 k0 X (dm_Tm cX12_engrave (some .int) Q) 4 [some (.inr q0), some (am_i x1), some (am_i x2), some (am_i x3), none] [] h d) ∧ (∀ q0 x1 x2 x3 d, s = (100, [x1, x2, x3], [q0], d) → dm_V RX12 "engrave" cX12_engrave 5 (some .int) 7 157 k0 X (dm_Tm cX12_engrave (some .int) Q) 100 [some (.inr q0), some (am_i x1), some (am_i x2), some (am_i x3), none] [] h d)) := by
  refine lp_ind _ _ (fun s H => ⟨fun q0 x1 x2 x3 d e => ?_, fun q0 x1 x2 x3 d e => ?_⟩)
  · subst e
    rw [S_X12_engrave] at H
    refine ql_i3 dX12_engrave_4 ?_
    refine ql_a0 dX12_engrave_5 ?_
    obtain ⟨w1, e1, H⟩ := wp_b H
    refine dr_getR dX12_engrave_6 fg_X12_30 e1 ?_
    refine ql_i1 dX12_engrave_9 ?_
    obtain ⟨u1, e3, H⟩ := wp_b H
    obtain ⟨a1, e2, H⟩ := wp_b H
    refine dc_F1r (C := (RJx4a65c, TJx4a65c, 3)) dX12_engrave_10 ml_X12_133 mf_Jx4a65c_get_915e3 (List.mem_of_getElem? (i := 3) rfl) (C_Jx4a65c_get_915e3 e2) (dm_rk_some e3) rfl rfl rfl rfl ?_
    obtain ⟨u2, e4, H⟩ := wp_b H
    refine dr_cast dX12_engrave_15 fc_X12_112 (dm_ck_some e4) ?_
    refine dr_iconst (iI (0)) dX12_engrave_18 rfl ?_
    obtain ⟨a2, e5, H⟩ := wp_b H
    refine dr_iald dX12_engrave_19 e5 ?_
    refine dr_iconst (iI (4)) dX12_engrave_20 rfl ?_
    obtain ⟨b1, H⟩ := wp_d H
    refine dr_irem dX12_engrave_21 b1 ?_
    refine dr_ic_gt 137 dX12_engrave_22 (by decide) (fun c1 => ?_) (fun c1 => ?_)
    · replace H := wp_t c1 H
      refine ql_a0 dX12_engrave_137 ?_
      obtain ⟨w2, e6, H⟩ := wp_b H
      refine dr_getR dX12_engrave_138 fg_X12_30 e6 ?_
      refine ql_i1 dX12_engrave_141 ?_
      obtain ⟨u3, e8, H⟩ := wp_b H
      obtain ⟨a3, e7, H⟩ := wp_b H
      refine dc_F1r (C := (RJx4a65c, TJx4a65c, 3)) dX12_engrave_142 ml_X12_133 mf_Jx4a65c_get_915e3 (List.mem_of_getElem? (i := 3) rfl) (C_Jx4a65c_get_915e3 e7) (dm_rk_some e8) rfl rfl rfl rfl ?_
      obtain ⟨u4, e9, H⟩ := wp_b H
      refine dr_cast dX12_engrave_147 fc_X12_112 (dm_ck_some e9) ?_
      refine dr_iconst (iI (1)) dX12_engrave_150 rfl ?_
      refine dr_iconst (iI (1)) dX12_engrave_151 rfl ?_
      obtain ⟨d1, e10, H⟩ := wp_b H
      refine dr_iast dX12_engrave_152 e10 ?_
      refine ql_i2 dX12_engrave_153 ?_
      replace H := lp_re H
      exact dr_iret dX12_engrave_154 rfl rfl H
    · replace H := wp_f c1 H
      refine ql_a0 dX12_engrave_25 ?_
      refine ql_i1 dX12_engrave_26 ?_
      obtain ⟨u3, e7, H⟩ := wp_b H
      obtain ⟨a3, e6, H⟩ := wp_b H
      refine dc_V1i (C := (RX12, TX12, 11)) dX12_engrave_27 ml_X12_173 mc_X12_hard (C_X12_hard e6) (dm_rk_some e7) rfl rfl rfl rfl rfl ?_
      refine ql_a0 dX12_engrave_30 ?_
      obtain ⟨a4, e8, H⟩ := wp_b H
      refine dr_getI dX12_engrave_31 fg_X12_7 e8 ?_
      refine dr_isub dX12_engrave_34 ?_
      refine qs_i4 dX12_engrave_35 rfl trivial ?_
      refine ql_i4 dX12_engrave_37 ?_
      refine dr_if_le 100 dX12_engrave_39 (by decide) (fun c2 => ?_) (fun c2 => ?_)
      · replace H := wp_t c2 H
        exact dr_wk (am_s (am_s (am_s (am_s (am_n am_0))))) ((lp_in H).2 _ _ _ _ _ rfl)
      · replace H := wp_f c2 H
        refine ql_a0 dX12_engrave_42 ?_
        refine dr_bipush (iI (100)) dX12_engrave_43 rfl ?_
        obtain ⟨u4, e10, H⟩ := wp_b H
        obtain ⟨a5, e9, H⟩ := wp_b H
        refine dc_V1i (C := (RX12, TX12, 11)) dX12_engrave_45 ml_X12_176 mc_X12_draw (C_X12_draw e9) (dm_rk_some e10) rfl rfl rfl rfl rfl ?_
        refine dr_iconst (iI (2)) dX12_engrave_48 rfl ?_
        refine ql_i4 dX12_engrave_49 ?_
        refine dr_imul dX12_engrave_51 ?_
        refine dr_ic_ge 100 dX12_engrave_52 (by decide) (fun c3 => ?_) (fun c3 => ?_)
        · replace H := wp_t c3 H
          exact dr_wk (am_s (am_s (am_s (am_s (am_n am_0))))) ((lp_in H).2 _ _ _ _ _ rfl)
        · replace H := wp_f c3 H
          refine ql_a0 dX12_engrave_55 ?_
          obtain ⟨w2, e11, H⟩ := wp_b H
          refine dr_getR dX12_engrave_56 fg_X12_36 e11 ?_
          refine dr_iconst (iI (2)) dX12_engrave_59 rfl ?_
          obtain ⟨d1, e12, H⟩ := wp_b H
          refine dr_newa dX12_engrave_60 na_int (fun _ => rfl) (by decide) (fun _ _ => rfl) e12 ?_
          refine dr_dup dX12_engrave_62 trivial ?_
          refine dr_iconst (iI (0)) dX12_engrave_63 rfl ?_
          refine ql_i1 dX12_engrave_64 ?_
          obtain ⟨d2, e13, H⟩ := wp_b H
          refine dr_iast dX12_engrave_65 e13 ?_
          refine dr_dup dX12_engrave_66 trivial ?_
          refine dr_iconst (iI (1)) dX12_engrave_67 rfl ?_
          refine dr_bipush (iI (100)) dX12_engrave_68 rfl ?_
          refine dr_bipush (iI (100)) dX12_engrave_70 rfl ?_
          refine ql_a0 dX12_engrave_72 ?_
          refine dr_bipush (iI (20)) dX12_engrave_73 rfl ?_
          obtain ⟨u5, e15, H⟩ := wp_b H
          obtain ⟨a6, e14, H⟩ := wp_b H
          refine dc_V1i (C := (RX12, TX12, 11)) dX12_engrave_75 ml_X12_176 mc_X12_draw (C_X12_draw e14) (dm_rk_some e15) rfl rfl rfl rfl rfl ?_
          refine dr_imul dX12_engrave_78 ?_
          refine dr_iadd dX12_engrave_79 ?_
          obtain ⟨d3, e16, H⟩ := wp_b H
          refine dr_iast dX12_engrave_80 e16 ?_
          obtain ⟨u6, e18, H⟩ := wp_b H
          obtain ⟨a7, e17, H⟩ := wp_b H
          refine dc_F1i (C := (RJx4a65c, TJx4a65c, 3)) dX12_engrave_81 ml_X12_78 mf_Jx4a65c_add_9ea2d (List.mem_of_getElem? (i := 0) rfl) (C_Jx4a65c_add_9ea2d e17) (dm_rk_some e18) rfl rfl rfl rfl ?_
          refine dr_pop dX12_engrave_86 trivial ?_
          refine ql_a0 dX12_engrave_87 ?_
          refine dr_dup dX12_engrave_88 trivial ?_
          obtain ⟨a8, e19, H⟩ := wp_b H
          refine dr_getI dX12_engrave_89 fg_X12_105 e19 ?_
          refine dr_iconst (iI (1)) dX12_engrave_92 rfl ?_
          refine dr_iadd dX12_engrave_93 ?_
          obtain ⟨d4, e20, H⟩ := wp_b H
          refine dr_putI dX12_engrave_94 fg_X12_105 rfl rfl e20 ?_
          refine qn_1_2 dX12_engrave_97 rfl trivial ?_
          exact dr_wk (am_s (am_s (am_s (am_s (am_n am_0))))) ((lp_in H).2 _ _ _ _ _ rfl)
  · subst e
    rw [S_X12_engrave] at H
    refine ql_a0 dX12_engrave_100 ?_
    refine dr_dup dX12_engrave_101 trivial ?_
    obtain ⟨a1, e1, H⟩ := wp_b H
    refine dr_getI dX12_engrave_102 fg_X12_108 e1 ?_
    refine dr_iconst (iI (1)) dX12_engrave_105 rfl ?_
    refine dr_iadd dX12_engrave_106 ?_
    obtain ⟨d1, e2, H⟩ := wp_b H
    refine dr_putI dX12_engrave_107 fg_X12_108 rfl rfl e2 ?_
    refine ql_a0 dX12_engrave_110 ?_
    refine ql_a0 dX12_engrave_111 ?_
    obtain ⟨a2, e3, H⟩ := wp_b H
    refine dr_getI dX12_engrave_112 fg_X12_7 e3 ?_
    refine dr_if_ne 122 dX12_engrave_115 (by decide) (fun c1 => ?_) (fun c1 => ?_)
    · replace H := wp_f c1 H
      refine ql_a0 dX12_engrave_122 ?_
      obtain ⟨a3, e4, H⟩ := wp_b H
      refine dr_getI dX12_engrave_123 fg_X12_7 e4 ?_
      refine dr_iconst (iI (1)) dX12_engrave_126 rfl ?_
      refine dr_isub dX12_engrave_127 ?_
      obtain ⟨d2, e5, H⟩ := wp_b H
      refine dr_putI dX12_engrave_128 fg_X12_7 rfl rfl e5 ?_
      refine qn_1_3 dX12_engrave_131 rfl trivial ?_
      refine dr_goto 4 dX12_engrave_134 (by decide) ?_
      exact dr_wk (am_s (am_s (am_s (am_s (am_n am_0))))) ((lp_in H).1 _ _ _ _ _ rfl)
    · replace H := wp_t c1 H
      refine dr_iconst (iI (0)) dX12_engrave_118 rfl ?_
      refine dr_goto 128 dX12_engrave_119 (by decide) ?_
      obtain ⟨d2, e4, H⟩ := wp_b H
      refine dr_putI dX12_engrave_128 fg_X12_7 rfl rfl e4 ?_
      refine qn_1_3 dX12_engrave_131 rfl trivial ?_
      refine dr_goto 4 dX12_engrave_134 (by decide) ?_
      exact dr_wk (am_s (am_s (am_s (am_s (am_n am_0))))) ((lp_in H).1 _ _ _ _ _ rfl)
theorem C_X12_engrave {X : dm_X} {q0 : am_G × Nat} {x1 : Int32} {h : am_H} {d : dm_D} {a : Int32 × dm_D} (e : F_X12_engrave X q0 x1 d = some a) : dm_Mx X yX12_engrave cX12_engrave 5 (some .int) 7 157 [.inr q0, am_i x1] h d (some (am_i a.1)) h a.2 := by
  refine dm_M.ofx (A := [some (.inr q0), some (am_i x1), none, none, none]) (by decide +kernel) rfl (ble rfl) (fun Q hQ => ?_)
  have H : wp (F_X12_engrave X q0 x1 d) (fun a => Q (some (am_i a.1)) h a.2) := ⟨_, e, hQ⟩
  unfold F_X12_engrave at H
  refine dr_iconst (iI (0)) dX12_engrave_0 rfl ?_
  refine qs_i2 dX12_engrave_1 rfl trivial ?_
  refine dr_iconst (iI (0)) dX12_engrave_2 rfl ?_
  refine qs_i3 dX12_engrave_3 rfl trivial ?_
  exact dr_wk (am_s (am_s (am_s (am_s (am_n am_0))))) ((C_X12_engrave_L _ H).1 _ _ _ _ _ rfl)
noncomputable def S_X12_engraveAll (X : dm_X)  : dm_S dm_D → Option (dm_S dm_D ⊕ (Int32 × dm_D)) := fun s => match s with
  | (4, [x1, x2, x3], [q0], d) => (dm_fr d q0 12 7).bind (fun w1 => (dm_rk d w1 16).bind (fun u1 => (F_Jx4a65c_size_8abf5 X w1 d).bind (fun a1 => if a1 ≤ x3 then (some (.inr (x2, d))) else ((dm_fr d q0 12 7).bind (fun w2 => (dm_rk d w2 16).bind (fun u2 => (F_Jx4a65c_get_915e3 X w2 x3 d).bind (fun a2 => (dm_ck d a2).bind (fun u3 => (dm_li X d a2 (iI (1))).bind (fun a3 => if a3 = (iI (1)) then (some (.inl (4, [x1, x2, (x3 + 1)], [q0], d))) else ((dm_fr d q0 12 9).bind (fun w3 => (dm_rk d w3 16).bind (fun u4 => (F_Jx4a65c_size_8abf5 X w3 d).bind (fun a4 => if a4 ≤ x1 then ((dm_rk d q0 12).bind (fun u5 => (F_X12_engrave X q0 x3 d).bind (fun a5 => some (.inl (4, [x1, (x2 + 1), (x3 + 1)], [q0], a5.2))))) else (some (.inl (4, [x1, x2, (x3 + 1)], [q0], d))))))))))))))))
  | _ => none
noncomputable def F_X12_engraveAll_4 (X : dm_X) (q0 : am_G × Nat) (x1 : Int32) (x2 : Int32) (x3 : Int32) (d : dm_D) : Option (Int32 × dm_D) := lp (S_X12_engraveAll X) (4, [x1, x2, x3], [q0], d)
theorem E_X12_engraveAll_4 (X : dm_X) (q0 : am_G × Nat) (x1 : Int32) (x2 : Int32) (x3 : Int32) (d : dm_D) : F_X12_engraveAll_4 X q0 x1 x2 x3 d = ((dm_fr d q0 12 7).bind (fun w1 => (dm_rk d w1 16).bind (fun u1 => (F_Jx4a65c_size_8abf5 X w1 d).bind (fun a1 => if a1 ≤ x3 then (some (x2, d)) else ((dm_fr d q0 12 7).bind (fun w2 => (dm_rk d w2 16).bind (fun u2 => (F_Jx4a65c_get_915e3 X w2 x3 d).bind (fun a2 => (dm_ck d a2).bind (fun u3 => (dm_li X d a2 (iI (1))).bind (fun a3 => if a3 = (iI (1)) then (F_X12_engraveAll_4 X q0 x1 x2 (x3 + 1) d) else ((dm_fr d q0 12 9).bind (fun w3 => (dm_rk d w3 16).bind (fun u4 => (F_Jx4a65c_size_8abf5 X w3 d).bind (fun a4 => if a4 ≤ x1 then ((dm_rk d q0 12).bind (fun u5 => (F_X12_engrave X q0 x3 d).bind (fun a5 => F_X12_engraveAll_4 X q0 x1 (x2 + 1) (x3 + 1) a5.2))) else (F_X12_engraveAll_4 X q0 x1 x2 (x3 + 1) d))))))))))))))) := by
  show lp _ _ = _
  rw [lp_eq, S_X12_engraveAll]
  simp only [lpk_i, lpk_b, lpk_n, lpk_j, lpk_r] <;> rfl
noncomputable def F_X12_engraveAll (X : dm_X) (q0 : am_G × Nat) (x1 : Int32) (d : dm_D) : Option (Int32 × dm_D) :=
  F_X12_engraveAll_4 X q0 x1 (iI (0)) (iI (0)) d
theorem C_X12_engraveAll_L {X : dm_X} {h : am_H} {k0 : Nat} {Q : Option am_v → am_H → dm_D → Prop} : ∀ s, wp (lp (S_X12_engraveAll X) s) (fun a => Q (some (am_i a.1)) h a.2) → ((∀ q0 x1 x2 x3 d, s = (4, [x1, x2, x3], [q0], d) → dm_V RX12 "engraveAll" cX12_engraveAll 5 (some .int) 8 181 k0 X (dm_Tm cX12_engraveAll (some .int) Q) 4 [some (.inr q0), some (am_i x1), some (am_i x2), some (am_i x3), none] [] h d)) := by
  refine lp_ind _ _ (fun s H => fun q0 x1 x2 x3 d e => ?_)
  · subst e
    rw [S_X12_engraveAll] at H
    refine ql_i3 dX12_engraveAll_4 ?_
    refine ql_a0 dX12_engraveAll_5 ?_
    obtain ⟨w1, e1, H⟩ := wp_b H
    refine dr_getR dX12_engraveAll_6 fg_X12_30 e1 ?_
    obtain ⟨u1, e3, H⟩ := wp_b H
    obtain ⟨a1, e2, H⟩ := wp_b H
    refine dc_F0i (C := (RJx4a65c, TJx4a65c, 3)) dX12_engraveAll_9 ml_X12_129 mf_Jx4a65c_size_8abf5 (List.mem_of_getElem? (i := 2) rfl) (C_Jx4a65c_size_8abf5 e2) (dm_rk_some e3) rfl rfl rfl rfl ?_
    refine dr_ic_ge 68 dX12_engraveAll_14 (by decide) (fun c1 => ?_) (fun c1 => ?_)
    · replace H := wp_t c1 H
      refine ql_i2 dX12_engraveAll_68 ?_
      replace H := lp_re H
      exact dr_iret dX12_engraveAll_69 rfl rfl H
    · replace H := wp_f c1 H
      refine ql_a0 dX12_engraveAll_17 ?_
      obtain ⟨w2, e4, H⟩ := wp_b H
      refine dr_getR dX12_engraveAll_18 fg_X12_30 e4 ?_
      refine ql_i3 dX12_engraveAll_21 ?_
      obtain ⟨u2, e6, H⟩ := wp_b H
      obtain ⟨a2, e5, H⟩ := wp_b H
      refine dc_F1r (C := (RJx4a65c, TJx4a65c, 3)) dX12_engraveAll_22 ml_X12_133 mf_Jx4a65c_get_915e3 (List.mem_of_getElem? (i := 3) rfl) (C_Jx4a65c_get_915e3 e5) (dm_rk_some e6) rfl rfl rfl rfl ?_
      obtain ⟨u3, e7, H⟩ := wp_b H
      refine dr_cast dX12_engraveAll_27 fc_X12_112 (dm_ck_some e7) ?_
      refine dr_iconst (iI (1)) dX12_engraveAll_30 rfl ?_
      obtain ⟨a3, e8, H⟩ := wp_b H
      refine dr_iald dX12_engraveAll_31 e8 ?_
      refine dr_iconst (iI (1)) dX12_engraveAll_32 rfl ?_
      refine dr_ic_eq 62 dX12_engraveAll_33 (by decide) (fun c2 => ?_) (fun c2 => ?_)
      · replace H := wp_t c2 H
        refine qn_1_3 dX12_engraveAll_62 rfl trivial ?_
        refine dr_goto 4 dX12_engraveAll_65 (by decide) ?_
        exact dr_wk (am_s (am_s (am_s (am_s (am_n am_0))))) ((lp_in H) _ _ _ _ _ rfl)
      · replace H := wp_f c2 H
        refine ql_a0 dX12_engraveAll_36 ?_
        obtain ⟨w3, e9, H⟩ := wp_b H
        refine dr_getR dX12_engraveAll_37 fg_X12_36 e9 ?_
        obtain ⟨u4, e11, H⟩ := wp_b H
        obtain ⟨a4, e10, H⟩ := wp_b H
        refine dc_F0i (C := (RJx4a65c, TJx4a65c, 3)) dX12_engraveAll_40 ml_X12_129 mf_Jx4a65c_size_8abf5 (List.mem_of_getElem? (i := 2) rfl) (C_Jx4a65c_size_8abf5 e10) (dm_rk_some e11) rfl rfl rfl rfl ?_
        refine ql_i1 dX12_engraveAll_45 ?_
        refine dr_ic_le 52 dX12_engraveAll_46 (by decide) (fun c3 => ?_) (fun c3 => ?_)
        · replace H := wp_t c3 H
          refine ql_a0 dX12_engraveAll_52 ?_
          refine ql_i3 dX12_engraveAll_53 ?_
          obtain ⟨u5, e13, H⟩ := wp_b H
          obtain ⟨a5, e12, H⟩ := wp_b H
          refine dc_V1i (C := (RX12, TX12, 11)) dX12_engraveAll_54 ml_X12_179 mc_X12_engrave (C_X12_engrave e12) (dm_rk_some e13) rfl rfl rfl rfl rfl ?_
          refine qs_i4 dX12_engraveAll_57 rfl trivial ?_
          refine qn_1_2 dX12_engraveAll_59 rfl trivial ?_
          refine qn_1_3 dX12_engraveAll_62 rfl trivial ?_
          refine dr_goto 4 dX12_engraveAll_65 (by decide) ?_
          exact dr_wk (am_s (am_s (am_s (am_s (am_n am_0))))) ((lp_in H) _ _ _ _ _ rfl)
        · replace H := wp_f c3 H
          refine dr_goto 62 dX12_engraveAll_49 (by decide) ?_
          refine qn_1_3 dX12_engraveAll_62 rfl trivial ?_
          refine dr_goto 4 dX12_engraveAll_65 (by decide) ?_
          exact dr_wk (am_s (am_s (am_s (am_s (am_n am_0))))) ((lp_in H) _ _ _ _ _ rfl)
theorem C_X12_engraveAll {X : dm_X} {q0 : am_G × Nat} {x1 : Int32} {h : am_H} {d : dm_D} {a : Int32 × dm_D} (e : F_X12_engraveAll X q0 x1 d = some a) : dm_Mx X yX12_engraveAll cX12_engraveAll 5 (some .int) 8 181 [.inr q0, am_i x1] h d (some (am_i a.1)) h a.2 := by
  refine dm_M.ofx (A := [some (.inr q0), some (am_i x1), none, none, none]) (by decide +kernel) rfl (ble rfl) (fun Q hQ => ?_)
  have H : wp (F_X12_engraveAll X q0 x1 d) (fun a => Q (some (am_i a.1)) h a.2) := ⟨_, e, hQ⟩
  unfold F_X12_engraveAll at H
  refine dr_iconst (iI (0)) dX12_engraveAll_0 rfl ?_
  refine qs_i2 dX12_engraveAll_1 rfl trivial ?_
  refine dr_iconst (iI (0)) dX12_engraveAll_2 rfl ?_
  refine qs_i3 dX12_engraveAll_3 rfl trivial ?_
  exact dr_wk (am_s (am_s (am_s (am_s (am_n am_0))))) ((C_X12_engraveAll_L _ H) _ _ _ _ _ rfl)
noncomputable def S_X12_parts (X : dm_X)  : dm_S dm_D → Option (dm_S dm_D ⊕ (Int32 × dm_D)) := fun s => match s with
  | (15, [x2, x3], [q4], d) => (dm_rk d q4 15).bind (fun u1 => (F_Jx35411_hasNext_aae02 X q4 d).bind (fun a1 => if a1 = 0 then (some (.inr (x2, d))) else ((dm_rk d q4 15).bind (fun u2 => (F_Jx35411_next_0502b X q4 d).bind (fun a2 => (dm_ck a2.2 a2.1).bind (fun u3 => (dm_li X a2.2 a2.1 (iI (1))).bind (fun a3 => (F_J9_min_7cf53 x3 ((iI (10)) * a3)).bind (fun a4 => (dm_li X a2.2 a2.1 (iI (0))).bind (fun a5 => some (.inl (15, [(x2 + (a4 * a5)), (x3 - a4)], [q4], a2.2)))))))))))
  | _ => none
noncomputable def F_X12_parts_15 (X : dm_X) (x2 : Int32) (x3 : Int32) (q4 : am_G × Nat) (d : dm_D) : Option (Int32 × dm_D) := lp (S_X12_parts X) (15, [x2, x3], [q4], d)
theorem E_X12_parts_15 (X : dm_X) (x2 : Int32) (x3 : Int32) (q4 : am_G × Nat) (d : dm_D) : F_X12_parts_15 X x2 x3 q4 d = ((dm_rk d q4 15).bind (fun u1 => (F_Jx35411_hasNext_aae02 X q4 d).bind (fun a1 => if a1 = 0 then (some (x2, d)) else ((dm_rk d q4 15).bind (fun u2 => (F_Jx35411_next_0502b X q4 d).bind (fun a2 => (dm_ck a2.2 a2.1).bind (fun u3 => (dm_li X a2.2 a2.1 (iI (1))).bind (fun a3 => (F_J9_min_7cf53 x3 ((iI (10)) * a3)).bind (fun a4 => (dm_li X a2.2 a2.1 (iI (0))).bind (fun a5 => F_X12_parts_15 X (x2 + (a4 * a5)) (x3 - a4) q4 a2.2)))))))))) := by
  show lp _ _ = _
  rw [lp_eq, S_X12_parts]
  simp only [lpk_i, lpk_b, lpk_n, lpk_j, lpk_r] <;> rfl
noncomputable def F_X12_parts (X : dm_X) (q0 : am_G × Nat) (x1 : Int32) (d : dm_D) : Option (Int32 × dm_D) :=
  (dm_fr d q0 12 6).bind (fun w1 => (dm_rk d w1 16).bind (fun u1 => (F_Jx4a65c_iterator_32c93 X w1 d).bind (fun a1 => F_X12_parts_15 X (iI (0)) x1 a1.1 a1.2)))
theorem C_X12_parts_L {X : dm_X} {h : am_H} {k0 : Nat} {Q : Option am_v → am_H → dm_D → Prop} : ∀ s, wp (lp (S_X12_parts X) s) (fun a => Q (some (am_i a.1)) h a.2) → ((∀ x2 x3 q4 d, s = (15, [x2, x3], [q4], d) → dm_V RX12 "parts" cX12_parts 7 (some .int) 3 61 k0 X (dm_Tm cX12_parts (some .int) Q) 15 [none, none, some (am_i x2), some (am_i x3), some (.inr q4), none, none] [] h d)) := by
  refine lp_ind _ _ (fun s H => fun x2 x3 q4 d e => ?_)
  · subst e
    rw [S_X12_parts] at H
    refine ql_a4 dX12_parts_15 ?_
    obtain ⟨u1, e2, H⟩ := wp_b H
    obtain ⟨a1, e1, H⟩ := wp_b H
    refine dc_F0i (C := (RJx35411, TJx35411, 4)) dX12_parts_17 ml_X12_120 mf_Jx35411_hasNext_aae02 (List.mem_of_getElem? (i := 6) rfl) (C_Jx35411_hasNext_aae02 e1) (dm_rk_some e2) rfl rfl rfl rfl ?_
    refine dr_if_eq 68 dX12_parts_22 (by decide) (fun c1 => ?_) (fun c1 => ?_)
    · replace H := wp_t c1 H
      refine ql_i2 dX12_parts_68 ?_
      replace H := lp_re H
      exact dr_iret dX12_parts_69 rfl rfl H
    · replace H := wp_f c1 H
      refine ql_a4 dX12_parts_25 ?_
      obtain ⟨u2, e4, H⟩ := wp_b H
      obtain ⟨a2, e3, H⟩ := wp_b H
      refine dc_F0r (C := (RJx35411, TJx35411, 4)) dX12_parts_27 ml_X12_126 mf_Jx35411_next_0502b (List.mem_of_getElem? (i := 7) rfl) (C_Jx35411_next_0502b e3) (dm_rk_some e4) rfl rfl rfl rfl ?_
      obtain ⟨u3, e5, H⟩ := wp_b H
      refine dr_cast dX12_parts_32 fc_X12_112 (dm_ck_some e5) ?_
      refine qs_a5 dX12_parts_35 rfl trivial ?_
      refine ql_i3 dX12_parts_37 ?_
      refine dr_bipush (iI (10)) dX12_parts_38 rfl ?_
      refine ql_a5 dX12_parts_40 ?_
      refine dr_iconst (iI (1)) dX12_parts_42 rfl ?_
      obtain ⟨a3, e6, H⟩ := wp_b H
      refine dr_iald dX12_parts_43 e6 ?_
      refine dr_imul dX12_parts_44 ?_
      obtain ⟨a4, e7, H⟩ := wp_b H
      refine dc_S2i dX12_parts_45 ml_X12_140 mc_J9_min_7cf53 (C_J9_min_7cf53 e7) rfl rfl rfl ?_
      refine qs_i6 dX12_parts_48 rfl trivial ?_
      refine ql_i2 dX12_parts_50 ?_
      refine ql_i6 dX12_parts_51 ?_
      refine ql_a5 dX12_parts_53 ?_
      refine dr_iconst (iI (0)) dX12_parts_55 rfl ?_
      obtain ⟨a5, e8, H⟩ := wp_b H
      refine dr_iald dX12_parts_56 e8 ?_
      refine dr_imul dX12_parts_57 ?_
      refine dr_iadd dX12_parts_58 ?_
      refine qs_i2 dX12_parts_59 rfl trivial ?_
      refine ql_i3 dX12_parts_60 ?_
      refine ql_i6 dX12_parts_61 ?_
      refine dr_isub dX12_parts_63 ?_
      refine qs_i3 dX12_parts_64 rfl trivial ?_
      refine dr_goto 15 dX12_parts_65 (by decide) ?_
      exact dr_wk (am_n (am_n (am_s (am_s (am_s (am_n (am_n am_0))))))) ((lp_in H) _ _ _ _ rfl)
theorem C_X12_parts {X : dm_X} {q0 : am_G × Nat} {x1 : Int32} {h : am_H} {d : dm_D} {a : Int32 × dm_D} (e : F_X12_parts X q0 x1 d = some a) : dm_Mx X yX12_parts cX12_parts 7 (some .int) 3 61 [.inr q0, am_i x1] h d (some (am_i a.1)) h a.2 := by
  refine dm_M.ofx (A := [some (.inr q0), some (am_i x1), none, none, none, none, none]) (by decide +kernel) rfl (ble rfl) (fun Q hQ => ?_)
  have H : wp (F_X12_parts X q0 x1 d) (fun a => Q (some (am_i a.1)) h a.2) := ⟨_, e, hQ⟩
  unfold F_X12_parts at H
  refine dr_iconst (iI (0)) dX12_parts_0 rfl ?_
  refine qs_i2 dX12_parts_1 rfl trivial ?_
  refine ql_i1 dX12_parts_2 ?_
  refine qs_i3 dX12_parts_3 rfl trivial ?_
  refine ql_a0 dX12_parts_4 ?_
  obtain ⟨w1, e1, H⟩ := wp_b H
  refine dr_getR dX12_parts_5 fg_X12_26 e1 ?_
  obtain ⟨u1, e3, H⟩ := wp_b H
  obtain ⟨a1, e2, H⟩ := wp_b H
  refine dc_F0r (C := (RJx4a65c, TJx4a65c, 3)) dX12_parts_8 ml_X12_116 mf_Jx4a65c_iterator_32c93 (List.mem_of_getElem? (i := 5) rfl) (C_Jx4a65c_iterator_32c93 e2) (dm_rk_some e3) rfl rfl rfl rfl ?_
  refine qs_a4 dX12_parts_13 rfl trivial ?_
  exact dr_wk (am_n (am_n (am_s (am_s (am_s (am_n (am_n am_0))))))) ((C_X12_parts_L _ H) _ _ _ _ rfl)
noncomputable def F_X12_edge (X : dm_X) (q0 : am_G × Nat) (x1 : Int32) (x2 : Int32) (d : dm_D) : Option (Int32 × dm_D) :=
  (dm_rk d q0 12).bind (fun u1 => (F_X12_centre X q0 x1 d).bind (fun a1 => (dm_rk a1.2 q0 12).bind (fun u2 => (F_X12_parts X q0 a1.1 a1.2).bind (fun a2 => (dm_fr a2.2 q0 12 5).bind (fun w1 => (dm_fr a2.2 q0 12 7).bind (fun w2 => (dm_rk a2.2 w2 16).bind (fun u3 => (F_Jx4a65c_get_915e3 X w2 x1 a2.2).bind (fun a3 => (dm_ck a2.2 a3).bind (fun u4 => (dm_li X a2.2 a3 (iI (0))).bind (fun a4 => (dm_li X a2.2 w1 a4).bind (fun a5 => some ((a2.1 + ((x2 * (iI (500))) * a5)), a2.2))))))))))))
theorem C_X12_edge {X : dm_X} {q0 : am_G × Nat} {x1 : Int32} {x2 : Int32} {h : am_H} {d : dm_D} {a : Int32 × dm_D} (e : F_X12_edge X q0 x1 x2 d = some a) : dm_Mx X yX12_edge cX12_edge 3 (some .int) 5 105 [.inr q0, am_i x1, am_i x2] h d (some (am_i a.1)) h a.2 := by
  refine dm_M.ofx (A := [some (.inr q0), some (am_i x1), some (am_i x2)]) (by decide +kernel) rfl (ble rfl) (fun Q hQ => ?_)
  have H : wp (F_X12_edge X q0 x1 x2 d) (fun a => Q (some (am_i a.1)) h a.2) := ⟨_, e, hQ⟩
  unfold F_X12_edge at H
  refine ql_a0 dX12_edge_0 ?_
  refine ql_a0 dX12_edge_1 ?_
  refine ql_i1 dX12_edge_2 ?_
  obtain ⟨u1, e2, H⟩ := wp_b H
  obtain ⟨a1, e1, H⟩ := wp_b H
  refine dc_V1i (C := (RX12, TX12, 11)) dX12_edge_3 ml_X12_149 mc_X12_centre (C_X12_centre e1) (dm_rk_some e2) rfl rfl rfl rfl rfl ?_
  obtain ⟨u2, e4, H⟩ := wp_b H
  obtain ⟨a2, e3, H⟩ := wp_b H
  refine dc_V1i (C := (RX12, TX12, 11)) dX12_edge_6 ml_X12_153 mc_X12_parts (C_X12_parts e3) (dm_rk_some e4) rfl rfl rfl rfl rfl ?_
  refine ql_i2 dX12_edge_9 ?_
  refine dr_sipush (iI (500)) dX12_edge_10 rfl ?_
  refine dr_imul dX12_edge_13 ?_
  refine ql_a0 dX12_edge_14 ?_
  obtain ⟨w1, e5, H⟩ := wp_b H
  refine dr_getR dX12_edge_15 fg_X12_19 e5 ?_
  refine ql_a0 dX12_edge_18 ?_
  obtain ⟨w2, e6, H⟩ := wp_b H
  refine dr_getR dX12_edge_19 fg_X12_30 e6 ?_
  refine ql_i1 dX12_edge_22 ?_
  obtain ⟨u3, e8, H⟩ := wp_b H
  obtain ⟨a3, e7, H⟩ := wp_b H
  refine dc_F1r (C := (RJx4a65c, TJx4a65c, 3)) dX12_edge_23 ml_X12_133 mf_Jx4a65c_get_915e3 (List.mem_of_getElem? (i := 3) rfl) (C_Jx4a65c_get_915e3 e7) (dm_rk_some e8) rfl rfl rfl rfl ?_
  obtain ⟨u4, e9, H⟩ := wp_b H
  refine dr_cast dX12_edge_28 fc_X12_112 (dm_ck_some e9) ?_
  refine dr_iconst (iI (0)) dX12_edge_31 rfl ?_
  obtain ⟨a4, e10, H⟩ := wp_b H
  refine dr_iald dX12_edge_32 e10 ?_
  obtain ⟨a5, e11, H⟩ := wp_b H
  refine dr_iald dX12_edge_33 e11 ?_
  refine dr_imul dX12_edge_34 ?_
  refine dr_iadd dX12_edge_35 ?_
  replace H := wp_s H
  exact dr_iret dX12_edge_36 rfl rfl H
noncomputable def F_X12_room_30 (X : dm_X) (q0 : am_G × Nat) (x1 : Int32) (y0 : Int32) (d : dm_D) : Option (Int32 × dm_D) :=
  if x1 = 0 then (some ((y0 - (iI (0))), d)) else ((dm_rk d q0 12).bind (fun u1 => (F_X12_edge X q0 (x1 - (iI (1))) (iI (1)) d).bind (fun a1 => some ((y0 - a1.1), a1.2))))
noncomputable def F_X12_room (X : dm_X) (q0 : am_G × Nat) (x1 : Int32) (d : dm_D) : Option (Int32 × dm_D) :=
  (dm_fr d q0 12 7).bind (fun w1 => (dm_rk d w1 16).bind (fun u1 => (F_Jx4a65c_size_8abf5 X w1 d).bind (fun a1 => if x1 = a1 then ((dm_rk d q0 12).bind (fun u2 => (F_X12_whole X q0 d).bind (fun a2 => (dm_rk a2.2 q0 12).bind (fun u3 => (F_X12_parts X q0 a2.1 a2.2).bind (fun a3 => F_X12_room_30 X q0 x1 a3.1 a3.2))))) else ((dm_rk d q0 12).bind (fun u2 => (F_X12_edge X q0 x1 (iI (-1)) d).bind (fun a2 => F_X12_room_30 X q0 x1 a2.1 a2.2))))))
theorem C_X12_room_30 {X : dm_X} {q0 : am_G × Nat} {x1 : Int32} {y0 : Int32} {h : am_H} {d : dm_D} {k0 : Nat} {Q : Option am_v → am_H → dm_D → Prop} (H : wp (F_X12_room_30 X q0 x1 y0 d) (fun a => Q (some (am_i a.1)) h a.2)) : dm_V RX12 "room" cX12_room 2 (some .int) 6 127 k0 X (dm_Tm cX12_room (some .int) Q) 30 [some (.inr q0), some (am_i x1)] [am_i y0] h d := by
  unfold F_X12_room_30 at H
  refine ql_i1 dX12_room_30 ?_
  refine dr_if_ne 38 dX12_room_31 (by decide) (fun c1 => ?_) (fun c1 => ?_)
  · replace H := wp_f c1 H
    refine ql_a0 dX12_room_38 ?_
    refine ql_i1 dX12_room_39 ?_
    refine dr_iconst (iI (1)) dX12_room_40 rfl ?_
    refine dr_isub dX12_room_41 ?_
    refine dr_iconst (iI (1)) dX12_room_42 rfl ?_
    obtain ⟨u1, e2, H⟩ := wp_b H
    obtain ⟨a1, e1, H⟩ := wp_b H
    refine dc_V2i (C := (RX12, TX12, 11)) dX12_room_43 ml_X12_156 mc_X12_edge (C_X12_edge e1) (dm_rk_some e2) rfl rfl rfl rfl rfl ?_
    refine dr_isub dX12_room_46 ?_
    replace H := wp_s H
    exact dr_iret dX12_room_47 rfl rfl H
  · replace H := wp_t c1 H
    refine dr_iconst (iI (0)) dX12_room_34 rfl ?_
    refine dr_goto 46 dX12_room_35 (by decide) ?_
    refine dr_isub dX12_room_46 ?_
    replace H := wp_s H
    exact dr_iret dX12_room_47 rfl rfl H
theorem C_X12_room {X : dm_X} {q0 : am_G × Nat} {x1 : Int32} {h : am_H} {d : dm_D} {a : Int32 × dm_D} (e : F_X12_room X q0 x1 d = some a) : dm_Mx X yX12_room cX12_room 2 (some .int) 6 127 [.inr q0, am_i x1] h d (some (am_i a.1)) h a.2 := by
  refine dm_M.ofx (A := [some (.inr q0), some (am_i x1)]) (by decide +kernel) rfl (ble rfl) (fun Q hQ => ?_)
  have H : wp (F_X12_room X q0 x1 d) (fun a => Q (some (am_i a.1)) h a.2) := ⟨_, e, hQ⟩
  unfold F_X12_room at H
  refine ql_i1 dX12_room_0 ?_
  refine ql_a0 dX12_room_1 ?_
  obtain ⟨w1, e1, H⟩ := wp_b H
  refine dr_getR dX12_room_2 fg_X12_30 e1 ?_
  obtain ⟨u1, e3, H⟩ := wp_b H
  obtain ⟨a1, e2, H⟩ := wp_b H
  refine dc_F0i (C := (RJx4a65c, TJx4a65c, 3)) dX12_room_5 ml_X12_129 mf_Jx4a65c_size_8abf5 (List.mem_of_getElem? (i := 2) rfl) (C_Jx4a65c_size_8abf5 e2) (dm_rk_some e3) rfl rfl rfl rfl ?_
  refine dr_ic_ne 24 dX12_room_10 (by decide) (fun c1 => ?_) (fun c1 => ?_)
  · replace H := wp_f c1 H
    refine ql_a0 dX12_room_24 ?_
    refine ql_i1 dX12_room_25 ?_
    refine dr_iconst (iI (-1)) dX12_room_26 rfl ?_
    obtain ⟨u2, e5, H⟩ := wp_b H
    obtain ⟨a2, e4, H⟩ := wp_b H
    refine dc_V2i (C := (RX12, TX12, 11)) dX12_room_27 ml_X12_156 mc_X12_edge (C_X12_edge e4) (dm_rk_some e5) rfl rfl rfl rfl rfl ?_
    exact dr_wk (am_s (am_s am_0)) (C_X12_room_30 H)
  · replace H := wp_t c1 H
    refine ql_a0 dX12_room_13 ?_
    refine ql_a0 dX12_room_14 ?_
    obtain ⟨u2, e5, H⟩ := wp_b H
    obtain ⟨a2, e4, H⟩ := wp_b H
    refine dc_V0i (C := (RX12, TX12, 11)) dX12_room_15 ml_X12_146 mc_X12_whole (C_X12_whole e4) (dm_rk_some e5) rfl rfl rfl rfl rfl ?_
    obtain ⟨u3, e7, H⟩ := wp_b H
    obtain ⟨a3, e6, H⟩ := wp_b H
    refine dc_V1i (C := (RX12, TX12, 11)) dX12_room_18 ml_X12_153 mc_X12_parts (C_X12_parts e6) (dm_rk_some e7) rfl rfl rfl rfl rfl ?_
    refine dr_goto 30 dX12_room_21 (by decide) ?_
    exact dr_wk (am_s (am_s am_0)) (C_X12_room_30 H)
noncomputable def F_X12_spoils (X : dm_X) (q0 : am_G × Nat) (q1 : am_G × Nat) (d : dm_D) : Option (Int32 × dm_D) :=
  (dm_li X d q1 (iI (0))).bind (fun a1 => (dm_fr d q0 12 7).bind (fun w1 => (dm_rk d w1 16).bind (fun u1 => (F_Jx4a65c_size_8abf5 X w1 d).bind (fun a2 => if a2 ≤ (a1 + (iI (1))) then (some ((iI (-1)), d)) else ((dm_li X d q1 (iI (1))).bind (fun a3 => (dm_li X d q1 (iI (0))).bind (fun a4 => (dm_rk d q0 12).bind (fun u2 => (F_X12_room X q0 (a4 + (iI (1))) d).bind (fun a5 => if a3 ≤ a5.1 then (some ((iI (-1)), a5.2)) else ((dm_li X a5.2 q1 (iI (0))).bind (fun a6 => some ((a6 + (iI (1))), a5.2))))))))))))
theorem C_X12_spoils {X : dm_X} {q0 : am_G × Nat} {q1 : am_G × Nat} {h : am_H} {d : dm_D} {a : Int32 × dm_D} (e : F_X12_spoils X q0 q1 d = some a) : dm_Mx X yX12_spoils cX12_spoils 2 (some .int) 7 148 [.inr q0, .inr q1] h d (some (am_i a.1)) h a.2 := by
  refine dm_M.ofx (A := [some (.inr q0), some (.inr q1)]) (by decide +kernel) rfl (ble rfl) (fun Q hQ => ?_)
  have H : wp (F_X12_spoils X q0 q1 d) (fun a => Q (some (am_i a.1)) h a.2) := ⟨_, e, hQ⟩
  unfold F_X12_spoils at H
  refine ql_a1 dX12_spoils_0 ?_
  refine dr_iconst (iI (0)) dX12_spoils_1 rfl ?_
  obtain ⟨a1, e1, H⟩ := wp_b H
  refine dr_iald dX12_spoils_2 e1 ?_
  refine dr_iconst (iI (1)) dX12_spoils_3 rfl ?_
  refine dr_iadd dX12_spoils_4 ?_
  refine ql_a0 dX12_spoils_5 ?_
  obtain ⟨w1, e2, H⟩ := wp_b H
  refine dr_getR dX12_spoils_6 fg_X12_30 e2 ?_
  obtain ⟨u1, e4, H⟩ := wp_b H
  obtain ⟨a2, e3, H⟩ := wp_b H
  refine dc_F0i (C := (RJx4a65c, TJx4a65c, 3)) dX12_spoils_9 ml_X12_129 mf_Jx4a65c_size_8abf5 (List.mem_of_getElem? (i := 2) rfl) (C_Jx4a65c_size_8abf5 e3) (dm_rk_some e4) rfl rfl rfl rfl ?_
  refine dr_ic_ge 40 dX12_spoils_14 (by decide) (fun c1 => ?_) (fun c1 => ?_)
  · replace H := wp_t c1 H
    refine dr_iconst (iI (-1)) dX12_spoils_40 rfl ?_
    replace H := wp_s H
    exact dr_iret dX12_spoils_41 rfl rfl H
  · replace H := wp_f c1 H
    refine ql_a1 dX12_spoils_17 ?_
    refine dr_iconst (iI (1)) dX12_spoils_18 rfl ?_
    obtain ⟨a3, e5, H⟩ := wp_b H
    refine dr_iald dX12_spoils_19 e5 ?_
    refine ql_a0 dX12_spoils_20 ?_
    refine ql_a1 dX12_spoils_21 ?_
    refine dr_iconst (iI (0)) dX12_spoils_22 rfl ?_
    obtain ⟨a4, e6, H⟩ := wp_b H
    refine dr_iald dX12_spoils_23 e6 ?_
    refine dr_iconst (iI (1)) dX12_spoils_24 rfl ?_
    refine dr_iadd dX12_spoils_25 ?_
    obtain ⟨u2, e8, H⟩ := wp_b H
    obtain ⟨a5, e7, H⟩ := wp_b H
    refine dc_V1i (C := (RX12, TX12, 11)) dX12_spoils_26 ml_X12_159 mc_X12_room (C_X12_room e7) (dm_rk_some e8) rfl rfl rfl rfl rfl ?_
    refine dr_ic_le 40 dX12_spoils_29 (by decide) (fun c2 => ?_) (fun c2 => ?_)
    · replace H := wp_t c2 H
      refine dr_iconst (iI (-1)) dX12_spoils_40 rfl ?_
      replace H := wp_s H
      exact dr_iret dX12_spoils_41 rfl rfl H
    · replace H := wp_f c2 H
      refine ql_a1 dX12_spoils_32 ?_
      refine dr_iconst (iI (0)) dX12_spoils_33 rfl ?_
      obtain ⟨a6, e9, H⟩ := wp_b H
      refine dr_iald dX12_spoils_34 e9 ?_
      refine dr_iconst (iI (1)) dX12_spoils_35 rfl ?_
      refine dr_iadd dX12_spoils_36 ?_
      refine dr_goto 41 dX12_spoils_37 (by decide) ?_
      replace H := wp_s H
      exact dr_iret dX12_spoils_41 rfl rfl H
noncomputable def S_X12_isSpoiled (X : dm_X)  : dm_S dm_D → Option (dm_S dm_D ⊕ (Int32 × dm_D)) := fun s => match s with
  | (10, [x1], [q0, q2], d) => (dm_rk d q2 15).bind (fun u1 => (F_Jx35411_hasNext_aae02 X q2 d).bind (fun a1 => if a1 = 0 then (some (.inr ((iI (0)), d))) else ((dm_rk d q2 15).bind (fun u2 => (F_Jx35411_next_0502b X q2 d).bind (fun a2 => (dm_ck a2.2 a2.1).bind (fun u3 => (dm_rk a2.2 q0 12).bind (fun u4 => (F_X12_spoils X q0 a2.1 a2.2).bind (fun a3 => if a3.1 = x1 then (some (.inr ((iI (1)), a3.2))) else (some (.inl (10, [x1], [q0, q2], a3.2)))))))))))
  | _ => none
noncomputable def F_X12_isSpoiled_10 (X : dm_X) (q0 : am_G × Nat) (x1 : Int32) (q2 : am_G × Nat) (d : dm_D) : Option (Int32 × dm_D) := lp (S_X12_isSpoiled X) (10, [x1], [q0, q2], d)
theorem E_X12_isSpoiled_10 (X : dm_X) (q0 : am_G × Nat) (x1 : Int32) (q2 : am_G × Nat) (d : dm_D) : F_X12_isSpoiled_10 X q0 x1 q2 d = ((dm_rk d q2 15).bind (fun u1 => (F_Jx35411_hasNext_aae02 X q2 d).bind (fun a1 => if a1 = 0 then (some ((iI (0)), d)) else ((dm_rk d q2 15).bind (fun u2 => (F_Jx35411_next_0502b X q2 d).bind (fun a2 => (dm_ck a2.2 a2.1).bind (fun u3 => (dm_rk a2.2 q0 12).bind (fun u4 => (F_X12_spoils X q0 a2.1 a2.2).bind (fun a3 => if a3.1 = x1 then (some ((iI (1)), a3.2)) else (F_X12_isSpoiled_10 X q0 x1 q2 a3.2)))))))))) := by
  show lp _ _ = _
  rw [lp_eq, S_X12_isSpoiled]
  simp only [lpk_i, lpk_b, lpk_n, lpk_j, lpk_r] <;> rfl
noncomputable def F_X12_isSpoiled (X : dm_X) (q0 : am_G × Nat) (x1 : Int32) (d : dm_D) : Option (Int32 × dm_D) :=
  (dm_fr d q0 12 9).bind (fun w1 => (dm_rk d w1 16).bind (fun u1 => (F_Jx4a65c_iterator_32c93 X w1 d).bind (fun a1 => F_X12_isSpoiled_10 X q0 x1 a1.1 a1.2)))
theorem C_X12_isSpoiled_L {X : dm_X} {h : am_H} {k0 : Nat} {Q : Option am_v → am_H → dm_D → Prop} : ∀ s, wp (lp (S_X12_isSpoiled X) s) (fun a => Q (some (am_i a.1)) h a.2) → ((∀ q0 x1 q2 d, s = (10, [x1], [q0, q2], d) → dm_V RX12 "isSpoiled" cX12_isSpoiled 4 (some .boolean) 8 169 k0 X (dm_Tm cX12_isSpoiled (some .boolean) Q) 10 [some (.inr q0), some (am_i x1), some (.inr q2), none] [] h d)) := by
  refine lp_ind _ _ (fun s H => fun q0 x1 q2 d e => ?_)
  · subst e
    rw [S_X12_isSpoiled] at H
    refine ql_a2 dX12_isSpoiled_10 ?_
    obtain ⟨u1, e2, H⟩ := wp_b H
    obtain ⟨a1, e1, H⟩ := wp_b H
    refine dc_F0i (C := (RJx35411, TJx35411, 4)) dX12_isSpoiled_11 ml_X12_120 mf_Jx35411_hasNext_aae02 (List.mem_of_getElem? (i := 6) rfl) (C_Jx35411_hasNext_aae02 e1) (dm_rk_some e2) rfl rfl rfl rfl ?_
    refine dr_if_eq 43 dX12_isSpoiled_16 (by decide) (fun c1 => ?_) (fun c1 => ?_)
    · replace H := wp_t c1 H
      refine dr_iconst (iI (0)) dX12_isSpoiled_43 rfl ?_
      replace H := lp_re H
      exact dr_iret dX12_isSpoiled_44 rfl rfl H
    · replace H := wp_f c1 H
      refine ql_a2 dX12_isSpoiled_19 ?_
      obtain ⟨u2, e4, H⟩ := wp_b H
      obtain ⟨a2, e3, H⟩ := wp_b H
      refine dc_F0r (C := (RJx35411, TJx35411, 4)) dX12_isSpoiled_20 ml_X12_126 mf_Jx35411_next_0502b (List.mem_of_getElem? (i := 7) rfl) (C_Jx35411_next_0502b e3) (dm_rk_some e4) rfl rfl rfl rfl ?_
      obtain ⟨u3, e5, H⟩ := wp_b H
      refine dr_cast dX12_isSpoiled_25 fc_X12_112 (dm_ck_some e5) ?_
      refine qs_a3 dX12_isSpoiled_28 rfl trivial ?_
      refine ql_a0 dX12_isSpoiled_29 ?_
      refine ql_a3 dX12_isSpoiled_30 ?_
      obtain ⟨u4, e7, H⟩ := wp_b H
      obtain ⟨a3, e6, H⟩ := wp_b H
      refine dc_V1i (C := (RX12, TX12, 11)) dX12_isSpoiled_31 ml_X12_165 mc_X12_spoils (C_X12_spoils e6) (dm_rk_some e7) rfl rfl rfl rfl rfl ?_
      refine ql_i1 dX12_isSpoiled_34 ?_
      refine dr_ic_ne 40 dX12_isSpoiled_35 (by decide) (fun c2 => ?_) (fun c2 => ?_)
      · replace H := wp_f c2 H
        refine dr_goto 10 dX12_isSpoiled_40 (by decide) ?_
        exact dr_wk (am_s (am_s (am_s (am_n am_0)))) ((lp_in H) _ _ _ _ rfl)
      · replace H := wp_t c2 H
        refine dr_iconst (iI (1)) dX12_isSpoiled_38 rfl ?_
        replace H := lp_re H
        exact dr_iret dX12_isSpoiled_39 rfl rfl H
theorem C_X12_isSpoiled {X : dm_X} {q0 : am_G × Nat} {x1 : Int32} {h : am_H} {d : dm_D} {a : Int32 × dm_D} (e : F_X12_isSpoiled X q0 x1 d = some a) : dm_Mx X yX12_isSpoiled cX12_isSpoiled 4 (some .boolean) 8 169 [.inr q0, am_i x1] h d (some (am_i a.1)) h a.2 := by
  refine dm_M.ofx (A := [some (.inr q0), some (am_i x1), none, none]) (by decide +kernel) rfl (ble rfl) (fun Q hQ => ?_)
  have H : wp (F_X12_isSpoiled X q0 x1 d) (fun a => Q (some (am_i a.1)) h a.2) := ⟨_, e, hQ⟩
  unfold F_X12_isSpoiled at H
  refine ql_a0 dX12_isSpoiled_0 ?_
  obtain ⟨w1, e1, H⟩ := wp_b H
  refine dr_getR dX12_isSpoiled_1 fg_X12_36 e1 ?_
  obtain ⟨u1, e3, H⟩ := wp_b H
  obtain ⟨a1, e2, H⟩ := wp_b H
  refine dc_F0r (C := (RJx4a65c, TJx4a65c, 3)) dX12_isSpoiled_4 ml_X12_116 mf_Jx4a65c_iterator_32c93 (List.mem_of_getElem? (i := 5) rfl) (C_Jx4a65c_iterator_32c93 e2) (dm_rk_some e3) rfl rfl rfl rfl ?_
  refine qs_a2 dX12_isSpoiled_9 rfl trivial ?_
  exact dr_wk (am_s (am_s (am_s (am_n am_0)))) ((C_X12_isSpoiled_L _ H) _ _ _ _ rfl)
noncomputable def S_X12_bend (X : dm_X)  : dm_S dm_D → Option (dm_S dm_D ⊕ (Int32 × dm_D)) := fun s => match s with
  | (15, [x2, x3], [q4], d) => (dm_rk d q4 15).bind (fun u1 => (F_Jx35411_hasNext_aae02 X q4 d).bind (fun a1 => if a1 = 0 then (some (.inr (x2, d))) else ((dm_rk d q4 15).bind (fun u2 => (F_Jx35411_next_0502b X q4 d).bind (fun a2 => (dm_ck a2.2 a2.1).bind (fun u3 => (dm_li X a2.2 a2.1 (iI (1))).bind (fun a3 => (F_J9_min_7cf53 x3 ((iI (10)) * a3)).bind (fun a4 => (dm_li X a2.2 a2.1 (iI (2))).bind (fun a5 => if a5 = (iI (1)) then (some (.inl (15, [(x2 + (- a4)), (x3 - a4)], [q4], a2.2))) else (some (.inl (15, [(x2 + a4), (x3 - a4)], [q4], a2.2))))))))))))
  | _ => none
noncomputable def F_X12_bend_15 (X : dm_X) (x2 : Int32) (x3 : Int32) (q4 : am_G × Nat) (d : dm_D) : Option (Int32 × dm_D) := lp (S_X12_bend X) (15, [x2, x3], [q4], d)
theorem E_X12_bend_15 (X : dm_X) (x2 : Int32) (x3 : Int32) (q4 : am_G × Nat) (d : dm_D) : F_X12_bend_15 X x2 x3 q4 d = ((dm_rk d q4 15).bind (fun u1 => (F_Jx35411_hasNext_aae02 X q4 d).bind (fun a1 => if a1 = 0 then (some (x2, d)) else ((dm_rk d q4 15).bind (fun u2 => (F_Jx35411_next_0502b X q4 d).bind (fun a2 => (dm_ck a2.2 a2.1).bind (fun u3 => (dm_li X a2.2 a2.1 (iI (1))).bind (fun a3 => (F_J9_min_7cf53 x3 ((iI (10)) * a3)).bind (fun a4 => (dm_li X a2.2 a2.1 (iI (2))).bind (fun a5 => if a5 = (iI (1)) then (F_X12_bend_15 X (x2 + (- a4)) (x3 - a4) q4 a2.2) else (F_X12_bend_15 X (x2 + a4) (x3 - a4) q4 a2.2))))))))))) := by
  show lp _ _ = _
  rw [lp_eq, S_X12_bend]
  simp only [lpk_i, lpk_b, lpk_n, lpk_j, lpk_r] <;> rfl
noncomputable def F_X12_bend (X : dm_X) (q0 : am_G × Nat) (x1 : Int32) (d : dm_D) : Option (Int32 × dm_D) :=
  (dm_fr d q0 12 6).bind (fun w1 => (dm_rk d w1 16).bind (fun u1 => (F_Jx4a65c_iterator_32c93 X w1 d).bind (fun a1 => F_X12_bend_15 X (iI (0)) x1 a1.1 a1.2)))
theorem C_X12_bend_L {X : dm_X} {h : am_H} {k0 : Nat} {Q : Option am_v → am_H → dm_D → Prop} : ∀ s, wp (lp (S_X12_bend X) s) (fun a => Q (some (am_i a.1)) h a.2) → ((∀ x2 x3 q4 d, s = (15, [x2, x3], [q4], d) → dm_V RX12 "bend" cX12_bend 7 (some .int) 3 61 k0 X (dm_Tm cX12_bend (some .int) Q) 15 [none, none, some (am_i x2), some (am_i x3), some (.inr q4), none, none] [] h d)) := by
  refine lp_ind _ _ (fun s H => fun x2 x3 q4 d e => ?_)
  · subst e
    rw [S_X12_bend] at H
    refine ql_a4 dX12_bend_15 ?_
    obtain ⟨u1, e2, H⟩ := wp_b H
    obtain ⟨a1, e1, H⟩ := wp_b H
    refine dc_F0i (C := (RJx35411, TJx35411, 4)) dX12_bend_17 ml_X12_120 mf_Jx35411_hasNext_aae02 (List.mem_of_getElem? (i := 6) rfl) (C_Jx35411_hasNext_aae02 e1) (dm_rk_some e2) rfl rfl rfl rfl ?_
    refine dr_if_eq 77 dX12_bend_22 (by decide) (fun c1 => ?_) (fun c1 => ?_)
    · replace H := wp_t c1 H
      refine ql_i2 dX12_bend_77 ?_
      replace H := lp_re H
      exact dr_iret dX12_bend_78 rfl rfl H
    · replace H := wp_f c1 H
      refine ql_a4 dX12_bend_25 ?_
      obtain ⟨u2, e4, H⟩ := wp_b H
      obtain ⟨a2, e3, H⟩ := wp_b H
      refine dc_F0r (C := (RJx35411, TJx35411, 4)) dX12_bend_27 ml_X12_126 mf_Jx35411_next_0502b (List.mem_of_getElem? (i := 7) rfl) (C_Jx35411_next_0502b e3) (dm_rk_some e4) rfl rfl rfl rfl ?_
      obtain ⟨u3, e5, H⟩ := wp_b H
      refine dr_cast dX12_bend_32 fc_X12_112 (dm_ck_some e5) ?_
      refine qs_a5 dX12_bend_35 rfl trivial ?_
      refine ql_i3 dX12_bend_37 ?_
      refine dr_bipush (iI (10)) dX12_bend_38 rfl ?_
      refine ql_a5 dX12_bend_40 ?_
      refine dr_iconst (iI (1)) dX12_bend_42 rfl ?_
      obtain ⟨a3, e6, H⟩ := wp_b H
      refine dr_iald dX12_bend_43 e6 ?_
      refine dr_imul dX12_bend_44 ?_
      obtain ⟨a4, e7, H⟩ := wp_b H
      refine dc_S2i dX12_bend_45 ml_X12_140 mc_J9_min_7cf53 (C_J9_min_7cf53 e7) rfl rfl rfl ?_
      refine qs_i6 dX12_bend_48 rfl trivial ?_
      refine ql_i2 dX12_bend_50 ?_
      refine ql_a5 dX12_bend_51 ?_
      refine dr_iconst (iI (2)) dX12_bend_53 rfl ?_
      obtain ⟨a5, e8, H⟩ := wp_b H
      refine dr_iald dX12_bend_54 e8 ?_
      refine dr_iconst (iI (1)) dX12_bend_55 rfl ?_
      refine dr_ic_ne 65 dX12_bend_56 (by decide) (fun c2 => ?_) (fun c2 => ?_)
      · replace H := wp_f c2 H
        refine ql_i6 dX12_bend_65 ?_
        refine dr_iadd dX12_bend_67 ?_
        refine qs_i2 dX12_bend_68 rfl trivial ?_
        refine ql_i3 dX12_bend_69 ?_
        refine ql_i6 dX12_bend_70 ?_
        refine dr_isub dX12_bend_72 ?_
        refine qs_i3 dX12_bend_73 rfl trivial ?_
        refine dr_goto 15 dX12_bend_74 (by decide) ?_
        exact dr_wk (am_n (am_n (am_s (am_s (am_s (am_n (am_n am_0))))))) ((lp_in H) _ _ _ _ rfl)
      · replace H := wp_t c2 H
        refine ql_i6 dX12_bend_59 ?_
        refine dr_ineg dX12_bend_61 ?_
        refine dr_goto 67 dX12_bend_62 (by decide) ?_
        refine dr_iadd dX12_bend_67 ?_
        refine qs_i2 dX12_bend_68 rfl trivial ?_
        refine ql_i3 dX12_bend_69 ?_
        refine ql_i6 dX12_bend_70 ?_
        refine dr_isub dX12_bend_72 ?_
        refine qs_i3 dX12_bend_73 rfl trivial ?_
        refine dr_goto 15 dX12_bend_74 (by decide) ?_
        exact dr_wk (am_n (am_n (am_s (am_s (am_s (am_n (am_n am_0))))))) ((lp_in H) _ _ _ _ rfl)
theorem C_X12_bend {X : dm_X} {q0 : am_G × Nat} {x1 : Int32} {h : am_H} {d : dm_D} {a : Int32 × dm_D} (e : F_X12_bend X q0 x1 d = some a) : dm_Mx X yX12_bend cX12_bend 7 (some .int) 3 61 [.inr q0, am_i x1] h d (some (am_i a.1)) h a.2 := by
  refine dm_M.ofx (A := [some (.inr q0), some (am_i x1), none, none, none, none, none]) (by decide +kernel) rfl (ble rfl) (fun Q hQ => ?_)
  have H : wp (F_X12_bend X q0 x1 d) (fun a => Q (some (am_i a.1)) h a.2) := ⟨_, e, hQ⟩
  unfold F_X12_bend at H
  refine dr_iconst (iI (0)) dX12_bend_0 rfl ?_
  refine qs_i2 dX12_bend_1 rfl trivial ?_
  refine ql_i1 dX12_bend_2 ?_
  refine qs_i3 dX12_bend_3 rfl trivial ?_
  refine ql_a0 dX12_bend_4 ?_
  obtain ⟨w1, e1, H⟩ := wp_b H
  refine dr_getR dX12_bend_5 fg_X12_26 e1 ?_
  obtain ⟨u1, e3, H⟩ := wp_b H
  obtain ⟨a1, e2, H⟩ := wp_b H
  refine dc_F0r (C := (RJx4a65c, TJx4a65c, 3)) dX12_bend_8 ml_X12_116 mf_Jx4a65c_iterator_32c93 (List.mem_of_getElem? (i := 5) rfl) (C_Jx4a65c_iterator_32c93 e2) (dm_rk_some e3) rfl rfl rfl rfl ?_
  refine qs_a4 dX12_bend_13 rfl trivial ?_
  exact dr_wk (am_n (am_n (am_s (am_s (am_s (am_n (am_n am_0))))))) ((C_X12_bend_L _ H) _ _ _ _ rfl)
noncomputable def F_X12_init (X : dm_X) (q0 : am_G × Nat) (d : dm_D) : Option dm_D :=
  (dm_pu d q0 12 0 (am_i (iI (50)))).bind (fun d1 => (dm_pu d1 q0 12 1 (am_i (iI (1)))).bind (fun d2 => (dm_pu d2 q0 12 2 (am_i (iI (1)))).bind (fun d3 => (dm_na d3 0 (iI (26))).bind (fun d4 => (dm_pu d4 q0 12 5 (.inr (.inl 0, d3.1))).bind (fun d5 => (dm_no d5 16).bind (fun d6 => (F_Jx4a65c_init_da8c8 X (.inl 0, d5.1) d6).bind (fun a1 => (dm_pu a1 q0 12 6 (.inr (.inl 0, d5.1))).bind (fun d7 => (dm_no d7 16).bind (fun d8 => (F_Jx4a65c_init_da8c8 X (.inl 0, d7.1) d8).bind (fun a2 => (dm_pu a2 q0 12 7 (.inr (.inl 0, d7.1))).bind (fun d9 => (dm_no d9 16).bind (fun d10 => (F_Jx4a65c_init_da8c8 X (.inl 0, d9.1) d10).bind (fun a3 => (dm_pu a3 q0 12 8 (.inr (.inl 0, d9.1))).bind (fun d11 => (dm_no d11 16).bind (fun d12 => (F_Jx4a65c_init_da8c8 X (.inl 0, d11.1) d12).bind (fun a4 => (dm_pu a4 q0 12 9 (.inr (.inl 0, d11.1))).bind (fun d13 => (dm_pu d13 q0 12 10 (.inr (.inl 2, 9))).bind (fun d14 => some d14))))))))))))))))))
theorem C_X12_init {X : dm_X} {q0 : am_G × Nat} {h : am_H} {d : dm_D} {a : dm_D} (e : F_X12_init X q0 d = some a) : dm_Mx X yX12_init cX12_init 1 (none) 4 80 [.inr q0] h d none h a := by
  refine dm_M.ofx (A := [some (.inr q0)]) (by decide +kernel) rfl (ble rfl) (fun Q hQ => ?_)
  have H : wp (F_X12_init X q0 d) (fun a => Q none h a) := ⟨_, e, hQ⟩
  unfold F_X12_init at H
  refine ql_a0 dX12_init_0 ?_
  refine dr_objI dX12_init_1 ob_X12_1 ob_0.1 ob_0.2 rfl rfl rfl ?_
  refine ql_a0 dX12_init_4 ?_
  refine dr_bipush (iI (50)) dX12_init_5 rfl ?_
  obtain ⟨d1, e1, H⟩ := wp_b H
  refine dr_putI dX12_init_7 fg_X12_7 rfl rfl e1 ?_
  refine ql_a0 dX12_init_10 ?_
  refine dr_iconst (iI (1)) dX12_init_11 rfl ?_
  obtain ⟨d2, e2, H⟩ := wp_b H
  refine dr_putI dX12_init_12 fg_X12_13 rfl rfl e2 ?_
  refine ql_a0 dX12_init_15 ?_
  refine dr_iconst (iI (1)) dX12_init_16 rfl ?_
  obtain ⟨d3, e3, H⟩ := wp_b H
  refine dr_putI dX12_init_17 fg_X12_16 rfl rfl e3 ?_
  refine ql_a0 dX12_init_20 ?_
  refine dr_bipush (iI (26)) dX12_init_21 rfl ?_
  obtain ⟨d4, e4, H⟩ := wp_b H
  refine dr_newa dX12_init_23 na_int (fun _ => rfl) (by decide) (fun _ _ => rfl) e4 ?_
  obtain ⟨d5, e5, H⟩ := wp_b H
  refine dr_putR dX12_init_25 fg_X12_19 (fun _ => ⟨rfl, rfl⟩) e5 ?_
  refine ql_a0 dX12_init_28 ?_
  obtain ⟨d6, e6, H⟩ := wp_b H
  refine dr_new dX12_init_29 rfl nw_X12_23.1 nw_X12_23.2.1 nw_X12_23.2.2 rfl nf_16 e6 ?_
  refine dr_dup dX12_init_32 trivial ?_
  obtain ⟨a1, e7, H⟩ := wp_b H
  refine dc_I0v dX12_init_33 ml_X12_25 mi_Jx4a65c_init_da8c8 (C_Jx4a65c_init_da8c8 e7) rfl rfl rfl ?_
  obtain ⟨d7, e8, H⟩ := wp_b H
  refine dr_putR dX12_init_36 fg_X12_26 (fun _ => ⟨rfl, rfl⟩) e8 ?_
  refine ql_a0 dX12_init_39 ?_
  obtain ⟨d8, e9, H⟩ := wp_b H
  refine dr_new dX12_init_40 rfl nw_X12_23.1 nw_X12_23.2.1 nw_X12_23.2.2 rfl nf_16 e9 ?_
  refine dr_dup dX12_init_43 trivial ?_
  obtain ⟨a2, e10, H⟩ := wp_b H
  refine dc_I0v dX12_init_44 ml_X12_25 mi_Jx4a65c_init_da8c8 (C_Jx4a65c_init_da8c8 e10) rfl rfl rfl ?_
  obtain ⟨d9, e11, H⟩ := wp_b H
  refine dr_putR dX12_init_47 fg_X12_30 (fun _ => ⟨rfl, rfl⟩) e11 ?_
  refine ql_a0 dX12_init_50 ?_
  obtain ⟨d10, e12, H⟩ := wp_b H
  refine dr_new dX12_init_51 rfl nw_X12_23.1 nw_X12_23.2.1 nw_X12_23.2.2 rfl nf_16 e12 ?_
  refine dr_dup dX12_init_54 trivial ?_
  obtain ⟨a3, e13, H⟩ := wp_b H
  refine dc_I0v dX12_init_55 ml_X12_25 mi_Jx4a65c_init_da8c8 (C_Jx4a65c_init_da8c8 e13) rfl rfl rfl ?_
  obtain ⟨d11, e14, H⟩ := wp_b H
  refine dr_putR dX12_init_58 fg_X12_33 (fun _ => ⟨rfl, rfl⟩) e14 ?_
  refine ql_a0 dX12_init_61 ?_
  obtain ⟨d12, e15, H⟩ := wp_b H
  refine dr_new dX12_init_62 rfl nw_X12_23.1 nw_X12_23.2.1 nw_X12_23.2.2 rfl nf_16 e15 ?_
  refine dr_dup dX12_init_65 trivial ?_
  obtain ⟨a4, e16, H⟩ := wp_b H
  refine dc_I0v dX12_init_66 ml_X12_25 mi_Jx4a65c_init_da8c8 (C_Jx4a65c_init_da8c8 e16) rfl rfl rfl ?_
  obtain ⟨d13, e17, H⟩ := wp_b H
  refine dr_putR dX12_init_69 fg_X12_36 (fun _ => ⟨rfl, rfl⟩) e17 ?_
  refine ql_a0 dX12_init_72 ?_
  refine dr_ldcT dX12_init_73 kt_X12_39 ?_
  obtain ⟨d14, e18, H⟩ := wp_b H
  refine dr_putR dX12_init_75 fg_X12_41 (fun _ => ⟨rfl, rfl⟩) e18 ?_
  replace H := wp_s H
  exact dr_vret dX12_init_78 rfl H
noncomputable def S_X12_grown (X : dm_X)  : dm_S dm_D → Option (dm_S dm_D ⊕ ((am_G × Nat) × dm_D)) := fun s => match s with
  | (34, [x3, x4], [q0, q1, q2], d) => if x3 ≤ x4 then (some (.inl (214, [(iI (0))], [q0, q1, q2], d))) else ((dm_na d 0 (iI (4))).bind (fun d1 => (F_L_pick X q0 ((iI (10)) + x4) (iI (60)) d1).bind (fun a1 => (dm_wi d1 (.inl 0, d.1) 0 (iI (0)) ((iI (1)) + a1)).bind (fun d2 => (F_L_pick X q0 ((iI (20)) + x4) (iI (90)) d2).bind (fun a2 => (dm_wi d2 (.inl 0, d.1) 0 (iI (1)) ((iI (1)) + a2)).bind (fun d3 => (F_L_pick X q0 ((iI (30)) + x4) (iI (2)) d3).bind (fun a3 => (dm_wi d3 (.inl 0, d.1) 0 (iI (2)) a3).bind (fun d4 => (F_L_pick X q0 ((iI (40)) + x4) (iI (2)) d4).bind (fun a4 => if a4 = 0 then (some (.inl (119, [x3, x4, (iI (3)), (iI (30))], [q0, q1, q2, (.inl 0, d.1), (.inl 0, d.1)], d4))) else ((F_L_pick X q0 ((iI (50)) + x4) (iI (100)) d4).bind (fun a5 => some (.inl (119, [x3, x4, (iI (3)), a5], [q0, q1, q2, (.inl 0, d.1), (.inl 0, d.1)], d4)))))))))))))
  | (119, [x3, x4, y2, y3], [q0, q1, q2, z0, z1], d) => (dm_wi d z1 0 y2 y3).bind (fun d1 => (dm_rk d1 q2 14).bind (fun u1 => (F_J4_append_15ec4 X q2 (.inl 2, 10) d1).bind (fun a1 => (dm_li X a1.2 z0 (iI (0))).bind (fun a2 => (dm_rk a1.2 a1.1 14).bind (fun u2 => (F_J4_append_bf812 X a1.1 a2 a1.2).bind (fun a3 => (dm_rk a3.2 a3.1 14).bind (fun u3 => (F_J4_append_15ec4 X a3.1 (.inl 2, 11) a3.2).bind (fun a4 => (dm_li X a4.2 z0 (iI (1))).bind (fun a5 => (dm_rk a4.2 a4.1 14).bind (fun u4 => (F_J4_append_bf812 X a4.1 a5 a4.2).bind (fun a6 => (dm_li X a6.2 z0 (iI (2))).bind (fun a7 => if a7 = (iI (1)) then ((dm_rk a6.2 q2 14).bind (fun u5 => (F_J4_append_15ec4 X q2 (.inl 2, 12) a6.2).bind (fun a8 => some (.inl (163, [x3, x4], [q0, q1, q2, z0], a8.2))))) else (some (.inl (163, [x3, x4], [q0, q1, q2, z0], a6.2)))))))))))))))
  | (163, [x3, x4], [q0, q1, q2, q5], d) => (dm_li X d q5 (iI (3))).bind (fun a1 => if a1 = (iI (30)) then (some (.inl (186, [x3, x4], [q0, q1, q2, q5], d))) else ((dm_rk d q2 14).bind (fun u1 => (F_J4_append_15ec4 X q2 (.inl 2, 13) d).bind (fun a2 => (dm_li X a2.2 q5 (iI (3))).bind (fun a3 => (dm_rk a2.2 a2.1 14).bind (fun u2 => (F_J4_append_bf812 X a2.1 a3 a2.2).bind (fun a4 => some (.inl (186, [x3, x4], [q0, q1, q2, q5], a4.2)))))))))
  | (186, [x3, x4], [q0, q1, q2, q5], d) => (dm_rk d q2 14).bind (fun u1 => (F_J4_append_15ec4 X q2 (.inl 2, 14) d).bind (fun a1 => (dm_fr a1.2 q1 12 6).bind (fun w1 => (dm_rk a1.2 w1 16).bind (fun u2 => (F_Jx4a65c_add_9ea2d X w1 q5 a1.2).bind (fun a2 => some (.inl (34, [x3, (x4 + 1)], [q0, q1, q2], a2.2)))))))
  | (214, [x4], [q0, q1, q2], d) => (F_L_pick X q0 (iI (2)) (iI (3)) d).bind (fun a1 => if a1 ≤ x4 then (some (.inl (328, [(iI (0))], [q0, q1, q2], d))) else ((dm_rk d q2 14).bind (fun u1 => (F_J4_append_15ec4 X q2 (.inl 2, 15) d).bind (fun a2 => some (.inl (235, [x4, (iI (0))], [q0, q1, q2], a2.2))))))
  | (235, [x4, x5], [q0, q1, q2], d) => (F_L_pick X q0 ((iI (60)) + x4) (iI (5)) d).bind (fun a1 => if a1 < x5 then ((dm_rk d q2 14).bind (fun u1 => (F_J4_append_15ec4 X q2 (.inl 2, 16) d).bind (fun a2 => some (.inl (214, [(x4 + 1)], [q0, q1, q2], a2.2))))) else ((F_L_pick X q0 (((iI (70)) + ((iI (8)) * x4)) + x5) (iI (26)) d).bind (fun a2 => (dm_rk d q2 14).bind (fun u1 => (F_J4_append_cf468 X q2 ((((iI (97)) + a2).toUInt32 % 65536).toInt32) d).bind (fun a3 => (dm_fr a3.2 q1 12 7).bind (fun w1 => (dm_na a3.2 0 (iI (3))).bind (fun d1 => (dm_wi d1 (.inl 0, a3.2.1) 0 (iI (0)) a2).bind (fun d2 => (dm_wi d2 (.inl 0, a3.2.1) 0 (iI (1)) (iI (0))).bind (fun d3 => (dm_wi d3 (.inl 0, a3.2.1) 0 (iI (2)) (iI (0))).bind (fun d4 => (dm_rk d4 w1 16).bind (fun u2 => (F_Jx4a65c_add_9ea2d X w1 (.inl 0, a3.2.1) d4).bind (fun a4 => some (.inl (235, [x4, (x5 + 1)], [q0, q1, q2], a4.2))))))))))))))
  | (328, [x4], [q0, q1, q2], d) => if (iI (3)) ≤ x4 then (some (.inl (412, [(iI (0))], [q0, q1, q2], d))) else ((F_L_pick X q0 ((iI (100)) + x4) (iI (26)) d).bind (fun a1 => (dm_fr d q1 12 5).bind (fun w1 => (F_L_pick X q0 ((iI (110)) + x4) (iI (9)) d).bind (fun a2 => (dm_wi d w1 0 a1 ((iI (1)) + a2)).bind (fun d1 => (dm_rk d1 q2 14).bind (fun u1 => (F_J4_append_15ec4 X q2 (.inl 2, 17) d1).bind (fun a3 => (dm_rk a3.2 a3.1 14).bind (fun u2 => (F_J4_append_cf468 X a3.1 ((((iI (97)) + a1).toUInt32 % 65536).toInt32) a3.2).bind (fun a4 => (dm_rk a4.2 a4.1 14).bind (fun u3 => (F_J4_append_15ec4 X a4.1 (.inl 2, 11) a4.2).bind (fun a5 => (dm_fr a5.2 q1 12 5).bind (fun w2 => (dm_li X a5.2 w2 a1).bind (fun a6 => (dm_rk a5.2 a5.1 14).bind (fun u4 => (F_J4_append_bf812 X a5.1 a6 a5.2).bind (fun a7 => (dm_rk a7.2 a7.1 14).bind (fun u5 => (F_J4_append_15ec4 X a7.1 (.inl 2, 16) a7.2).bind (fun a8 => some (.inl (328, [(x4 + 1)], [q0, q1, q2], a8.2)))))))))))))))))))
  | (412, [x4], [q0, q1, q2], d) => (F_L_pick X q0 (iI (3)) (iI (4)) d).bind (fun a1 => if a1 ≤ x4 then ((F_L_pick X q0 (iI (4)) (iI (2)) d).bind (fun a2 => if a2 = 0 then ((F_L_pick X q0 (iI (5)) (iI (1000)) d).bind (fun a3 => (dm_pu d q1 12 2 (am_i a3)).bind (fun d1 => (dm_rk d1 q2 14).bind (fun u1 => (F_J4_append_15ec4 X q2 (.inl 2, 19) d1).bind (fun a4 => (dm_fi a4.2 q1 12 2).bind (fun a5 => (dm_rk a4.2 a4.1 14).bind (fun u2 => (F_J4_append_bf812 X a4.1 a5 a4.2).bind (fun a6 => (dm_rk a6.2 a6.1 14).bind (fun u3 => (F_J4_append_15ec4 X a6.1 (.inl 2, 16) a6.2).bind (fun a7 => some (.inl (587, [], [q0, q1, q2], a7.2)))))))))))) else (some (.inl (587, [], [q0, q1, q2], d))))) else ((dm_na d 0 (iI (3))).bind (fun d1 => (F_L_pick X q0 ((iI (120)) + x4) (iI (12)) d1).bind (fun a2 => (dm_wi d1 (.inl 0, d.1) 0 (iI (0)) ((iI (1)) + a2)).bind (fun d2 => (F_L_pick X q0 ((iI (130)) + x4) (iI (9)) d2).bind (fun a3 => (dm_wi d2 (.inl 0, d.1) 0 (iI (1)) ((iI (1)) + a3)).bind (fun d3 => (F_L_pick X q0 ((iI (140)) + x4) (iI (3)) d3).bind (fun a4 => (dm_wi d3 (.inl 0, d.1) 0 (iI (2)) ((iI (1)) + a4)).bind (fun d4 => (dm_rk d4 q2 14).bind (fun u1 => (F_J4_append_15ec4 X q2 (.inl 2, 18) d4).bind (fun a5 => (dm_rk a5.2 a5.1 14).bind (fun u2 => (F_J4_append_cf468 X a5.1 ((((iI (112)) + x4).toUInt32 % 65536).toInt32) a5.2).bind (fun a6 => (dm_li X a6.2 (.inl 0, d.1) (iI (0))).bind (fun a7 => (dm_rk a6.2 a6.1 14).bind (fun u3 => (F_J4_append_bf812 X a6.1 a7 a6.2).bind (fun a8 => (dm_rk a8.2 a8.1 14).bind (fun u4 => (F_J4_append_15ec4 X a8.1 (.inl 2, 11) a8.2).bind (fun a9 => (dm_li X a9.2 (.inl 0, d.1) (iI (1))).bind (fun a10 => (dm_rk a9.2 a9.1 14).bind (fun u5 => (F_J4_append_bf812 X a9.1 a10 a9.2).bind (fun a11 => (dm_rk a11.2 a11.1 14).bind (fun u6 => (F_J4_append_15ec4 X a11.1 (.inl 2, 11) a11.2).bind (fun a12 => (dm_li X a12.2 (.inl 0, d.1) (iI (2))).bind (fun a13 => (dm_rk a12.2 a12.1 14).bind (fun u7 => (F_J4_append_bf812 X a12.1 a13 a12.2).bind (fun a14 => (dm_rk a14.2 a14.1 14).bind (fun u8 => (F_J4_append_15ec4 X a14.1 (.inl 2, 16) a14.2).bind (fun a15 => (dm_fr a15.2 q1 12 8).bind (fun w1 => (dm_rk a15.2 w1 16).bind (fun u9 => (F_Jx4a65c_add_9ea2d X w1 (.inl 0, d.1) a15.2).bind (fun a16 => some (.inl (412, [(x4 + 1)], [q0, q1, q2], a16.2)))))))))))))))))))))))))))))))))
  | (587, [], [q0, q1, q2], d) => (F_L_pick X q0 (iI (6)) (iI (2)) d).bind (fun a1 => if a1 = 0 then ((F_L_pick X q0 (iI (7)) (iI (60)) d).bind (fun a2 => (dm_pu d q1 12 0 (am_i ((iI (1)) + a2))).bind (fun d1 => (dm_rk d1 q2 14).bind (fun u1 => (F_J4_append_15ec4 X q2 (.inl 2, 20) d1).bind (fun a3 => (dm_fi a3.2 q1 12 0).bind (fun a4 => (dm_rk a3.2 a3.1 14).bind (fun u2 => (F_J4_append_bf812 X a3.1 a4 a3.2).bind (fun a5 => (dm_rk a5.2 a5.1 14).bind (fun u3 => (F_J4_append_15ec4 X a5.1 (.inl 2, 16) a5.2).bind (fun a6 => some (.inl (630, [], [q0, q1, q2], a6.2)))))))))))) else (some (.inl (630, [], [q0, q1, q2], d))))
  | (630, [], [q0, q1, q2], d) => (F_L_pick X q0 (iI (8)) (iI (2)) d).bind (fun a1 => if a1 = 0 then ((F_L_pick X q0 (iI (9)) (iI (30)) d).bind (fun a2 => (dm_pu d q1 12 1 (am_i a2)).bind (fun d1 => (dm_rk d1 q2 14).bind (fun u1 => (F_J4_append_15ec4 X q2 (.inl 2, 21) d1).bind (fun a3 => (dm_fi a3.2 q1 12 1).bind (fun a4 => (dm_rk a3.2 a3.1 14).bind (fun u2 => (F_J4_append_bf812 X a3.1 a4 a3.2).bind (fun a5 => (dm_rk a5.2 a5.1 14).bind (fun u3 => (F_J4_append_15ec4 X a5.1 (.inl 2, 16) a5.2).bind (fun a6 => (dm_rk a6.2 q2 14).bind (fun u4 => (F_J4_toString_0e30d X q2 a6.2).bind (fun a7 => (dm_pu a7.2 q1 12 10 (.inr a7.1)).bind (fun d2 => some (.inr (q1, d2))))))))))))))) else ((dm_rk d q2 14).bind (fun u1 => (F_J4_toString_0e30d X q2 d).bind (fun a2 => (dm_pu a2.2 q1 12 10 (.inr a2.1)).bind (fun d1 => some (.inr (q1, d1)))))))
  | _ => none
noncomputable def F_X12_grown_34 (X : dm_X) (q0 : am_G × Nat) (q1 : am_G × Nat) (q2 : am_G × Nat) (x3 : Int32) (x4 : Int32) (d : dm_D) : Option ((am_G × Nat) × dm_D) := lp (S_X12_grown X) (34, [x3, x4], [q0, q1, q2], d)
noncomputable def F_X12_grown_119 (X : dm_X) (q0 : am_G × Nat) (q1 : am_G × Nat) (q2 : am_G × Nat) (x3 : Int32) (x4 : Int32) (z0 : am_G × Nat) (z1 : am_G × Nat) (y2 : Int32) (y3 : Int32) (d : dm_D) : Option ((am_G × Nat) × dm_D) := lp (S_X12_grown X) (119, [x3, x4, y2, y3], [q0, q1, q2, z0, z1], d)
noncomputable def F_X12_grown_163 (X : dm_X) (q0 : am_G × Nat) (q1 : am_G × Nat) (q2 : am_G × Nat) (x3 : Int32) (x4 : Int32) (q5 : am_G × Nat) (d : dm_D) : Option ((am_G × Nat) × dm_D) := lp (S_X12_grown X) (163, [x3, x4], [q0, q1, q2, q5], d)
noncomputable def F_X12_grown_186 (X : dm_X) (q0 : am_G × Nat) (q1 : am_G × Nat) (q2 : am_G × Nat) (x3 : Int32) (x4 : Int32) (q5 : am_G × Nat) (d : dm_D) : Option ((am_G × Nat) × dm_D) := lp (S_X12_grown X) (186, [x3, x4], [q0, q1, q2, q5], d)
noncomputable def F_X12_grown_214 (X : dm_X) (q0 : am_G × Nat) (q1 : am_G × Nat) (q2 : am_G × Nat) (x4 : Int32) (d : dm_D) : Option ((am_G × Nat) × dm_D) := lp (S_X12_grown X) (214, [x4], [q0, q1, q2], d)
noncomputable def F_X12_grown_235 (X : dm_X) (q0 : am_G × Nat) (q1 : am_G × Nat) (q2 : am_G × Nat) (x4 : Int32) (x5 : Int32) (d : dm_D) : Option ((am_G × Nat) × dm_D) := lp (S_X12_grown X) (235, [x4, x5], [q0, q1, q2], d)
noncomputable def F_X12_grown_328 (X : dm_X) (q0 : am_G × Nat) (q1 : am_G × Nat) (q2 : am_G × Nat) (x4 : Int32) (d : dm_D) : Option ((am_G × Nat) × dm_D) := lp (S_X12_grown X) (328, [x4], [q0, q1, q2], d)
noncomputable def F_X12_grown_412 (X : dm_X) (q0 : am_G × Nat) (q1 : am_G × Nat) (q2 : am_G × Nat) (x4 : Int32) (d : dm_D) : Option ((am_G × Nat) × dm_D) := lp (S_X12_grown X) (412, [x4], [q0, q1, q2], d)
noncomputable def F_X12_grown_587 (X : dm_X) (q0 : am_G × Nat) (q1 : am_G × Nat) (q2 : am_G × Nat) (d : dm_D) : Option ((am_G × Nat) × dm_D) := lp (S_X12_grown X) (587, [], [q0, q1, q2], d)
noncomputable def F_X12_grown_630 (X : dm_X) (q0 : am_G × Nat) (q1 : am_G × Nat) (q2 : am_G × Nat) (d : dm_D) : Option ((am_G × Nat) × dm_D) := lp (S_X12_grown X) (630, [], [q0, q1, q2], d)
theorem E_X12_grown_34 (X : dm_X) (q0 : am_G × Nat) (q1 : am_G × Nat) (q2 : am_G × Nat) (x3 : Int32) (x4 : Int32) (d : dm_D) : F_X12_grown_34 X q0 q1 q2 x3 x4 d = (if x3 ≤ x4 then (F_X12_grown_214 X q0 q1 q2 (iI (0)) d) else ((dm_na d 0 (iI (4))).bind (fun d1 => (F_L_pick X q0 ((iI (10)) + x4) (iI (60)) d1).bind (fun a1 => (dm_wi d1 (.inl 0, d.1) 0 (iI (0)) ((iI (1)) + a1)).bind (fun d2 => (F_L_pick X q0 ((iI (20)) + x4) (iI (90)) d2).bind (fun a2 => (dm_wi d2 (.inl 0, d.1) 0 (iI (1)) ((iI (1)) + a2)).bind (fun d3 => (F_L_pick X q0 ((iI (30)) + x4) (iI (2)) d3).bind (fun a3 => (dm_wi d3 (.inl 0, d.1) 0 (iI (2)) a3).bind (fun d4 => (F_L_pick X q0 ((iI (40)) + x4) (iI (2)) d4).bind (fun a4 => if a4 = 0 then (F_X12_grown_119 X q0 q1 q2 x3 x4 (.inl 0, d.1) (.inl 0, d.1) (iI (3)) (iI (30)) d4) else ((F_L_pick X q0 ((iI (50)) + x4) (iI (100)) d4).bind (fun a5 => F_X12_grown_119 X q0 q1 q2 x3 x4 (.inl 0, d.1) (.inl 0, d.1) (iI (3)) a5 d4)))))))))))) := by
  show lp _ _ = _
  rw [lp_eq, S_X12_grown]
  simp only [lpk_i, lpk_b, lpk_n, lpk_j, lpk_r] <;> rfl
theorem E_X12_grown_119 (X : dm_X) (q0 : am_G × Nat) (q1 : am_G × Nat) (q2 : am_G × Nat) (x3 : Int32) (x4 : Int32) (z0 : am_G × Nat) (z1 : am_G × Nat) (y2 : Int32) (y3 : Int32) (d : dm_D) : F_X12_grown_119 X q0 q1 q2 x3 x4 z0 z1 y2 y3 d = ((dm_wi d z1 0 y2 y3).bind (fun d1 => (dm_rk d1 q2 14).bind (fun u1 => (F_J4_append_15ec4 X q2 (.inl 2, 10) d1).bind (fun a1 => (dm_li X a1.2 z0 (iI (0))).bind (fun a2 => (dm_rk a1.2 a1.1 14).bind (fun u2 => (F_J4_append_bf812 X a1.1 a2 a1.2).bind (fun a3 => (dm_rk a3.2 a3.1 14).bind (fun u3 => (F_J4_append_15ec4 X a3.1 (.inl 2, 11) a3.2).bind (fun a4 => (dm_li X a4.2 z0 (iI (1))).bind (fun a5 => (dm_rk a4.2 a4.1 14).bind (fun u4 => (F_J4_append_bf812 X a4.1 a5 a4.2).bind (fun a6 => (dm_li X a6.2 z0 (iI (2))).bind (fun a7 => if a7 = (iI (1)) then ((dm_rk a6.2 q2 14).bind (fun u5 => (F_J4_append_15ec4 X q2 (.inl 2, 12) a6.2).bind (fun a8 => F_X12_grown_163 X q0 q1 q2 x3 x4 z0 a8.2))) else (F_X12_grown_163 X q0 q1 q2 x3 x4 z0 a6.2)))))))))))))) := by
  show lp _ _ = _
  rw [lp_eq, S_X12_grown]
  simp only [lpk_i, lpk_b, lpk_n, lpk_j, lpk_r] <;> rfl
theorem E_X12_grown_163 (X : dm_X) (q0 : am_G × Nat) (q1 : am_G × Nat) (q2 : am_G × Nat) (x3 : Int32) (x4 : Int32) (q5 : am_G × Nat) (d : dm_D) : F_X12_grown_163 X q0 q1 q2 x3 x4 q5 d = ((dm_li X d q5 (iI (3))).bind (fun a1 => if a1 = (iI (30)) then (F_X12_grown_186 X q0 q1 q2 x3 x4 q5 d) else ((dm_rk d q2 14).bind (fun u1 => (F_J4_append_15ec4 X q2 (.inl 2, 13) d).bind (fun a2 => (dm_li X a2.2 q5 (iI (3))).bind (fun a3 => (dm_rk a2.2 a2.1 14).bind (fun u2 => (F_J4_append_bf812 X a2.1 a3 a2.2).bind (fun a4 => F_X12_grown_186 X q0 q1 q2 x3 x4 q5 a4.2)))))))) := by
  show lp _ _ = _
  rw [lp_eq, S_X12_grown]
  simp only [lpk_i, lpk_b, lpk_n, lpk_j, lpk_r] <;> rfl
theorem E_X12_grown_186 (X : dm_X) (q0 : am_G × Nat) (q1 : am_G × Nat) (q2 : am_G × Nat) (x3 : Int32) (x4 : Int32) (q5 : am_G × Nat) (d : dm_D) : F_X12_grown_186 X q0 q1 q2 x3 x4 q5 d = ((dm_rk d q2 14).bind (fun u1 => (F_J4_append_15ec4 X q2 (.inl 2, 14) d).bind (fun a1 => (dm_fr a1.2 q1 12 6).bind (fun w1 => (dm_rk a1.2 w1 16).bind (fun u2 => (F_Jx4a65c_add_9ea2d X w1 q5 a1.2).bind (fun a2 => F_X12_grown_34 X q0 q1 q2 x3 (x4 + 1) a2.2)))))) := by
  show lp _ _ = _
  rw [lp_eq, S_X12_grown]
  simp only [lpk_i, lpk_b, lpk_n, lpk_j, lpk_r] <;> rfl
theorem E_X12_grown_214 (X : dm_X) (q0 : am_G × Nat) (q1 : am_G × Nat) (q2 : am_G × Nat) (x4 : Int32) (d : dm_D) : F_X12_grown_214 X q0 q1 q2 x4 d = ((F_L_pick X q0 (iI (2)) (iI (3)) d).bind (fun a1 => if a1 ≤ x4 then (F_X12_grown_328 X q0 q1 q2 (iI (0)) d) else ((dm_rk d q2 14).bind (fun u1 => (F_J4_append_15ec4 X q2 (.inl 2, 15) d).bind (fun a2 => F_X12_grown_235 X q0 q1 q2 x4 (iI (0)) a2.2))))) := by
  show lp _ _ = _
  rw [lp_eq, S_X12_grown]
  simp only [lpk_i, lpk_b, lpk_n, lpk_j, lpk_r] <;> rfl
theorem E_X12_grown_235 (X : dm_X) (q0 : am_G × Nat) (q1 : am_G × Nat) (q2 : am_G × Nat) (x4 : Int32) (x5 : Int32) (d : dm_D) : F_X12_grown_235 X q0 q1 q2 x4 x5 d = ((F_L_pick X q0 ((iI (60)) + x4) (iI (5)) d).bind (fun a1 => if a1 < x5 then ((dm_rk d q2 14).bind (fun u1 => (F_J4_append_15ec4 X q2 (.inl 2, 16) d).bind (fun a2 => F_X12_grown_214 X q0 q1 q2 (x4 + 1) a2.2))) else ((F_L_pick X q0 (((iI (70)) + ((iI (8)) * x4)) + x5) (iI (26)) d).bind (fun a2 => (dm_rk d q2 14).bind (fun u1 => (F_J4_append_cf468 X q2 ((((iI (97)) + a2).toUInt32 % 65536).toInt32) d).bind (fun a3 => (dm_fr a3.2 q1 12 7).bind (fun w1 => (dm_na a3.2 0 (iI (3))).bind (fun d1 => (dm_wi d1 (.inl 0, a3.2.1) 0 (iI (0)) a2).bind (fun d2 => (dm_wi d2 (.inl 0, a3.2.1) 0 (iI (1)) (iI (0))).bind (fun d3 => (dm_wi d3 (.inl 0, a3.2.1) 0 (iI (2)) (iI (0))).bind (fun d4 => (dm_rk d4 w1 16).bind (fun u2 => (F_Jx4a65c_add_9ea2d X w1 (.inl 0, a3.2.1) d4).bind (fun a4 => F_X12_grown_235 X q0 q1 q2 x4 (x5 + 1) a4.2))))))))))))) := by
  show lp _ _ = _
  rw [lp_eq, S_X12_grown]
  simp only [lpk_i, lpk_b, lpk_n, lpk_j, lpk_r] <;> rfl
theorem E_X12_grown_328 (X : dm_X) (q0 : am_G × Nat) (q1 : am_G × Nat) (q2 : am_G × Nat) (x4 : Int32) (d : dm_D) : F_X12_grown_328 X q0 q1 q2 x4 d = (if (iI (3)) ≤ x4 then (F_X12_grown_412 X q0 q1 q2 (iI (0)) d) else ((F_L_pick X q0 ((iI (100)) + x4) (iI (26)) d).bind (fun a1 => (dm_fr d q1 12 5).bind (fun w1 => (F_L_pick X q0 ((iI (110)) + x4) (iI (9)) d).bind (fun a2 => (dm_wi d w1 0 a1 ((iI (1)) + a2)).bind (fun d1 => (dm_rk d1 q2 14).bind (fun u1 => (F_J4_append_15ec4 X q2 (.inl 2, 17) d1).bind (fun a3 => (dm_rk a3.2 a3.1 14).bind (fun u2 => (F_J4_append_cf468 X a3.1 ((((iI (97)) + a1).toUInt32 % 65536).toInt32) a3.2).bind (fun a4 => (dm_rk a4.2 a4.1 14).bind (fun u3 => (F_J4_append_15ec4 X a4.1 (.inl 2, 11) a4.2).bind (fun a5 => (dm_fr a5.2 q1 12 5).bind (fun w2 => (dm_li X a5.2 w2 a1).bind (fun a6 => (dm_rk a5.2 a5.1 14).bind (fun u4 => (F_J4_append_bf812 X a5.1 a6 a5.2).bind (fun a7 => (dm_rk a7.2 a7.1 14).bind (fun u5 => (F_J4_append_15ec4 X a7.1 (.inl 2, 16) a7.2).bind (fun a8 => F_X12_grown_328 X q0 q1 q2 (x4 + 1) a8.2)))))))))))))))))) := by
  show lp _ _ = _
  rw [lp_eq, S_X12_grown]
  simp only [lpk_i, lpk_b, lpk_n, lpk_j, lpk_r] <;> rfl
theorem E_X12_grown_412 (X : dm_X) (q0 : am_G × Nat) (q1 : am_G × Nat) (q2 : am_G × Nat) (x4 : Int32) (d : dm_D) : F_X12_grown_412 X q0 q1 q2 x4 d = ((F_L_pick X q0 (iI (3)) (iI (4)) d).bind (fun a1 => if a1 ≤ x4 then ((F_L_pick X q0 (iI (4)) (iI (2)) d).bind (fun a2 => if a2 = 0 then ((F_L_pick X q0 (iI (5)) (iI (1000)) d).bind (fun a3 => (dm_pu d q1 12 2 (am_i a3)).bind (fun d1 => (dm_rk d1 q2 14).bind (fun u1 => (F_J4_append_15ec4 X q2 (.inl 2, 19) d1).bind (fun a4 => (dm_fi a4.2 q1 12 2).bind (fun a5 => (dm_rk a4.2 a4.1 14).bind (fun u2 => (F_J4_append_bf812 X a4.1 a5 a4.2).bind (fun a6 => (dm_rk a6.2 a6.1 14).bind (fun u3 => (F_J4_append_15ec4 X a6.1 (.inl 2, 16) a6.2).bind (fun a7 => F_X12_grown_587 X q0 q1 q2 a7.2)))))))))) else (F_X12_grown_587 X q0 q1 q2 d))) else ((dm_na d 0 (iI (3))).bind (fun d1 => (F_L_pick X q0 ((iI (120)) + x4) (iI (12)) d1).bind (fun a2 => (dm_wi d1 (.inl 0, d.1) 0 (iI (0)) ((iI (1)) + a2)).bind (fun d2 => (F_L_pick X q0 ((iI (130)) + x4) (iI (9)) d2).bind (fun a3 => (dm_wi d2 (.inl 0, d.1) 0 (iI (1)) ((iI (1)) + a3)).bind (fun d3 => (F_L_pick X q0 ((iI (140)) + x4) (iI (3)) d3).bind (fun a4 => (dm_wi d3 (.inl 0, d.1) 0 (iI (2)) ((iI (1)) + a4)).bind (fun d4 => (dm_rk d4 q2 14).bind (fun u1 => (F_J4_append_15ec4 X q2 (.inl 2, 18) d4).bind (fun a5 => (dm_rk a5.2 a5.1 14).bind (fun u2 => (F_J4_append_cf468 X a5.1 ((((iI (112)) + x4).toUInt32 % 65536).toInt32) a5.2).bind (fun a6 => (dm_li X a6.2 (.inl 0, d.1) (iI (0))).bind (fun a7 => (dm_rk a6.2 a6.1 14).bind (fun u3 => (F_J4_append_bf812 X a6.1 a7 a6.2).bind (fun a8 => (dm_rk a8.2 a8.1 14).bind (fun u4 => (F_J4_append_15ec4 X a8.1 (.inl 2, 11) a8.2).bind (fun a9 => (dm_li X a9.2 (.inl 0, d.1) (iI (1))).bind (fun a10 => (dm_rk a9.2 a9.1 14).bind (fun u5 => (F_J4_append_bf812 X a9.1 a10 a9.2).bind (fun a11 => (dm_rk a11.2 a11.1 14).bind (fun u6 => (F_J4_append_15ec4 X a11.1 (.inl 2, 11) a11.2).bind (fun a12 => (dm_li X a12.2 (.inl 0, d.1) (iI (2))).bind (fun a13 => (dm_rk a12.2 a12.1 14).bind (fun u7 => (F_J4_append_bf812 X a12.1 a13 a12.2).bind (fun a14 => (dm_rk a14.2 a14.1 14).bind (fun u8 => (F_J4_append_15ec4 X a14.1 (.inl 2, 16) a14.2).bind (fun a15 => (dm_fr a15.2 q1 12 8).bind (fun w1 => (dm_rk a15.2 w1 16).bind (fun u9 => (F_Jx4a65c_add_9ea2d X w1 (.inl 0, d.1) a15.2).bind (fun a16 => F_X12_grown_412 X q0 q1 q2 (x4 + 1) a16.2)))))))))))))))))))))))))))))))) := by
  show lp _ _ = _
  rw [lp_eq, S_X12_grown]
  simp only [lpk_i, lpk_b, lpk_n, lpk_j, lpk_r] <;> rfl
theorem E_X12_grown_587 (X : dm_X) (q0 : am_G × Nat) (q1 : am_G × Nat) (q2 : am_G × Nat) (d : dm_D) : F_X12_grown_587 X q0 q1 q2 d = ((F_L_pick X q0 (iI (6)) (iI (2)) d).bind (fun a1 => if a1 = 0 then ((F_L_pick X q0 (iI (7)) (iI (60)) d).bind (fun a2 => (dm_pu d q1 12 0 (am_i ((iI (1)) + a2))).bind (fun d1 => (dm_rk d1 q2 14).bind (fun u1 => (F_J4_append_15ec4 X q2 (.inl 2, 20) d1).bind (fun a3 => (dm_fi a3.2 q1 12 0).bind (fun a4 => (dm_rk a3.2 a3.1 14).bind (fun u2 => (F_J4_append_bf812 X a3.1 a4 a3.2).bind (fun a5 => (dm_rk a5.2 a5.1 14).bind (fun u3 => (F_J4_append_15ec4 X a5.1 (.inl 2, 16) a5.2).bind (fun a6 => F_X12_grown_630 X q0 q1 q2 a6.2)))))))))) else (F_X12_grown_630 X q0 q1 q2 d))) := by
  show lp _ _ = _
  rw [lp_eq, S_X12_grown]
  simp only [lpk_i, lpk_b, lpk_n, lpk_j, lpk_r] <;> rfl
theorem E_X12_grown_630 (X : dm_X) (q0 : am_G × Nat) (q1 : am_G × Nat) (q2 : am_G × Nat) (d : dm_D) : F_X12_grown_630 X q0 q1 q2 d = ((F_L_pick X q0 (iI (8)) (iI (2)) d).bind (fun a1 => if a1 = 0 then ((F_L_pick X q0 (iI (9)) (iI (30)) d).bind (fun a2 => (dm_pu d q1 12 1 (am_i a2)).bind (fun d1 => (dm_rk d1 q2 14).bind (fun u1 => (F_J4_append_15ec4 X q2 (.inl 2, 21) d1).bind (fun a3 => (dm_fi a3.2 q1 12 1).bind (fun a4 => (dm_rk a3.2 a3.1 14).bind (fun u2 => (F_J4_append_bf812 X a3.1 a4 a3.2).bind (fun a5 => (dm_rk a5.2 a5.1 14).bind (fun u3 => (F_J4_append_15ec4 X a5.1 (.inl 2, 16) a5.2).bind (fun a6 => (dm_rk a6.2 q2 14).bind (fun u4 => (F_J4_toString_0e30d X q2 a6.2).bind (fun a7 => (dm_pu a7.2 q1 12 10 (.inr a7.1)).bind (fun d2 => some (q1, d2)))))))))))))) else ((dm_rk d q2 14).bind (fun u1 => (F_J4_toString_0e30d X q2 d).bind (fun a2 => (dm_pu a2.2 q1 12 10 (.inr a2.1)).bind (fun d1 => some (q1, d1))))))) := by
  show lp _ _ = _
  rw [lp_eq, S_X12_grown]
  simp only [lpk_i, lpk_b, lpk_n, lpk_j, lpk_r] <;> rfl
noncomputable def F_X12_grown (X : dm_X) (q0 : am_G × Nat) (d : dm_D) : Option ((am_G × Nat) × dm_D) :=
  (dm_no d 12).bind (fun d1 => (F_X12_init X (.inl 0, d.1) d1).bind (fun a1 => (dm_no a1 14).bind (fun d2 => (F_J4_init_da8c8 X (.inl 0, a1.1) d2).bind (fun a2 => (dm_fr a2 (.inl 0, d.1) 12 5).bind (fun w1 => (F_J7_fill_53178 X w1 (iI (4)) a2).bind (fun a3 => (F_L_pick X q0 (iI (1)) (iI (5)) a3).bind (fun a4 => F_X12_grown_34 X q0 (.inl 0, d.1) (.inl 0, a1.1) a4 (iI (0)) a3)))))))
theorem C_X12_grown_L {X : dm_X} {h : am_H} {k0 : Nat} {Q : Option am_v → am_H → dm_D → Prop} : ∀ s, wp (lp (S_X12_grown X) s) (fun a => Q (some (.inr a.1)) h a.2) → ((∀ q0 q1 q2 x3 x4 d, s = (34, [x3, x4], [q0, q1, q2], d) → dm_V RX12 "grown" cX12_grown 7 (some (.object "CurvedNamesLaw$World")) 7 157 k0 X (dm_Tm cX12_grown (some (.object "CurvedNamesLaw$World")) Q) 34 [some (.inr q0), some (.inr q1), some (.inr q2), some (am_i x3), some (am_i x4), none, none] [] h d) ∧ (∀ q0 q1 q2 x3 x4 z0 z1 y2 y3 d, s = (119, [x3, x4, y2, y3], [q0, q1, q2, z0, z1], d) → dm_V RX12 "grown" cX12_grown 7 (some (.object "CurvedNamesLaw$World")) 7 157 k0 X (dm_Tm cX12_grown (some (.object "CurvedNamesLaw$World")) Q) 119 [some (.inr q0), some (.inr q1), some (.inr q2), some (am_i x3), some (am_i x4), none, none] [am_i y3, am_i y2, .inr z1, .inr z0] h d) ∧ (∀ q0 q1 q2 x3 x4 q5 d, s = (163, [x3, x4], [q0, q1, q2, q5], d) → dm_V RX12 "grown" cX12_grown 7 (some (.object "CurvedNamesLaw$World")) 7 157 k0 X (dm_Tm cX12_grown (some (.object "CurvedNamesLaw$World")) Q) 163 [some (.inr q0), some (.inr q1), some (.inr q2), some (am_i x3), some (am_i x4), some (.inr q5), none] [] h d) ∧ (∀ q0 q1 q2 x3 x4 q5 d, s = (186, [x3, x4], [q0, q1, q2, q5], d) → dm_V RX12 "grown" cX12_grown 7 (some (.object "CurvedNamesLaw$World")) 7 157 k0 X (dm_Tm cX12_grown (some (.object "CurvedNamesLaw$World")) Q) 186 [some (.inr q0), some (.inr q1), some (.inr q2), some (am_i x3), some (am_i x4), some (.inr q5), none] [] h d) ∧ (∀ q0 q1 q2 x4 d, s = (214, [x4], [q0, q1, q2], d) → dm_V RX12 "grown" cX12_grown 7 (some (.object "CurvedNamesLaw$World")) 7 157 k0 X (dm_Tm cX12_grown (some (.object "CurvedNamesLaw$World")) Q) 214 [some (.inr q0), some (.inr q1), some (.inr q2), none, some (am_i x4), none, none] [] h d) ∧ (∀ q0 q1 q2 x4 x5 d, s = (235, [x4, x5], [q0, q1, q2], d) → dm_V RX12 "grown" cX12_grown 7 (some (.object "CurvedNamesLaw$World")) 7 157 k0 X (dm_Tm cX12_grown (some (.object "CurvedNamesLaw$World")) Q) 235 [some (.inr q0), some (.inr q1), some (.inr q2), none, some (am_i x4), some (am_i x5), none] [] h d) ∧ (∀ q0 q1 q2 x4 d, s = (328, [x4], [q0, q1, q2], d) → dm_V RX12 "grown" cX12_grown 7 (some (.object "CurvedNamesLaw$World")) 7 157 k0 X (dm_Tm cX12_grown (some (.object "CurvedNamesLaw$World")) Q) 328 [some (.inr q0), some (.inr q1), some (.inr q2), none, some (am_i x4), none, none] [] h d) ∧ (∀ q0 q1 q2 x4 d, s = (412, [x4], [q0, q1, q2], d) → dm_V RX12 "grown" cX12_grown 7 (some (.object "CurvedNamesLaw$World")) 7 157 k0 X (dm_Tm cX12_grown (some (.object "CurvedNamesLaw$World")) Q) 412 [some (.inr q0), some (.inr q1), some (.inr q2), none, some (am_i x4), none, none] [] h d) ∧ (∀ q0 q1 q2 d, s = (587, [], [q0, q1, q2], d) → dm_V RX12 "grown" cX12_grown 7 (some (.object "CurvedNamesLaw$World")) 7 157 k0 X (dm_Tm cX12_grown (some (.object "CurvedNamesLaw$World")) Q) 587 [some (.inr q0), some (.inr q1), some (.inr q2), none, none, none, none] [] h d) ∧ (∀ q0 q1 q2 d, s = (630, [], [q0, q1, q2], d) → dm_V RX12 "grown" cX12_grown 7 (some (.object "CurvedNamesLaw$World")) 7 157 k0 X (dm_Tm cX12_grown (some (.object "CurvedNamesLaw$World")) Q) 630 [some (.inr q0), some (.inr q1), some (.inr q2), none, none, none, none] [] h d)) := by
  refine lp_ind _ _ (fun s H => ⟨fun q0 q1 q2 x3 x4 d e => ?_, fun q0 q1 q2 x3 x4 z0 z1 y2 y3 d e => ?_, fun q0 q1 q2 x3 x4 q5 d e => ?_, fun q0 q1 q2 x3 x4 q5 d e => ?_, fun q0 q1 q2 x4 d e => ?_, fun q0 q1 q2 x4 x5 d e => ?_, fun q0 q1 q2 x4 d e => ?_, fun q0 q1 q2 x4 d e => ?_, fun q0 q1 q2 d e => ?_, fun q0 q1 q2 d e => ?_⟩)
  · subst e
    rw [S_X12_grown] at H
    refine ql_i4 dX12_grown_34 ?_
    refine ql_i3 dX12_grown_36 ?_
    refine dr_ic_ge 211 dX12_grown_37 (by decide) (fun c1 => ?_) (fun c1 => ?_)
    · replace H := wp_t c1 H
      refine dr_iconst (iI (0)) dX12_grown_211 rfl ?_
      refine qs_i4 dX12_grown_212 rfl trivial ?_
      exact dr_wk (am_s (am_s (am_s (am_n (am_s (am_n (am_n am_0))))))) ((lp_in H).2.2.2.2.1 _ _ _ _ _ rfl)
    · replace H := wp_f c1 H
      refine dr_iconst (iI (4)) dX12_grown_40 rfl ?_
      obtain ⟨d1, e1, H⟩ := wp_b H
      refine dr_newa dX12_grown_41 na_int (fun _ => rfl) (by decide) (fun _ _ => rfl) e1 ?_
      refine dr_dup dX12_grown_43 trivial ?_
      refine dr_iconst (iI (0)) dX12_grown_44 rfl ?_
      refine dr_iconst (iI (1)) dX12_grown_45 rfl ?_
      refine ql_a0 dX12_grown_46 ?_
      refine dr_bipush (iI (10)) dX12_grown_47 rfl ?_
      refine ql_i4 dX12_grown_49 ?_
      refine dr_iadd dX12_grown_51 ?_
      refine dr_bipush (iI (60)) dX12_grown_52 rfl ?_
      obtain ⟨a1, e2, H⟩ := wp_b H
      refine dc_N3i dX12_grown_54 ml_X12_55 mc_L_pick (C_L_pick e2) rfl rfl rfl ?_
      refine dr_iadd dX12_grown_57 ?_
      obtain ⟨d2, e3, H⟩ := wp_b H
      refine dr_iast dX12_grown_58 e3 ?_
      refine dr_dup dX12_grown_59 trivial ?_
      refine dr_iconst (iI (1)) dX12_grown_60 rfl ?_
      refine dr_iconst (iI (1)) dX12_grown_61 rfl ?_
      refine ql_a0 dX12_grown_62 ?_
      refine dr_bipush (iI (20)) dX12_grown_63 rfl ?_
      refine ql_i4 dX12_grown_65 ?_
      refine dr_iadd dX12_grown_67 ?_
      refine dr_bipush (iI (90)) dX12_grown_68 rfl ?_
      obtain ⟨a2, e4, H⟩ := wp_b H
      refine dc_N3i dX12_grown_70 ml_X12_55 mc_L_pick (C_L_pick e4) rfl rfl rfl ?_
      refine dr_iadd dX12_grown_73 ?_
      obtain ⟨d3, e5, H⟩ := wp_b H
      refine dr_iast dX12_grown_74 e5 ?_
      refine dr_dup dX12_grown_75 trivial ?_
      refine dr_iconst (iI (2)) dX12_grown_76 rfl ?_
      refine ql_a0 dX12_grown_77 ?_
      refine dr_bipush (iI (30)) dX12_grown_78 rfl ?_
      refine ql_i4 dX12_grown_80 ?_
      refine dr_iadd dX12_grown_82 ?_
      refine dr_iconst (iI (2)) dX12_grown_83 rfl ?_
      obtain ⟨a3, e6, H⟩ := wp_b H
      refine dc_N3i dX12_grown_84 ml_X12_55 mc_L_pick (C_L_pick e6) rfl rfl rfl ?_
      obtain ⟨d4, e7, H⟩ := wp_b H
      refine dr_iast dX12_grown_87 e7 ?_
      refine dr_dup dX12_grown_88 trivial ?_
      refine dr_iconst (iI (3)) dX12_grown_89 rfl ?_
      refine ql_a0 dX12_grown_90 ?_
      refine dr_bipush (iI (40)) dX12_grown_91 rfl ?_
      refine ql_i4 dX12_grown_93 ?_
      refine dr_iadd dX12_grown_95 ?_
      refine dr_iconst (iI (2)) dX12_grown_96 rfl ?_
      obtain ⟨a4, e8, H⟩ := wp_b H
      refine dc_N3i dX12_grown_97 ml_X12_55 mc_L_pick (C_L_pick e8) rfl rfl rfl ?_
      refine dr_if_ne 108 dX12_grown_100 (by decide) (fun c2 => ?_) (fun c2 => ?_)
      · replace H := wp_f c2 H
        refine ql_a0 dX12_grown_108 ?_
        refine dr_bipush (iI (50)) dX12_grown_109 rfl ?_
        refine ql_i4 dX12_grown_111 ?_
        refine dr_iadd dX12_grown_113 ?_
        refine dr_bipush (iI (100)) dX12_grown_114 rfl ?_
        obtain ⟨a5, e9, H⟩ := wp_b H
        refine dc_N3i dX12_grown_116 ml_X12_55 mc_L_pick (C_L_pick e9) rfl rfl rfl ?_
        exact dr_wk (am_s (am_s (am_s (am_s (am_s (am_n (am_n am_0))))))) ((lp_in H).2.1 _ _ _ _ _ _ _ _ _ _ rfl)
      · replace H := wp_t c2 H
        refine dr_bipush (iI (30)) dX12_grown_103 rfl ?_
        refine dr_goto 119 dX12_grown_105 (by decide) ?_
        exact dr_wk (am_s (am_s (am_s (am_s (am_s (am_n (am_n am_0))))))) ((lp_in H).2.1 _ _ _ _ _ _ _ _ _ _ rfl)
  · subst e
    rw [S_X12_grown] at H
    obtain ⟨d1, e1, H⟩ := wp_b H
    refine dr_iast dX12_grown_119 e1 ?_
    refine qs_a5 dX12_grown_120 rfl trivial ?_
    refine ql_a2 dX12_grown_122 ?_
    refine dr_ldcT dX12_grown_123 kt_X12_61 ?_
    obtain ⟨u1, e3, H⟩ := wp_b H
    obtain ⟨a1, e2, H⟩ := wp_b H
    refine dc_V1r (C := (RJ4, TJ4, 4)) dX12_grown_125 ml_X12_63 mc_J4_append_15ec4 (C_J4_append_15ec4 e2) (dm_rk_some e3) rfl rfl rfl rfl rfl ?_
    refine ql_a5 dX12_grown_128 ?_
    refine dr_iconst (iI (0)) dX12_grown_130 rfl ?_
    obtain ⟨a2, e4, H⟩ := wp_b H
    refine dr_iald dX12_grown_131 e4 ?_
    obtain ⟨u2, e6, H⟩ := wp_b H
    obtain ⟨a3, e5, H⟩ := wp_b H
    refine dc_V1r (C := (RJ4, TJ4, 4)) dX12_grown_132 ml_X12_67 mc_J4_append_bf812 (C_J4_append_bf812 e5) (dm_rk_some e6) rfl rfl rfl rfl rfl ?_
    refine dr_ldcT dX12_grown_135 kt_X12_70 ?_
    obtain ⟨u3, e8, H⟩ := wp_b H
    obtain ⟨a4, e7, H⟩ := wp_b H
    refine dc_V1r (C := (RJ4, TJ4, 4)) dX12_grown_137 ml_X12_63 mc_J4_append_15ec4 (C_J4_append_15ec4 e7) (dm_rk_some e8) rfl rfl rfl rfl rfl ?_
    refine ql_a5 dX12_grown_140 ?_
    refine dr_iconst (iI (1)) dX12_grown_142 rfl ?_
    obtain ⟨a5, e9, H⟩ := wp_b H
    refine dr_iald dX12_grown_143 e9 ?_
    obtain ⟨u4, e11, H⟩ := wp_b H
    obtain ⟨a6, e10, H⟩ := wp_b H
    refine dc_V1r (C := (RJ4, TJ4, 4)) dX12_grown_144 ml_X12_67 mc_J4_append_bf812 (C_J4_append_bf812 e10) (dm_rk_some e11) rfl rfl rfl rfl rfl ?_
    refine dr_pop dX12_grown_147 trivial ?_
    refine ql_a5 dX12_grown_148 ?_
    refine dr_iconst (iI (2)) dX12_grown_150 rfl ?_
    obtain ⟨a7, e12, H⟩ := wp_b H
    refine dr_iald dX12_grown_151 e12 ?_
    refine dr_iconst (iI (1)) dX12_grown_152 rfl ?_
    refine dr_ic_ne 163 dX12_grown_153 (by decide) (fun c1 => ?_) (fun c1 => ?_)
    · replace H := wp_f c1 H
      exact dr_wk (am_s (am_s (am_s (am_s (am_s (am_s (am_n am_0))))))) ((lp_in H).2.2.1 _ _ _ _ _ _ _ rfl)
    · replace H := wp_t c1 H
      refine ql_a2 dX12_grown_156 ?_
      refine dr_ldcT dX12_grown_157 kt_X12_72 ?_
      obtain ⟨u5, e14, H⟩ := wp_b H
      obtain ⟨a8, e13, H⟩ := wp_b H
      refine dc_V1r (C := (RJ4, TJ4, 4)) dX12_grown_159 ml_X12_63 mc_J4_append_15ec4 (C_J4_append_15ec4 e13) (dm_rk_some e14) rfl rfl rfl rfl rfl ?_
      refine dr_pop dX12_grown_162 trivial ?_
      exact dr_wk (am_s (am_s (am_s (am_s (am_s (am_s (am_n am_0))))))) ((lp_in H).2.2.1 _ _ _ _ _ _ _ rfl)
  · subst e
    rw [S_X12_grown] at H
    refine ql_a5 dX12_grown_163 ?_
    refine dr_iconst (iI (3)) dX12_grown_165 rfl ?_
    obtain ⟨a1, e1, H⟩ := wp_b H
    refine dr_iald dX12_grown_166 e1 ?_
    refine dr_bipush (iI (30)) dX12_grown_167 rfl ?_
    refine dr_ic_eq 186 dX12_grown_169 (by decide) (fun c1 => ?_) (fun c1 => ?_)
    · replace H := wp_t c1 H
      exact dr_wk (am_s (am_s (am_s (am_s (am_s (am_s (am_n am_0))))))) ((lp_in H).2.2.2.1 _ _ _ _ _ _ _ rfl)
    · replace H := wp_f c1 H
      refine ql_a2 dX12_grown_172 ?_
      refine dr_ldcT dX12_grown_173 kt_X12_74 ?_
      obtain ⟨u1, e3, H⟩ := wp_b H
      obtain ⟨a2, e2, H⟩ := wp_b H
      refine dc_V1r (C := (RJ4, TJ4, 4)) dX12_grown_175 ml_X12_63 mc_J4_append_15ec4 (C_J4_append_15ec4 e2) (dm_rk_some e3) rfl rfl rfl rfl rfl ?_
      refine ql_a5 dX12_grown_178 ?_
      refine dr_iconst (iI (3)) dX12_grown_180 rfl ?_
      obtain ⟨a3, e4, H⟩ := wp_b H
      refine dr_iald dX12_grown_181 e4 ?_
      obtain ⟨u2, e6, H⟩ := wp_b H
      obtain ⟨a4, e5, H⟩ := wp_b H
      refine dc_V1r (C := (RJ4, TJ4, 4)) dX12_grown_182 ml_X12_67 mc_J4_append_bf812 (C_J4_append_bf812 e5) (dm_rk_some e6) rfl rfl rfl rfl rfl ?_
      refine dr_pop dX12_grown_185 trivial ?_
      exact dr_wk (am_s (am_s (am_s (am_s (am_s (am_s (am_n am_0))))))) ((lp_in H).2.2.2.1 _ _ _ _ _ _ _ rfl)
  · subst e
    rw [S_X12_grown] at H
    refine ql_a2 dX12_grown_186 ?_
    refine dr_ldcT dX12_grown_187 kt_X12_76 ?_
    obtain ⟨u1, e2, H⟩ := wp_b H
    obtain ⟨a1, e1, H⟩ := wp_b H
    refine dc_V1r (C := (RJ4, TJ4, 4)) dX12_grown_189 ml_X12_63 mc_J4_append_15ec4 (C_J4_append_15ec4 e1) (dm_rk_some e2) rfl rfl rfl rfl rfl ?_
    refine dr_pop dX12_grown_192 trivial ?_
    refine ql_a1 dX12_grown_193 ?_
    obtain ⟨w1, e3, H⟩ := wp_b H
    refine dr_getR dX12_grown_194 fg_X12_26 e3 ?_
    refine ql_a5 dX12_grown_197 ?_
    obtain ⟨u2, e5, H⟩ := wp_b H
    obtain ⟨a2, e4, H⟩ := wp_b H
    refine dc_F1i (C := (RJx4a65c, TJx4a65c, 3)) dX12_grown_199 ml_X12_78 mf_Jx4a65c_add_9ea2d (List.mem_of_getElem? (i := 0) rfl) (C_Jx4a65c_add_9ea2d e4) (dm_rk_some e5) rfl rfl rfl rfl ?_
    refine dr_pop dX12_grown_204 trivial ?_
    refine qn_1_4 dX12_grown_205 rfl trivial ?_
    refine dr_goto 34 dX12_grown_208 (by decide) ?_
    exact dr_wk (am_s (am_s (am_s (am_s (am_s (am_n (am_n am_0))))))) ((lp_in H).1 _ _ _ _ _ _ rfl)
  · subst e
    rw [S_X12_grown] at H
    refine ql_i4 dX12_grown_214 ?_
    refine ql_a0 dX12_grown_216 ?_
    refine dr_iconst (iI (2)) dX12_grown_217 rfl ?_
    refine dr_iconst (iI (3)) dX12_grown_218 rfl ?_
    obtain ⟨a1, e1, H⟩ := wp_b H
    refine dc_N3i dX12_grown_219 ml_X12_55 mc_L_pick (C_L_pick e1) rfl rfl rfl ?_
    refine dr_ic_ge 325 dX12_grown_222 (by decide) (fun c1 => ?_) (fun c1 => ?_)
    · replace H := wp_t c1 H
      refine dr_iconst (iI (0)) dX12_grown_325 rfl ?_
      refine qs_i4 dX12_grown_326 rfl trivial ?_
      exact dr_wk (am_s (am_s (am_s (am_n (am_s (am_n (am_n am_0))))))) ((lp_in H).2.2.2.2.2.2.1 _ _ _ _ _ rfl)
    · replace H := wp_f c1 H
      refine ql_a2 dX12_grown_225 ?_
      refine dr_ldcT dX12_grown_226 kt_X12_84 ?_
      obtain ⟨u1, e3, H⟩ := wp_b H
      obtain ⟨a2, e2, H⟩ := wp_b H
      refine dc_V1r (C := (RJ4, TJ4, 4)) dX12_grown_228 ml_X12_63 mc_J4_append_15ec4 (C_J4_append_15ec4 e2) (dm_rk_some e3) rfl rfl rfl rfl rfl ?_
      refine dr_pop dX12_grown_231 trivial ?_
      refine dr_iconst (iI (0)) dX12_grown_232 rfl ?_
      refine qs_i5 dX12_grown_233 rfl trivial ?_
      exact dr_wk (am_s (am_s (am_s (am_n (am_s (am_s (am_n am_0))))))) ((lp_in H).2.2.2.2.2.1 _ _ _ _ _ _ rfl)
  · subst e
    rw [S_X12_grown] at H
    refine ql_i5 dX12_grown_235 ?_
    refine ql_a0 dX12_grown_237 ?_
    refine dr_bipush (iI (60)) dX12_grown_238 rfl ?_
    refine ql_i4 dX12_grown_240 ?_
    refine dr_iadd dX12_grown_242 ?_
    refine dr_iconst (iI (5)) dX12_grown_243 rfl ?_
    obtain ⟨a1, e1, H⟩ := wp_b H
    refine dc_N3i dX12_grown_244 ml_X12_55 mc_L_pick (C_L_pick e1) rfl rfl rfl ?_
    refine dr_ic_gt 312 dX12_grown_247 (by decide) (fun c1 => ?_) (fun c1 => ?_)
    · replace H := wp_t c1 H
      refine ql_a2 dX12_grown_312 ?_
      refine dr_ldcT dX12_grown_313 kt_X12_89 ?_
      obtain ⟨u1, e3, H⟩ := wp_b H
      obtain ⟨a2, e2, H⟩ := wp_b H
      refine dc_V1r (C := (RJ4, TJ4, 4)) dX12_grown_315 ml_X12_63 mc_J4_append_15ec4 (C_J4_append_15ec4 e2) (dm_rk_some e3) rfl rfl rfl rfl rfl ?_
      refine dr_pop dX12_grown_318 trivial ?_
      refine qn_1_4 dX12_grown_319 rfl trivial ?_
      refine dr_goto 214 dX12_grown_322 (by decide) ?_
      exact dr_wk (am_s (am_s (am_s (am_n (am_s (am_n (am_n am_0))))))) ((lp_in H).2.2.2.2.1 _ _ _ _ _ rfl)
    · replace H := wp_f c1 H
      refine ql_a0 dX12_grown_250 ?_
      refine dr_bipush (iI (70)) dX12_grown_251 rfl ?_
      refine dr_bipush (iI (8)) dX12_grown_253 rfl ?_
      refine ql_i4 dX12_grown_255 ?_
      refine dr_imul dX12_grown_257 ?_
      refine dr_iadd dX12_grown_258 ?_
      refine ql_i5 dX12_grown_259 ?_
      refine dr_iadd dX12_grown_261 ?_
      refine dr_bipush (iI (26)) dX12_grown_262 rfl ?_
      obtain ⟨a2, e2, H⟩ := wp_b H
      refine dc_N3i dX12_grown_264 ml_X12_55 mc_L_pick (C_L_pick e2) rfl rfl rfl ?_
      refine qs_i6 dX12_grown_267 rfl trivial ?_
      refine ql_a2 dX12_grown_269 ?_
      refine dr_bipush (iI (97)) dX12_grown_270 rfl ?_
      refine ql_i6 dX12_grown_272 ?_
      refine dr_iadd dX12_grown_274 ?_
      refine dr_i2c dX12_grown_275 ?_
      obtain ⟨u1, e4, H⟩ := wp_b H
      obtain ⟨a3, e3, H⟩ := wp_b H
      refine dc_V1r (C := (RJ4, TJ4, 4)) dX12_grown_276 ml_X12_86 mc_J4_append_cf468 (C_J4_append_cf468 e3) (dm_rk_some e4) rfl rfl rfl rfl rfl ?_
      refine dr_pop dX12_grown_279 trivial ?_
      refine ql_a1 dX12_grown_280 ?_
      obtain ⟨w1, e5, H⟩ := wp_b H
      refine dr_getR dX12_grown_281 fg_X12_30 e5 ?_
      refine dr_iconst (iI (3)) dX12_grown_284 rfl ?_
      obtain ⟨d1, e6, H⟩ := wp_b H
      refine dr_newa dX12_grown_285 na_int (fun _ => rfl) (by decide) (fun _ _ => rfl) e6 ?_
      refine dr_dup dX12_grown_287 trivial ?_
      refine dr_iconst (iI (0)) dX12_grown_288 rfl ?_
      refine ql_i6 dX12_grown_289 ?_
      obtain ⟨d2, e7, H⟩ := wp_b H
      refine dr_iast dX12_grown_291 e7 ?_
      refine dr_dup dX12_grown_292 trivial ?_
      refine dr_iconst (iI (1)) dX12_grown_293 rfl ?_
      refine dr_iconst (iI (0)) dX12_grown_294 rfl ?_
      obtain ⟨d3, e8, H⟩ := wp_b H
      refine dr_iast dX12_grown_295 e8 ?_
      refine dr_dup dX12_grown_296 trivial ?_
      refine dr_iconst (iI (2)) dX12_grown_297 rfl ?_
      refine dr_iconst (iI (0)) dX12_grown_298 rfl ?_
      obtain ⟨d4, e9, H⟩ := wp_b H
      refine dr_iast dX12_grown_299 e9 ?_
      obtain ⟨u2, e11, H⟩ := wp_b H
      obtain ⟨a4, e10, H⟩ := wp_b H
      refine dc_F1i (C := (RJx4a65c, TJx4a65c, 3)) dX12_grown_300 ml_X12_78 mf_Jx4a65c_add_9ea2d (List.mem_of_getElem? (i := 0) rfl) (C_Jx4a65c_add_9ea2d e10) (dm_rk_some e11) rfl rfl rfl rfl ?_
      refine dr_pop dX12_grown_305 trivial ?_
      refine qn_1_5 dX12_grown_306 rfl trivial ?_
      refine dr_goto 235 dX12_grown_309 (by decide) ?_
      exact dr_wk (am_s (am_s (am_s (am_n (am_s (am_s (am_n am_0))))))) ((lp_in H).2.2.2.2.2.1 _ _ _ _ _ _ rfl)
  · subst e
    rw [S_X12_grown] at H
    refine ql_i4 dX12_grown_328 ?_
    refine dr_iconst (iI (3)) dX12_grown_330 rfl ?_
    refine dr_ic_ge 409 dX12_grown_331 (by decide) (fun c1 => ?_) (fun c1 => ?_)
    · replace H := wp_t c1 H
      refine dr_iconst (iI (0)) dX12_grown_409 rfl ?_
      refine qs_i4 dX12_grown_410 rfl trivial ?_
      exact dr_wk (am_s (am_s (am_s (am_n (am_s (am_n (am_n am_0))))))) ((lp_in H).2.2.2.2.2.2.2.1 _ _ _ _ _ rfl)
    · replace H := wp_f c1 H
      refine ql_a0 dX12_grown_334 ?_
      refine dr_bipush (iI (100)) dX12_grown_335 rfl ?_
      refine ql_i4 dX12_grown_337 ?_
      refine dr_iadd dX12_grown_339 ?_
      refine dr_bipush (iI (26)) dX12_grown_340 rfl ?_
      obtain ⟨a1, e1, H⟩ := wp_b H
      refine dc_N3i dX12_grown_342 ml_X12_55 mc_L_pick (C_L_pick e1) rfl rfl rfl ?_
      refine qs_i5 dX12_grown_345 rfl trivial ?_
      refine ql_a1 dX12_grown_347 ?_
      obtain ⟨w1, e2, H⟩ := wp_b H
      refine dr_getR dX12_grown_348 fg_X12_19 e2 ?_
      refine ql_i5 dX12_grown_351 ?_
      refine dr_iconst (iI (1)) dX12_grown_353 rfl ?_
      refine ql_a0 dX12_grown_354 ?_
      refine dr_bipush (iI (110)) dX12_grown_355 rfl ?_
      refine ql_i4 dX12_grown_357 ?_
      refine dr_iadd dX12_grown_359 ?_
      refine dr_bipush (iI (9)) dX12_grown_360 rfl ?_
      obtain ⟨a2, e3, H⟩ := wp_b H
      refine dc_N3i dX12_grown_362 ml_X12_55 mc_L_pick (C_L_pick e3) rfl rfl rfl ?_
      refine dr_iadd dX12_grown_365 ?_
      obtain ⟨d1, e4, H⟩ := wp_b H
      refine dr_iast dX12_grown_366 e4 ?_
      refine ql_a2 dX12_grown_367 ?_
      refine dr_ldcT dX12_grown_368 kt_X12_91 ?_
      obtain ⟨u1, e6, H⟩ := wp_b H
      obtain ⟨a3, e5, H⟩ := wp_b H
      refine dc_V1r (C := (RJ4, TJ4, 4)) dX12_grown_370 ml_X12_63 mc_J4_append_15ec4 (C_J4_append_15ec4 e5) (dm_rk_some e6) rfl rfl rfl rfl rfl ?_
      refine dr_bipush (iI (97)) dX12_grown_373 rfl ?_
      refine ql_i5 dX12_grown_375 ?_
      refine dr_iadd dX12_grown_377 ?_
      refine dr_i2c dX12_grown_378 ?_
      obtain ⟨u2, e8, H⟩ := wp_b H
      obtain ⟨a4, e7, H⟩ := wp_b H
      refine dc_V1r (C := (RJ4, TJ4, 4)) dX12_grown_379 ml_X12_86 mc_J4_append_cf468 (C_J4_append_cf468 e7) (dm_rk_some e8) rfl rfl rfl rfl rfl ?_
      refine dr_ldcT dX12_grown_382 kt_X12_70 ?_
      obtain ⟨u3, e10, H⟩ := wp_b H
      obtain ⟨a5, e9, H⟩ := wp_b H
      refine dc_V1r (C := (RJ4, TJ4, 4)) dX12_grown_384 ml_X12_63 mc_J4_append_15ec4 (C_J4_append_15ec4 e9) (dm_rk_some e10) rfl rfl rfl rfl rfl ?_
      refine ql_a1 dX12_grown_387 ?_
      obtain ⟨w2, e11, H⟩ := wp_b H
      refine dr_getR dX12_grown_388 fg_X12_19 e11 ?_
      refine ql_i5 dX12_grown_391 ?_
      obtain ⟨a6, e12, H⟩ := wp_b H
      refine dr_iald dX12_grown_393 e12 ?_
      obtain ⟨u4, e14, H⟩ := wp_b H
      obtain ⟨a7, e13, H⟩ := wp_b H
      refine dc_V1r (C := (RJ4, TJ4, 4)) dX12_grown_394 ml_X12_67 mc_J4_append_bf812 (C_J4_append_bf812 e13) (dm_rk_some e14) rfl rfl rfl rfl rfl ?_
      refine dr_ldcT dX12_grown_397 kt_X12_89 ?_
      obtain ⟨u5, e16, H⟩ := wp_b H
      obtain ⟨a8, e15, H⟩ := wp_b H
      refine dc_V1r (C := (RJ4, TJ4, 4)) dX12_grown_399 ml_X12_63 mc_J4_append_15ec4 (C_J4_append_15ec4 e15) (dm_rk_some e16) rfl rfl rfl rfl rfl ?_
      refine dr_pop dX12_grown_402 trivial ?_
      refine qn_1_4 dX12_grown_403 rfl trivial ?_
      refine dr_goto 328 dX12_grown_406 (by decide) ?_
      exact dr_wk (am_s (am_s (am_s (am_n (am_s (am_n (am_n am_0))))))) ((lp_in H).2.2.2.2.2.2.1 _ _ _ _ _ rfl)
  · subst e
    rw [S_X12_grown] at H
    refine ql_i4 dX12_grown_412 ?_
    refine ql_a0 dX12_grown_414 ?_
    refine dr_iconst (iI (3)) dX12_grown_415 rfl ?_
    refine dr_iconst (iI (4)) dX12_grown_416 rfl ?_
    obtain ⟨a1, e1, H⟩ := wp_b H
    refine dc_N3i dX12_grown_417 ml_X12_55 mc_L_pick (C_L_pick e1) rfl rfl rfl ?_
    refine dr_ic_ge 547 dX12_grown_420 (by decide) (fun c1 => ?_) (fun c1 => ?_)
    · replace H := wp_t c1 H
      refine ql_a0 dX12_grown_547 ?_
      refine dr_iconst (iI (4)) dX12_grown_548 rfl ?_
      refine dr_iconst (iI (2)) dX12_grown_549 rfl ?_
      obtain ⟨a2, e2, H⟩ := wp_b H
      refine dc_N3i dX12_grown_550 ml_X12_55 mc_L_pick (C_L_pick e2) rfl rfl rfl ?_
      refine dr_if_ne 587 dX12_grown_553 (by decide) (fun c2 => ?_) (fun c2 => ?_)
      · replace H := wp_f c2 H
        exact dr_wk (am_s (am_s (am_s (am_n (am_n (am_n (am_n am_0))))))) ((lp_in H).2.2.2.2.2.2.2.2.1 _ _ _ _ rfl)
      · replace H := wp_t c2 H
        refine ql_a1 dX12_grown_556 ?_
        refine ql_a0 dX12_grown_557 ?_
        refine dr_iconst (iI (5)) dX12_grown_558 rfl ?_
        refine dr_sipush (iI (1000)) dX12_grown_559 rfl ?_
        obtain ⟨a3, e3, H⟩ := wp_b H
        refine dc_N3i dX12_grown_562 ml_X12_55 mc_L_pick (C_L_pick e3) rfl rfl rfl ?_
        obtain ⟨d1, e4, H⟩ := wp_b H
        refine dr_putI dX12_grown_565 fg_X12_16 rfl rfl e4 ?_
        refine ql_a2 dX12_grown_568 ?_
        refine dr_ldcT dX12_grown_569 kt_X12_95 ?_
        obtain ⟨u1, e6, H⟩ := wp_b H
        obtain ⟨a4, e5, H⟩ := wp_b H
        refine dc_V1r (C := (RJ4, TJ4, 4)) dX12_grown_571 ml_X12_63 mc_J4_append_15ec4 (C_J4_append_15ec4 e5) (dm_rk_some e6) rfl rfl rfl rfl rfl ?_
        refine ql_a1 dX12_grown_574 ?_
        obtain ⟨a5, e7, H⟩ := wp_b H
        refine dr_getI dX12_grown_575 fg_X12_16 e7 ?_
        obtain ⟨u2, e9, H⟩ := wp_b H
        obtain ⟨a6, e8, H⟩ := wp_b H
        refine dc_V1r (C := (RJ4, TJ4, 4)) dX12_grown_578 ml_X12_67 mc_J4_append_bf812 (C_J4_append_bf812 e8) (dm_rk_some e9) rfl rfl rfl rfl rfl ?_
        refine dr_ldcT dX12_grown_581 kt_X12_89 ?_
        obtain ⟨u3, e11, H⟩ := wp_b H
        obtain ⟨a7, e10, H⟩ := wp_b H
        refine dc_V1r (C := (RJ4, TJ4, 4)) dX12_grown_583 ml_X12_63 mc_J4_append_15ec4 (C_J4_append_15ec4 e10) (dm_rk_some e11) rfl rfl rfl rfl rfl ?_
        refine dr_pop dX12_grown_586 trivial ?_
        exact dr_wk (am_s (am_s (am_s (am_n (am_n (am_n (am_n am_0))))))) ((lp_in H).2.2.2.2.2.2.2.2.1 _ _ _ _ rfl)
    · replace H := wp_f c1 H
      refine dr_iconst (iI (3)) dX12_grown_423 rfl ?_
      obtain ⟨d1, e2, H⟩ := wp_b H
      refine dr_newa dX12_grown_424 na_int (fun _ => rfl) (by decide) (fun _ _ => rfl) e2 ?_
      refine dr_dup dX12_grown_426 trivial ?_
      refine dr_iconst (iI (0)) dX12_grown_427 rfl ?_
      refine dr_iconst (iI (1)) dX12_grown_428 rfl ?_
      refine ql_a0 dX12_grown_429 ?_
      refine dr_bipush (iI (120)) dX12_grown_430 rfl ?_
      refine ql_i4 dX12_grown_432 ?_
      refine dr_iadd dX12_grown_434 ?_
      refine dr_bipush (iI (12)) dX12_grown_435 rfl ?_
      obtain ⟨a2, e3, H⟩ := wp_b H
      refine dc_N3i dX12_grown_437 ml_X12_55 mc_L_pick (C_L_pick e3) rfl rfl rfl ?_
      refine dr_iadd dX12_grown_440 ?_
      obtain ⟨d2, e4, H⟩ := wp_b H
      refine dr_iast dX12_grown_441 e4 ?_
      refine dr_dup dX12_grown_442 trivial ?_
      refine dr_iconst (iI (1)) dX12_grown_443 rfl ?_
      refine dr_iconst (iI (1)) dX12_grown_444 rfl ?_
      refine ql_a0 dX12_grown_445 ?_
      refine dr_sipush (iI (130)) dX12_grown_446 rfl ?_
      refine ql_i4 dX12_grown_449 ?_
      refine dr_iadd dX12_grown_451 ?_
      refine dr_bipush (iI (9)) dX12_grown_452 rfl ?_
      obtain ⟨a3, e5, H⟩ := wp_b H
      refine dc_N3i dX12_grown_454 ml_X12_55 mc_L_pick (C_L_pick e5) rfl rfl rfl ?_
      refine dr_iadd dX12_grown_457 ?_
      obtain ⟨d3, e6, H⟩ := wp_b H
      refine dr_iast dX12_grown_458 e6 ?_
      refine dr_dup dX12_grown_459 trivial ?_
      refine dr_iconst (iI (2)) dX12_grown_460 rfl ?_
      refine dr_iconst (iI (1)) dX12_grown_461 rfl ?_
      refine ql_a0 dX12_grown_462 ?_
      refine dr_sipush (iI (140)) dX12_grown_463 rfl ?_
      refine ql_i4 dX12_grown_466 ?_
      refine dr_iadd dX12_grown_468 ?_
      refine dr_iconst (iI (3)) dX12_grown_469 rfl ?_
      obtain ⟨a4, e7, H⟩ := wp_b H
      refine dc_N3i dX12_grown_470 ml_X12_55 mc_L_pick (C_L_pick e7) rfl rfl rfl ?_
      refine dr_iadd dX12_grown_473 ?_
      obtain ⟨d4, e8, H⟩ := wp_b H
      refine dr_iast dX12_grown_474 e8 ?_
      refine qs_a5 dX12_grown_475 rfl trivial ?_
      refine ql_a2 dX12_grown_477 ?_
      refine dr_ldcT dX12_grown_478 kt_X12_93 ?_
      obtain ⟨u1, e10, H⟩ := wp_b H
      obtain ⟨a5, e9, H⟩ := wp_b H
      refine dc_V1r (C := (RJ4, TJ4, 4)) dX12_grown_480 ml_X12_63 mc_J4_append_15ec4 (C_J4_append_15ec4 e9) (dm_rk_some e10) rfl rfl rfl rfl rfl ?_
      refine dr_bipush (iI (112)) dX12_grown_483 rfl ?_
      refine ql_i4 dX12_grown_485 ?_
      refine dr_iadd dX12_grown_487 ?_
      refine dr_i2c dX12_grown_488 ?_
      obtain ⟨u2, e12, H⟩ := wp_b H
      obtain ⟨a6, e11, H⟩ := wp_b H
      refine dc_V1r (C := (RJ4, TJ4, 4)) dX12_grown_489 ml_X12_86 mc_J4_append_cf468 (C_J4_append_cf468 e11) (dm_rk_some e12) rfl rfl rfl rfl rfl ?_
      refine ql_a5 dX12_grown_492 ?_
      refine dr_iconst (iI (0)) dX12_grown_494 rfl ?_
      obtain ⟨a7, e13, H⟩ := wp_b H
      refine dr_iald dX12_grown_495 e13 ?_
      obtain ⟨u3, e15, H⟩ := wp_b H
      obtain ⟨a8, e14, H⟩ := wp_b H
      refine dc_V1r (C := (RJ4, TJ4, 4)) dX12_grown_496 ml_X12_67 mc_J4_append_bf812 (C_J4_append_bf812 e14) (dm_rk_some e15) rfl rfl rfl rfl rfl ?_
      refine dr_ldcT dX12_grown_499 kt_X12_70 ?_
      obtain ⟨u4, e17, H⟩ := wp_b H
      obtain ⟨a9, e16, H⟩ := wp_b H
      refine dc_V1r (C := (RJ4, TJ4, 4)) dX12_grown_501 ml_X12_63 mc_J4_append_15ec4 (C_J4_append_15ec4 e16) (dm_rk_some e17) rfl rfl rfl rfl rfl ?_
      refine ql_a5 dX12_grown_504 ?_
      refine dr_iconst (iI (1)) dX12_grown_506 rfl ?_
      obtain ⟨a10, e18, H⟩ := wp_b H
      refine dr_iald dX12_grown_507 e18 ?_
      obtain ⟨u5, e20, H⟩ := wp_b H
      obtain ⟨a11, e19, H⟩ := wp_b H
      refine dc_V1r (C := (RJ4, TJ4, 4)) dX12_grown_508 ml_X12_67 mc_J4_append_bf812 (C_J4_append_bf812 e19) (dm_rk_some e20) rfl rfl rfl rfl rfl ?_
      refine dr_ldcT dX12_grown_511 kt_X12_70 ?_
      obtain ⟨u6, e22, H⟩ := wp_b H
      obtain ⟨a12, e21, H⟩ := wp_b H
      refine dc_V1r (C := (RJ4, TJ4, 4)) dX12_grown_513 ml_X12_63 mc_J4_append_15ec4 (C_J4_append_15ec4 e21) (dm_rk_some e22) rfl rfl rfl rfl rfl ?_
      refine ql_a5 dX12_grown_516 ?_
      refine dr_iconst (iI (2)) dX12_grown_518 rfl ?_
      obtain ⟨a13, e23, H⟩ := wp_b H
      refine dr_iald dX12_grown_519 e23 ?_
      obtain ⟨u7, e25, H⟩ := wp_b H
      obtain ⟨a14, e24, H⟩ := wp_b H
      refine dc_V1r (C := (RJ4, TJ4, 4)) dX12_grown_520 ml_X12_67 mc_J4_append_bf812 (C_J4_append_bf812 e24) (dm_rk_some e25) rfl rfl rfl rfl rfl ?_
      refine dr_ldcT dX12_grown_523 kt_X12_89 ?_
      obtain ⟨u8, e27, H⟩ := wp_b H
      obtain ⟨a15, e26, H⟩ := wp_b H
      refine dc_V1r (C := (RJ4, TJ4, 4)) dX12_grown_525 ml_X12_63 mc_J4_append_15ec4 (C_J4_append_15ec4 e26) (dm_rk_some e27) rfl rfl rfl rfl rfl ?_
      refine dr_pop dX12_grown_528 trivial ?_
      refine ql_a1 dX12_grown_529 ?_
      obtain ⟨w1, e28, H⟩ := wp_b H
      refine dr_getR dX12_grown_530 fg_X12_33 e28 ?_
      refine ql_a5 dX12_grown_533 ?_
      obtain ⟨u9, e30, H⟩ := wp_b H
      obtain ⟨a16, e29, H⟩ := wp_b H
      refine dc_F1i (C := (RJx4a65c, TJx4a65c, 3)) dX12_grown_535 ml_X12_78 mf_Jx4a65c_add_9ea2d (List.mem_of_getElem? (i := 0) rfl) (C_Jx4a65c_add_9ea2d e29) (dm_rk_some e30) rfl rfl rfl rfl ?_
      refine dr_pop dX12_grown_540 trivial ?_
      refine qn_1_4 dX12_grown_541 rfl trivial ?_
      refine dr_goto 412 dX12_grown_544 (by decide) ?_
      exact dr_wk (am_s (am_s (am_s (am_n (am_s (am_n (am_n am_0))))))) ((lp_in H).2.2.2.2.2.2.2.1 _ _ _ _ _ rfl)
  · subst e
    rw [S_X12_grown] at H
    refine ql_a0 dX12_grown_587 ?_
    refine dr_bipush (iI (6)) dX12_grown_588 rfl ?_
    refine dr_iconst (iI (2)) dX12_grown_590 rfl ?_
    obtain ⟨a1, e1, H⟩ := wp_b H
    refine dc_N3i dX12_grown_591 ml_X12_55 mc_L_pick (C_L_pick e1) rfl rfl rfl ?_
    refine dr_if_ne 630 dX12_grown_594 (by decide) (fun c1 => ?_) (fun c1 => ?_)
    · replace H := wp_f c1 H
      exact dr_wk (am_s (am_s (am_s (am_n (am_n (am_n (am_n am_0))))))) ((lp_in H).2.2.2.2.2.2.2.2.2 _ _ _ _ rfl)
    · replace H := wp_t c1 H
      refine ql_a1 dX12_grown_597 ?_
      refine dr_iconst (iI (1)) dX12_grown_598 rfl ?_
      refine ql_a0 dX12_grown_599 ?_
      refine dr_bipush (iI (7)) dX12_grown_600 rfl ?_
      refine dr_bipush (iI (60)) dX12_grown_602 rfl ?_
      obtain ⟨a2, e2, H⟩ := wp_b H
      refine dc_N3i dX12_grown_604 ml_X12_55 mc_L_pick (C_L_pick e2) rfl rfl rfl ?_
      refine dr_iadd dX12_grown_607 ?_
      obtain ⟨d1, e3, H⟩ := wp_b H
      refine dr_putI dX12_grown_608 fg_X12_7 rfl rfl e3 ?_
      refine ql_a2 dX12_grown_611 ?_
      refine dr_ldcT dX12_grown_612 kt_X12_97 ?_
      obtain ⟨u1, e5, H⟩ := wp_b H
      obtain ⟨a3, e4, H⟩ := wp_b H
      refine dc_V1r (C := (RJ4, TJ4, 4)) dX12_grown_614 ml_X12_63 mc_J4_append_15ec4 (C_J4_append_15ec4 e4) (dm_rk_some e5) rfl rfl rfl rfl rfl ?_
      refine ql_a1 dX12_grown_617 ?_
      obtain ⟨a4, e6, H⟩ := wp_b H
      refine dr_getI dX12_grown_618 fg_X12_7 e6 ?_
      obtain ⟨u2, e8, H⟩ := wp_b H
      obtain ⟨a5, e7, H⟩ := wp_b H
      refine dc_V1r (C := (RJ4, TJ4, 4)) dX12_grown_621 ml_X12_67 mc_J4_append_bf812 (C_J4_append_bf812 e7) (dm_rk_some e8) rfl rfl rfl rfl rfl ?_
      refine dr_ldcT dX12_grown_624 kt_X12_89 ?_
      obtain ⟨u3, e10, H⟩ := wp_b H
      obtain ⟨a6, e9, H⟩ := wp_b H
      refine dc_V1r (C := (RJ4, TJ4, 4)) dX12_grown_626 ml_X12_63 mc_J4_append_15ec4 (C_J4_append_15ec4 e9) (dm_rk_some e10) rfl rfl rfl rfl rfl ?_
      refine dr_pop dX12_grown_629 trivial ?_
      exact dr_wk (am_s (am_s (am_s (am_n (am_n (am_n (am_n am_0))))))) ((lp_in H).2.2.2.2.2.2.2.2.2 _ _ _ _ rfl)
  · subst e
    rw [S_X12_grown] at H
    refine ql_a0 dX12_grown_630 ?_
    refine dr_bipush (iI (8)) dX12_grown_631 rfl ?_
    refine dr_iconst (iI (2)) dX12_grown_633 rfl ?_
    obtain ⟨a1, e1, H⟩ := wp_b H
    refine dc_N3i dX12_grown_634 ml_X12_55 mc_L_pick (C_L_pick e1) rfl rfl rfl ?_
    refine dr_if_ne 671 dX12_grown_637 (by decide) (fun c1 => ?_) (fun c1 => ?_)
    · replace H := wp_f c1 H
      refine ql_a1 dX12_grown_671 ?_
      refine ql_a2 dX12_grown_672 ?_
      obtain ⟨u1, e3, H⟩ := wp_b H
      obtain ⟨a2, e2, H⟩ := wp_b H
      refine dc_V0r (C := (RJ4, TJ4, 4)) dX12_grown_673 ml_X12_101 mc_J4_toString_0e30d (C_J4_toString_0e30d e2) (dm_rk_some e3) rfl rfl rfl rfl rfl ?_
      obtain ⟨d1, e4, H⟩ := wp_b H
      refine dr_putR dX12_grown_676 fg_X12_41 (fun _ => ⟨rfl, rfl⟩) e4 ?_
      refine ql_a1 dX12_grown_679 ?_
      replace H := lp_re H
      exact dr_aret dX12_grown_680 rfl (Or.inl ⟨_, rfl⟩) H
    · replace H := wp_t c1 H
      refine ql_a1 dX12_grown_640 ?_
      refine ql_a0 dX12_grown_641 ?_
      refine dr_bipush (iI (9)) dX12_grown_642 rfl ?_
      refine dr_bipush (iI (30)) dX12_grown_644 rfl ?_
      obtain ⟨a2, e2, H⟩ := wp_b H
      refine dc_N3i dX12_grown_646 ml_X12_55 mc_L_pick (C_L_pick e2) rfl rfl rfl ?_
      obtain ⟨d1, e3, H⟩ := wp_b H
      refine dr_putI dX12_grown_649 fg_X12_13 rfl rfl e3 ?_
      refine ql_a2 dX12_grown_652 ?_
      refine dr_ldcT dX12_grown_653 kt_X12_99 ?_
      obtain ⟨u1, e5, H⟩ := wp_b H
      obtain ⟨a3, e4, H⟩ := wp_b H
      refine dc_V1r (C := (RJ4, TJ4, 4)) dX12_grown_655 ml_X12_63 mc_J4_append_15ec4 (C_J4_append_15ec4 e4) (dm_rk_some e5) rfl rfl rfl rfl rfl ?_
      refine ql_a1 dX12_grown_658 ?_
      obtain ⟨a4, e6, H⟩ := wp_b H
      refine dr_getI dX12_grown_659 fg_X12_13 e6 ?_
      obtain ⟨u2, e8, H⟩ := wp_b H
      obtain ⟨a5, e7, H⟩ := wp_b H
      refine dc_V1r (C := (RJ4, TJ4, 4)) dX12_grown_662 ml_X12_67 mc_J4_append_bf812 (C_J4_append_bf812 e7) (dm_rk_some e8) rfl rfl rfl rfl rfl ?_
      refine dr_ldcT dX12_grown_665 kt_X12_89 ?_
      obtain ⟨u3, e10, H⟩ := wp_b H
      obtain ⟨a6, e9, H⟩ := wp_b H
      refine dc_V1r (C := (RJ4, TJ4, 4)) dX12_grown_667 ml_X12_63 mc_J4_append_15ec4 (C_J4_append_15ec4 e9) (dm_rk_some e10) rfl rfl rfl rfl rfl ?_
      refine dr_pop dX12_grown_670 trivial ?_
      refine ql_a1 dX12_grown_671 ?_
      refine ql_a2 dX12_grown_672 ?_
      obtain ⟨u4, e12, H⟩ := wp_b H
      obtain ⟨a7, e11, H⟩ := wp_b H
      refine dc_V0r (C := (RJ4, TJ4, 4)) dX12_grown_673 ml_X12_101 mc_J4_toString_0e30d (C_J4_toString_0e30d e11) (dm_rk_some e12) rfl rfl rfl rfl rfl ?_
      obtain ⟨d2, e13, H⟩ := wp_b H
      refine dr_putR dX12_grown_676 fg_X12_41 (fun _ => ⟨rfl, rfl⟩) e13 ?_
      refine ql_a1 dX12_grown_679 ?_
      replace H := lp_re H
      exact dr_aret dX12_grown_680 rfl (Or.inl ⟨_, rfl⟩) H
theorem C_X12_grown {X : dm_X} {q0 : am_G × Nat} {h : am_H} {d : dm_D} {a : (am_G × Nat) × dm_D} (e : F_X12_grown X q0 d = some a) : dm_Mx X yX12_grown cX12_grown 7 (some (.object "CurvedNamesLaw$World")) 7 157 [.inr q0] h d (some (.inr a.1)) h a.2 := by
  refine dm_M.ofx (A := [some (.inr q0), none, none, none, none, none, none]) (by decide +kernel) rfl (ble rfl) (fun Q hQ => ?_)
  have H : wp (F_X12_grown X q0 d) (fun a => Q (some (.inr a.1)) h a.2) := ⟨_, e, hQ⟩
  unfold F_X12_grown at H
  obtain ⟨d1, e1, H⟩ := wp_b H
  refine dr_new dX12_grown_0 rfl nw_X12_8.1 nw_X12_8.2.1 nw_X12_8.2.2 rfl nf_12 e1 ?_
  refine dr_dup dX12_grown_3 trivial ?_
  obtain ⟨a1, e2, H⟩ := wp_b H
  refine dc_I0v dX12_grown_4 ml_X12_45 mi_X12_init (C_X12_init e2) rfl rfl rfl ?_
  refine qs_a1 dX12_grown_7 rfl trivial ?_
  obtain ⟨d2, e3, H⟩ := wp_b H
  refine dr_new dX12_grown_8 rfl nw_X12_46.1 nw_X12_46.2.1 nw_X12_46.2.2 rfl nf_14 e3 ?_
  refine dr_dup dX12_grown_11 trivial ?_
  obtain ⟨a2, e4, H⟩ := wp_b H
  refine dc_I0v dX12_grown_12 ml_X12_48 mi_J4_init_da8c8 (C_J4_init_da8c8 e4) rfl rfl rfl ?_
  refine qs_a2 dX12_grown_15 rfl trivial ?_
  refine ql_a1 dX12_grown_16 ?_
  obtain ⟨w1, e5, H⟩ := wp_b H
  refine dr_getR dX12_grown_17 fg_X12_19 e5 ?_
  refine dr_iconst (iI (4)) dX12_grown_20 rfl ?_
  obtain ⟨a3, e6, H⟩ := wp_b H
  refine dc_S2v dX12_grown_21 ml_X12_49 mc_J7_fill_53178 (C_J7_fill_53178 e6) rfl rfl rfl ?_
  refine ql_a0 dX12_grown_24 ?_
  refine dr_iconst (iI (1)) dX12_grown_25 rfl ?_
  refine dr_iconst (iI (5)) dX12_grown_26 rfl ?_
  obtain ⟨a4, e7, H⟩ := wp_b H
  refine dc_N3i dX12_grown_27 ml_X12_55 mc_L_pick (C_L_pick e7) rfl rfl rfl ?_
  refine qs_i3 dX12_grown_30 rfl trivial ?_
  refine dr_iconst (iI (0)) dX12_grown_31 rfl ?_
  refine qs_i4 dX12_grown_32 rfl trivial ?_
  exact dr_wk (am_s (am_s (am_s (am_s (am_s (am_n (am_n am_0))))))) ((C_X12_grown_L _ H).1 _ _ _ _ _ _ rfl)
