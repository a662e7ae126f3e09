noncomputable def S_L_acts (X : dm_X)  : dm_S (am_H × dm_D) → Option (dm_S (am_H × dm_D) ⊕ (Int32 × am_H × dm_D)) := fun s => match s with
  | (497, [x6, x8, x9], [q1], (h, d)) => if x9 < 0 then ((dm_cl d (f_X11_polish x6 h)).bind (fun a1 => (dm_v a1.1).bind (fun a2 => if a2 = x8 then (some (.inr ((iI (1)), a1.2, d))) else (some (.inr ((iI (0)), a1.2, d)))))) else ((dm_fr d q1 12 9).bind (fun w1 => (dm_rk d w1 16).bind (fun u1 => (F_Jx4a65c_get_915e3 X w1 x9 d).bind (fun a1 => (dm_ck d a1).bind (fun u2 => (dm_li X d a1 (iI (0))).bind (fun a2 => if a2 = x6 then ((dm_fr d q1 12 9).bind (fun w2 => (dm_rk d w2 16).bind (fun u3 => (F_Jx4a65c_remove_915e3 X w2 x9 d).bind (fun a3 => some (.inl (497, [x6, x8, (x9 + iI (-1))], [q1], (h, a3.2))))))) else (some (.inl (497, [x6, x8, (x9 + iI (-1))], [q1], (h, d))))))))))
  | _ => none
noncomputable def F_L_acts_497 (X : dm_X) (q1 : am_G × Nat) (x6 : Int32) (x8 : Int32) (x9 : Int32) (h : am_H) (d : dm_D) : Option (Int32 × am_H × dm_D) := lp (S_L_acts X) (497, [x6, x8, x9], [q1], (h, d))
theorem E_L_acts_497 (X : dm_X) (q1 : am_G × Nat) (x6 : Int32) (x8 : Int32) (x9 : Int32) (h : am_H) (d : dm_D) : F_L_acts_497 X q1 x6 x8 x9 h d = (if x9 < 0 then ((dm_cl d (f_X11_polish x6 h)).bind (fun a1 => (dm_v a1.1).bind (fun a2 => if a2 = x8 then (some ((iI (1)), a1.2, d)) else (some ((iI (0)), a1.2, d))))) else ((dm_fr d q1 12 9).bind (fun w1 => (dm_rk d w1 16).bind (fun u1 => (F_Jx4a65c_get_915e3 X w1 x9 d).bind (fun a1 => (dm_ck d a1).bind (fun u2 => (dm_li X d a1 (iI (0))).bind (fun a2 => if a2 = x6 then ((dm_fr d q1 12 9).bind (fun w2 => (dm_rk d w2 16).bind (fun u3 => (F_Jx4a65c_remove_915e3 X w2 x9 d).bind (fun a3 => F_L_acts_497 X q1 x6 x8 (x9 + iI (-1)) h a3.2)))) else (F_L_acts_497 X q1 x6 x8 (x9 + iI (-1)) h d)))))))) := by
  show lp _ _ = _
  rw [lp_eq, S_L_acts]
  simp only [lpk_i, lpk_b, lpk_n, lpk_j, lpk_r] <;> rfl
noncomputable def F_L_acts (X : dm_X) (q1 : am_G × Nat) (q2 : am_G × Nat) (x3 : Int32) (h : am_H) (d : dm_D) : Option (Int32 × am_H × dm_D) :=
  (F_L_pick X q2 ((iI (340)) + x3) (400000 : Int32) d).bind (fun a1 => (F_L_pick X q2 ((iI (300)) + x3) (iI (14)) d).bind (fun a2 => if a2 = 0 then ((dm_fi d q1 12 0).bind (fun a3 => if (iI (40)) = 0 then none else ((F_J9_min_7cf53 (iI (99)) ((a3 + (iI (1))) + (a1 - a1 / (iI (40)) * (iI (40))))).bind (fun a4 => (dm_pu d q1 12 0 (am_i a4)).bind (fun d1 => if (iI (40)) = 0 then none else ((dm_cl d1 (f_X11_sharpen ((iI (1)) + (a1 - a1 / (iI (40)) * (iI (40)))) h)).bind (fun a5 => (dm_v a5.1).bind (fun a6 => (dm_fi d1 q1 12 0).bind (fun a7 => if a6 = a7 then (some ((iI (1)), a5.2, d1)) else (some ((iI (0)), a5.2, d1))))))))))) else (if a2 = (iI (1)) then ((dm_fi d q1 12 1).bind (fun a3 => if (iI (60)) = 0 then none else ((dm_pu d q1 12 1 (am_i (a1 - a1 / (iI (60)) * (iI (60))))).bind (fun d1 => (dm_fi d1 q1 12 1).bind (fun a4 => (dm_cl d1 (f_X11_setMargin a4 h)).bind (fun a5 => (dm_v a5.1).bind (fun a6 => if a6 = a3 then (some ((iI (1)), a5.2, d1)) else (some ((iI (0)), a5.2, d1))))))))) else (if a2 = (iI (2)) then (if (iI (26)) = 0 then none else ((dm_fr d q1 12 5).bind (fun w1 => (dm_li X d w1 (a1 - a1 / (iI (26)) * (iI (26)))).bind (fun a3 => (dm_fr d q1 12 5).bind (fun w2 => if (iI (32)) = 0 then none else (if (iI (12)) = 0 then none else ((dm_wi d w2 0 (a1 - a1 / (iI (26)) * (iI (26))) ((iI (1)) + ((a1 / (iI (32))) - (a1 / (iI (32))) / (iI (12)) * (iI (12))))).bind (fun d1 => (dm_fr d1 q1 12 5).bind (fun w3 => (dm_li X d1 w3 (a1 - a1 / (iI (26)) * (iI (26)))).bind (fun a4 => (dm_cl d1 (f_X11_setWidth (a1 - a1 / (iI (26)) * (iI (26))) a4 h)).bind (fun a5 => (dm_v a5.1).bind (fun a6 => if a6 = a3 then (some ((iI (1)), a5.2, d1)) else (some ((iI (0)), a5.2, d1)))))))))))))) else (if (iI (5)) ≤ a2 then (if (iI (7)) ≤ a2 then ((dm_fr d q1 12 7).bind (fun w1 => (dm_rk d w1 16).bind (fun u1 => (F_Jx4a65c_isEmpty_aae02 X w1 d).bind (fun a3 => if a3 = 0 then ((dm_fr d q1 12 7).bind (fun w2 => (dm_rk d w2 16).bind (fun u2 => (F_Jx4a65c_size_8abf5 X w2 d).bind (fun a4 => if a4 = 0 then none else ((dm_fr d q1 12 7).bind (fun w3 => (dm_rk d w3 16).bind (fun u3 => (F_Jx4a65c_get_915e3 X w3 (a1 - a1 / a4 * a4) d).bind (fun a5 => (dm_ck d a5).bind (fun u4 => if a2 = (iI (7)) then ((dm_li X d a5 (iI (1))).bind (fun a6 => if a6 = 0 then (some ((iI (1)), h, d)) else ((dm_li X d a5 (iI (2))).bind (fun a7 => if a7 = (iI (3)) then (some ((iI (1)), h, d)) else ((dm_wi d a5 0 (iI (1)) (iI (0))).bind (fun d1 => (dm_li X d1 a5 (iI (2))).bind (fun a8 => (dm_wi d1 a5 0 (iI (2)) (a8 + (iI (1)))).bind (fun d2 => (dm_rk d2 q1 12).bind (fun u5 => (F_X12_scratchesOf X q1 (a1 - a1 / a4 * a4) d2).bind (fun a9 => (dm_fr a9.2 q1 12 9).bind (fun w4 => (dm_rk a9.2 w4 16).bind (fun u6 => (F_Jx4a65c_size_8abf5 X w4 a9.2).bind (fun a10 => F_L_acts_497 X q1 (a1 - a1 / a4 * a4) a9.1 (a10 - (iI (1))) h a9.2))))))))))))) else ((dm_fr d q1 12 6).bind (fun w4 => (dm_rk d w4 16).bind (fun u5 => (F_Jx4a65c_isEmpty_aae02 X w4 d).bind (fun a6 => if a6 = 0 then ((dm_fr d q1 12 9).bind (fun w5 => (dm_rk d w5 16).bind (fun u6 => (F_Jx4a65c_size_8abf5 X w5 d).bind (fun a7 => if a7 ≤ (iI (40)) then (if a2 = (iI (8)) then ((dm_rk d q1 12).bind (fun u7 => (F_X12_engraved X q1 d).bind (fun a8 => (dm_fr a8.2 q1 12 7).bind (fun w6 => (dm_rk a8.2 w6 16).bind (fun u8 => (F_Jx4a65c_size_8abf5 X w6 a8.2).bind (fun a9 => if a8.1 = a9 then (some ((iI (1)), h, a8.2)) else ((dm_cl a8.2 (f_X11_engraveAll h)).bind (fun a10 => (dm_v a10.1).bind (fun a11 => (dm_rk a8.2 q1 12).bind (fun u9 => (F_X12_engraveAll X q1 (iI (40)) a8.2).bind (fun a12 => if a11 = a12.1 then (some ((iI (1)), a10.2, a12.2)) else (some ((iI (0)), a10.2, a12.2))))))))))))) else ((dm_li X d a5 (iI (1))).bind (fun a8 => if a8 = (iI (1)) then (some ((iI (1)), h, d)) else ((dm_cl d (f_X11_engrave (a1 - a1 / a4 * a4) h)).bind (fun a9 => (dm_v a9.1).bind (fun a10 => (dm_rk d q1 12).bind (fun u7 => (F_X12_engrave X q1 (a1 - a1 / a4 * a4) d).bind (fun a11 => if a10 = a11.1 then (some ((iI (1)), a9.2, a11.2)) else (some ((iI (0)), a9.2, a11.2)))))))))) else (some ((iI (1)), h, d)))))) else (some ((iI (1)), h, d))))))))))))))) else (some ((iI (1)), h, d)))))) else ((dm_fr d q1 12 9).bind (fun w1 => (dm_rk d w1 16).bind (fun u1 => (F_Jx4a65c_isEmpty_aae02 X w1 d).bind (fun a3 => if a3 = 0 then ((dm_fr d q1 12 9).bind (fun w2 => (dm_rk d w2 16).bind (fun u2 => (F_Jx4a65c_size_8abf5 X w2 d).bind (fun a4 => if a4 = 0 then none else ((dm_fr d q1 12 7).bind (fun w3 => (dm_fr d q1 12 9).bind (fun w4 => (dm_rk d w4 16).bind (fun u3 => (F_Jx4a65c_get_915e3 X w4 (a1 - a1 / a4 * a4) d).bind (fun a5 => (dm_ck d a5).bind (fun u4 => (dm_li X d a5 (iI (0))).bind (fun a6 => (dm_rk d w3 16).bind (fun u5 => (F_Jx4a65c_get_915e3 X w3 a6 d).bind (fun a7 => (dm_ck d a7).bind (fun u6 => (dm_li X d a7 (iI (2))).bind (fun a8 => if a8 = (iI (3)) then (some ((iI (1)), h, d)) else ((dm_li X d a7 (iI (2))).bind (fun a9 => (dm_wi d a7 0 (iI (2)) (a9 + (iI (1)))).bind (fun d1 => (dm_fr d1 q1 12 9).bind (fun w5 => (dm_rk d1 w5 16).bind (fun u7 => (F_Jx4a65c_remove_915e3 X w5 (a1 - a1 / a4 * a4) d1).bind (fun a10 => (dm_cl a10.2 (f_X11_mend (a1 - a1 / a4 * a4) h)).bind (fun a11 => (dm_v a11.1).bind (fun a12 => (dm_fr a10.2 q1 12 9).bind (fun w6 => (dm_rk a10.2 w6 16).bind (fun u8 => (F_Jx4a65c_size_8abf5 X w6 a10.2).bind (fun a13 => if a12 = a13 then (some ((iI (1)), a11.2, a10.2)) else (some ((iI (0)), a11.2, a10.2)))))))))))))))))))))))))))) else (some ((iI (1)), h, d))))))) else ((dm_fr d q1 12 6).bind (fun w1 => (dm_rk d w1 16).bind (fun u1 => (F_Jx4a65c_isEmpty_aae02 X w1 d).bind (fun a3 => if a3 = 0 then ((dm_fr d q1 12 6).bind (fun w2 => (dm_fr d q1 12 6).bind (fun w3 => (dm_rk d w3 16).bind (fun u2 => (F_Jx4a65c_size_8abf5 X w3 d).bind (fun a4 => if a4 = 0 then none else ((dm_rk d w2 16).bind (fun u3 => (F_Jx4a65c_get_915e3 X w2 (a1 - a1 / a4 * a4) d).bind (fun a5 => (dm_ck d a5).bind (fun u4 => (dm_li X d a5 (iI (0))).bind (fun a6 => if (iI (8)) = 0 then none else (if (iI (99)) = 0 then none else ((dm_wi d a5 0 (iI (0)) ((iI (1)) + ((a1 / (iI (8))) - (a1 / (iI (8))) / (iI (99)) * (iI (99))))).bind (fun d1 => (dm_fr d1 q1 12 6).bind (fun w4 => (dm_rk d1 w4 16).bind (fun u5 => (F_Jx4a65c_size_8abf5 X w4 d1).bind (fun a7 => if a7 = 0 then none else ((dm_li X d1 a5 (iI (0))).bind (fun a8 => (dm_cl d1 (f_X11_setRadius (a1 - a1 / a7 * a7) a8 h)).bind (fun a9 => (dm_v a9.1).bind (fun a10 => if a10 = a6 then (some ((iI (1)), a9.2, d1)) else (some ((iI (0)), a9.2, d1)))))))))))))))))))))) else (some ((iI (1)), h, d)))))))))))
theorem C_L_acts_L {X : dm_X} {k0 : Nat} {Q : Option am_v → am_H → dm_D → Prop} : ∀ s, wp (lp (S_L_acts X) s) (fun a => Q (some (am_i a.1)) a.2.1 a.2.2) → ((∀ q1 x6 x8 x9 h d, s = (497, [x6, x8, x9], [q1], (h, d)) → dm_V RL "acts" cL_acts 10 (some .boolean) 9 205 k0 X (dm_Tm cL_acts (some .boolean) Q) 497 [some (am_r (.inl 1) 0), some (.inr q1), none, none, none, none, some (am_i x6), none, some (am_i x8), some (am_i x9)] [] h d)) := by
  refine lp_ind _ _ (fun s H => fun q1 x6 x8 x9 h d e => ?_)
  · subst e
    rw [S_L_acts] at H
    refine ql_i9 dL_acts_497 ?_
    refine dr_if_lt 541 dL_acts_499 (by decide) (fun c1 => ?_) (fun c1 => ?_)
    · replace H := wp_t c1 H
      refine ql_a0 dL_acts_541 ?_
      refine ql_i6 dL_acts_542 ?_
      obtain ⟨a1, e1, H⟩ := wp_b H
      obtain ⟨fe1, e1⟩ := dm_cl_some e1
      obtain ⟨a2, e2, H⟩ := wp_b H
      replace e1 := e1.trans (congrArg some (Prod.ext (dm_v_some e2) rfl : a1 = (_, a1.2)))
      refine dc_C1i dL_acts_544 ml_L_165 mc_X11_polish (c_X11_polish e1) rfl fe1 rfl rfl rfl ?_
      refine ql_i8 dL_acts_547 ?_
      refine dr_ic_ne 556 dL_acts_549 (by decide) (fun c2 => ?_) (fun c2 => ?_)
      · replace H := wp_f c2 H
        refine dr_iconst (iI (0)) dL_acts_556 rfl ?_
        replace H := lp_re H
        exact dr_iret dL_acts_557 rfl rfl H
      · replace H := wp_t c2 H
        refine dr_iconst (iI (1)) dL_acts_552 rfl ?_
        refine dr_goto 557 dL_acts_553 (by decide) ?_
        replace H := lp_re H
        exact dr_iret dL_acts_557 rfl rfl H
    · replace H := wp_f c1 H
      refine ql_a1 dL_acts_502 ?_
      obtain ⟨w1, e1, H⟩ := wp_b H
      refine dr_getR dL_acts_503 fg_L_104 e1 ?_
      refine ql_i9 dL_acts_506 ?_
      obtain ⟨u1, e3, H⟩ := wp_b H
      obtain ⟨a1, e2, H⟩ := wp_b H
      refine dc_F1r (C := (RJx4a65c, TJx4a65c, 3)) dL_acts_508 ml_L_51 mf_Jx4a65c_get_915e3 (List.mem_of_getElem? (i := 3) rfl) (C_Jx4a65c_get_915e3 e2) (dm_rk_some e3) rfl rfl rfl rfl ?_
      obtain ⟨u2, e4, H⟩ := wp_b H
      refine dr_cast dL_acts_513 fc_L_55 (dm_ck_some e4) ?_
      refine dr_iconst (iI (0)) dL_acts_516 rfl ?_
      obtain ⟨a2, e5, H⟩ := wp_b H
      refine dr_iald dL_acts_517 e5 ?_
      refine ql_i6 dL_acts_518 ?_
      refine dr_ic_ne 535 dL_acts_520 (by decide) (fun c2 => ?_) (fun c2 => ?_)
      · replace H := wp_f c2 H
        refine qn_m_9 (v := x9 + iI (-1)) dL_acts_535 rfl trivial rfl ?_
        refine dr_goto 497 dL_acts_538 (by decide) ?_
        exact dr_wk (am_s (am_s (am_n (am_n (am_n (am_n (am_s (am_n (am_s (am_s am_0)))))))))) ((lp_in H) _ _ _ _ _ _ rfl)
      · replace H := wp_t c2 H
        refine ql_a1 dL_acts_523 ?_
        obtain ⟨w2, e6, H⟩ := wp_b H
        refine dr_getR dL_acts_524 fg_L_104 e6 ?_
        refine ql_i9 dL_acts_527 ?_
        obtain ⟨u3, e8, H⟩ := wp_b H
        obtain ⟨a3, e7, H⟩ := wp_b H
        refine dc_F1r (C := (RJx4a65c, TJx4a65c, 3)) dL_acts_529 ml_L_159 mf_Jx4a65c_remove_915e3 (List.mem_of_getElem? (i := 4) rfl) (C_Jx4a65c_remove_915e3 e7) (dm_rk_some e8) rfl rfl rfl rfl ?_
        refine dr_pop dL_acts_534 trivial ?_
        refine qn_m_9 (v := x9 + iI (-1)) dL_acts_535 rfl trivial rfl ?_
        refine dr_goto 497 dL_acts_538 (by decide) ?_
        exact dr_wk (am_s (am_s (am_n (am_n (am_n (am_n (am_s (am_n (am_s (am_s am_0)))))))))) ((lp_in H) _ _ _ _ _ _ rfl)
theorem C_L_acts {X : dm_X} {q1 : am_G × Nat} {q2 : am_G × Nat} {x3 : Int32} {h : am_H} {d : dm_D} {a : Int32 × am_H × dm_D} (e : F_L_acts X q1 q2 x3 h d = some a) : dm_Mx X yL_acts cL_acts 10 (some .boolean) 9 205 [am_r (.inl 1) 0, .inr q1, .inr q2, am_i x3] h d (some (am_i a.1)) a.2.1 a.2.2 := by
  refine dm_M.ofx (A := [some (am_r (.inl 1) 0), some (.inr q1), some (.inr q2), some (am_i x3), none, none, none, none, none, none]) (by decide +kernel) rfl (ble rfl) (fun Q hQ => ?_)
  have H : wp (F_L_acts X q1 q2 x3 h d) (fun a => Q (some (am_i a.1)) a.2.1 a.2.2) := ⟨_, e, hQ⟩
  unfold F_L_acts at H
  refine ql_a2 dL_acts_0 ?_
  refine dr_sipush (iI (340)) dL_acts_1 rfl ?_
  refine ql_i3 dL_acts_4 ?_
  refine dr_iadd dL_acts_5 ?_
  refine dr_ldc (400000) dL_acts_6 kc_L_141 ?_
  obtain ⟨a1, e1, H⟩ := wp_b H
  refine dc_S3i dL_acts_8 ml_L_142 mc_L_pick (C_L_pick e1) rfl rfl rfl ?_
  refine qs_i4 dL_acts_11 rfl trivial ?_
  refine ql_a2 dL_acts_13 ?_
  refine dr_sipush (iI (300)) dL_acts_14 rfl ?_
  refine ql_i3 dL_acts_17 ?_
  refine dr_iadd dL_acts_18 ?_
  refine dr_bipush (iI (14)) dL_acts_19 rfl ?_
  obtain ⟨a2, e2, H⟩ := wp_b H
  refine dc_S3i dL_acts_21 ml_L_142 mc_L_pick (C_L_pick e2) rfl rfl rfl ?_
  refine qs_i5 dL_acts_24 rfl trivial ?_
  refine ql_i5 dL_acts_26 ?_
  refine dr_if_ne 76 dL_acts_28 (by decide) (fun c1 => ?_) (fun c1 => ?_)
  · replace H := wp_f c1 H
    refine ql_i5 dL_acts_76 ?_
    refine dr_iconst (iI (1)) dL_acts_78 rfl ?_
    refine dr_ic_ne 116 dL_acts_79 (by decide) (fun c2 => ?_) (fun c2 => ?_)
    · replace H := wp_f c2 H
      refine ql_i5 dL_acts_116 ?_
      refine dr_iconst (iI (2)) dL_acts_118 rfl ?_
      refine dr_ic_ne 179 dL_acts_119 (by decide) (fun c3 => ?_) (fun c3 => ?_)
      · replace H := wp_f c3 H
        refine ql_i5 dL_acts_179 ?_
        refine dr_iconst (iI (5)) dL_acts_181 rfl ?_
        refine dr_ic_ge 276 dL_acts_182 (by decide) (fun c4 => ?_) (fun c4 => ?_)
        · replace H := wp_t c4 H
          refine ql_i5 dL_acts_276 ?_
          refine dr_bipush (iI (7)) dL_acts_278 rfl ?_
          refine dr_ic_ge 395 dL_acts_280 (by decide) (fun c5 => ?_) (fun c5 => ?_)
          · replace H := wp_t c5 H
            refine ql_a1 dL_acts_395 ?_
            obtain ⟨w1, e3, H⟩ := wp_b H
            refine dr_getR dL_acts_396 fg_L_40 e3 ?_
            obtain ⟨u1, e5, H⟩ := wp_b H
            obtain ⟨a3, e4, H⟩ := wp_b H
            refine dc_F0i (C := (RJx4a65c, TJx4a65c, 3)) dL_acts_399 ml_L_155 mf_Jx4a65c_isEmpty_aae02 (List.mem_of_getElem? (i := 1) rfl) (C_Jx4a65c_isEmpty_aae02 e4) (dm_rk_some e5) rfl rfl rfl rfl ?_
            refine dr_if_eq 409 dL_acts_404 (by decide) (fun c6 => ?_) (fun c6 => ?_)
            · replace H := wp_t c6 H
              refine ql_i4 dL_acts_409 ?_
              refine ql_a1 dL_acts_411 ?_
              obtain ⟨w2, e6, H⟩ := wp_b H
              refine dr_getR dL_acts_412 fg_L_40 e6 ?_
              obtain ⟨u2, e8, H⟩ := wp_b H
              obtain ⟨a4, e7, H⟩ := wp_b H
              refine dc_F0i (C := (RJx4a65c, TJx4a65c, 3)) dL_acts_415 ml_L_46 mf_Jx4a65c_size_8abf5 (List.mem_of_getElem? (i := 2) rfl) (C_Jx4a65c_size_8abf5 e7) (dm_rk_some e8) rfl rfl rfl rfl ?_
              obtain ⟨b1, H⟩ := wp_d H
              refine dr_irem dL_acts_420 b1 ?_
              refine qs_i6 dL_acts_421 rfl trivial ?_
              refine ql_a1 dL_acts_423 ?_
              obtain ⟨w3, e9, H⟩ := wp_b H
              refine dr_getR dL_acts_424 fg_L_40 e9 ?_
              refine ql_i6 dL_acts_427 ?_
              obtain ⟨u3, e11, H⟩ := wp_b H
              obtain ⟨a5, e10, H⟩ := wp_b H
              refine dc_F1r (C := (RJx4a65c, TJx4a65c, 3)) dL_acts_429 ml_L_51 mf_Jx4a65c_get_915e3 (List.mem_of_getElem? (i := 3) rfl) (C_Jx4a65c_get_915e3 e10) (dm_rk_some e11) rfl rfl rfl rfl ?_
              obtain ⟨u4, e12, H⟩ := wp_b H
              refine dr_cast dL_acts_434 fc_L_55 (dm_ck_some e12) ?_
              refine qs_a7 dL_acts_437 rfl trivial ?_
              refine ql_i5 dL_acts_439 ?_
              refine dr_bipush (iI (7)) dL_acts_441 rfl ?_
              refine dr_ic_ne 558 dL_acts_443 (by decide) (fun c7 => ?_) (fun c7 => ?_)
              · replace H := wp_f c7 H
                refine ql_a1 dL_acts_558 ?_
                obtain ⟨w4, e13, H⟩ := wp_b H
                refine dr_getR dL_acts_559 fg_L_114 e13 ?_
                obtain ⟨u5, e15, H⟩ := wp_b H
                obtain ⟨a6, e14, H⟩ := wp_b H
                refine dc_F0i (C := (RJx4a65c, TJx4a65c, 3)) dL_acts_562 ml_L_155 mf_Jx4a65c_isEmpty_aae02 (List.mem_of_getElem? (i := 1) rfl) (C_Jx4a65c_isEmpty_aae02 e14) (dm_rk_some e15) rfl rfl rfl rfl ?_
                refine dr_if_ne 584 dL_acts_567 (by decide) (fun c8 => ?_) (fun c8 => ?_)
                · replace H := wp_f c8 H
                  refine dr_iconst (iI (1)) dL_acts_584 rfl ?_
                  replace H := wp_s H
                  exact dr_iret dL_acts_585 rfl rfl H
                · replace H := wp_t c8 H
                  refine ql_a1 dL_acts_570 ?_
                  obtain ⟨w5, e16, H⟩ := wp_b H
                  refine dr_getR dL_acts_571 fg_L_104 e16 ?_
                  obtain ⟨u6, e18, H⟩ := wp_b H
                  obtain ⟨a7, e17, H⟩ := wp_b H
                  refine dc_F0i (C := (RJx4a65c, TJx4a65c, 3)) dL_acts_574 ml_L_46 mf_Jx4a65c_size_8abf5 (List.mem_of_getElem? (i := 2) rfl) (C_Jx4a65c_size_8abf5 e17) (dm_rk_some e18) rfl rfl rfl rfl ?_
                  refine dr_bipush (iI (40)) dL_acts_579 rfl ?_
                  refine dr_ic_le 586 dL_acts_581 (by decide) (fun c9 => ?_) (fun c9 => ?_)
                  · replace H := wp_t c9 H
                    refine ql_i5 dL_acts_586 ?_
                    refine dr_bipush (iI (8)) dL_acts_588 rfl ?_
                    refine dr_ic_ne 628 dL_acts_590 (by decide) (fun c10 => ?_) (fun c10 => ?_)
                    · replace H := wp_f c10 H
                      refine ql_a7 dL_acts_628 ?_
                      refine dr_iconst (iI (1)) dL_acts_630 rfl ?_
                      obtain ⟨a8, e19, H⟩ := wp_b H
                      refine dr_iald dL_acts_631 e19 ?_
                      refine dr_iconst (iI (1)) dL_acts_632 rfl ?_
                      refine dr_ic_eq 651 dL_acts_633 (by decide) (fun c11 => ?_) (fun c11 => ?_)
                      · replace H := wp_t c11 H
                        refine dr_iconst (iI (1)) dL_acts_651 rfl ?_
                        refine dr_goto 656 dL_acts_652 (by decide) ?_
                        replace H := wp_s H
                        exact dr_iret dL_acts_656 rfl rfl H
                      · replace H := wp_f c11 H
                        refine ql_a0 dL_acts_636 ?_
                        refine ql_i6 dL_acts_637 ?_
                        obtain ⟨a9, e20, H⟩ := wp_b H
                        obtain ⟨fe20, e20⟩ := dm_cl_some e20
                        obtain ⟨a10, e21, H⟩ := wp_b H
                        replace e20 := e20.trans (congrArg some (Prod.ext (dm_v_some e21) rfl : a9 = (_, a9.2)))
                        refine dc_C1i dL_acts_639 ml_L_173 mc_X11_engrave (c_X11_engrave e20) rfl fe20 rfl rfl rfl ?_
                        refine ql_a1 dL_acts_642 ?_
                        refine ql_i6 dL_acts_643 ?_
                        obtain ⟨u7, e23, H⟩ := wp_b H
                        obtain ⟨a11, e22, H⟩ := wp_b H
                        refine dc_V1i (C := (RX12, TX12, 11)) dL_acts_645 ml_L_176 mc_X12_engrave (C_X12_engrave e22) (dm_rk_some e23) rfl rfl rfl rfl rfl ?_
                        refine dr_ic_ne 655 dL_acts_648 (by decide) (fun c12 => ?_) (fun c12 => ?_)
                        · replace H := wp_f c12 H
                          refine dr_iconst (iI (0)) dL_acts_655 rfl ?_
                          replace H := wp_s H
                          exact dr_iret dL_acts_656 rfl rfl H
                        · replace H := wp_t c12 H
                          refine dr_iconst (iI (1)) dL_acts_651 rfl ?_
                          refine dr_goto 656 dL_acts_652 (by decide) ?_
                          replace H := wp_s H
                          exact dr_iret dL_acts_656 rfl rfl H
                    · replace H := wp_t c10 H
                      refine ql_a1 dL_acts_593 ?_
                      obtain ⟨u7, e20, H⟩ := wp_b H
                      obtain ⟨a8, e19, H⟩ := wp_b H
                      refine dc_V0i (C := (RX12, TX12, 11)) dL_acts_594 ml_L_126 mc_X12_engraved (C_X12_engraved e19) (dm_rk_some e20) rfl rfl rfl rfl rfl ?_
                      refine ql_a1 dL_acts_597 ?_
                      obtain ⟨w6, e21, H⟩ := wp_b H
                      refine dr_getR dL_acts_598 fg_L_40 e21 ?_
                      obtain ⟨u8, e23, H⟩ := wp_b H
                      obtain ⟨a9, e22, H⟩ := wp_b H
                      refine dc_F0i (C := (RJx4a65c, TJx4a65c, 3)) dL_acts_601 ml_L_46 mf_Jx4a65c_size_8abf5 (List.mem_of_getElem? (i := 2) rfl) (C_Jx4a65c_size_8abf5 e22) (dm_rk_some e23) rfl rfl rfl rfl ?_
                      refine dr_ic_eq 622 dL_acts_606 (by decide) (fun c11 => ?_) (fun c11 => ?_)
                      · replace H := wp_t c11 H
                        refine dr_iconst (iI (1)) dL_acts_622 rfl ?_
                        refine dr_goto 627 dL_acts_623 (by decide) ?_
                        replace H := wp_s H
                        exact dr_iret dL_acts_627 rfl rfl H
                      · replace H := wp_f c11 H
                        refine ql_a0 dL_acts_609 ?_
                        obtain ⟨a10, e24, H⟩ := wp_b H
                        obtain ⟨fe24, e24⟩ := dm_cl_some e24
                        obtain ⟨a11, e25, H⟩ := wp_b H
                        replace e24 := e24.trans (congrArg some (Prod.ext (dm_v_some e25) rfl : a10 = (_, a10.2)))
                        refine dc_C0i dL_acts_610 ml_L_168 mc_X11_engraveAll (c_X11_engraveAll e24) rfl fe24 rfl rfl rfl ?_
                        refine ql_a1 dL_acts_613 ?_
                        refine dr_bipush (iI (40)) dL_acts_614 rfl ?_
                        obtain ⟨u9, e27, H⟩ := wp_b H
                        obtain ⟨a12, e26, H⟩ := wp_b H
                        refine dc_V1i (C := (RX12, TX12, 11)) dL_acts_616 ml_L_171 mc_X12_engraveAll (C_X12_engraveAll e26) (dm_rk_some e27) rfl rfl rfl rfl rfl ?_
                        refine dr_ic_ne 626 dL_acts_619 (by decide) (fun c12 => ?_) (fun c12 => ?_)
                        · replace H := wp_f c12 H
                          refine dr_iconst (iI (0)) dL_acts_626 rfl ?_
                          replace H := wp_s H
                          exact dr_iret dL_acts_627 rfl rfl H
                        · replace H := wp_t c12 H
                          refine dr_iconst (iI (1)) dL_acts_622 rfl ?_
                          refine dr_goto 627 dL_acts_623 (by decide) ?_
                          replace H := wp_s H
                          exact dr_iret dL_acts_627 rfl rfl H
                  · replace H := wp_f c9 H
                    refine dr_iconst (iI (1)) dL_acts_584 rfl ?_
                    replace H := wp_s H
                    exact dr_iret dL_acts_585 rfl rfl H
              · replace H := wp_t c7 H
                refine ql_a7 dL_acts_446 ?_
                refine dr_iconst (iI (1)) dL_acts_448 rfl ?_
                obtain ⟨a6, e13, H⟩ := wp_b H
                refine dr_iald dL_acts_449 e13 ?_
                refine dr_if_eq 461 dL_acts_450 (by decide) (fun c8 => ?_) (fun c8 => ?_)
                · replace H := wp_t c8 H
                  refine dr_iconst (iI (1)) dL_acts_461 rfl ?_
                  replace H := wp_s H
                  exact dr_iret dL_acts_462 rfl rfl H
                · replace H := wp_f c8 H
                  refine ql_a7 dL_acts_453 ?_
                  refine dr_iconst (iI (2)) dL_acts_455 rfl ?_
                  obtain ⟨a7, e14, H⟩ := wp_b H
                  refine dr_iald dL_acts_456 e14 ?_
                  refine dr_iconst (iI (3)) dL_acts_457 rfl ?_
                  refine dr_ic_ne 463 dL_acts_458 (by decide) (fun c9 => ?_) (fun c9 => ?_)
                  · replace H := wp_f c9 H
                    refine ql_a7 dL_acts_463 ?_
                    refine dr_iconst (iI (1)) dL_acts_465 rfl ?_
                    refine dr_iconst (iI (0)) dL_acts_466 rfl ?_
                    obtain ⟨d1, e15, H⟩ := wp_b H
                    refine dr_iast dL_acts_467 e15 ?_
                    refine ql_a7 dL_acts_468 ?_
                    refine dr_iconst (iI (2)) dL_acts_470 rfl ?_
                    refine dr_dup2 dL_acts_471 trivial trivial ?_
                    obtain ⟨a8, e16, H⟩ := wp_b H
                    refine dr_iald dL_acts_472 e16 ?_
                    refine dr_iconst (iI (1)) dL_acts_473 rfl ?_
                    refine dr_iadd dL_acts_474 ?_
                    obtain ⟨d2, e17, H⟩ := wp_b H
                    refine dr_iast dL_acts_475 e17 ?_
                    refine ql_a1 dL_acts_476 ?_
                    refine ql_i6 dL_acts_477 ?_
                    obtain ⟨u5, e19, H⟩ := wp_b H
                    obtain ⟨a9, e18, H⟩ := wp_b H
                    refine dc_V1i (C := (RX12, TX12, 11)) dL_acts_479 ml_L_80 mc_X12_scratchesOf (C_X12_scratchesOf e18) (dm_rk_some e19) rfl rfl rfl rfl rfl ?_
                    refine qs_i8 dL_acts_482 rfl trivial ?_
                    refine ql_a1 dL_acts_484 ?_
                    obtain ⟨w4, e20, H⟩ := wp_b H
                    refine dr_getR dL_acts_485 fg_L_104 e20 ?_
                    obtain ⟨u6, e22, H⟩ := wp_b H
                    obtain ⟨a10, e21, H⟩ := wp_b H
                    refine dc_F0i (C := (RJx4a65c, TJx4a65c, 3)) dL_acts_488 ml_L_46 mf_Jx4a65c_size_8abf5 (List.mem_of_getElem? (i := 2) rfl) (C_Jx4a65c_size_8abf5 e21) (dm_rk_some e22) rfl rfl rfl rfl ?_
                    refine dr_iconst (iI (1)) dL_acts_493 rfl ?_
                    refine dr_isub dL_acts_494 ?_
                    refine qs_i9 dL_acts_495 rfl trivial ?_
                    exact dr_wk (am_s (am_s (am_n (am_n (am_n (am_n (am_s (am_n (am_s (am_s am_0)))))))))) ((C_L_acts_L _ H) _ _ _ _ _ _ rfl)
                  · replace H := wp_t c9 H
                    refine dr_iconst (iI (1)) dL_acts_461 rfl ?_
                    replace H := wp_s H
                    exact dr_iret dL_acts_462 rfl rfl H
            · replace H := wp_f c6 H
              refine dr_iconst (iI (1)) dL_acts_407 rfl ?_
              replace H := wp_s H
              exact dr_iret dL_acts_408 rfl rfl H
          · replace H := wp_f c5 H
            refine ql_a1 dL_acts_283 ?_
            obtain ⟨w1, e3, H⟩ := wp_b H
            refine dr_getR dL_acts_284 fg_L_104 e3 ?_
            obtain ⟨u1, e5, H⟩ := wp_b H
            obtain ⟨a3, e4, H⟩ := wp_b H
            refine dc_F0i (C := (RJx4a65c, TJx4a65c, 3)) dL_acts_287 ml_L_155 mf_Jx4a65c_isEmpty_aae02 (List.mem_of_getElem? (i := 1) rfl) (C_Jx4a65c_isEmpty_aae02 e4) (dm_rk_some e5) rfl rfl rfl rfl ?_
            refine dr_if_eq 297 dL_acts_292 (by decide) (fun c6 => ?_) (fun c6 => ?_)
            · replace H := wp_t c6 H
              refine ql_i4 dL_acts_297 ?_
              refine ql_a1 dL_acts_299 ?_
              obtain ⟨w2, e6, H⟩ := wp_b H
              refine dr_getR dL_acts_300 fg_L_104 e6 ?_
              obtain ⟨u2, e8, H⟩ := wp_b H
              obtain ⟨a4, e7, H⟩ := wp_b H
              refine dc_F0i (C := (RJx4a65c, TJx4a65c, 3)) dL_acts_303 ml_L_46 mf_Jx4a65c_size_8abf5 (List.mem_of_getElem? (i := 2) rfl) (C_Jx4a65c_size_8abf5 e7) (dm_rk_some e8) rfl rfl rfl rfl ?_
              obtain ⟨b1, H⟩ := wp_d H
              refine dr_irem dL_acts_308 b1 ?_
              refine qs_i6 dL_acts_309 rfl trivial ?_
              refine ql_a1 dL_acts_311 ?_
              obtain ⟨w3, e9, H⟩ := wp_b H
              refine dr_getR dL_acts_312 fg_L_40 e9 ?_
              refine ql_a1 dL_acts_315 ?_
              obtain ⟨w4, e10, H⟩ := wp_b H
              refine dr_getR dL_acts_316 fg_L_104 e10 ?_
              refine ql_i6 dL_acts_319 ?_
              obtain ⟨u3, e12, H⟩ := wp_b H
              obtain ⟨a5, e11, H⟩ := wp_b H
              refine dc_F1r (C := (RJx4a65c, TJx4a65c, 3)) dL_acts_321 ml_L_51 mf_Jx4a65c_get_915e3 (List.mem_of_getElem? (i := 3) rfl) (C_Jx4a65c_get_915e3 e11) (dm_rk_some e12) rfl rfl rfl rfl ?_
              obtain ⟨u4, e13, H⟩ := wp_b H
              refine dr_cast dL_acts_326 fc_L_55 (dm_ck_some e13) ?_
              refine dr_iconst (iI (0)) dL_acts_329 rfl ?_
              obtain ⟨a6, e14, H⟩ := wp_b H
              refine dr_iald dL_acts_330 e14 ?_
              obtain ⟨u5, e16, H⟩ := wp_b H
              obtain ⟨a7, e15, H⟩ := wp_b H
              refine dc_F1r (C := (RJx4a65c, TJx4a65c, 3)) dL_acts_331 ml_L_51 mf_Jx4a65c_get_915e3 (List.mem_of_getElem? (i := 3) rfl) (C_Jx4a65c_get_915e3 e15) (dm_rk_some e16) rfl rfl rfl rfl ?_
              obtain ⟨u6, e17, H⟩ := wp_b H
              refine dr_cast dL_acts_336 fc_L_55 (dm_ck_some e17) ?_
              refine qs_a7 dL_acts_339 rfl trivial ?_
              refine ql_a7 dL_acts_341 ?_
              refine dr_iconst (iI (2)) dL_acts_343 rfl ?_
              obtain ⟨a8, e18, H⟩ := wp_b H
              refine dr_iald dL_acts_344 e18 ?_
              refine dr_iconst (iI (3)) dL_acts_345 rfl ?_
              refine dr_ic_ne 351 dL_acts_346 (by decide) (fun c7 => ?_) (fun c7 => ?_)
              · replace H := wp_f c7 H
                refine ql_a7 dL_acts_351 ?_
                refine dr_iconst (iI (2)) dL_acts_353 rfl ?_
                refine dr_dup2 dL_acts_354 trivial trivial ?_
                obtain ⟨a9, e19, H⟩ := wp_b H
                refine dr_iald dL_acts_355 e19 ?_
                refine dr_iconst (iI (1)) dL_acts_356 rfl ?_
                refine dr_iadd dL_acts_357 ?_
                obtain ⟨d1, e20, H⟩ := wp_b H
                refine dr_iast dL_acts_358 e20 ?_
                refine ql_a1 dL_acts_359 ?_
                obtain ⟨w5, e21, H⟩ := wp_b H
                refine dr_getR dL_acts_360 fg_L_104 e21 ?_
                refine ql_i6 dL_acts_363 ?_
                obtain ⟨u7, e23, H⟩ := wp_b H
                obtain ⟨a10, e22, H⟩ := wp_b H
                refine dc_F1r (C := (RJx4a65c, TJx4a65c, 3)) dL_acts_365 ml_L_159 mf_Jx4a65c_remove_915e3 (List.mem_of_getElem? (i := 4) rfl) (C_Jx4a65c_remove_915e3 e22) (dm_rk_some e23) rfl rfl rfl rfl ?_
                refine dr_pop dL_acts_370 trivial ?_
                refine ql_a0 dL_acts_371 ?_
                refine ql_i6 dL_acts_372 ?_
                obtain ⟨a11, e24, H⟩ := wp_b H
                obtain ⟨fe24, e24⟩ := dm_cl_some e24
                obtain ⟨a12, e25, H⟩ := wp_b H
                replace e24 := e24.trans (congrArg some (Prod.ext (dm_v_some e25) rfl : a11 = (_, a11.2)))
                refine dc_C1i dL_acts_374 ml_L_162 mc_X11_mend (c_X11_mend e24) rfl fe24 rfl rfl rfl ?_
                refine ql_a1 dL_acts_377 ?_
                obtain ⟨w6, e26, H⟩ := wp_b H
                refine dr_getR dL_acts_378 fg_L_104 e26 ?_
                obtain ⟨u8, e28, H⟩ := wp_b H
                obtain ⟨a13, e27, H⟩ := wp_b H
                refine dc_F0i (C := (RJx4a65c, TJx4a65c, 3)) dL_acts_381 ml_L_46 mf_Jx4a65c_size_8abf5 (List.mem_of_getElem? (i := 2) rfl) (C_Jx4a65c_size_8abf5 e27) (dm_rk_some e28) rfl rfl rfl rfl ?_
                refine dr_ic_ne 393 dL_acts_386 (by decide) (fun c8 => ?_) (fun c8 => ?_)
                · replace H := wp_f c8 H
                  refine dr_iconst (iI (0)) dL_acts_393 rfl ?_
                  replace H := wp_s H
                  exact dr_iret dL_acts_394 rfl rfl H
                · replace H := wp_t c8 H
                  refine dr_iconst (iI (1)) dL_acts_389 rfl ?_
                  refine dr_goto 394 dL_acts_390 (by decide) ?_
                  replace H := wp_s H
                  exact dr_iret dL_acts_394 rfl rfl H
              · replace H := wp_t c7 H
                refine dr_iconst (iI (1)) dL_acts_349 rfl ?_
                replace H := wp_s H
                exact dr_iret dL_acts_350 rfl rfl H
            · replace H := wp_f c6 H
              refine dr_iconst (iI (1)) dL_acts_295 rfl ?_
              replace H := wp_s H
              exact dr_iret dL_acts_296 rfl rfl H
        · replace H := wp_f c4 H
          refine ql_a1 dL_acts_185 ?_
          obtain ⟨w1, e3, H⟩ := wp_b H
          refine dr_getR dL_acts_186 fg_L_114 e3 ?_
          obtain ⟨u1, e5, H⟩ := wp_b H
          obtain ⟨a3, e4, H⟩ := wp_b H
          refine dc_F0i (C := (RJx4a65c, TJx4a65c, 3)) dL_acts_189 ml_L_155 mf_Jx4a65c_isEmpty_aae02 (List.mem_of_getElem? (i := 1) rfl) (C_Jx4a65c_isEmpty_aae02 e4) (dm_rk_some e5) rfl rfl rfl rfl ?_
          refine dr_if_eq 199 dL_acts_194 (by decide) (fun c5 => ?_) (fun c5 => ?_)
          · replace H := wp_t c5 H
            refine ql_a1 dL_acts_199 ?_
            obtain ⟨w2, e6, H⟩ := wp_b H
            refine dr_getR dL_acts_200 fg_L_114 e6 ?_
            refine ql_i4 dL_acts_203 ?_
            refine ql_a1 dL_acts_205 ?_
            obtain ⟨w3, e7, H⟩ := wp_b H
            refine dr_getR dL_acts_206 fg_L_114 e7 ?_
            obtain ⟨u2, e9, H⟩ := wp_b H
            obtain ⟨a4, e8, H⟩ := wp_b H
            refine dc_F0i (C := (RJx4a65c, TJx4a65c, 3)) dL_acts_209 ml_L_46 mf_Jx4a65c_size_8abf5 (List.mem_of_getElem? (i := 2) rfl) (C_Jx4a65c_size_8abf5 e8) (dm_rk_some e9) rfl rfl rfl rfl ?_
            obtain ⟨b1, H⟩ := wp_d H
            refine dr_irem dL_acts_214 b1 ?_
            obtain ⟨u3, e11, H⟩ := wp_b H
            obtain ⟨a5, e10, H⟩ := wp_b H
            refine dc_F1r (C := (RJx4a65c, TJx4a65c, 3)) dL_acts_215 ml_L_51 mf_Jx4a65c_get_915e3 (List.mem_of_getElem? (i := 3) rfl) (C_Jx4a65c_get_915e3 e10) (dm_rk_some e11) rfl rfl rfl rfl ?_
            obtain ⟨u4, e12, H⟩ := wp_b H
            refine dr_cast dL_acts_220 fc_L_55 (dm_ck_some e12) ?_
            refine qs_a6 dL_acts_223 rfl trivial ?_
            refine ql_a6 dL_acts_225 ?_
            refine dr_iconst (iI (0)) dL_acts_227 rfl ?_
            obtain ⟨a6, e13, H⟩ := wp_b H
            refine dr_iald dL_acts_228 e13 ?_
            refine qs_i7 dL_acts_229 rfl trivial ?_
            refine ql_a6 dL_acts_231 ?_
            refine dr_iconst (iI (0)) dL_acts_233 rfl ?_
            refine dr_iconst (iI (1)) dL_acts_234 rfl ?_
            refine ql_i4 dL_acts_235 ?_
            refine dr_bipush (iI (8)) dL_acts_237 rfl ?_
            obtain ⟨b2, H⟩ := wp_d H
            refine dr_idiv dL_acts_239 b2 ?_
            refine dr_bipush (iI (99)) dL_acts_240 rfl ?_
            obtain ⟨b3, H⟩ := wp_d H
            refine dr_irem dL_acts_242 b3 ?_
            refine dr_iadd dL_acts_243 ?_
            obtain ⟨d1, e14, H⟩ := wp_b H
            refine dr_iast dL_acts_244 e14 ?_
            refine ql_a0 dL_acts_245 ?_
            refine ql_i4 dL_acts_246 ?_
            refine ql_a1 dL_acts_248 ?_
            obtain ⟨w4, e15, H⟩ := wp_b H
            refine dr_getR dL_acts_249 fg_L_114 e15 ?_
            obtain ⟨u5, e17, H⟩ := wp_b H
            obtain ⟨a7, e16, H⟩ := wp_b H
            refine dc_F0i (C := (RJx4a65c, TJx4a65c, 3)) dL_acts_252 ml_L_46 mf_Jx4a65c_size_8abf5 (List.mem_of_getElem? (i := 2) rfl) (C_Jx4a65c_size_8abf5 e16) (dm_rk_some e17) rfl rfl rfl rfl ?_
            obtain ⟨b4, H⟩ := wp_d H
            refine dr_irem dL_acts_257 b4 ?_
            refine ql_a6 dL_acts_258 ?_
            refine dr_iconst (iI (0)) dL_acts_260 rfl ?_
            obtain ⟨a8, e18, H⟩ := wp_b H
            refine dr_iald dL_acts_261 e18 ?_
            obtain ⟨a9, e19, H⟩ := wp_b H
            obtain ⟨fe19, e19⟩ := dm_cl_some e19
            obtain ⟨a10, e20, H⟩ := wp_b H
            replace e19 := e19.trans (congrArg some (Prod.ext (dm_v_some e20) rfl : a9 = (_, a9.2)))
            refine dc_C2i dL_acts_262 ml_L_156 mc_X11_setRadius (c_X11_setRadius e19) rfl fe19 rfl rfl rfl ?_
            refine ql_i7 dL_acts_265 ?_
            refine dr_ic_ne 274 dL_acts_267 (by decide) (fun c6 => ?_) (fun c6 => ?_)
            · replace H := wp_f c6 H
              refine dr_iconst (iI (0)) dL_acts_274 rfl ?_
              replace H := wp_s H
              exact dr_iret dL_acts_275 rfl rfl H
            · replace H := wp_t c6 H
              refine dr_iconst (iI (1)) dL_acts_270 rfl ?_
              refine dr_goto 275 dL_acts_271 (by decide) ?_
              replace H := wp_s H
              exact dr_iret dL_acts_275 rfl rfl H
          · replace H := wp_f c5 H
            refine dr_iconst (iI (1)) dL_acts_197 rfl ?_
            replace H := wp_s H
            exact dr_iret dL_acts_198 rfl rfl H
      · replace H := wp_t c3 H
        refine ql_i4 dL_acts_122 ?_
        refine dr_bipush (iI (26)) dL_acts_124 rfl ?_
        obtain ⟨b1, H⟩ := wp_d H
        refine dr_irem dL_acts_126 b1 ?_
        refine qs_i6 dL_acts_127 rfl trivial ?_
        refine ql_a1 dL_acts_129 ?_
        obtain ⟨w1, e3, H⟩ := wp_b H
        refine dr_getR dL_acts_130 fg_L_67 e3 ?_
        refine ql_i6 dL_acts_133 ?_
        obtain ⟨a3, e4, H⟩ := wp_b H
        refine dr_iald dL_acts_135 e4 ?_
        refine qs_i7 dL_acts_136 rfl trivial ?_
        refine ql_a1 dL_acts_138 ?_
        obtain ⟨w2, e5, H⟩ := wp_b H
        refine dr_getR dL_acts_139 fg_L_67 e5 ?_
        refine ql_i6 dL_acts_142 ?_
        refine dr_iconst (iI (1)) dL_acts_144 rfl ?_
        refine ql_i4 dL_acts_145 ?_
        refine dr_bipush (iI (32)) dL_acts_147 rfl ?_
        obtain ⟨b2, H⟩ := wp_d H
        refine dr_idiv dL_acts_149 b2 ?_
        refine dr_bipush (iI (12)) dL_acts_150 rfl ?_
        obtain ⟨b3, H⟩ := wp_d H
        refine dr_irem dL_acts_152 b3 ?_
        refine dr_iadd dL_acts_153 ?_
        obtain ⟨d1, e6, H⟩ := wp_b H
        refine dr_iast dL_acts_154 e6 ?_
        refine ql_a0 dL_acts_155 ?_
        refine ql_i6 dL_acts_156 ?_
        refine ql_a1 dL_acts_158 ?_
        obtain ⟨w3, e7, H⟩ := wp_b H
        refine dr_getR dL_acts_159 fg_L_67 e7 ?_
        refine ql_i6 dL_acts_162 ?_
        obtain ⟨a4, e8, H⟩ := wp_b H
        refine dr_iald dL_acts_164 e8 ?_
        obtain ⟨a5, e9, H⟩ := wp_b H
        obtain ⟨fe9, e9⟩ := dm_cl_some e9
        obtain ⟨a6, e10, H⟩ := wp_b H
        replace e9 := e9.trans (congrArg some (Prod.ext (dm_v_some e10) rfl : a5 = (_, a5.2)))
        refine dc_C2i dL_acts_165 ml_L_152 mc_X11_setWidth (c_X11_setWidth e9) rfl fe9 rfl rfl rfl ?_
        refine ql_i7 dL_acts_168 ?_
        refine dr_ic_ne 177 dL_acts_170 (by decide) (fun c4 => ?_) (fun c4 => ?_)
        · replace H := wp_f c4 H
          refine dr_iconst (iI (0)) dL_acts_177 rfl ?_
          replace H := wp_s H
          exact dr_iret dL_acts_178 rfl rfl H
        · replace H := wp_t c4 H
          refine dr_iconst (iI (1)) dL_acts_173 rfl ?_
          refine dr_goto 178 dL_acts_174 (by decide) ?_
          replace H := wp_s H
          exact dr_iret dL_acts_178 rfl rfl H
    · replace H := wp_t c2 H
      refine ql_a1 dL_acts_82 ?_
      obtain ⟨a3, e3, H⟩ := wp_b H
      refine dr_getI dL_acts_83 fg_L_123 e3 ?_
      refine qs_i6 dL_acts_86 rfl trivial ?_
      refine ql_a1 dL_acts_88 ?_
      refine ql_i4 dL_acts_89 ?_
      refine dr_bipush (iI (60)) dL_acts_91 rfl ?_
      obtain ⟨b1, H⟩ := wp_d H
      refine dr_irem dL_acts_93 b1 ?_
      obtain ⟨d1, e4, H⟩ := wp_b H
      refine dr_putI dL_acts_94 fg_L_123 rfl rfl e4 ?_
      refine ql_a0 dL_acts_97 ?_
      refine ql_a1 dL_acts_98 ?_
      obtain ⟨a4, e5, H⟩ := wp_b H
      refine dr_getI dL_acts_99 fg_L_123 e5 ?_
      obtain ⟨a5, e6, H⟩ := wp_b H
      obtain ⟨fe6, e6⟩ := dm_cl_some e6
      obtain ⟨a6, e7, H⟩ := wp_b H
      replace e6 := e6.trans (congrArg some (Prod.ext (dm_v_some e7) rfl : a5 = (_, a5.2)))
      refine dc_C1i dL_acts_102 ml_L_149 mc_X11_setMargin (c_X11_setMargin e6) rfl fe6 rfl rfl rfl ?_
      refine ql_i6 dL_acts_105 ?_
      refine dr_ic_ne 114 dL_acts_107 (by decide) (fun c3 => ?_) (fun c3 => ?_)
      · replace H := wp_f c3 H
        refine dr_iconst (iI (0)) dL_acts_114 rfl ?_
        replace H := wp_s H
        exact dr_iret dL_acts_115 rfl rfl H
      · replace H := wp_t c3 H
        refine dr_iconst (iI (1)) dL_acts_110 rfl ?_
        refine dr_goto 115 dL_acts_111 (by decide) ?_
        replace H := wp_s H
        exact dr_iret dL_acts_115 rfl rfl H
  · replace H := wp_t c1 H
    refine ql_a1 dL_acts_31 ?_
    refine dr_bipush (iI (99)) dL_acts_32 rfl ?_
    refine ql_a1 dL_acts_34 ?_
    obtain ⟨a3, e3, H⟩ := wp_b H
    refine dr_getI dL_acts_35 fg_L_92 e3 ?_
    refine dr_iconst (iI (1)) dL_acts_38 rfl ?_
    refine dr_iadd dL_acts_39 ?_
    refine ql_i4 dL_acts_40 ?_
    refine dr_bipush (iI (40)) dL_acts_42 rfl ?_
    obtain ⟨b1, H⟩ := wp_d H
    refine dr_irem dL_acts_44 b1 ?_
    refine dr_iadd dL_acts_45 ?_
    obtain ⟨a4, e4, H⟩ := wp_b H
    refine dc_S2i dL_acts_46 ml_L_96 mc_J9_min_7cf53 (C_J9_min_7cf53 e4) rfl rfl rfl ?_
    obtain ⟨d1, e5, H⟩ := wp_b H
    refine dr_putI dL_acts_49 fg_L_92 rfl rfl e5 ?_
    refine ql_a0 dL_acts_52 ?_
    refine dr_iconst (iI (1)) dL_acts_53 rfl ?_
    refine ql_i4 dL_acts_54 ?_
    refine dr_bipush (iI (40)) dL_acts_56 rfl ?_
    obtain ⟨b2, H⟩ := wp_d H
    refine dr_irem dL_acts_58 b2 ?_
    refine dr_iadd dL_acts_59 ?_
    obtain ⟨a5, e6, H⟩ := wp_b H
    obtain ⟨fe6, e6⟩ := dm_cl_some e6
    obtain ⟨a6, e7, H⟩ := wp_b H
    replace e6 := e6.trans (congrArg some (Prod.ext (dm_v_some e7) rfl : a5 = (_, a5.2)))
    refine dc_C1i dL_acts_60 ml_L_146 mc_X11_sharpen (c_X11_sharpen e6) rfl fe6 rfl rfl rfl ?_
    refine ql_a1 dL_acts_63 ?_
    obtain ⟨a7, e8, H⟩ := wp_b H
    refine dr_getI dL_acts_64 fg_L_92 e8 ?_
    refine dr_ic_ne 74 dL_acts_67 (by decide) (fun c2 => ?_) (fun c2 => ?_)
    · replace H := wp_f c2 H
      refine dr_iconst (iI (0)) dL_acts_74 rfl ?_
      replace H := wp_s H
      exact dr_iret dL_acts_75 rfl rfl H
    · replace H := wp_t c2 H
      refine dr_iconst (iI (1)) dL_acts_70 rfl ?_
      refine dr_goto 75 dL_acts_71 (by decide) ?_
      replace H := wp_s H
      exact dr_iret dL_acts_75 rfl rfl H
noncomputable def S_L_alike (X : dm_X)  : dm_S (am_H × dm_D) → Option (dm_S (am_H × dm_D) ⊕ (Int32 × am_H × dm_D)) := fun s => match s with
  | (4, [x2, x3], [q1], (h, d)) => (dm_fr d q1 12 7).bind (fun w1 => (dm_rk d w1 16).bind (fun u1 => (F_Jx4a65c_size_8abf5 X w1 d).bind (fun a1 => if a1 ≤ x3 then (some (.inl (283, [x2, (iI (0))], [q1], (h, d)))) else ((dm_fr d q1 12 7).bind (fun w2 => (dm_rk d w2 16).bind (fun u2 => (F_Jx4a65c_get_915e3 X w2 x3 d).bind (fun a2 => (dm_ck d a2).bind (fun u3 => (dm_rk d q1 12).bind (fun u4 => (F_X12_isSpoiled X q1 x3 d).bind (fun a3 => if a3.1 = 0 then (some (.inl (46, [x3, x2, (iI (0))], [q1, a2], (h, a3.2)))) else (some (.inl (46, [x3, x2, (iI (1))], [q1, a2], (h, a3.2))))))))))))))
  | (46, [x3, y0, y1], [q1, q4], (h, d)) => (dm_rk d q1 12).bind (fun u1 => (F_X12_centre X q1 x3 d).bind (fun a1 => (dm_rk a1.2 q1 12).bind (fun u2 => (F_X12_bend X q1 a1.1 a1.2).bind (fun a2 => if (iI (3600)) = 0 then none else (if (iI (3600)) = 0 then none else ((dm_na a2.2 0 (iI (13))).bind (fun d1 => (dm_li X d1 q4 (iI (0))).bind (fun a3 => (dm_wi d1 (.inl 0, a2.2.1) 0 (iI (0)) a3).bind (fun d2 => (dm_fr d2 q1 12 5).bind (fun w1 => (dm_li X d2 q4 (iI (0))).bind (fun a4 => (dm_li X d2 w1 a4).bind (fun a5 => (dm_wi d2 (.inl 0, a2.2.1) 0 (iI (1)) ((iI (1000)) * a5)).bind (fun d3 => (dm_rk d3 q1 12).bind (fun u3 => (F_X12_centre X q1 x3 d3).bind (fun a6 => (dm_wi a6.2 (.inl 0, a2.2.1) 0 (iI (2)) a6.1).bind (fun d4 => (dm_rk d4 q1 12).bind (fun u4 => (F_X12_centre X q1 x3 d4).bind (fun a7 => (dm_rk a7.2 q1 12).bind (fun u5 => (F_X12_parts X q1 a7.1 a7.2).bind (fun a8 => (dm_wi a8.2 (.inl 0, a2.2.1) 0 (iI (3)) a8.1).bind (fun d5 => (dm_rk d5 q1 12).bind (fun u6 => (F_X12_edge X q1 x3 (iI (-1)) d5).bind (fun a9 => (dm_wi a9.2 (.inl 0, a2.2.1) 0 (iI (4)) a9.1).bind (fun d6 => (dm_rk d6 q1 12).bind (fun u7 => (F_X12_edge X q1 x3 (iI (1)) d6).bind (fun a10 => (dm_wi a10.2 (.inl 0, a2.2.1) 0 (iI (5)) a10.1).bind (fun d7 => (dm_wi d7 (.inl 0, a2.2.1) 0 (iI (6)) (((a2.1 - a2.1 / (iI (3600)) * (iI (3600))) + (iI (3600))) - ((a2.1 - a2.1 / (iI (3600)) * (iI (3600))) + (iI (3600))) / (iI (3600)) * (iI (3600)))).bind (fun d8 => (dm_rk d8 q1 12).bind (fun u8 => (F_X12_centre X q1 x3 d8).bind (fun a11 => (dm_rk a11.2 q1 12).bind (fun u9 => (F_X12_arcAt X q1 a11.1 a11.2).bind (fun a12 => (dm_wi a11.2 (.inl 0, a2.2.1) 0 (iI (7)) a12).bind (fun d9 => (dm_li X d9 q4 (iI (1))).bind (fun a13 => (dm_wi d9 (.inl 0, a2.2.1) 0 (iI (8)) a13).bind (fun d10 => (dm_rk d10 q1 12).bind (fun u10 => (F_X12_isSpoiled X q1 x3 d10).bind (fun a14 => if a14.1 = 0 then (some (.inl (179, [(y0 + y1), x3, (iI (9)), (iI (0))], [q1, q4, (.inl 0, a2.2.1), (.inl 0, a2.2.1)], (h, a14.2)))) else (some (.inl (179, [(y0 + y1), x3, (iI (9)), (iI (1))], [q1, q4, (.inl 0, a2.2.1), (.inl 0, a2.2.1)], (h, a14.2)))))))))))))))))))))))))))))))))))))))))
  | (179, [x2, x3, y2, y3], [q1, q4, z0, z1], (h, d)) => (dm_wi d z1 0 y2 y3).bind (fun d1 => (dm_li X d1 q4 (iI (0))).bind (fun a1 => if (iI (4)) = 0 then none else ((dm_wi d1 z0 0 (iI (10)) ((iI (1)) + (a1 - a1 / (iI (4)) * (iI (4))))).bind (fun d2 => (dm_li X d2 q4 (iI (2))).bind (fun a2 => (dm_wi d2 z0 0 (iI (11)) a2).bind (fun d3 => (dm_rk d3 q1 12).bind (fun u1 => (F_X12_scratchesOf X q1 x3 d3).bind (fun a3 => (dm_wi a3.2 z0 0 (iI (12)) a3.1).bind (fun d4 => some (.inl (214, [x2, x3, (iI (0))], [q1, z0], (h, d4))))))))))))
  | (214, [x2, x3, x7], [q1, q6], (h, d)) => if (iI (13)) ≤ x7 then ((dm_cl d (f_X11_danger x3 h)).bind (fun a1 => (dm_v a1).bind (fun a2 => (dm_rk d q1 12).bind (fun u1 => (F_X12_hard X q1 x3 d).bind (fun a3 => (dm_fi a3.2 q1 12 0).bind (fun a4 => (F_J9_min_7cf53 (iI (100)) ((iI (2)) * (a3.1 - a4))).bind (fun a5 => (F_J9_max_7cf53 (iI (0)) a5).bind (fun a6 => if a2 = a6 then (some (.inl (4, [x2, (x3 + 1)], [q1], (h, a3.2)))) else (some (.inr ((iI (0)), h, a3.2))))))))))) else ((dm_cl d (f_X11_letter x3 x7 h)).bind (fun a1 => (dm_v a1.1).bind (fun a2 => (dm_li X d q6 x7).bind (fun a3 => if a2 = a3 then (some (.inl (214, [x2, x3, (x7 + 1)], [q1, q6], (a1.2, d)))) else (some (.inr ((iI (0)), a1.2, d)))))))
  | (283, [x2, x3], [q1], (h, d)) => (dm_fr d q1 12 9).bind (fun w1 => (dm_rk d w1 16).bind (fun u1 => (F_Jx4a65c_size_8abf5 X w1 d).bind (fun a1 => if a1 ≤ x3 then ((dm_na d 0 (iI (13))).bind (fun d1 => (dm_fr d1 q1 12 6).bind (fun w2 => (dm_rk d1 w2 16).bind (fun u2 => (F_Jx4a65c_size_8abf5 X w2 d1).bind (fun a2 => (dm_wi d1 (.inl 0, d.1) 0 (iI (0)) a2).bind (fun d2 => (dm_fr d2 q1 12 7).bind (fun w3 => (dm_rk d2 w3 16).bind (fun u3 => (F_Jx4a65c_size_8abf5 X w3 d2).bind (fun a3 => (dm_wi d2 (.inl 0, d.1) 0 (iI (1)) a3).bind (fun d3 => (dm_fr d3 q1 12 8).bind (fun w4 => (dm_rk d3 w4 16).bind (fun u4 => (F_Jx4a65c_size_8abf5 X w4 d3).bind (fun a4 => (dm_wi d3 (.inl 0, d.1) 0 (iI (2)) a4).bind (fun d4 => (dm_rk d4 q1 12).bind (fun u5 => (F_X12_whole X q1 d4).bind (fun a5 => (dm_wi a5.2 (.inl 0, d.1) 0 (iI (3)) a5.1).bind (fun d5 => (dm_rk d5 q1 12).bind (fun u6 => (F_X12_whole X q1 d5).bind (fun a6 => (dm_rk a6.2 q1 12).bind (fun u7 => (F_X12_parts X q1 a6.1 a6.2).bind (fun a7 => (dm_wi a7.2 (.inl 0, d.1) 0 (iI (4)) a7.1).bind (fun d6 => (dm_fi d6 q1 12 0).bind (fun a8 => (dm_wi d6 (.inl 0, d.1) 0 (iI (5)) a8).bind (fun d7 => (dm_fi d7 q1 12 1).bind (fun a9 => (dm_wi d7 (.inl 0, d.1) 0 (iI (6)) a9).bind (fun d8 => (dm_fr d8 q1 12 9).bind (fun w5 => (dm_rk d8 w5 16).bind (fun u8 => (F_Jx4a65c_size_8abf5 X w5 d8).bind (fun a10 => (dm_wi d8 (.inl 0, d.1) 0 (iI (7)) a10).bind (fun d9 => (dm_rk d9 q1 12).bind (fun u9 => (F_X12_engraved X q1 d9).bind (fun a11 => (dm_wi a11.2 (.inl 0, d.1) 0 (iI (8)) a11.1).bind (fun d10 => (dm_wi d10 (.inl 0, d.1) 0 (iI (9)) x2).bind (fun d11 => (dm_fi d11 q1 12 2).bind (fun a12 => (dm_wi d11 (.inl 0, d.1) 0 (iI (10)) a12).bind (fun d12 => (dm_fi d12 q1 12 3).bind (fun a13 => (dm_wi d12 (.inl 0, d.1) 0 (iI (11)) a13).bind (fun d13 => (dm_fi d13 q1 12 4).bind (fun a14 => (dm_wi d13 (.inl 0, d.1) 0 (iI (12)) a14).bind (fun d14 => some (.inl (487, [(iI (0))], [(.inl 0, d.1)], (h, d14))))))))))))))))))))))))))))))))))))))))))) else ((dm_fr d q1 12 9).bind (fun w2 => (dm_rk d w2 16).bind (fun u2 => (F_Jx4a65c_get_915e3 X w2 x3 d).bind (fun a2 => (dm_ck d a2).bind (fun u3 => (dm_cl d (f_X11_scratch x3 (iI (0)) h)).bind (fun a3 => (dm_v a3.1).bind (fun a4 => (dm_li X d a2 (iI (0))).bind (fun a5 => if a4 = a5 then ((dm_cl d (f_X11_scratch x3 (iI (1)) a3.2)).bind (fun a6 => (dm_v a6.1).bind (fun a7 => (dm_li X d a2 (iI (1))).bind (fun a8 => if a7 = a8 then ((dm_cl d (f_X11_scratch x3 (iI (2)) a6.2)).bind (fun a9 => (dm_v a9.1).bind (fun a10 => (dm_rk d q1 12).bind (fun u4 => (F_X12_spoils X q1 a2 d).bind (fun a11 => if a10 = a11.1 then (some (.inl (283, [x2, (x3 + 1)], [q1], (a9.2, a11.2)))) else (some (.inr ((iI (0)), a9.2, a11.2)))))))) else (some (.inr ((iI (0)), a6.2, d))))))) else (some (.inr ((iI (0)), a3.2, d))))))))))))))
  | (487, [x4], [q3], (h, d)) => if (iI (13)) ≤ x4 then (some (.inr ((iI (1)), h, d))) else ((dm_cl d (f_X11_setting x4 h)).bind (fun a1 => (dm_v a1.1).bind (fun a2 => (dm_li X d q3 x4).bind (fun a3 => if a2 = a3 then (some (.inl (487, [(x4 + 1)], [q3], (a1.2, d)))) else (some (.inr ((iI (0)), a1.2, d)))))))
  | _ => none
noncomputable def F_L_alike_4 (X : dm_X) (q1 : am_G × Nat) (x2 : Int32) (x3 : Int32) (h : am_H) (d : dm_D) : Option (Int32 × am_H × dm_D) := lp (S_L_alike X) (4, [x2, x3], [q1], (h, d))
noncomputable def F_L_alike_46 (X : dm_X) (q1 : am_G × Nat) (x3 : Int32) (q4 : am_G × Nat) (y0 : Int32) (y1 : Int32) (h : am_H) (d : dm_D) : Option (Int32 × am_H × dm_D) := lp (S_L_alike X) (46, [x3, y0, y1], [q1, q4], (h, d))
noncomputable def F_L_alike_179 (X : dm_X) (q1 : am_G × Nat) (x2 : Int32) (x3 : Int32) (q4 : am_G × Nat) (z0 : am_G × Nat) (z1 : am_G × Nat) (y2 : Int32) (y3 : Int32) (h : am_H) (d : dm_D) : Option (Int32 × am_H × dm_D) := lp (S_L_alike X) (179, [x2, x3, y2, y3], [q1, q4, z0, z1], (h, d))
noncomputable def F_L_alike_214 (X : dm_X) (q1 : am_G × Nat) (x2 : Int32) (x3 : Int32) (q6 : am_G × Nat) (x7 : Int32) (h : am_H) (d : dm_D) : Option (Int32 × am_H × dm_D) := lp (S_L_alike X) (214, [x2, x3, x7], [q1, q6], (h, d))
noncomputable def F_L_alike_283 (X : dm_X) (q1 : am_G × Nat) (x2 : Int32) (x3 : Int32) (h : am_H) (d : dm_D) : Option (Int32 × am_H × dm_D) := lp (S_L_alike X) (283, [x2, x3], [q1], (h, d))
noncomputable def F_L_alike_487 (X : dm_X) (q3 : am_G × Nat) (x4 : Int32) (h : am_H) (d : dm_D) : Option (Int32 × am_H × dm_D) := lp (S_L_alike X) (487, [x4], [q3], (h, d))
theorem E_L_alike_4 (X : dm_X) (q1 : am_G × Nat) (x2 : Int32) (x3 : Int32) (h : am_H) (d : dm_D) : F_L_alike_4 X q1 x2 x3 h d = ((dm_fr d q1 12 7).bind (fun w1 => (dm_rk d w1 16).bind (fun u1 => (F_Jx4a65c_size_8abf5 X w1 d).bind (fun a1 => if a1 ≤ x3 then (F_L_alike_283 X q1 x2 (iI (0)) h d) else ((dm_fr d q1 12 7).bind (fun w2 => (dm_rk d w2 16).bind (fun u2 => (F_Jx4a65c_get_915e3 X w2 x3 d).bind (fun a2 => (dm_ck d a2).bind (fun u3 => (dm_rk d q1 12).bind (fun u4 => (F_X12_isSpoiled X q1 x3 d).bind (fun a3 => if a3.1 = 0 then (F_L_alike_46 X q1 x3 a2 x2 (iI (0)) h a3.2) else (F_L_alike_46 X q1 x3 a2 x2 (iI (1)) h a3.2)))))))))))) := by
  show lp _ _ = _
  rw [lp_eq, S_L_alike]
  simp only [lpk_i, lpk_b, lpk_n, lpk_j, lpk_r] <;> rfl
theorem E_L_alike_46 (X : dm_X) (q1 : am_G × Nat) (x3 : Int32) (q4 : am_G × Nat) (y0 : Int32) (y1 : Int32) (h : am_H) (d : dm_D) : F_L_alike_46 X q1 x3 q4 y0 y1 h d = ((dm_rk d q1 12).bind (fun u1 => (F_X12_centre X q1 x3 d).bind (fun a1 => (dm_rk a1.2 q1 12).bind (fun u2 => (F_X12_bend X q1 a1.1 a1.2).bind (fun a2 => if (iI (3600)) = 0 then none else (if (iI (3600)) = 0 then none else ((dm_na a2.2 0 (iI (13))).bind (fun d1 => (dm_li X d1 q4 (iI (0))).bind (fun a3 => (dm_wi d1 (.inl 0, a2.2.1) 0 (iI (0)) a3).bind (fun d2 => (dm_fr d2 q1 12 5).bind (fun w1 => (dm_li X d2 q4 (iI (0))).bind (fun a4 => (dm_li X d2 w1 a4).bind (fun a5 => (dm_wi d2 (.inl 0, a2.2.1) 0 (iI (1)) ((iI (1000)) * a5)).bind (fun d3 => (dm_rk d3 q1 12).bind (fun u3 => (F_X12_centre X q1 x3 d3).bind (fun a6 => (dm_wi a6.2 (.inl 0, a2.2.1) 0 (iI (2)) a6.1).bind (fun d4 => (dm_rk d4 q1 12).bind (fun u4 => (F_X12_centre X q1 x3 d4).bind (fun a7 => (dm_rk a7.2 q1 12).bind (fun u5 => (F_X12_parts X q1 a7.1 a7.2).bind (fun a8 => (dm_wi a8.2 (.inl 0, a2.2.1) 0 (iI (3)) a8.1).bind (fun d5 => (dm_rk d5 q1 12).bind (fun u6 => (F_X12_edge X q1 x3 (iI (-1)) d5).bind (fun a9 => (dm_wi a9.2 (.inl 0, a2.2.1) 0 (iI (4)) a9.1).bind (fun d6 => (dm_rk d6 q1 12).bind (fun u7 => (F_X12_edge X q1 x3 (iI (1)) d6).bind (fun a10 => (dm_wi a10.2 (.inl 0, a2.2.1) 0 (iI (5)) a10.1).bind (fun d7 => (dm_wi d7 (.inl 0, a2.2.1) 0 (iI (6)) (((a2.1 - a2.1 / (iI (3600)) * (iI (3600))) + (iI (3600))) - ((a2.1 - a2.1 / (iI (3600)) * (iI (3600))) + (iI (3600))) / (iI (3600)) * (iI (3600)))).bind (fun d8 => (dm_rk d8 q1 12).bind (fun u8 => (F_X12_centre X q1 x3 d8).bind (fun a11 => (dm_rk a11.2 q1 12).bind (fun u9 => (F_X12_arcAt X q1 a11.1 a11.2).bind (fun a12 => (dm_wi a11.2 (.inl 0, a2.2.1) 0 (iI (7)) a12).bind (fun d9 => (dm_li X d9 q4 (iI (1))).bind (fun a13 => (dm_wi d9 (.inl 0, a2.2.1) 0 (iI (8)) a13).bind (fun d10 => (dm_rk d10 q1 12).bind (fun u10 => (F_X12_isSpoiled X q1 x3 d10).bind (fun a14 => if a14.1 = 0 then (F_L_alike_179 X q1 (y0 + y1) x3 q4 (.inl 0, a2.2.1) (.inl 0, a2.2.1) (iI (9)) (iI (0)) h a14.2) else (F_L_alike_179 X q1 (y0 + y1) x3 q4 (.inl 0, a2.2.1) (.inl 0, a2.2.1) (iI (9)) (iI (1)) h a14.2))))))))))))))))))))))))))))))))))))))) := by
  show lp _ _ = _
  rw [lp_eq, S_L_alike]
  simp only [lpk_i, lpk_b, lpk_n, lpk_j, lpk_r] <;> rfl
theorem E_L_alike_179 (X : dm_X) (q1 : am_G × Nat) (x2 : Int32) (x3 : Int32) (q4 : am_G × Nat) (z0 : am_G × Nat) (z1 : am_G × Nat) (y2 : Int32) (y3 : Int32) (h : am_H) (d : dm_D) : F_L_alike_179 X q1 x2 x3 q4 z0 z1 y2 y3 h d = ((dm_wi d z1 0 y2 y3).bind (fun d1 => (dm_li X d1 q4 (iI (0))).bind (fun a1 => if (iI (4)) = 0 then none else ((dm_wi d1 z0 0 (iI (10)) ((iI (1)) + (a1 - a1 / (iI (4)) * (iI (4))))).bind (fun d2 => (dm_li X d2 q4 (iI (2))).bind (fun a2 => (dm_wi d2 z0 0 (iI (11)) a2).bind (fun d3 => (dm_rk d3 q1 12).bind (fun u1 => (F_X12_scratchesOf X q1 x3 d3).bind (fun a3 => (dm_wi a3.2 z0 0 (iI (12)) a3.1).bind (fun d4 => F_L_alike_214 X q1 x2 x3 z0 (iI (0)) h d4)))))))))) := by
  show lp _ _ = _
  rw [lp_eq, S_L_alike]
  simp only [lpk_i, lpk_b, lpk_n, lpk_j, lpk_r] <;> rfl
theorem E_L_alike_214 (X : dm_X) (q1 : am_G × Nat) (x2 : Int32) (x3 : Int32) (q6 : am_G × Nat) (x7 : Int32) (h : am_H) (d : dm_D) : F_L_alike_214 X q1 x2 x3 q6 x7 h d = (if (iI (13)) ≤ x7 then ((dm_cl d (f_X11_danger x3 h)).bind (fun a1 => (dm_v a1).bind (fun a2 => (dm_rk d q1 12).bind (fun u1 => (F_X12_hard X q1 x3 d).bind (fun a3 => (dm_fi a3.2 q1 12 0).bind (fun a4 => (F_J9_min_7cf53 (iI (100)) ((iI (2)) * (a3.1 - a4))).bind (fun a5 => (F_J9_max_7cf53 (iI (0)) a5).bind (fun a6 => if a2 = a6 then (F_L_alike_4 X q1 x2 (x3 + 1) h a3.2) else (some ((iI (0)), h, a3.2)))))))))) else ((dm_cl d (f_X11_letter x3 x7 h)).bind (fun a1 => (dm_v a1.1).bind (fun a2 => (dm_li X d q6 x7).bind (fun a3 => if a2 = a3 then (F_L_alike_214 X q1 x2 x3 q6 (x7 + 1) a1.2 d) else (some ((iI (0)), a1.2, d))))))) := by
  show lp _ _ = _
  rw [lp_eq, S_L_alike]
  simp only [lpk_i, lpk_b, lpk_n, lpk_j, lpk_r] <;> rfl
theorem E_L_alike_283 (X : dm_X) (q1 : am_G × Nat) (x2 : Int32) (x3 : Int32) (h : am_H) (d : dm_D) : F_L_alike_283 X q1 x2 x3 h d = ((dm_fr d q1 12 9).bind (fun w1 => (dm_rk d w1 16).bind (fun u1 => (F_Jx4a65c_size_8abf5 X w1 d).bind (fun a1 => if a1 ≤ x3 then ((dm_na d 0 (iI (13))).bind (fun d1 => (dm_fr d1 q1 12 6).bind (fun w2 => (dm_rk d1 w2 16).bind (fun u2 => (F_Jx4a65c_size_8abf5 X w2 d1).bind (fun a2 => (dm_wi d1 (.inl 0, d.1) 0 (iI (0)) a2).bind (fun d2 => (dm_fr d2 q1 12 7).bind (fun w3 => (dm_rk d2 w3 16).bind (fun u3 => (F_Jx4a65c_size_8abf5 X w3 d2).bind (fun a3 => (dm_wi d2 (.inl 0, d.1) 0 (iI (1)) a3).bind (fun d3 => (dm_fr d3 q1 12 8).bind (fun w4 => (dm_rk d3 w4 16).bind (fun u4 => (F_Jx4a65c_size_8abf5 X w4 d3).bind (fun a4 => (dm_wi d3 (.inl 0, d.1) 0 (iI (2)) a4).bind (fun d4 => (dm_rk d4 q1 12).bind (fun u5 => (F_X12_whole X q1 d4).bind (fun a5 => (dm_wi a5.2 (.inl 0, d.1) 0 (iI (3)) a5.1).bind (fun d5 => (dm_rk d5 q1 12).bind (fun u6 => (F_X12_whole X q1 d5).bind (fun a6 => (dm_rk a6.2 q1 12).bind (fun u7 => (F_X12_parts X q1 a6.1 a6.2).bind (fun a7 => (dm_wi a7.2 (.inl 0, d.1) 0 (iI (4)) a7.1).bind (fun d6 => (dm_fi d6 q1 12 0).bind (fun a8 => (dm_wi d6 (.inl 0, d.1) 0 (iI (5)) a8).bind (fun d7 => (dm_fi d7 q1 12 1).bind (fun a9 => (dm_wi d7 (.inl 0, d.1) 0 (iI (6)) a9).bind (fun d8 => (dm_fr d8 q1 12 9).bind (fun w5 => (dm_rk d8 w5 16).bind (fun u8 => (F_Jx4a65c_size_8abf5 X w5 d8).bind (fun a10 => (dm_wi d8 (.inl 0, d.1) 0 (iI (7)) a10).bind (fun d9 => (dm_rk d9 q1 12).bind (fun u9 => (F_X12_engraved X q1 d9).bind (fun a11 => (dm_wi a11.2 (.inl 0, d.1) 0 (iI (8)) a11.1).bind (fun d10 => (dm_wi d10 (.inl 0, d.1) 0 (iI (9)) x2).bind (fun d11 => (dm_fi d11 q1 12 2).bind (fun a12 => (dm_wi d11 (.inl 0, d.1) 0 (iI (10)) a12).bind (fun d12 => (dm_fi d12 q1 12 3).bind (fun a13 => (dm_wi d12 (.inl 0, d.1) 0 (iI (11)) a13).bind (fun d13 => (dm_fi d13 q1 12 4).bind (fun a14 => (dm_wi d13 (.inl 0, d.1) 0 (iI (12)) a14).bind (fun d14 => F_L_alike_487 X (.inl 0, d.1) (iI (0)) h d14)))))))))))))))))))))))))))))))))))))))) else ((dm_fr d q1 12 9).bind (fun w2 => (dm_rk d w2 16).bind (fun u2 => (F_Jx4a65c_get_915e3 X w2 x3 d).bind (fun a2 => (dm_ck d a2).bind (fun u3 => (dm_cl d (f_X11_scratch x3 (iI (0)) h)).bind (fun a3 => (dm_v a3.1).bind (fun a4 => (dm_li X d a2 (iI (0))).bind (fun a5 => if a4 = a5 then ((dm_cl d (f_X11_scratch x3 (iI (1)) a3.2)).bind (fun a6 => (dm_v a6.1).bind (fun a7 => (dm_li X d a2 (iI (1))).bind (fun a8 => if a7 = a8 then ((dm_cl d (f_X11_scratch x3 (iI (2)) a6.2)).bind (fun a9 => (dm_v a9.1).bind (fun a10 => (dm_rk d q1 12).bind (fun u4 => (F_X12_spoils X q1 a2 d).bind (fun a11 => if a10 = a11.1 then (F_L_alike_283 X q1 x2 (x3 + 1) a9.2 a11.2) else (some ((iI (0)), a9.2, a11.2))))))) else (some ((iI (0)), a6.2, d)))))) else (some ((iI (0)), a3.2, d)))))))))))))) := by
  show lp _ _ = _
  rw [lp_eq, S_L_alike]
  simp only [lpk_i, lpk_b, lpk_n, lpk_j, lpk_r] <;> rfl
theorem E_L_alike_487 (X : dm_X) (q3 : am_G × Nat) (x4 : Int32) (h : am_H) (d : dm_D) : F_L_alike_487 X q3 x4 h d = (if (iI (13)) ≤ x4 then (some ((iI (1)), h, d)) else ((dm_cl d (f_X11_setting x4 h)).bind (fun a1 => (dm_v a1.1).bind (fun a2 => (dm_li X d q3 x4).bind (fun a3 => if a2 = a3 then (F_L_alike_487 X q3 (x4 + 1) a1.2 d) else (some ((iI (0)), a1.2, d))))))) := by
  show lp _ _ = _
  rw [lp_eq, S_L_alike]
  simp only [lpk_i, lpk_b, lpk_n, lpk_j, lpk_r] <;> rfl
noncomputable def F_L_alike (X : dm_X) (q1 : am_G × Nat) (h : am_H) (d : dm_D) : Option (Int32 × am_H × dm_D) :=
  F_L_alike_4 X q1 (iI (0)) (iI (0)) h d
theorem C_L_alike_L {X : dm_X} {k0 : Nat} {Q : Option am_v → am_H → dm_D → Prop} : ∀ s, wp (lp (S_L_alike X) s) (fun a => Q (some (am_i a.1)) a.2.1 a.2.2) → ((∀ q1 x2 x3 h d, s = (4, [x2, x3], [q1], (h, d)) → dm_V RL "alike" cL_alike 8 (some .boolean) 9 192 k0 X (dm_Tm cL_alike (some .boolean) Q) 4 [some (am_r (.inl 1) 0), some (.inr q1), some (am_i x2), some (am_i x3), none, none, none, none] [] h d) ∧ (∀ q1 x3 q4 y0 y1 h d, s = (46, [x3, y0, y1], [q1, q4], (h, d)) → dm_V RL "alike" cL_alike 8 (some .boolean) 9 192 k0 X (dm_Tm cL_alike (some .boolean) Q) 46 [some (am_r (.inl 1) 0), some (.inr q1), none, some (am_i x3), some (.inr q4), none, none, none] [am_i y1, am_i y0] h d) ∧ (∀ q1 x2 x3 q4 z0 z1 y2 y3 h d, s = (179, [x2, x3, y2, y3], [q1, q4, z0, z1], (h, d)) → dm_V RL "alike" cL_alike 8 (some .boolean) 9 192 k0 X (dm_Tm cL_alike (some .boolean) Q) 179 [some (am_r (.inl 1) 0), some (.inr q1), some (am_i x2), some (am_i x3), some (.inr q4), none, none, none] [am_i y3, am_i y2, .inr z1, .inr z0] h d) ∧ (∀ q1 x2 x3 q6 x7 h d, s = (214, [x2, x3, x7], [q1, q6], (h, d)) → dm_V RL "alike" cL_alike 8 (some .boolean) 9 192 k0 X (dm_Tm cL_alike (some .boolean) Q) 214 [some (am_r (.inl 1) 0), some (.inr q1), some (am_i x2), some (am_i x3), none, none, some (.inr q6), some (am_i x7)] [] h d) ∧ (∀ q1 x2 x3 h d, s = (283, [x2, x3], [q1], (h, d)) → dm_V RL "alike" cL_alike 8 (some .boolean) 9 192 k0 X (dm_Tm cL_alike (some .boolean) Q) 283 [some (am_r (.inl 1) 0), some (.inr q1), some (am_i x2), some (am_i x3), none, none, none, none] [] h d) ∧ (∀ q3 x4 h d, s = (487, [x4], [q3], (h, d)) → dm_V RL "alike" cL_alike 8 (some .boolean) 9 192 k0 X (dm_Tm cL_alike (some .boolean) Q) 487 [some (am_r (.inl 1) 0), none, none, some (.inr q3), some (am_i x4), none, none, none] [] h d)) := by
  refine lp_ind _ _ (fun s H => ⟨fun q1 x2 x3 h d e => ?_, fun q1 x3 q4 y0 y1 h d e => ?_, fun q1 x2 x3 q4 z0 z1 y2 y3 h d e => ?_, fun q1 x2 x3 q6 x7 h d e => ?_, fun q1 x2 x3 h d e => ?_, fun q3 x4 h d e => ?_⟩)
  · subst e
    rw [S_L_alike] at H
    refine ql_i3 dL_alike_4 ?_
    refine ql_a1 dL_alike_5 ?_
    obtain ⟨w1, e1, H⟩ := wp_b H
    refine dr_getR dL_alike_6 fg_L_40 e1 ?_
    obtain ⟨u1, e3, H⟩ := wp_b H
    obtain ⟨a1, e2, H⟩ := wp_b H
    refine dc_F0i (C := (RJx4a65c, TJx4a65c, 3)) dL_alike_9 ml_L_46 mf_Jx4a65c_size_8abf5 (List.mem_of_getElem? (i := 2) rfl) (C_Jx4a65c_size_8abf5 e2) (dm_rk_some e3) rfl rfl rfl rfl ?_
    refine dr_ic_ge 281 dL_alike_14 (by decide) (fun c1 => ?_) (fun c1 => ?_)
    · replace H := wp_t c1 H
      refine dr_iconst (iI (0)) dL_alike_281 rfl ?_
      refine qs_i3 dL_alike_282 rfl trivial ?_
      exact dr_wk (am_s (am_s (am_s (am_s (am_n (am_n (am_n (am_n am_0)))))))) ((lp_in H).2.2.2.2.1 _ _ _ _ _ rfl)
    · replace H := wp_f c1 H
      refine ql_a1 dL_alike_17 ?_
      obtain ⟨w2, e4, H⟩ := wp_b H
      refine dr_getR dL_alike_18 fg_L_40 e4 ?_
      refine ql_i3 dL_alike_21 ?_
      obtain ⟨u2, e6, H⟩ := wp_b H
      obtain ⟨a2, e5, H⟩ := wp_b H
      refine dc_F1r (C := (RJx4a65c, TJx4a65c, 3)) dL_alike_22 ml_L_51 mf_Jx4a65c_get_915e3 (List.mem_of_getElem? (i := 3) rfl) (C_Jx4a65c_get_915e3 e5) (dm_rk_some e6) rfl rfl rfl rfl ?_
      obtain ⟨u3, e7, H⟩ := wp_b H
      refine dr_cast dL_alike_27 fc_L_55 (dm_ck_some e7) ?_
      refine qs_a4 dL_alike_30 rfl trivial ?_
      refine ql_i2 dL_alike_32 ?_
      refine ql_a1 dL_alike_33 ?_
      refine ql_i3 dL_alike_34 ?_
      obtain ⟨u4, e9, H⟩ := wp_b H
      obtain ⟨a3, e8, H⟩ := wp_b H
      refine dc_V1i (C := (RX12, TX12, 11)) dL_alike_35 ml_L_57 mc_X12_isSpoiled (C_X12_isSpoiled e8) (dm_rk_some e9) rfl rfl rfl rfl rfl ?_
      refine dr_if_eq 45 dL_alike_38 (by decide) (fun c2 => ?_) (fun c2 => ?_)
      · replace H := wp_t c2 H
        refine dr_iconst (iI (0)) dL_alike_45 rfl ?_
        exact dr_wk (am_s (am_s (am_n (am_s (am_s (am_n (am_n (am_n am_0)))))))) ((lp_in H).2.1 _ _ _ _ _ _ _ rfl)
      · replace H := wp_f c2 H
        refine dr_iconst (iI (1)) dL_alike_41 rfl ?_
        refine dr_goto 46 dL_alike_42 (by decide) ?_
        exact dr_wk (am_s (am_s (am_n (am_s (am_s (am_n (am_n (am_n am_0)))))))) ((lp_in H).2.1 _ _ _ _ _ _ _ rfl)
  · subst e
    rw [S_L_alike] at H
    refine dr_iadd dL_alike_46 ?_
    refine qs_i2 dL_alike_47 rfl trivial ?_
    refine ql_a1 dL_alike_48 ?_
    refine ql_a1 dL_alike_49 ?_
    refine ql_i3 dL_alike_50 ?_
    obtain ⟨u1, e2, H⟩ := wp_b H
    obtain ⟨a1, e1, H⟩ := wp_b H
    refine dc_V1i (C := (RX12, TX12, 11)) dL_alike_51 ml_L_61 mc_X12_centre (C_X12_centre e1) (dm_rk_some e2) rfl rfl rfl rfl rfl ?_
    obtain ⟨u2, e4, H⟩ := wp_b H
    obtain ⟨a2, e3, H⟩ := wp_b H
    refine dc_V1i (C := (RX12, TX12, 11)) dL_alike_54 ml_L_64 mc_X12_bend (C_X12_bend e3) (dm_rk_some e4) rfl rfl rfl rfl rfl ?_
    refine dr_sipush (iI (3600)) dL_alike_57 rfl ?_
    obtain ⟨b1, H⟩ := wp_d H
    refine dr_irem dL_alike_60 b1 ?_
    refine dr_sipush (iI (3600)) dL_alike_61 rfl ?_
    refine dr_iadd dL_alike_64 ?_
    refine dr_sipush (iI (3600)) dL_alike_65 rfl ?_
    obtain ⟨b2, H⟩ := wp_d H
    refine dr_irem dL_alike_68 b2 ?_
    refine qs_i5 dL_alike_69 rfl trivial ?_
    refine dr_bipush (iI (13)) dL_alike_71 rfl ?_
    obtain ⟨d1, e5, H⟩ := wp_b H
    refine dr_newa dL_alike_73 na_int (fun _ => rfl) (by decide) (fun _ _ => rfl) e5 ?_
    refine dr_dup dL_alike_75 trivial ?_
    refine dr_iconst (iI (0)) dL_alike_76 rfl ?_
    refine ql_a4 dL_alike_77 ?_
    refine dr_iconst (iI (0)) dL_alike_79 rfl ?_
    obtain ⟨a3, e6, H⟩ := wp_b H
    refine dr_iald dL_alike_80 e6 ?_
    obtain ⟨d2, e7, H⟩ := wp_b H
    refine dr_iast dL_alike_81 e7 ?_
    refine dr_dup dL_alike_82 trivial ?_
    refine dr_iconst (iI (1)) dL_alike_83 rfl ?_
    refine dr_sipush (iI (1000)) dL_alike_84 rfl ?_
    refine ql_a1 dL_alike_87 ?_
    obtain ⟨w1, e8, H⟩ := wp_b H
    refine dr_getR dL_alike_88 fg_L_67 e8 ?_
    refine ql_a4 dL_alike_91 ?_
    refine dr_iconst (iI (0)) dL_alike_93 rfl ?_
    obtain ⟨a4, e9, H⟩ := wp_b H
    refine dr_iald dL_alike_94 e9 ?_
    obtain ⟨a5, e10, H⟩ := wp_b H
    refine dr_iald dL_alike_95 e10 ?_
    refine dr_imul dL_alike_96 ?_
    obtain ⟨d3, e11, H⟩ := wp_b H
    refine dr_iast dL_alike_97 e11 ?_
    refine dr_dup dL_alike_98 trivial ?_
    refine dr_iconst (iI (2)) dL_alike_99 rfl ?_
    refine ql_a1 dL_alike_100 ?_
    refine ql_i3 dL_alike_101 ?_
    obtain ⟨u3, e13, H⟩ := wp_b H
    obtain ⟨a6, e12, H⟩ := wp_b H
    refine dc_V1i (C := (RX12, TX12, 11)) dL_alike_102 ml_L_61 mc_X12_centre (C_X12_centre e12) (dm_rk_some e13) rfl rfl rfl rfl rfl ?_
    obtain ⟨d4, e14, H⟩ := wp_b H
    refine dr_iast dL_alike_105 e14 ?_
    refine dr_dup dL_alike_106 trivial ?_
    refine dr_iconst (iI (3)) dL_alike_107 rfl ?_
    refine ql_a1 dL_alike_108 ?_
    refine ql_a1 dL_alike_109 ?_
    refine ql_i3 dL_alike_110 ?_
    obtain ⟨u4, e16, H⟩ := wp_b H
    obtain ⟨a7, e15, H⟩ := wp_b H
    refine dc_V1i (C := (RX12, TX12, 11)) dL_alike_111 ml_L_61 mc_X12_centre (C_X12_centre e15) (dm_rk_some e16) rfl rfl rfl rfl rfl ?_
    obtain ⟨u5, e18, H⟩ := wp_b H
    obtain ⟨a8, e17, H⟩ := wp_b H
    refine dc_V1i (C := (RX12, TX12, 11)) dL_alike_114 ml_L_70 mc_X12_parts (C_X12_parts e17) (dm_rk_some e18) rfl rfl rfl rfl rfl ?_
    obtain ⟨d5, e19, H⟩ := wp_b H
    refine dr_iast dL_alike_117 e19 ?_
    refine dr_dup dL_alike_118 trivial ?_
    refine dr_iconst (iI (4)) dL_alike_119 rfl ?_
    refine ql_a1 dL_alike_120 ?_
    refine ql_i3 dL_alike_121 ?_
    refine dr_iconst (iI (-1)) dL_alike_122 rfl ?_
    obtain ⟨u6, e21, H⟩ := wp_b H
    obtain ⟨a9, e20, H⟩ := wp_b H
    refine dc_V2i (C := (RX12, TX12, 11)) dL_alike_123 ml_L_73 mc_X12_edge (C_X12_edge e20) (dm_rk_some e21) rfl rfl rfl rfl rfl ?_
    obtain ⟨d6, e22, H⟩ := wp_b H
    refine dr_iast dL_alike_126 e22 ?_
    refine dr_dup dL_alike_127 trivial ?_
    refine dr_iconst (iI (5)) dL_alike_128 rfl ?_
    refine ql_a1 dL_alike_129 ?_
    refine ql_i3 dL_alike_130 ?_
    refine dr_iconst (iI (1)) dL_alike_131 rfl ?_
    obtain ⟨u7, e24, H⟩ := wp_b H
    obtain ⟨a10, e23, H⟩ := wp_b H
    refine dc_V2i (C := (RX12, TX12, 11)) dL_alike_132 ml_L_73 mc_X12_edge (C_X12_edge e23) (dm_rk_some e24) rfl rfl rfl rfl rfl ?_
    obtain ⟨d7, e25, H⟩ := wp_b H
    refine dr_iast dL_alike_135 e25 ?_
    refine dr_dup dL_alike_136 trivial ?_
    refine dr_bipush (iI (6)) dL_alike_137 rfl ?_
    refine ql_i5 dL_alike_139 ?_
    obtain ⟨d8, e26, H⟩ := wp_b H
    refine dr_iast dL_alike_141 e26 ?_
    refine dr_dup dL_alike_142 trivial ?_
    refine dr_bipush (iI (7)) dL_alike_143 rfl ?_
    refine ql_a1 dL_alike_145 ?_
    refine ql_a1 dL_alike_146 ?_
    refine ql_i3 dL_alike_147 ?_
    obtain ⟨u8, e28, H⟩ := wp_b H
    obtain ⟨a11, e27, H⟩ := wp_b H
    refine dc_V1i (C := (RX12, TX12, 11)) dL_alike_148 ml_L_61 mc_X12_centre (C_X12_centre e27) (dm_rk_some e28) rfl rfl rfl rfl rfl ?_
    obtain ⟨u9, e30, H⟩ := wp_b H
    obtain ⟨a12, e29, H⟩ := wp_b H
    refine dc_V1i (C := (RX12, TX12, 11)) dL_alike_151 ml_L_77 mc_X12_arcAt (C_X12_arcAt e29) (dm_rk_some e30) rfl rfl rfl rfl rfl ?_
    obtain ⟨d9, e31, H⟩ := wp_b H
    refine dr_iast dL_alike_154 e31 ?_
    refine dr_dup dL_alike_155 trivial ?_
    refine dr_bipush (iI (8)) dL_alike_156 rfl ?_
    refine ql_a4 dL_alike_158 ?_
    refine dr_iconst (iI (1)) dL_alike_160 rfl ?_
    obtain ⟨a13, e32, H⟩ := wp_b H
    refine dr_iald dL_alike_161 e32 ?_
    obtain ⟨d10, e33, H⟩ := wp_b H
    refine dr_iast dL_alike_162 e33 ?_
    refine dr_dup dL_alike_163 trivial ?_
    refine dr_bipush (iI (9)) dL_alike_164 rfl ?_
    refine ql_a1 dL_alike_166 ?_
    refine ql_i3 dL_alike_167 ?_
    obtain ⟨u10, e35, H⟩ := wp_b H
    obtain ⟨a14, e34, H⟩ := wp_b H
    refine dc_V1i (C := (RX12, TX12, 11)) dL_alike_168 ml_L_57 mc_X12_isSpoiled (C_X12_isSpoiled e34) (dm_rk_some e35) rfl rfl rfl rfl rfl ?_
    refine dr_if_eq 178 dL_alike_171 (by decide) (fun c1 => ?_) (fun c1 => ?_)
    · replace H := wp_t c1 H
      refine dr_iconst (iI (0)) dL_alike_178 rfl ?_
      exact dr_wk (am_s (am_s (am_s (am_s (am_s (am_n (am_n (am_n am_0)))))))) ((lp_in H).2.2.1 _ _ _ _ _ _ _ _ _ _ rfl)
    · replace H := wp_f c1 H
      refine dr_iconst (iI (1)) dL_alike_174 rfl ?_
      refine dr_goto 179 dL_alike_175 (by decide) ?_
      exact dr_wk (am_s (am_s (am_s (am_s (am_s (am_n (am_n (am_n am_0)))))))) ((lp_in H).2.2.1 _ _ _ _ _ _ _ _ _ _ rfl)
  · subst e
    rw [S_L_alike] at H
    obtain ⟨d1, e1, H⟩ := wp_b H
    refine dr_iast dL_alike_179 e1 ?_
    refine dr_dup dL_alike_180 trivial ?_
    refine dr_bipush (iI (10)) dL_alike_181 rfl ?_
    refine dr_iconst (iI (1)) dL_alike_183 rfl ?_
    refine ql_a4 dL_alike_184 ?_
    refine dr_iconst (iI (0)) dL_alike_186 rfl ?_
    obtain ⟨a1, e2, H⟩ := wp_b H
    refine dr_iald dL_alike_187 e2 ?_
    refine dr_iconst (iI (4)) dL_alike_188 rfl ?_
    obtain ⟨b1, H⟩ := wp_d H
    refine dr_irem dL_alike_189 b1 ?_
    refine dr_iadd dL_alike_190 ?_
    obtain ⟨d2, e3, H⟩ := wp_b H
    refine dr_iast dL_alike_191 e3 ?_
    refine dr_dup dL_alike_192 trivial ?_
    refine dr_bipush (iI (11)) dL_alike_193 rfl ?_
    refine ql_a4 dL_alike_195 ?_
    refine dr_iconst (iI (2)) dL_alike_197 rfl ?_
    obtain ⟨a2, e4, H⟩ := wp_b H
    refine dr_iald dL_alike_198 e4 ?_
    obtain ⟨d3, e5, H⟩ := wp_b H
    refine dr_iast dL_alike_199 e5 ?_
    refine dr_dup dL_alike_200 trivial ?_
    refine dr_bipush (iI (12)) dL_alike_201 rfl ?_
    refine ql_a1 dL_alike_203 ?_
    refine ql_i3 dL_alike_204 ?_
    obtain ⟨u1, e7, H⟩ := wp_b H
    obtain ⟨a3, e6, H⟩ := wp_b H
    refine dc_V1i (C := (RX12, TX12, 11)) dL_alike_205 ml_L_80 mc_X12_scratchesOf (C_X12_scratchesOf e6) (dm_rk_some e7) rfl rfl rfl rfl rfl ?_
    obtain ⟨d4, e8, H⟩ := wp_b H
    refine dr_iast dL_alike_208 e8 ?_
    refine qs_a6 dL_alike_209 rfl trivial ?_
    refine dr_iconst (iI (0)) dL_alike_211 rfl ?_
    refine qs_i7 dL_alike_212 rfl trivial ?_
    exact dr_wk (am_s (am_s (am_s (am_s (am_n (am_n (am_s (am_s am_0)))))))) ((lp_in H).2.2.2.1 _ _ _ _ _ _ _ rfl)
  · subst e
    rw [S_L_alike] at H
    refine ql_i7 dL_alike_214 ?_
    refine dr_bipush (iI (13)) dL_alike_216 rfl ?_
    refine dr_ic_ge 244 dL_alike_218 (by decide) (fun c1 => ?_) (fun c1 => ?_)
    · replace H := wp_t c1 H
      refine ql_a0 dL_alike_244 ?_
      refine ql_i3 dL_alike_245 ?_
      obtain ⟨a1, e1, H⟩ := wp_b H
      obtain ⟨fe1, e1⟩ := dm_cl_some e1
      obtain ⟨a2, e2, H⟩ := wp_b H
      replace e1 := e1.trans (congrArg some (dm_v_some e2))
      refine dc_C1i dL_alike_246 ml_L_86 mc_X11_danger (c_X11_danger e1) rfl fe1 rfl rfl rfl ?_
      refine dr_iconst (iI (0)) dL_alike_249 rfl ?_
      refine dr_bipush (iI (100)) dL_alike_250 rfl ?_
      refine dr_iconst (iI (2)) dL_alike_252 rfl ?_
      refine ql_a1 dL_alike_253 ?_
      refine ql_i3 dL_alike_254 ?_
      obtain ⟨u1, e4, H⟩ := wp_b H
      obtain ⟨a3, e3, H⟩ := wp_b H
      refine dc_V1i (C := (RX12, TX12, 11)) dL_alike_255 ml_L_89 mc_X12_hard (C_X12_hard e3) (dm_rk_some e4) rfl rfl rfl rfl rfl ?_
      refine ql_a1 dL_alike_258 ?_
      obtain ⟨a4, e5, H⟩ := wp_b H
      refine dr_getI dL_alike_259 fg_L_92 e5 ?_
      refine dr_isub dL_alike_262 ?_
      refine dr_imul dL_alike_263 ?_
      obtain ⟨a5, e6, H⟩ := wp_b H
      refine dc_S2i dL_alike_264 ml_L_96 mc_J9_min_7cf53 (C_J9_min_7cf53 e6) rfl rfl rfl ?_
      obtain ⟨a6, e7, H⟩ := wp_b H
      refine dc_S2i dL_alike_267 ml_L_101 mc_J9_max_7cf53 (C_J9_max_7cf53 e7) rfl rfl rfl ?_
      refine dr_ic_eq 275 dL_alike_270 (by decide) (fun c2 => ?_) (fun c2 => ?_)
      · replace H := wp_t c2 H
        refine qn_1_3 dL_alike_275 rfl trivial ?_
        refine dr_goto 4 dL_alike_278 (by decide) ?_
        exact dr_wk (am_s (am_s (am_s (am_s (am_n (am_n (am_n (am_n am_0)))))))) ((lp_in H).1 _ _ _ _ _ rfl)
      · replace H := wp_f c2 H
        refine dr_iconst (iI (0)) dL_alike_273 rfl ?_
        replace H := lp_re H
        exact dr_iret dL_alike_274 rfl rfl H
    · replace H := wp_f c1 H
      refine ql_a0 dL_alike_221 ?_
      refine ql_i3 dL_alike_222 ?_
      refine ql_i7 dL_alike_223 ?_
      obtain ⟨a1, e1, H⟩ := wp_b H
      obtain ⟨fe1, e1⟩ := dm_cl_some e1
      obtain ⟨a2, e2, H⟩ := wp_b H
      replace e1 := e1.trans (congrArg some (Prod.ext (dm_v_some e2) rfl : a1 = (_, a1.2)))
      refine dc_C2i dL_alike_225 ml_L_83 mc_X11_letter (c_X11_letter e1) rfl fe1 rfl rfl rfl ?_
      refine ql_a6 dL_alike_228 ?_
      refine ql_i7 dL_alike_230 ?_
      obtain ⟨a3, e3, H⟩ := wp_b H
      refine dr_iald dL_alike_232 e3 ?_
      refine dr_ic_eq 238 dL_alike_233 (by decide) (fun c2 => ?_) (fun c2 => ?_)
      · replace H := wp_t c2 H
        refine qn_1_7 dL_alike_238 rfl trivial ?_
        refine dr_goto 214 dL_alike_241 (by decide) ?_
        exact dr_wk (am_s (am_s (am_s (am_s (am_n (am_n (am_s (am_s am_0)))))))) ((lp_in H).2.2.2.1 _ _ _ _ _ _ _ rfl)
      · replace H := wp_f c2 H
        refine dr_iconst (iI (0)) dL_alike_236 rfl ?_
        replace H := lp_re H
        exact dr_iret dL_alike_237 rfl rfl H
  · subst e
    rw [S_L_alike] at H
    refine ql_i3 dL_alike_283 ?_
    refine ql_a1 dL_alike_284 ?_
    obtain ⟨w1, e1, H⟩ := wp_b H
    refine dr_getR dL_alike_285 fg_L_104 e1 ?_
    obtain ⟨u1, e3, H⟩ := wp_b H
    obtain ⟨a1, e2, H⟩ := wp_b H
    refine dc_F0i (C := (RJx4a65c, TJx4a65c, 3)) dL_alike_288 ml_L_46 mf_Jx4a65c_size_8abf5 (List.mem_of_getElem? (i := 2) rfl) (C_Jx4a65c_size_8abf5 e2) (dm_rk_some e3) rfl rfl rfl rfl ?_
    refine dr_ic_ge 360 dL_alike_293 (by decide) (fun c1 => ?_) (fun c1 => ?_)
    · replace H := wp_t c1 H
      refine dr_bipush (iI (13)) dL_alike_360 rfl ?_
      obtain ⟨d1, e4, H⟩ := wp_b H
      refine dr_newa dL_alike_362 na_int (fun _ => rfl) (by decide) (fun _ _ => rfl) e4 ?_
      refine dr_dup dL_alike_364 trivial ?_
      refine dr_iconst (iI (0)) dL_alike_365 rfl ?_
      refine ql_a1 dL_alike_366 ?_
      obtain ⟨w2, e5, H⟩ := wp_b H
      refine dr_getR dL_alike_367 fg_L_114 e5 ?_
      obtain ⟨u2, e7, H⟩ := wp_b H
      obtain ⟨a2, e6, H⟩ := wp_b H
      refine dc_F0i (C := (RJx4a65c, TJx4a65c, 3)) dL_alike_370 ml_L_46 mf_Jx4a65c_size_8abf5 (List.mem_of_getElem? (i := 2) rfl) (C_Jx4a65c_size_8abf5 e6) (dm_rk_some e7) rfl rfl rfl rfl ?_
      obtain ⟨d2, e8, H⟩ := wp_b H
      refine dr_iast dL_alike_375 e8 ?_
      refine dr_dup dL_alike_376 trivial ?_
      refine dr_iconst (iI (1)) dL_alike_377 rfl ?_
      refine ql_a1 dL_alike_378 ?_
      obtain ⟨w3, e9, H⟩ := wp_b H
      refine dr_getR dL_alike_379 fg_L_40 e9 ?_
      obtain ⟨u3, e11, H⟩ := wp_b H
      obtain ⟨a3, e10, H⟩ := wp_b H
      refine dc_F0i (C := (RJx4a65c, TJx4a65c, 3)) dL_alike_382 ml_L_46 mf_Jx4a65c_size_8abf5 (List.mem_of_getElem? (i := 2) rfl) (C_Jx4a65c_size_8abf5 e10) (dm_rk_some e11) rfl rfl rfl rfl ?_
      obtain ⟨d3, e12, H⟩ := wp_b H
      refine dr_iast dL_alike_387 e12 ?_
      refine dr_dup dL_alike_388 trivial ?_
      refine dr_iconst (iI (2)) dL_alike_389 rfl ?_
      refine ql_a1 dL_alike_390 ?_
      obtain ⟨w4, e13, H⟩ := wp_b H
      refine dr_getR dL_alike_391 fg_L_117 e13 ?_
      obtain ⟨u4, e15, H⟩ := wp_b H
      obtain ⟨a4, e14, H⟩ := wp_b H
      refine dc_F0i (C := (RJx4a65c, TJx4a65c, 3)) dL_alike_394 ml_L_46 mf_Jx4a65c_size_8abf5 (List.mem_of_getElem? (i := 2) rfl) (C_Jx4a65c_size_8abf5 e14) (dm_rk_some e15) rfl rfl rfl rfl ?_
      obtain ⟨d4, e16, H⟩ := wp_b H
      refine dr_iast dL_alike_399 e16 ?_
      refine dr_dup dL_alike_400 trivial ?_
      refine dr_iconst (iI (3)) dL_alike_401 rfl ?_
      refine ql_a1 dL_alike_402 ?_
      obtain ⟨u5, e18, H⟩ := wp_b H
      obtain ⟨a5, e17, H⟩ := wp_b H
      refine dc_V0i (C := (RX12, TX12, 11)) dL_alike_403 ml_L_120 mc_X12_whole (C_X12_whole e17) (dm_rk_some e18) rfl rfl rfl rfl rfl ?_
      obtain ⟨d5, e19, H⟩ := wp_b H
      refine dr_iast dL_alike_406 e19 ?_
      refine dr_dup dL_alike_407 trivial ?_
      refine dr_iconst (iI (4)) dL_alike_408 rfl ?_
      refine ql_a1 dL_alike_409 ?_
      refine ql_a1 dL_alike_410 ?_
      obtain ⟨u6, e21, H⟩ := wp_b H
      obtain ⟨a6, e20, H⟩ := wp_b H
      refine dc_V0i (C := (RX12, TX12, 11)) dL_alike_411 ml_L_120 mc_X12_whole (C_X12_whole e20) (dm_rk_some e21) rfl rfl rfl rfl rfl ?_
      obtain ⟨u7, e23, H⟩ := wp_b H
      obtain ⟨a7, e22, H⟩ := wp_b H
      refine dc_V1i (C := (RX12, TX12, 11)) dL_alike_414 ml_L_70 mc_X12_parts (C_X12_parts e22) (dm_rk_some e23) rfl rfl rfl rfl rfl ?_
      obtain ⟨d6, e24, H⟩ := wp_b H
      refine dr_iast dL_alike_417 e24 ?_
      refine dr_dup dL_alike_418 trivial ?_
      refine dr_iconst (iI (5)) dL_alike_419 rfl ?_
      refine ql_a1 dL_alike_420 ?_
      obtain ⟨a8, e25, H⟩ := wp_b H
      refine dr_getI dL_alike_421 fg_L_92 e25 ?_
      obtain ⟨d7, e26, H⟩ := wp_b H
      refine dr_iast dL_alike_424 e26 ?_
      refine dr_dup dL_alike_425 trivial ?_
      refine dr_bipush (iI (6)) dL_alike_426 rfl ?_
      refine ql_a1 dL_alike_428 ?_
      obtain ⟨a9, e27, H⟩ := wp_b H
      refine dr_getI dL_alike_429 fg_L_123 e27 ?_
      obtain ⟨d8, e28, H⟩ := wp_b H
      refine dr_iast dL_alike_432 e28 ?_
      refine dr_dup dL_alike_433 trivial ?_
      refine dr_bipush (iI (7)) dL_alike_434 rfl ?_
      refine ql_a1 dL_alike_436 ?_
      obtain ⟨w5, e29, H⟩ := wp_b H
      refine dr_getR dL_alike_437 fg_L_104 e29 ?_
      obtain ⟨u8, e31, H⟩ := wp_b H
      obtain ⟨a10, e30, H⟩ := wp_b H
      refine dc_F0i (C := (RJx4a65c, TJx4a65c, 3)) dL_alike_440 ml_L_46 mf_Jx4a65c_size_8abf5 (List.mem_of_getElem? (i := 2) rfl) (C_Jx4a65c_size_8abf5 e30) (dm_rk_some e31) rfl rfl rfl rfl ?_
      obtain ⟨d9, e32, H⟩ := wp_b H
      refine dr_iast dL_alike_445 e32 ?_
      refine dr_dup dL_alike_446 trivial ?_
      refine dr_bipush (iI (8)) dL_alike_447 rfl ?_
      refine ql_a1 dL_alike_449 ?_
      obtain ⟨u9, e34, H⟩ := wp_b H
      obtain ⟨a11, e33, H⟩ := wp_b H
      refine dc_V0i (C := (RX12, TX12, 11)) dL_alike_450 ml_L_126 mc_X12_engraved (C_X12_engraved e33) (dm_rk_some e34) rfl rfl rfl rfl rfl ?_
      obtain ⟨d10, e35, H⟩ := wp_b H
      refine dr_iast dL_alike_453 e35 ?_
      refine dr_dup dL_alike_454 trivial ?_
      refine dr_bipush (iI (9)) dL_alike_455 rfl ?_
      refine ql_i2 dL_alike_457 ?_
      obtain ⟨d11, e36, H⟩ := wp_b H
      refine dr_iast dL_alike_458 e36 ?_
      refine dr_dup dL_alike_459 trivial ?_
      refine dr_bipush (iI (10)) dL_alike_460 rfl ?_
      refine ql_a1 dL_alike_462 ?_
      obtain ⟨a12, e37, H⟩ := wp_b H
      refine dr_getI dL_alike_463 fg_L_129 e37 ?_
      obtain ⟨d12, e38, H⟩ := wp_b H
      refine dr_iast dL_alike_466 e38 ?_
      refine dr_dup dL_alike_467 trivial ?_
      refine dr_bipush (iI (11)) dL_alike_468 rfl ?_
      refine ql_a1 dL_alike_470 ?_
      obtain ⟨a13, e39, H⟩ := wp_b H
      refine dr_getI dL_alike_471 fg_L_132 e39 ?_
      obtain ⟨d13, e40, H⟩ := wp_b H
      refine dr_iast dL_alike_474 e40 ?_
      refine dr_dup dL_alike_475 trivial ?_
      refine dr_bipush (iI (12)) dL_alike_476 rfl ?_
      refine ql_a1 dL_alike_478 ?_
      obtain ⟨a14, e41, H⟩ := wp_b H
      refine dr_getI dL_alike_479 fg_L_135 e41 ?_
      obtain ⟨d14, e42, H⟩ := wp_b H
      refine dr_iast dL_alike_482 e42 ?_
      refine qs_a3 dL_alike_483 rfl trivial ?_
      refine dr_iconst (iI (0)) dL_alike_484 rfl ?_
      refine qs_i4 dL_alike_485 rfl trivial ?_
      exact dr_wk (am_s (am_n (am_n (am_s (am_s (am_n (am_n (am_n am_0)))))))) ((lp_in H).2.2.2.2.2 _ _ _ _ rfl)
    · replace H := wp_f c1 H
      refine ql_a1 dL_alike_296 ?_
      obtain ⟨w2, e4, H⟩ := wp_b H
      refine dr_getR dL_alike_297 fg_L_104 e4 ?_
      refine ql_i3 dL_alike_300 ?_
      obtain ⟨u2, e6, H⟩ := wp_b H
      obtain ⟨a2, e5, H⟩ := wp_b H
      refine dc_F1r (C := (RJx4a65c, TJx4a65c, 3)) dL_alike_301 ml_L_51 mf_Jx4a65c_get_915e3 (List.mem_of_getElem? (i := 3) rfl) (C_Jx4a65c_get_915e3 e5) (dm_rk_some e6) rfl rfl rfl rfl ?_
      obtain ⟨u3, e7, H⟩ := wp_b H
      refine dr_cast dL_alike_306 fc_L_55 (dm_ck_some e7) ?_
      refine qs_a4 dL_alike_309 rfl trivial ?_
      refine ql_a0 dL_alike_311 ?_
      refine ql_i3 dL_alike_312 ?_
      refine dr_iconst (iI (0)) dL_alike_313 rfl ?_
      obtain ⟨a3, e8, H⟩ := wp_b H
      obtain ⟨fe8, e8⟩ := dm_cl_some e8
      obtain ⟨a4, e9, H⟩ := wp_b H
      replace e8 := e8.trans (congrArg some (Prod.ext (dm_v_some e9) rfl : a3 = (_, a3.2)))
      refine dc_C2i dL_alike_314 ml_L_107 mc_X11_scratch (c_X11_scratch e8) rfl fe8 rfl rfl rfl ?_
      refine ql_a4 dL_alike_317 ?_
      refine dr_iconst (iI (0)) dL_alike_319 rfl ?_
      obtain ⟨a5, e10, H⟩ := wp_b H
      refine dr_iald dL_alike_320 e10 ?_
      refine dr_ic_ne 352 dL_alike_321 (by decide) (fun c2 => ?_) (fun c2 => ?_)
      · replace H := wp_f c2 H
        refine dr_iconst (iI (0)) dL_alike_352 rfl ?_
        replace H := lp_re H
        exact dr_iret dL_alike_353 rfl rfl H
      · replace H := wp_t c2 H
        refine ql_a0 dL_alike_324 ?_
        refine ql_i3 dL_alike_325 ?_
        refine dr_iconst (iI (1)) dL_alike_326 rfl ?_
        obtain ⟨a6, e11, H⟩ := wp_b H
        obtain ⟨fe11, e11⟩ := dm_cl_some e11
        obtain ⟨a7, e12, H⟩ := wp_b H
        replace e11 := e11.trans (congrArg some (Prod.ext (dm_v_some e12) rfl : a6 = (_, a6.2)))
        refine dc_C2i dL_alike_327 ml_L_107 mc_X11_scratch (c_X11_scratch e11) rfl fe11 rfl rfl rfl ?_
        refine ql_a4 dL_alike_330 ?_
        refine dr_iconst (iI (1)) dL_alike_332 rfl ?_
        obtain ⟨a8, e13, H⟩ := wp_b H
        refine dr_iald dL_alike_333 e13 ?_
        refine dr_ic_ne 352 dL_alike_334 (by decide) (fun c3 => ?_) (fun c3 => ?_)
        · replace H := wp_f c3 H
          refine dr_iconst (iI (0)) dL_alike_352 rfl ?_
          replace H := lp_re H
          exact dr_iret dL_alike_353 rfl rfl H
        · replace H := wp_t c3 H
          refine ql_a0 dL_alike_337 ?_
          refine ql_i3 dL_alike_338 ?_
          refine dr_iconst (iI (2)) dL_alike_339 rfl ?_
          obtain ⟨a9, e14, H⟩ := wp_b H
          obtain ⟨fe14, e14⟩ := dm_cl_some e14
          obtain ⟨a10, e15, H⟩ := wp_b H
          replace e14 := e14.trans (congrArg some (Prod.ext (dm_v_some e15) rfl : a9 = (_, a9.2)))
          refine dc_C2i dL_alike_340 ml_L_107 mc_X11_scratch (c_X11_scratch e14) rfl fe14 rfl rfl rfl ?_
          refine ql_a1 dL_alike_343 ?_
          refine ql_a4 dL_alike_344 ?_
          obtain ⟨u4, e17, H⟩ := wp_b H
          obtain ⟨a11, e16, H⟩ := wp_b H
          refine dc_V1i (C := (RX12, TX12, 11)) dL_alike_346 ml_L_110 mc_X12_spoils (C_X12_spoils e16) (dm_rk_some e17) rfl rfl rfl rfl rfl ?_
          refine dr_ic_eq 354 dL_alike_349 (by decide) (fun c4 => ?_) (fun c4 => ?_)
          · replace H := wp_t c4 H
            refine qn_1_3 dL_alike_354 rfl trivial ?_
            refine dr_goto 283 dL_alike_357 (by decide) ?_
            exact dr_wk (am_s (am_s (am_s (am_s (am_n (am_n (am_n (am_n am_0)))))))) ((lp_in H).2.2.2.2.1 _ _ _ _ _ rfl)
          · replace H := wp_f c4 H
            refine dr_iconst (iI (0)) dL_alike_352 rfl ?_
            replace H := lp_re H
            exact dr_iret dL_alike_353 rfl rfl H
  · subst e
    rw [S_L_alike] at H
    refine ql_i4 dL_alike_487 ?_
    refine dr_bipush (iI (13)) dL_alike_489 rfl ?_
    refine dr_ic_ge 515 dL_alike_491 (by decide) (fun c1 => ?_) (fun c1 => ?_)
    · replace H := wp_t c1 H
      refine dr_iconst (iI (1)) dL_alike_515 rfl ?_
      replace H := lp_re H
      exact dr_iret dL_alike_516 rfl rfl H
    · replace H := wp_f c1 H
      refine ql_a0 dL_alike_494 ?_
      refine ql_i4 dL_alike_495 ?_
      obtain ⟨a1, e1, H⟩ := wp_b H
      obtain ⟨fe1, e1⟩ := dm_cl_some e1
      obtain ⟨a2, e2, H⟩ := wp_b H
      replace e1 := e1.trans (congrArg some (Prod.ext (dm_v_some e2) rfl : a1 = (_, a1.2)))
      refine dc_C1i dL_alike_497 ml_L_138 mc_X11_setting (c_X11_setting e1) rfl fe1 rfl rfl rfl ?_
      refine ql_a3 dL_alike_500 ?_
      refine ql_i4 dL_alike_501 ?_
      obtain ⟨a3, e3, H⟩ := wp_b H
      refine dr_iald dL_alike_503 e3 ?_
      refine dr_ic_eq 509 dL_alike_504 (by decide) (fun c2 => ?_) (fun c2 => ?_)
      · replace H := wp_t c2 H
        refine qn_1_4 dL_alike_509 rfl trivial ?_
        refine dr_goto 487 dL_alike_512 (by decide) ?_
        exact dr_wk (am_s (am_n (am_n (am_s (am_s (am_n (am_n (am_n am_0)))))))) ((lp_in H).2.2.2.2.2 _ _ _ _ rfl)
      · replace H := wp_f c2 H
        refine dr_iconst (iI (0)) dL_alike_507 rfl ?_
        replace H := lp_re H
        exact dr_iret dL_alike_508 rfl rfl H
theorem C_L_alike {X : dm_X} {q1 : am_G × Nat} {h : am_H} {d : dm_D} {a : Int32 × am_H × dm_D} (e : F_L_alike X q1 h d = some a) : dm_Mx X yL_alike cL_alike 8 (some .boolean) 9 192 [am_r (.inl 1) 0, .inr q1] h d (some (am_i a.1)) a.2.1 a.2.2 := by
  refine dm_M.ofx (A := [some (am_r (.inl 1) 0), some (.inr q1), none, none, none, none, none, none]) (by decide +kernel) rfl (ble rfl) (fun Q hQ => ?_)
  have H : wp (F_L_alike X q1 h d) (fun a => Q (some (am_i a.1)) a.2.1 a.2.2) := ⟨_, e, hQ⟩
  unfold F_L_alike at H
  refine dr_iconst (iI (0)) dL_alike_0 rfl ?_
  refine qs_i2 dL_alike_1 rfl trivial ?_
  refine dr_iconst (iI (0)) dL_alike_2 rfl ?_
  refine qs_i3 dL_alike_3 rfl trivial ?_
  exact dr_wk (am_s (am_s (am_s (am_s (am_n (am_n (am_n (am_n am_0)))))))) ((C_L_alike_L _ H).1 _ _ _ _ _ rfl)
noncomputable def F_L_comes_120 (X : dm_X) (q1 : am_G × Nat) (h : am_H) (d : dm_D) : Option (Int32 × am_H × dm_D) :=
  (dm_cl d (f_X11_leastSharp h)).bind (fun a1 => (dm_cl d (f_X11_setting (iI (5)) a1.2)).bind (fun a2 => (dm_v a2.1).bind (fun a3 => if a1.1 ≤ a3 then ((F_L_alike X q1 a2.2 d).bind (fun a4 => if zb a4.1 then (some (a4.1, a4.2.1, a4.2.2)) else none)) else ((dm_cl d (f_X11_sharpen (a1.1 - a3) a2.2)).bind (fun a4 => (dm_v a4.1).bind (fun a5 => if a5 = a1.1 then ((dm_cl d (f_X11_slipsIf a4.2)).bind (fun a6 => if a6.1 = 0 then ((dm_cl d (f_X11_undo a6.2)).bind (fun a7 => if 0 ≤ a7.1 then ((F_L_alike X q1 a7.2 d).bind (fun a8 => if zb a8.1 then (some (a8.1, a8.2.1, a8.2.2)) else none)) else (some ((iI (0)), a7.2, d)))) else (some ((iI (0)), a6.2, d)))) else (some ((iI (0)), a4.2, d))))))))
noncomputable def F_L_comes (X : dm_X) (q1 : am_G × Nat) (h : am_H) (d : dm_D) : Option (Int32 × am_H × dm_D) :=
  (dm_fr d q1 12 6).bind (fun w1 => (dm_rk d w1 16).bind (fun u1 => (F_Jx4a65c_isEmpty_aae02 X w1 d).bind (fun a1 => if a1 = 0 then ((dm_rk d q1 12).bind (fun u2 => (F_X12_engraved X q1 d).bind (fun a2 => (dm_fr a2.2 q1 12 7).bind (fun w2 => (dm_rk a2.2 w2 16).bind (fun u3 => (F_Jx4a65c_size_8abf5 X w2 a2.2).bind (fun a3 => if a2.1 = a3 then (some ((iI (1)), h, a2.2)) else ((dm_fr a2.2 q1 12 9).bind (fun w3 => (dm_rk a2.2 w3 16).bind (fun u4 => (F_Jx4a65c_size_8abf5 X w3 a2.2).bind (fun a4 => if a4 ≤ 0 then ((dm_cl a2.2 (f_X11_slipsIf h)).bind (fun a5 => (dm_cl a2.2 (f_X11_setting (iI (7)) a5.2)).bind (fun a6 => (dm_v a6.1).bind (fun a7 => if (iI (40)) ≤ a5.1 then (F_L_comes_120 X q1 a6.2 a2.2) else ((dm_cl a2.2 (f_X11_engraveAll a6.2)).bind (fun a8 => (dm_v a8.1).bind (fun a9 => (dm_fr a2.2 q1 12 7).bind (fun w4 => (dm_rk a2.2 w4 16).bind (fun u5 => (F_Jx4a65c_size_8abf5 X w4 a2.2).bind (fun a10 => (dm_rk a2.2 q1 12).bind (fun u6 => (F_X12_engraved X q1 a2.2).bind (fun a11 => if a9 = (a10 - a11.1) then ((dm_cl a11.2 (f_X11_setting (iI (7)) a8.2)).bind (fun a12 => (dm_v a12.1).bind (fun a13 => if a13 = (a7 + a5.1) then ((dm_cl a11.2 (f_X11_setting (iI (8)) a12.2)).bind (fun a14 => (dm_v a14.1).bind (fun a15 => (dm_cl a11.2 (f_X11_setting (iI (1)) a14.2)).bind (fun a16 => (dm_v a16.1).bind (fun a17 => if a15 = a17 then ((dm_cl a11.2 (f_X11_undo a16.2)).bind (fun a18 => if 0 ≤ a18.1 then (F_L_comes_120 X q1 a18.2 a11.2) else (some ((iI (0)), a18.2, a11.2)))) else (some ((iI (0)), a16.2, a11.2))))))) else (some ((iI (0)), a12.2, a11.2))))) else (some ((iI (0)), a8.2, a11.2)))))))))))))) else (some ((iI (1)), h, a2.2)))))))))))) else (some ((iI (1)), h, d)))))
theorem C_L_comes_120 {X : dm_X} {q1 : am_G × Nat} {h : am_H} {d : dm_D} {k0 : Nat} {Q : Option am_v → am_H → dm_D → Prop} (H : wp (F_L_comes_120 X q1 h d) (fun a => Q (some (am_i a.1)) a.2.1 a.2.2)) : dm_V RL "comes" cL_comes 7 (some .boolean) 10 219 k0 X (dm_Tm cL_comes (some .boolean) Q) 120 [some (am_r (.inl 1) 0), some (.inr q1), none, none, none, none, none] [] h d := by
  unfold F_L_comes_120 at H
  refine ql_a0 dL_comes_120 ?_
  obtain ⟨a1, e1, H⟩ := wp_b H
  obtain ⟨fe1, e1⟩ := dm_cl_some e1
  refine dc_C0i dL_comes_121 ml_L_207 mc_X11_leastSharp (c_X11_leastSharp e1) rfl fe1 rfl rfl rfl ?_
  refine qs_i4 dL_comes_124 rfl trivial ?_
  refine ql_a0 dL_comes_126 ?_
  refine dr_iconst (iI (5)) dL_comes_127 rfl ?_
  obtain ⟨a2, e2, H⟩ := wp_b H
  obtain ⟨fe2, e2⟩ := dm_cl_some e2
  obtain ⟨a3, e3, H⟩ := wp_b H
  replace e2 := e2.trans (congrArg some (Prod.ext (dm_v_some e3) rfl : a2 = (_, a2.2)))
  refine dc_C1i dL_comes_128 ml_L_138 mc_X11_setting (c_X11_setting e2) rfl fe2 rfl rfl rfl ?_
  refine qs_i5 dL_comes_131 rfl trivial ?_
  refine ql_i4 dL_comes_133 ?_
  refine ql_i5 dL_comes_135 ?_
  refine dr_ic_le 174 dL_comes_137 (by decide) (fun c1 => ?_) (fun c1 => ?_)
  · replace H := wp_t c1 H
    refine ql_a0 dL_comes_174 ?_
    refine ql_a1 dL_comes_175 ?_
    obtain ⟨a4, e4, H⟩ := wp_b H
    refine dc_S2i dL_comes_176 ml_L_210 mc_L_alike (C_L_alike e4) rfl rfl rfl ?_
    obtain ⟨b1, H⟩ := wp_g H
    replace H := wp_s H
    exact dr_iret dL_comes_179 rfl (zb_n b1) H
  · replace H := wp_f c1 H
    refine ql_a0 dL_comes_140 ?_
    refine ql_i4 dL_comes_141 ?_
    refine ql_i5 dL_comes_143 ?_
    refine dr_isub dL_comes_145 ?_
    obtain ⟨a4, e4, H⟩ := wp_b H
    obtain ⟨fe4, e4⟩ := dm_cl_some e4
    obtain ⟨a5, e5, H⟩ := wp_b H
    replace e4 := e4.trans (congrArg some (Prod.ext (dm_v_some e5) rfl : a4 = (_, a4.2)))
    refine dc_C1i dL_comes_146 ml_L_146 mc_X11_sharpen (c_X11_sharpen e4) rfl fe4 rfl rfl rfl ?_
    refine qs_i6 dL_comes_149 rfl trivial ?_
    refine ql_i6 dL_comes_151 ?_
    refine ql_i4 dL_comes_153 ?_
    refine dr_ic_ne 172 dL_comes_155 (by decide) (fun c2 => ?_) (fun c2 => ?_)
    · replace H := wp_f c2 H
      refine dr_iconst (iI (0)) dL_comes_172 rfl ?_
      replace H := wp_s H
      exact dr_iret dL_comes_173 rfl rfl H
    · replace H := wp_t c2 H
      refine ql_a0 dL_comes_158 ?_
      obtain ⟨a6, e6, H⟩ := wp_b H
      obtain ⟨fe6, e6⟩ := dm_cl_some e6
      refine dc_C0i dL_comes_159 ml_L_201 mc_X11_slipsIf (c_X11_slipsIf e6) rfl fe6 rfl rfl rfl ?_
      refine dr_if_ne 172 dL_comes_162 (by decide) (fun c3 => ?_) (fun c3 => ?_)
      · replace H := wp_f c3 H
        refine dr_iconst (iI (0)) dL_comes_172 rfl ?_
        replace H := wp_s H
        exact dr_iret dL_comes_173 rfl rfl H
      · replace H := wp_t c3 H
        refine ql_a0 dL_comes_165 ?_
        obtain ⟨a7, e7, H⟩ := wp_b H
        obtain ⟨fe7, e7⟩ := dm_cl_some e7
        refine dc_C0i dL_comes_166 ml_L_204 mc_X11_undo (c_X11_undo e7) rfl fe7 rfl rfl rfl ?_
        refine dr_if_ge 174 dL_comes_169 (by decide) (fun c4 => ?_) (fun c4 => ?_)
        · replace H := wp_t c4 H
          refine ql_a0 dL_comes_174 ?_
          refine ql_a1 dL_comes_175 ?_
          obtain ⟨a8, e8, H⟩ := wp_b H
          refine dc_S2i dL_comes_176 ml_L_210 mc_L_alike (C_L_alike e8) rfl rfl rfl ?_
          obtain ⟨b1, H⟩ := wp_g H
          replace H := wp_s H
          exact dr_iret dL_comes_179 rfl (zb_n b1) H
        · replace H := wp_f c4 H
          refine dr_iconst (iI (0)) dL_comes_172 rfl ?_
          replace H := wp_s H
          exact dr_iret dL_comes_173 rfl rfl H
theorem C_L_comes {X : dm_X} {q1 : am_G × Nat} {h : am_H} {d : dm_D} {a : Int32 × am_H × dm_D} (e : F_L_comes X q1 h d = some a) : dm_Mx X yL_comes cL_comes 7 (some .boolean) 10 219 [am_r (.inl 1) 0, .inr q1] h d (some (am_i a.1)) a.2.1 a.2.2 := by
  refine dm_M.ofx (A := [some (am_r (.inl 1) 0), some (.inr q1), none, none, none, none, none]) (by decide +kernel) rfl (ble rfl) (fun Q hQ => ?_)
  have H : wp (F_L_comes X q1 h d) (fun a => Q (some (am_i a.1)) a.2.1 a.2.2) := ⟨_, e, hQ⟩
  unfold F_L_comes at H
  refine ql_a1 dL_comes_0 ?_
  obtain ⟨w1, e1, H⟩ := wp_b H
  refine dr_getR dL_comes_1 fg_L_114 e1 ?_
  obtain ⟨u1, e3, H⟩ := wp_b H
  obtain ⟨a1, e2, H⟩ := wp_b H
  refine dc_F0i (C := (RJx4a65c, TJx4a65c, 3)) dL_comes_4 ml_L_155 mf_Jx4a65c_isEmpty_aae02 (List.mem_of_getElem? (i := 1) rfl) (C_Jx4a65c_isEmpty_aae02 e2) (dm_rk_some e3) rfl rfl rfl rfl ?_
  refine dr_if_ne 40 dL_comes_9 (by decide) (fun c1 => ?_) (fun c1 => ?_)
  · replace H := wp_f c1 H
    refine dr_iconst (iI (1)) dL_comes_40 rfl ?_
    replace H := wp_s H
    exact dr_iret dL_comes_41 rfl rfl H
  · replace H := wp_t c1 H
    refine ql_a1 dL_comes_12 ?_
    obtain ⟨u2, e5, H⟩ := wp_b H
    obtain ⟨a2, e4, H⟩ := wp_b H
    refine dc_V0i (C := (RX12, TX12, 11)) dL_comes_13 ml_L_126 mc_X12_engraved (C_X12_engraved e4) (dm_rk_some e5) rfl rfl rfl rfl rfl ?_
    refine ql_a1 dL_comes_16 ?_
    obtain ⟨w2, e6, H⟩ := wp_b H
    refine dr_getR dL_comes_17 fg_L_40 e6 ?_
    obtain ⟨u3, e8, H⟩ := wp_b H
    obtain ⟨a3, e7, H⟩ := wp_b H
    refine dc_F0i (C := (RJx4a65c, TJx4a65c, 3)) dL_comes_20 ml_L_46 mf_Jx4a65c_size_8abf5 (List.mem_of_getElem? (i := 2) rfl) (C_Jx4a65c_size_8abf5 e7) (dm_rk_some e8) rfl rfl rfl rfl ?_
    refine dr_ic_eq 40 dL_comes_25 (by decide) (fun c2 => ?_) (fun c2 => ?_)
    · replace H := wp_t c2 H
      refine dr_iconst (iI (1)) dL_comes_40 rfl ?_
      replace H := wp_s H
      exact dr_iret dL_comes_41 rfl rfl H
    · replace H := wp_f c2 H
      refine ql_a1 dL_comes_28 ?_
      obtain ⟨w3, e9, H⟩ := wp_b H
      refine dr_getR dL_comes_29 fg_L_104 e9 ?_
      obtain ⟨u4, e11, H⟩ := wp_b H
      obtain ⟨a4, e10, H⟩ := wp_b H
      refine dc_F0i (C := (RJx4a65c, TJx4a65c, 3)) dL_comes_32 ml_L_46 mf_Jx4a65c_size_8abf5 (List.mem_of_getElem? (i := 2) rfl) (C_Jx4a65c_size_8abf5 e10) (dm_rk_some e11) rfl rfl rfl rfl ?_
      refine dr_if_le 42 dL_comes_37 (by decide) (fun c3 => ?_) (fun c3 => ?_)
      · replace H := wp_t c3 H
        refine ql_a0 dL_comes_42 ?_
        obtain ⟨a5, e12, H⟩ := wp_b H
        obtain ⟨fe12, e12⟩ := dm_cl_some e12
        refine dc_C0i dL_comes_43 ml_L_201 mc_X11_slipsIf (c_X11_slipsIf e12) rfl fe12 rfl rfl rfl ?_
        refine qs_i2 dL_comes_46 rfl trivial ?_
        refine ql_a0 dL_comes_47 ?_
        refine dr_bipush (iI (7)) dL_comes_48 rfl ?_
        obtain ⟨a6, e13, H⟩ := wp_b H
        obtain ⟨fe13, e13⟩ := dm_cl_some e13
        obtain ⟨a7, e14, H⟩ := wp_b H
        replace e13 := e13.trans (congrArg some (Prod.ext (dm_v_some e14) rfl : a6 = (_, a6.2)))
        refine dc_C1i dL_comes_50 ml_L_138 mc_X11_setting (c_X11_setting e13) rfl fe13 rfl rfl rfl ?_
        refine qs_i3 dL_comes_53 rfl trivial ?_
        refine ql_i2 dL_comes_54 ?_
        refine dr_bipush (iI (40)) dL_comes_55 rfl ?_
        refine dr_ic_ge 120 dL_comes_57 (by decide) (fun c4 => ?_) (fun c4 => ?_)
        · replace H := wp_t c4 H
          exact dr_wk (am_s (am_s (am_n (am_n (am_n (am_n (am_n am_0))))))) (C_L_comes_120 H)
        · replace H := wp_f c4 H
          refine ql_a0 dL_comes_60 ?_
          obtain ⟨a8, e15, H⟩ := wp_b H
          obtain ⟨fe15, e15⟩ := dm_cl_some e15
          obtain ⟨a9, e16, H⟩ := wp_b H
          replace e15 := e15.trans (congrArg some (Prod.ext (dm_v_some e16) rfl : a8 = (_, a8.2)))
          refine dc_C0i dL_comes_61 ml_L_168 mc_X11_engraveAll (c_X11_engraveAll e15) rfl fe15 rfl rfl rfl ?_
          refine qs_i4 dL_comes_64 rfl trivial ?_
          refine ql_i4 dL_comes_66 ?_
          refine ql_a1 dL_comes_68 ?_
          obtain ⟨w4, e17, H⟩ := wp_b H
          refine dr_getR dL_comes_69 fg_L_40 e17 ?_
          obtain ⟨u5, e19, H⟩ := wp_b H
          obtain ⟨a10, e18, H⟩ := wp_b H
          refine dc_F0i (C := (RJx4a65c, TJx4a65c, 3)) dL_comes_72 ml_L_46 mf_Jx4a65c_size_8abf5 (List.mem_of_getElem? (i := 2) rfl) (C_Jx4a65c_size_8abf5 e18) (dm_rk_some e19) rfl rfl rfl rfl ?_
          refine ql_a1 dL_comes_77 ?_
          obtain ⟨u6, e21, H⟩ := wp_b H
          obtain ⟨a11, e20, H⟩ := wp_b H
          refine dc_V0i (C := (RX12, TX12, 11)) dL_comes_78 ml_L_126 mc_X12_engraved (C_X12_engraved e20) (dm_rk_some e21) rfl rfl rfl rfl rfl ?_
          refine dr_isub dL_comes_81 ?_
          refine dr_ic_ne 118 dL_comes_82 (by decide) (fun c5 => ?_) (fun c5 => ?_)
          · replace H := wp_f c5 H
            refine dr_iconst (iI (0)) dL_comes_118 rfl ?_
            replace H := wp_s H
            exact dr_iret dL_comes_119 rfl rfl H
          · replace H := wp_t c5 H
            refine ql_a0 dL_comes_85 ?_
            refine dr_bipush (iI (7)) dL_comes_86 rfl ?_
            obtain ⟨a12, e22, H⟩ := wp_b H
            obtain ⟨fe22, e22⟩ := dm_cl_some e22
            obtain ⟨a13, e23, H⟩ := wp_b H
            replace e22 := e22.trans (congrArg some (Prod.ext (dm_v_some e23) rfl : a12 = (_, a12.2)))
            refine dc_C1i dL_comes_88 ml_L_138 mc_X11_setting (c_X11_setting e22) rfl fe22 rfl rfl rfl ?_
            refine ql_i3 dL_comes_91 ?_
            refine ql_i2 dL_comes_92 ?_
            refine dr_iadd dL_comes_93 ?_
            refine dr_ic_ne 118 dL_comes_94 (by decide) (fun c6 => ?_) (fun c6 => ?_)
            · replace H := wp_f c6 H
              refine dr_iconst (iI (0)) dL_comes_118 rfl ?_
              replace H := wp_s H
              exact dr_iret dL_comes_119 rfl rfl H
            · replace H := wp_t c6 H
              refine ql_a0 dL_comes_97 ?_
              refine dr_bipush (iI (8)) dL_comes_98 rfl ?_
              obtain ⟨a14, e24, H⟩ := wp_b H
              obtain ⟨fe24, e24⟩ := dm_cl_some e24
              obtain ⟨a15, e25, H⟩ := wp_b H
              replace e24 := e24.trans (congrArg some (Prod.ext (dm_v_some e25) rfl : a14 = (_, a14.2)))
              refine dc_C1i dL_comes_100 ml_L_138 mc_X11_setting (c_X11_setting e24) rfl fe24 rfl rfl rfl ?_
              refine ql_a0 dL_comes_103 ?_
              refine dr_iconst (iI (1)) dL_comes_104 rfl ?_
              obtain ⟨a16, e26, H⟩ := wp_b H
              obtain ⟨fe26, e26⟩ := dm_cl_some e26
              obtain ⟨a17, e27, H⟩ := wp_b H
              replace e26 := e26.trans (congrArg some (Prod.ext (dm_v_some e27) rfl : a16 = (_, a16.2)))
              refine dc_C1i dL_comes_105 ml_L_138 mc_X11_setting (c_X11_setting e26) rfl fe26 rfl rfl rfl ?_
              refine dr_ic_ne 118 dL_comes_108 (by decide) (fun c7 => ?_) (fun c7 => ?_)
              · replace H := wp_f c7 H
                refine dr_iconst (iI (0)) dL_comes_118 rfl ?_
                replace H := wp_s H
                exact dr_iret dL_comes_119 rfl rfl H
              · replace H := wp_t c7 H
                refine ql_a0 dL_comes_111 ?_
                obtain ⟨a18, e28, H⟩ := wp_b H
                obtain ⟨fe28, e28⟩ := dm_cl_some e28
                refine dc_C0i dL_comes_112 ml_L_204 mc_X11_undo (c_X11_undo e28) rfl fe28 rfl rfl rfl ?_
                refine dr_if_ge 120 dL_comes_115 (by decide) (fun c8 => ?_) (fun c8 => ?_)
                · replace H := wp_t c8 H
                  exact dr_wk (am_s (am_s (am_n (am_n (am_n (am_n (am_n am_0))))))) (C_L_comes_120 H)
                · replace H := wp_f c8 H
                  refine dr_iconst (iI (0)) dL_comes_118 rfl ?_
                  replace H := wp_s H
                  exact dr_iret dL_comes_119 rfl rfl H
      · replace H := wp_f c3 H
        refine dr_iconst (iI (1)) dL_comes_40 rfl ?_
        replace H := wp_s H
        exact dr_iret dL_comes_41 rfl rfl H
noncomputable def S_L_holds (X : dm_X)  : dm_S (am_H × dm_D) → Option (dm_S (am_H × dm_D) ⊕ (Int32 × am_H × dm_D)) := fun s => match s with
  | (13, [x1, x2, x4], [], (h, d)) => if x1 < x4 then ((dm_cl d (f_X11_setting (iI (4)) h)).bind (fun a1 => (dm_v a1.1).bind (fun a2 => if x2 = a2 then ((dm_na d 0 (iI (20))).bind (fun d1 => some (.inl (242, [x1, (iI (0))], [(.inl 0, d.1)], (a1.2, d1))))) else (some (.inr ((iI (0)), a1.2, d)))))) else ((dm_cl d (f_X11_room x4 h)).bind (fun a1 => (dm_v a1.1).bind (fun a2 => (dm_cl d (f_X11_crowded a1.2)).bind (fun a3 => if ((a3.1 >>> (x4 &&& 31)) &&& (iI (1))) = (iI (1)) then (some (.inl (46, [x1, (x2 + a2), x4, (iI (1))], [], (a3.2, d)))) else (some (.inl (46, [x1, (x2 + a2), x4, (iI (0))], [], (a3.2, d))))))))
  | (46, [x1, x2, x4, y0], [], (h, d)) => (dm_cl d (f_X11_room x4 h)).bind (fun a1 => (dm_v a1.1).bind (fun a2 => (dm_cl d (f_X11_setting (iI (6)) a1.2)).bind (fun a3 => (dm_v a3.1).bind (fun a4 => if ((iI (100)) * a4) ≤ a2 then (some (.inl (69, [x1, x2, x4, y0, (iI (0))], [], (a3.2, d)))) else (some (.inl (69, [x1, x2, x4, y0, (iI (1))], [], (a3.2, d))))))))
  | (69, [x1, x2, x4, y0, y1], [], (h, d)) => if y0 = y1 then ((dm_cl d (f_X11_room x4 h)).bind (fun a1 => (dm_v a1.1).bind (fun a2 => (dm_cl d (f_X11_tightest a1.2)).bind (fun a3 => (dm_cl d (f_X11_room a3.1 a3.2)).bind (fun a4 => (dm_v a4.1).bind (fun a5 => if a5 ≤ a2 then (if x4 = x1 then (some (.inl (13, [x1, x2, (x4 + 1)], [], (a4.2, d)))) else ((dm_cl d (f_X11_letter x4 (iI (1)) a4.2)).bind (fun a6 => (dm_v a6.1).bind (fun a7 => (dm_cl d (f_X11_letter x4 (iI (5)) a6.2)).bind (fun a8 => (dm_v a8.1).bind (fun a9 => (dm_cl d (f_X11_letter x4 (iI (4)) a8.2)).bind (fun a10 => (dm_v a10.1).bind (fun a11 => (dm_cl d (f_X11_letter x4 (iI (1)) a10.2)).bind (fun a12 => (dm_v a12.1).bind (fun a13 => if (a9 - a11) = a13 then ((dm_cl d (f_X11_letter x4 (iI (3)) a12.2)).bind (fun a14 => (dm_v a14.1).bind (fun a15 => (dm_cl d (f_X11_letter x4 (iI (2)) a14.2)).bind (fun a16 => (dm_v a16.1).bind (fun a17 => (dm_cl d (f_X11_partsAt a17 a16.2)).bind (fun a18 => (dm_v a18).bind (fun a19 => if a15 = a19 then ((dm_cl d (f_X11_letter x4 (iI (6)) a16.2)).bind (fun a20 => (dm_v a20.1).bind (fun a21 => (dm_cl d (f_X11_letter x4 (iI (2)) a20.2)).bind (fun a22 => (dm_v a22.1).bind (fun a23 => (dm_cl d (f_X11_heading a23 a22.2)).bind (fun a24 => (dm_v a24).bind (fun a25 => if a21 = a25 then ((dm_cl d (f_X11_letter x4 (iI (8)) a22.2)).bind (fun a26 => (dm_v a26.1).bind (fun a27 => if a27 = 0 then ((dm_cl d (f_X11_letter x4 (iI (12)) a26.2)).bind (fun a28 => (dm_v a28.1).bind (fun a29 => if 0 < a29 then (some (.inr ((iI (0)), a28.2, d))) else (some (.inl (202, [x1, (x2 + a7), x4], [], (a28.2, d))))))) else (some (.inl (202, [x1, (x2 + a7), x4], [], (a26.2, d))))))) else (some (.inr ((iI (0)), a22.2, d)))))))))) else (some (.inr ((iI (0)), a16.2, d)))))))))) else (some (.inr ((iI (0)), a12.2, d))))))))))))) else (some (.inr ((iI (0)), a4.2, d))))))))) else (some (.inr ((iI (0)), h, d)))
  | (202, [x1, x2, x4], [], (h, d)) => (dm_cl d (f_X11_letter x4 (iI (11)) h)).bind (fun a1 => (dm_v a1.1).bind (fun a2 => if a2 ≤ (iI (3)) then (some (.inl (13, [x1, x2, (x4 + 1)], [], (a1.2, d)))) else (some (.inr ((iI (0)), a1.2, d)))))
  | (242, [x1, x5], [q4], (h, d)) => (dm_cl d (f_X11_setting (iI (7)) h)).bind (fun a1 => (dm_v a1.1).bind (fun a2 => if a2 ≤ x5 then (some (.inl (342, [x1, (iI (0))], [q4], (a1.2, d)))) else ((dm_cl d (f_X11_scratch x5 (iI (0)) a1.2)).bind (fun a3 => (dm_v a3.1).bind (fun a4 => (dm_li X d q4 a4).bind (fun a5 => (dm_wi d q4 0 a4 (a5 + (iI (1)))).bind (fun d1 => (dm_cl d1 (f_X11_scratch x5 (iI (2)) a3.2)).bind (fun a6 => (dm_v a6.1).bind (fun a7 => (dm_cl d1 (f_X11_scratch x5 (iI (1)) a6.2)).bind (fun a8 => (dm_v a8.1).bind (fun a9 => if (iI (100)) = 0 then none else (if (a9 - a9 / (iI (100)) * (iI (100))) = 0 then ((dm_cl d1 (f_X11_scratch x5 (iI (1)) a8.2)).bind (fun a10 => (dm_v a10.1).bind (fun a11 => if a11 < (iI (100)) then (some (.inr ((iI (0)), a10.2, d1))) else ((dm_cl d1 (f_X11_scratch x5 (iI (1)) a10.2)).bind (fun a12 => (dm_v a12.1).bind (fun a13 => if (iI (2000)) < a13 then (some (.inr ((iI (0)), a12.2, d1))) else (if a7 < 0 then (some (.inl (242, [x1, (x5 + 1)], [q4], (a12.2, d1)))) else ((dm_cl d1 (f_X11_letter a7 (iI (9)) a12.2)).bind (fun a14 => (dm_v a14.1).bind (fun a15 => if a15 = (iI (1)) then (some (.inl (242, [x1, (x5 + 1)], [q4], (a14.2, d1)))) else (some (.inr ((iI (0)), a14.2, d1))))))))))))) else (some (.inr ((iI (0)), a8.2, d1)))))))))))))))
  | (342, [x1, x5], [q4], (h, d)) => if x1 ≤ x5 then (some (.inl (378, [x1, (iI (0)), (iI (0))], [], (h, d)))) else ((dm_li X d q4 x5).bind (fun a1 => (dm_cl d (f_X11_letter x5 (iI (12)) h)).bind (fun a2 => (dm_v a2.1).bind (fun a3 => if a1 = a3 then (some (.inl (342, [x1, (x5 + 1)], [q4], (a2.2, d)))) else (some (.inr ((iI (0)), a2.2, d)))))))
  | (378, [x1, x5, x6], [], (h, d)) => if x1 < x6 then (some (.inl (412, [x5, (iI (0))], [], (h, d)))) else ((dm_cl d (f_X11_flourishIn x6 h)).bind (fun a1 => (dm_v a1.1).bind (fun a2 => if 0 ≤ a2 then (some (.inl (378, [x1, (x5 + (iI (1))), (x6 + 1)], [], (a1.2, d)))) else (some (.inl (378, [x1, (x5 + (iI (0))), (x6 + 1)], [], (a1.2, d)))))))
  | (412, [x5, x6], [], (h, d)) => (dm_cl d (f_X11_setting (iI (2)) h)).bind (fun a1 => (dm_v a1.1).bind (fun a2 => if a2 ≤ x6 then ((dm_cl d (f_X11_worth a1.2)).bind (fun a3 => if a3.1 < x5 then (some (.inr ((iI (0)), a3.2, d))) else (some (.inr ((iI (1)), a3.2, d))))) else ((dm_cl d (f_X11_stockLeft x6 a1.2)).bind (fun a3 => (dm_v a3.1).bind (fun a4 => if 0 ≤ a4 then (some (.inl (412, [x5, (x6 + 1)], [], (a3.2, d)))) else (some (.inr ((iI (0)), a3.2, d))))))))
  | _ => none
noncomputable def F_L_holds_13 (X : dm_X) (x1 : Int32) (x2 : Int32) (x4 : Int32) (h : am_H) (d : dm_D) : Option (Int32 × am_H × dm_D) := lp (S_L_holds X) (13, [x1, x2, x4], [], (h, d))
noncomputable def F_L_holds_46 (X : dm_X) (x1 : Int32) (x2 : Int32) (x4 : Int32) (y0 : Int32) (h : am_H) (d : dm_D) : Option (Int32 × am_H × dm_D) := lp (S_L_holds X) (46, [x1, x2, x4, y0], [], (h, d))
noncomputable def F_L_holds_69 (X : dm_X) (x1 : Int32) (x2 : Int32) (x4 : Int32) (y0 : Int32) (y1 : Int32) (h : am_H) (d : dm_D) : Option (Int32 × am_H × dm_D) := lp (S_L_holds X) (69, [x1, x2, x4, y0, y1], [], (h, d))
noncomputable def F_L_holds_202 (X : dm_X) (x1 : Int32) (x2 : Int32) (x4 : Int32) (h : am_H) (d : dm_D) : Option (Int32 × am_H × dm_D) := lp (S_L_holds X) (202, [x1, x2, x4], [], (h, d))
noncomputable def F_L_holds_242 (X : dm_X) (x1 : Int32) (q4 : am_G × Nat) (x5 : Int32) (h : am_H) (d : dm_D) : Option (Int32 × am_H × dm_D) := lp (S_L_holds X) (242, [x1, x5], [q4], (h, d))
noncomputable def F_L_holds_342 (X : dm_X) (x1 : Int32) (q4 : am_G × Nat) (x5 : Int32) (h : am_H) (d : dm_D) : Option (Int32 × am_H × dm_D) := lp (S_L_holds X) (342, [x1, x5], [q4], (h, d))
noncomputable def F_L_holds_378 (X : dm_X) (x1 : Int32) (x5 : Int32) (x6 : Int32) (h : am_H) (d : dm_D) : Option (Int32 × am_H × dm_D) := lp (S_L_holds X) (378, [x1, x5, x6], [], (h, d))
noncomputable def F_L_holds_412 (X : dm_X) (x5 : Int32) (x6 : Int32) (h : am_H) (d : dm_D) : Option (Int32 × am_H × dm_D) := lp (S_L_holds X) (412, [x5, x6], [], (h, d))
theorem E_L_holds_13 (X : dm_X) (x1 : Int32) (x2 : Int32) (x4 : Int32) (h : am_H) (d : dm_D) : F_L_holds_13 X x1 x2 x4 h d = (if x1 < x4 then ((dm_cl d (f_X11_setting (iI (4)) h)).bind (fun a1 => (dm_v a1.1).bind (fun a2 => if x2 = a2 then ((dm_na d 0 (iI (20))).bind (fun d1 => F_L_holds_242 X x1 (.inl 0, d.1) (iI (0)) a1.2 d1)) else (some ((iI (0)), a1.2, d))))) else ((dm_cl d (f_X11_room x4 h)).bind (fun a1 => (dm_v a1.1).bind (fun a2 => (dm_cl d (f_X11_crowded a1.2)).bind (fun a3 => if ((a3.1 >>> (x4 &&& 31)) &&& (iI (1))) = (iI (1)) then (F_L_holds_46 X x1 (x2 + a2) x4 (iI (1)) a3.2 d) else (F_L_holds_46 X x1 (x2 + a2) x4 (iI (0)) a3.2 d)))))) := by
  show lp _ _ = _
  rw [lp_eq, S_L_holds]
  simp only [lpk_i, lpk_b, lpk_n, lpk_j, lpk_r] <;> rfl
theorem E_L_holds_46 (X : dm_X) (x1 : Int32) (x2 : Int32) (x4 : Int32) (y0 : Int32) (h : am_H) (d : dm_D) : F_L_holds_46 X x1 x2 x4 y0 h d = ((dm_cl d (f_X11_room x4 h)).bind (fun a1 => (dm_v a1.1).bind (fun a2 => (dm_cl d (f_X11_setting (iI (6)) a1.2)).bind (fun a3 => (dm_v a3.1).bind (fun a4 => if ((iI (100)) * a4) ≤ a2 then (F_L_holds_69 X x1 x2 x4 y0 (iI (0)) a3.2 d) else (F_L_holds_69 X x1 x2 x4 y0 (iI (1)) a3.2 d)))))) := by
  show lp _ _ = _
  rw [lp_eq, S_L_holds]
  simp only [lpk_i, lpk_b, lpk_n, lpk_j, lpk_r] <;> rfl
theorem E_L_holds_69 (X : dm_X) (x1 : Int32) (x2 : Int32) (x4 : Int32) (y0 : Int32) (y1 : Int32) (h : am_H) (d : dm_D) : F_L_holds_69 X x1 x2 x4 y0 y1 h d = (if y0 = y1 then ((dm_cl d (f_X11_room x4 h)).bind (fun a1 => (dm_v a1.1).bind (fun a2 => (dm_cl d (f_X11_tightest a1.2)).bind (fun a3 => (dm_cl d (f_X11_room a3.1 a3.2)).bind (fun a4 => (dm_v a4.1).bind (fun a5 => if a5 ≤ a2 then (if x4 = x1 then (F_L_holds_13 X x1 x2 (x4 + 1) a4.2 d) else ((dm_cl d (f_X11_letter x4 (iI (1)) a4.2)).bind (fun a6 => (dm_v a6.1).bind (fun a7 => (dm_cl d (f_X11_letter x4 (iI (5)) a6.2)).bind (fun a8 => (dm_v a8.1).bind (fun a9 => (dm_cl d (f_X11_letter x4 (iI (4)) a8.2)).bind (fun a10 => (dm_v a10.1).bind (fun a11 => (dm_cl d (f_X11_letter x4 (iI (1)) a10.2)).bind (fun a12 => (dm_v a12.1).bind (fun a13 => if (a9 - a11) = a13 then ((dm_cl d (f_X11_letter x4 (iI (3)) a12.2)).bind (fun a14 => (dm_v a14.1).bind (fun a15 => (dm_cl d (f_X11_letter x4 (iI (2)) a14.2)).bind (fun a16 => (dm_v a16.1).bind (fun a17 => (dm_cl d (f_X11_partsAt a17 a16.2)).bind (fun a18 => (dm_v a18).bind (fun a19 => if a15 = a19 then ((dm_cl d (f_X11_letter x4 (iI (6)) a16.2)).bind (fun a20 => (dm_v a20.1).bind (fun a21 => (dm_cl d (f_X11_letter x4 (iI (2)) a20.2)).bind (fun a22 => (dm_v a22.1).bind (fun a23 => (dm_cl d (f_X11_heading a23 a22.2)).bind (fun a24 => (dm_v a24).bind (fun a25 => if a21 = a25 then ((dm_cl d (f_X11_letter x4 (iI (8)) a22.2)).bind (fun a26 => (dm_v a26.1).bind (fun a27 => if a27 = 0 then ((dm_cl d (f_X11_letter x4 (iI (12)) a26.2)).bind (fun a28 => (dm_v a28.1).bind (fun a29 => if 0 < a29 then (some ((iI (0)), a28.2, d)) else (F_L_holds_202 X x1 (x2 + a7) x4 a28.2 d)))) else (F_L_holds_202 X x1 (x2 + a7) x4 a26.2 d)))) else (some ((iI (0)), a22.2, d))))))))) else (some ((iI (0)), a16.2, d))))))))) else (some ((iI (0)), a12.2, d)))))))))))) else (some ((iI (0)), a4.2, d)))))))) else (some ((iI (0)), h, d))) := by
  show lp _ _ = _
  rw [lp_eq, S_L_holds]
  simp only [lpk_i, lpk_b, lpk_n, lpk_j, lpk_r] <;> rfl
theorem E_L_holds_202 (X : dm_X) (x1 : Int32) (x2 : Int32) (x4 : Int32) (h : am_H) (d : dm_D) : F_L_holds_202 X x1 x2 x4 h d = ((dm_cl d (f_X11_letter x4 (iI (11)) h)).bind (fun a1 => (dm_v a1.1).bind (fun a2 => if a2 ≤ (iI (3)) then (F_L_holds_13 X x1 x2 (x4 + 1) a1.2 d) else (some ((iI (0)), a1.2, d))))) := by
  show lp _ _ = _
  rw [lp_eq, S_L_holds]
  simp only [lpk_i, lpk_b, lpk_n, lpk_j, lpk_r] <;> rfl
theorem E_L_holds_242 (X : dm_X) (x1 : Int32) (q4 : am_G × Nat) (x5 : Int32) (h : am_H) (d : dm_D) : F_L_holds_242 X x1 q4 x5 h d = ((dm_cl d (f_X11_setting (iI (7)) h)).bind (fun a1 => (dm_v a1.1).bind (fun a2 => if a2 ≤ x5 then (F_L_holds_342 X x1 q4 (iI (0)) a1.2 d) else ((dm_cl d (f_X11_scratch x5 (iI (0)) a1.2)).bind (fun a3 => (dm_v a3.1).bind (fun a4 => (dm_li X d q4 a4).bind (fun a5 => (dm_wi d q4 0 a4 (a5 + (iI (1)))).bind (fun d1 => (dm_cl d1 (f_X11_scratch x5 (iI (2)) a3.2)).bind (fun a6 => (dm_v a6.1).bind (fun a7 => (dm_cl d1 (f_X11_scratch x5 (iI (1)) a6.2)).bind (fun a8 => (dm_v a8.1).bind (fun a9 => if (iI (100)) = 0 then none else (if (a9 - a9 / (iI (100)) * (iI (100))) = 0 then ((dm_cl d1 (f_X11_scratch x5 (iI (1)) a8.2)).bind (fun a10 => (dm_v a10.1).bind (fun a11 => if a11 < (iI (100)) then (some ((iI (0)), a10.2, d1)) else ((dm_cl d1 (f_X11_scratch x5 (iI (1)) a10.2)).bind (fun a12 => (dm_v a12.1).bind (fun a13 => if (iI (2000)) < a13 then (some ((iI (0)), a12.2, d1)) else (if a7 < 0 then (F_L_holds_242 X x1 q4 (x5 + 1) a12.2 d1) else ((dm_cl d1 (f_X11_letter a7 (iI (9)) a12.2)).bind (fun a14 => (dm_v a14.1).bind (fun a15 => if a15 = (iI (1)) then (F_L_holds_242 X x1 q4 (x5 + 1) a14.2 d1) else (some ((iI (0)), a14.2, d1)))))))))))) else (some ((iI (0)), a8.2, d1))))))))))))))) := by
  show lp _ _ = _
  rw [lp_eq, S_L_holds]
  simp only [lpk_i, lpk_b, lpk_n, lpk_j, lpk_r] <;> rfl
theorem E_L_holds_342 (X : dm_X) (x1 : Int32) (q4 : am_G × Nat) (x5 : Int32) (h : am_H) (d : dm_D) : F_L_holds_342 X x1 q4 x5 h d = (if x1 ≤ x5 then (F_L_holds_378 X x1 (iI (0)) (iI (0)) h d) else ((dm_li X d q4 x5).bind (fun a1 => (dm_cl d (f_X11_letter x5 (iI (12)) h)).bind (fun a2 => (dm_v a2.1).bind (fun a3 => if a1 = a3 then (F_L_holds_342 X x1 q4 (x5 + 1) a2.2 d) else (some ((iI (0)), a2.2, d))))))) := by
  show lp _ _ = _
  rw [lp_eq, S_L_holds]
  simp only [lpk_i, lpk_b, lpk_n, lpk_j, lpk_r] <;> rfl
theorem E_L_holds_378 (X : dm_X) (x1 : Int32) (x5 : Int32) (x6 : Int32) (h : am_H) (d : dm_D) : F_L_holds_378 X x1 x5 x6 h d = (if x1 < x6 then (F_L_holds_412 X x5 (iI (0)) h d) else ((dm_cl d (f_X11_flourishIn x6 h)).bind (fun a1 => (dm_v a1.1).bind (fun a2 => if 0 ≤ a2 then (F_L_holds_378 X x1 (x5 + (iI (1))) (x6 + 1) a1.2 d) else (F_L_holds_378 X x1 (x5 + (iI (0))) (x6 + 1) a1.2 d))))) := by
  show lp _ _ = _
  rw [lp_eq, S_L_holds]
  simp only [lpk_i, lpk_b, lpk_n, lpk_j, lpk_r] <;> rfl
theorem E_L_holds_412 (X : dm_X) (x5 : Int32) (x6 : Int32) (h : am_H) (d : dm_D) : F_L_holds_412 X x5 x6 h d = ((dm_cl d (f_X11_setting (iI (2)) h)).bind (fun a1 => (dm_v a1.1).bind (fun a2 => if a2 ≤ x6 then ((dm_cl d (f_X11_worth a1.2)).bind (fun a3 => if a3.1 < x5 then (some ((iI (0)), a3.2, d)) else (some ((iI (1)), a3.2, d)))) else ((dm_cl d (f_X11_stockLeft x6 a1.2)).bind (fun a3 => (dm_v a3.1).bind (fun a4 => if 0 ≤ a4 then (F_L_holds_412 X x5 (x6 + 1) a3.2 d) else (some ((iI (0)), a3.2, d)))))))) := by
  show lp _ _ = _
  rw [lp_eq, S_L_holds]
  simp only [lpk_i, lpk_b, lpk_n, lpk_j, lpk_r] <;> rfl
noncomputable def F_L_holds (X : dm_X)  (h : am_H) (d : dm_D) : Option (Int32 × am_H × dm_D) :=
  (dm_cl d (f_X11_setting (iI (1)) h)).bind (fun a1 => (dm_v a1.1).bind (fun a2 => F_L_holds_13 X a2 (iI (0)) (iI (0)) a1.2 d))
theorem C_L_holds_L {X : dm_X} {k0 : Nat} {Q : Option am_v → am_H → dm_D → Prop} : ∀ s, wp (lp (S_L_holds X) s) (fun a => Q (some (am_i a.1)) a.2.1 a.2.2) → ((∀ x1 x2 x4 h d, s = (13, [x1, x2, x4], [], (h, d)) → dm_V RL "holds" cL_holds 7 (some .boolean) 6 136 k0 X (dm_Tm cL_holds (some .boolean) Q) 13 [some (am_r (.inl 1) 0), some (am_i x1), some (am_i x2), none, some (am_i x4), none, none] [] h d) ∧ (∀ x1 x2 x4 y0 h d, s = (46, [x1, x2, x4, y0], [], (h, d)) → dm_V RL "holds" cL_holds 7 (some .boolean) 6 136 k0 X (dm_Tm cL_holds (some .boolean) Q) 46 [some (am_r (.inl 1) 0), some (am_i x1), some (am_i x2), none, some (am_i x4), none, none] [am_i y0] h d) ∧ (∀ x1 x2 x4 y0 y1 h d, s = (69, [x1, x2, x4, y0, y1], [], (h, d)) → dm_V RL "holds" cL_holds 7 (some .boolean) 6 136 k0 X (dm_Tm cL_holds (some .boolean) Q) 69 [some (am_r (.inl 1) 0), some (am_i x1), some (am_i x2), none, some (am_i x4), none, none] [am_i y1, am_i y0] h d) ∧ (∀ x1 x2 x4 h d, s = (202, [x1, x2, x4], [], (h, d)) → dm_V RL "holds" cL_holds 7 (some .boolean) 6 136 k0 X (dm_Tm cL_holds (some .boolean) Q) 202 [some (am_r (.inl 1) 0), some (am_i x1), some (am_i x2), none, some (am_i x4), none, none] [] h d) ∧ (∀ x1 q4 x5 h d, s = (242, [x1, x5], [q4], (h, d)) → dm_V RL "holds" cL_holds 7 (some .boolean) 6 136 k0 X (dm_Tm cL_holds (some .boolean) Q) 242 [some (am_r (.inl 1) 0), some (am_i x1), none, none, some (.inr q4), some (am_i x5), none] [] h d) ∧ (∀ x1 q4 x5 h d, s = (342, [x1, x5], [q4], (h, d)) → dm_V RL "holds" cL_holds 7 (some .boolean) 6 136 k0 X (dm_Tm cL_holds (some .boolean) Q) 342 [some (am_r (.inl 1) 0), some (am_i x1), none, none, some (.inr q4), some (am_i x5), none] [] h d) ∧ (∀ x1 x5 x6 h d, s = (378, [x1, x5, x6], [], (h, d)) → dm_V RL "holds" cL_holds 7 (some .boolean) 6 136 k0 X (dm_Tm cL_holds (some .boolean) Q) 378 [some (am_r (.inl 1) 0), some (am_i x1), none, none, none, some (am_i x5), some (am_i x6)] [] h d) ∧ (∀ x5 x6 h d, s = (412, [x5, x6], [], (h, d)) → dm_V RL "holds" cL_holds 7 (some .boolean) 6 136 k0 X (dm_Tm cL_holds (some .boolean) Q) 412 [some (am_r (.inl 1) 0), none, none, none, none, some (am_i x5), some (am_i x6)] [] h d)) := by
  refine lp_ind _ _ (fun s H => ⟨fun x1 x2 x4 h d e => ?_, fun x1 x2 x4 y0 h d e => ?_, fun x1 x2 x4 y0 y1 h d e => ?_, fun x1 x2 x4 h d e => ?_, fun x1 q4 x5 h d e => ?_, fun x1 q4 x5 h d e => ?_, fun x1 x5 x6 h d e => ?_, fun x5 x6 h d e => ?_⟩)
  · subst e
    rw [S_L_holds] at H
    refine ql_i4 dL_holds_13 ?_
    refine ql_i1 dL_holds_15 ?_
    refine dr_ic_gt 222 dL_holds_16 (by decide) (fun c1 => ?_) (fun c1 => ?_)
    · replace H := wp_t c1 H
      refine ql_i2 dL_holds_222 ?_
      refine ql_a0 dL_holds_223 ?_
      refine dr_iconst (iI (4)) dL_holds_224 rfl ?_
      obtain ⟨a1, e1, H⟩ := wp_b H
      obtain ⟨fe1, e1⟩ := dm_cl_some e1
      obtain ⟨a2, e2, H⟩ := wp_b H
      replace e1 := e1.trans (congrArg some (Prod.ext (dm_v_some e2) rfl : a1 = (_, a1.2)))
      refine dc_C1i dL_holds_225 ml_L_138 mc_X11_setting (c_X11_setting e1) rfl fe1 rfl rfl rfl ?_
      refine dr_ic_eq 233 dL_holds_228 (by decide) (fun c2 => ?_) (fun c2 => ?_)
      · replace H := wp_t c2 H
        refine dr_bipush (iI (20)) dL_holds_233 rfl ?_
        obtain ⟨d1, e3, H⟩ := wp_b H
        refine dr_newa dL_holds_235 na_int (fun _ => rfl) (by decide) (fun _ _ => rfl) e3 ?_
        refine qs_a4 dL_holds_237 rfl trivial ?_
        refine dr_iconst (iI (0)) dL_holds_239 rfl ?_
        refine qs_i5 dL_holds_240 rfl trivial ?_
        exact dr_wk (am_s (am_s (am_n (am_n (am_s (am_s (am_n am_0))))))) ((lp_in H).2.2.2.2.1 _ _ _ _ _ rfl)
      · replace H := wp_f c2 H
        refine dr_iconst (iI (0)) dL_holds_231 rfl ?_
        replace H := lp_re H
        exact dr_iret dL_holds_232 rfl rfl H
    · replace H := wp_f c1 H
      refine ql_i2 dL_holds_19 ?_
      refine ql_a0 dL_holds_20 ?_
      refine ql_i4 dL_holds_21 ?_
      obtain ⟨a1, e1, H⟩ := wp_b H
      obtain ⟨fe1, e1⟩ := dm_cl_some e1
      obtain ⟨a2, e2, H⟩ := wp_b H
      replace e1 := e1.trans (congrArg some (Prod.ext (dm_v_some e2) rfl : a1 = (_, a1.2)))
      refine dc_C1i dL_holds_23 ml_L_177 mc_X11_room (c_X11_room e1) rfl fe1 rfl rfl rfl ?_
      refine dr_iadd dL_holds_26 ?_
      refine qs_i2 dL_holds_27 rfl trivial ?_
      refine ql_a0 dL_holds_28 ?_
      obtain ⟨a3, e3, H⟩ := wp_b H
      obtain ⟨fe3, e3⟩ := dm_cl_some e3
      refine dc_C0i dL_holds_29 ml_L_180 mc_X11_crowded (c_X11_crowded e3) rfl fe3 rfl rfl rfl ?_
      refine ql_i4 dL_holds_32 ?_
      refine dr_ishr dL_holds_34 ?_
      refine dr_iconst (iI (1)) dL_holds_35 rfl ?_
      refine dr_iand dL_holds_36 ?_
      refine dr_iconst (iI (1)) dL_holds_37 rfl ?_
      refine dr_ic_ne 45 dL_holds_38 (by decide) (fun c2 => ?_) (fun c2 => ?_)
      · replace H := wp_f c2 H
        refine dr_iconst (iI (0)) dL_holds_45 rfl ?_
        exact dr_wk (am_s (am_s (am_s (am_n (am_s (am_n (am_n am_0))))))) ((lp_in H).2.1 _ _ _ _ _ _ rfl)
      · replace H := wp_t c2 H
        refine dr_iconst (iI (1)) dL_holds_41 rfl ?_
        refine dr_goto 46 dL_holds_42 (by decide) ?_
        exact dr_wk (am_s (am_s (am_s (am_n (am_s (am_n (am_n am_0))))))) ((lp_in H).2.1 _ _ _ _ _ _ rfl)
  · subst e
    rw [S_L_holds] at H
    refine ql_a0 dL_holds_46 ?_
    refine ql_i4 dL_holds_47 ?_
    obtain ⟨a1, e1, H⟩ := wp_b H
    obtain ⟨fe1, e1⟩ := dm_cl_some e1
    obtain ⟨a2, e2, H⟩ := wp_b H
    replace e1 := e1.trans (congrArg some (Prod.ext (dm_v_some e2) rfl : a1 = (_, a1.2)))
    refine dc_C1i dL_holds_49 ml_L_177 mc_X11_room (c_X11_room e1) rfl fe1 rfl rfl rfl ?_
    refine dr_bipush (iI (100)) dL_holds_52 rfl ?_
    refine ql_a0 dL_holds_54 ?_
    refine dr_bipush (iI (6)) dL_holds_55 rfl ?_
    obtain ⟨a3, e3, H⟩ := wp_b H
    obtain ⟨fe3, e3⟩ := dm_cl_some e3
    obtain ⟨a4, e4, H⟩ := wp_b H
    replace e3 := e3.trans (congrArg some (Prod.ext (dm_v_some e4) rfl : a3 = (_, a3.2)))
    refine dc_C1i dL_holds_57 ml_L_138 mc_X11_setting (c_X11_setting e3) rfl fe3 rfl rfl rfl ?_
    refine dr_imul dL_holds_60 ?_
    refine dr_ic_ge 68 dL_holds_61 (by decide) (fun c1 => ?_) (fun c1 => ?_)
    · replace H := wp_t c1 H
      refine dr_iconst (iI (0)) dL_holds_68 rfl ?_
      exact dr_wk (am_s (am_s (am_s (am_n (am_s (am_n (am_n am_0))))))) ((lp_in H).2.2.1 _ _ _ _ _ _ _ rfl)
    · replace H := wp_f c1 H
      refine dr_iconst (iI (1)) dL_holds_64 rfl ?_
      refine dr_goto 69 dL_holds_65 (by decide) ?_
      exact dr_wk (am_s (am_s (am_s (am_n (am_s (am_n (am_n am_0))))))) ((lp_in H).2.2.1 _ _ _ _ _ _ _ rfl)
  · subst e
    rw [S_L_holds] at H
    refine dr_ic_ne 89 dL_holds_69 (by decide) (fun c1 => ?_) (fun c1 => ?_)
    · replace H := wp_f c1 H
      refine dr_iconst (iI (0)) dL_holds_89 rfl ?_
      replace H := lp_re H
      exact dr_iret dL_holds_90 rfl rfl H
    · replace H := wp_t c1 H
      refine ql_a0 dL_holds_72 ?_
      refine ql_i4 dL_holds_73 ?_
      obtain ⟨a1, e1, H⟩ := wp_b H
      obtain ⟨fe1, e1⟩ := dm_cl_some e1
      obtain ⟨a2, e2, H⟩ := wp_b H
      replace e1 := e1.trans (congrArg some (Prod.ext (dm_v_some e2) rfl : a1 = (_, a1.2)))
      refine dc_C1i dL_holds_75 ml_L_177 mc_X11_room (c_X11_room e1) rfl fe1 rfl rfl rfl ?_
      refine ql_a0 dL_holds_78 ?_
      refine ql_a0 dL_holds_79 ?_
      obtain ⟨a3, e3, H⟩ := wp_b H
      obtain ⟨fe3, e3⟩ := dm_cl_some e3
      refine dc_C0i dL_holds_80 ml_L_183 mc_X11_tightest (c_X11_tightest e3) rfl fe3 rfl rfl rfl ?_
      obtain ⟨a4, e4, H⟩ := wp_b H
      obtain ⟨fe4, e4⟩ := dm_cl_some e4
      obtain ⟨a5, e5, H⟩ := wp_b H
      replace e4 := e4.trans (congrArg some (Prod.ext (dm_v_some e5) rfl : a4 = (_, a4.2)))
      refine dc_C1i dL_holds_83 ml_L_177 mc_X11_room (c_X11_room e4) rfl fe4 rfl rfl rfl ?_
      refine dr_ic_ge 91 dL_holds_86 (by decide) (fun c2 => ?_) (fun c2 => ?_)
      · replace H := wp_t c2 H
        refine ql_i4 dL_holds_91 ?_
        refine ql_i1 dL_holds_93 ?_
        refine dr_ic_ne 100 dL_holds_94 (by decide) (fun c3 => ?_) (fun c3 => ?_)
        · replace H := wp_f c3 H
          refine ql_i2 dL_holds_100 ?_
          refine ql_a0 dL_holds_101 ?_
          refine ql_i4 dL_holds_102 ?_
          refine dr_iconst (iI (1)) dL_holds_104 rfl ?_
          obtain ⟨a6, e6, H⟩ := wp_b H
          obtain ⟨fe6, e6⟩ := dm_cl_some e6
          obtain ⟨a7, e7, H⟩ := wp_b H
          replace e6 := e6.trans (congrArg some (Prod.ext (dm_v_some e7) rfl : a6 = (_, a6.2)))
          refine dc_C2i dL_holds_105 ml_L_83 mc_X11_letter (c_X11_letter e6) rfl fe6 rfl rfl rfl ?_
          refine dr_iadd dL_holds_108 ?_
          refine qs_i2 dL_holds_109 rfl trivial ?_
          refine ql_a0 dL_holds_110 ?_
          refine ql_i4 dL_holds_111 ?_
          refine dr_iconst (iI (5)) dL_holds_113 rfl ?_
          obtain ⟨a8, e8, H⟩ := wp_b H
          obtain ⟨fe8, e8⟩ := dm_cl_some e8
          obtain ⟨a9, e9, H⟩ := wp_b H
          replace e8 := e8.trans (congrArg some (Prod.ext (dm_v_some e9) rfl : a8 = (_, a8.2)))
          refine dc_C2i dL_holds_114 ml_L_83 mc_X11_letter (c_X11_letter e8) rfl fe8 rfl rfl rfl ?_
          refine ql_a0 dL_holds_117 ?_
          refine ql_i4 dL_holds_118 ?_
          refine dr_iconst (iI (4)) dL_holds_120 rfl ?_
          obtain ⟨a10, e10, H⟩ := wp_b H
          obtain ⟨fe10, e10⟩ := dm_cl_some e10
          obtain ⟨a11, e11, H⟩ := wp_b H
          replace e10 := e10.trans (congrArg some (Prod.ext (dm_v_some e11) rfl : a10 = (_, a10.2)))
          refine dc_C2i dL_holds_121 ml_L_83 mc_X11_letter (c_X11_letter e10) rfl fe10 rfl rfl rfl ?_
          refine dr_isub dL_holds_124 ?_
          refine ql_a0 dL_holds_125 ?_
          refine ql_i4 dL_holds_126 ?_
          refine dr_iconst (iI (1)) dL_holds_128 rfl ?_
          obtain ⟨a12, e12, H⟩ := wp_b H
          obtain ⟨fe12, e12⟩ := dm_cl_some e12
          obtain ⟨a13, e13, H⟩ := wp_b H
          replace e12 := e12.trans (congrArg some (Prod.ext (dm_v_some e13) rfl : a12 = (_, a12.2)))
          refine dc_C2i dL_holds_129 ml_L_83 mc_X11_letter (c_X11_letter e12) rfl fe12 rfl rfl rfl ?_
          refine dr_ic_ne 178 dL_holds_132 (by decide) (fun c4 => ?_) (fun c4 => ?_)
          · replace H := wp_f c4 H
            refine dr_iconst (iI (0)) dL_holds_178 rfl ?_
            replace H := lp_re H
            exact dr_iret dL_holds_179 rfl rfl H
          · replace H := wp_t c4 H
            refine ql_a0 dL_holds_135 ?_
            refine ql_i4 dL_holds_136 ?_
            refine dr_iconst (iI (3)) dL_holds_138 rfl ?_
            obtain ⟨a14, e14, H⟩ := wp_b H
            obtain ⟨fe14, e14⟩ := dm_cl_some e14
            obtain ⟨a15, e15, H⟩ := wp_b H
            replace e14 := e14.trans (congrArg some (Prod.ext (dm_v_some e15) rfl : a14 = (_, a14.2)))
            refine dc_C2i dL_holds_139 ml_L_83 mc_X11_letter (c_X11_letter e14) rfl fe14 rfl rfl rfl ?_
            refine ql_a0 dL_holds_142 ?_
            refine ql_a0 dL_holds_143 ?_
            refine ql_i4 dL_holds_144 ?_
            refine dr_iconst (iI (2)) dL_holds_146 rfl ?_
            obtain ⟨a16, e16, H⟩ := wp_b H
            obtain ⟨fe16, e16⟩ := dm_cl_some e16
            obtain ⟨a17, e17, H⟩ := wp_b H
            replace e16 := e16.trans (congrArg some (Prod.ext (dm_v_some e17) rfl : a16 = (_, a16.2)))
            refine dc_C2i dL_holds_147 ml_L_83 mc_X11_letter (c_X11_letter e16) rfl fe16 rfl rfl rfl ?_
            obtain ⟨a18, e18, H⟩ := wp_b H
            obtain ⟨fe18, e18⟩ := dm_cl_some e18
            obtain ⟨a19, e19, H⟩ := wp_b H
            replace e18 := e18.trans (congrArg some (dm_v_some e19))
            refine dc_C1i dL_holds_150 ml_L_186 mc_X11_partsAt (c_X11_partsAt e18) rfl fe18 rfl rfl rfl ?_
            refine dr_ic_ne 178 dL_holds_153 (by decide) (fun c5 => ?_) (fun c5 => ?_)
            · replace H := wp_f c5 H
              refine dr_iconst (iI (0)) dL_holds_178 rfl ?_
              replace H := lp_re H
              exact dr_iret dL_holds_179 rfl rfl H
            · replace H := wp_t c5 H
              refine ql_a0 dL_holds_156 ?_
              refine ql_i4 dL_holds_157 ?_
              refine dr_bipush (iI (6)) dL_holds_159 rfl ?_
              obtain ⟨a20, e20, H⟩ := wp_b H
              obtain ⟨fe20, e20⟩ := dm_cl_some e20
              obtain ⟨a21, e21, H⟩ := wp_b H
              replace e20 := e20.trans (congrArg some (Prod.ext (dm_v_some e21) rfl : a20 = (_, a20.2)))
              refine dc_C2i dL_holds_161 ml_L_83 mc_X11_letter (c_X11_letter e20) rfl fe20 rfl rfl rfl ?_
              refine ql_a0 dL_holds_164 ?_
              refine ql_a0 dL_holds_165 ?_
              refine ql_i4 dL_holds_166 ?_
              refine dr_iconst (iI (2)) dL_holds_168 rfl ?_
              obtain ⟨a22, e22, H⟩ := wp_b H
              obtain ⟨fe22, e22⟩ := dm_cl_some e22
              obtain ⟨a23, e23, H⟩ := wp_b H
              replace e22 := e22.trans (congrArg some (Prod.ext (dm_v_some e23) rfl : a22 = (_, a22.2)))
              refine dc_C2i dL_holds_169 ml_L_83 mc_X11_letter (c_X11_letter e22) rfl fe22 rfl rfl rfl ?_
              obtain ⟨a24, e24, H⟩ := wp_b H
              obtain ⟨fe24, e24⟩ := dm_cl_some e24
              obtain ⟨a25, e25, H⟩ := wp_b H
              replace e24 := e24.trans (congrArg some (dm_v_some e25))
              refine dc_C1i dL_holds_172 ml_L_189 mc_X11_heading (c_X11_heading e24) rfl fe24 rfl rfl rfl ?_
              refine dr_ic_eq 180 dL_holds_175 (by decide) (fun c6 => ?_) (fun c6 => ?_)
              · replace H := wp_t c6 H
                refine ql_a0 dL_holds_180 ?_
                refine ql_i4 dL_holds_181 ?_
                refine dr_bipush (iI (8)) dL_holds_183 rfl ?_
                obtain ⟨a26, e26, H⟩ := wp_b H
                obtain ⟨fe26, e26⟩ := dm_cl_some e26
                obtain ⟨a27, e27, H⟩ := wp_b H
                replace e26 := e26.trans (congrArg some (Prod.ext (dm_v_some e27) rfl : a26 = (_, a26.2)))
                refine dc_C2i dL_holds_185 ml_L_83 mc_X11_letter (c_X11_letter e26) rfl fe26 rfl rfl rfl ?_
                refine dr_if_ne 202 dL_holds_188 (by decide) (fun c7 => ?_) (fun c7 => ?_)
                · replace H := wp_f c7 H
                  exact dr_wk (am_s (am_s (am_s (am_n (am_s (am_n (am_n am_0))))))) ((lp_in H).2.2.2.1 _ _ _ _ _ rfl)
                · replace H := wp_t c7 H
                  refine ql_a0 dL_holds_191 ?_
                  refine ql_i4 dL_holds_192 ?_
                  refine dr_bipush (iI (12)) dL_holds_194 rfl ?_
                  obtain ⟨a28, e28, H⟩ := wp_b H
                  obtain ⟨fe28, e28⟩ := dm_cl_some e28
                  obtain ⟨a29, e29, H⟩ := wp_b H
                  replace e28 := e28.trans (congrArg some (Prod.ext (dm_v_some e29) rfl : a28 = (_, a28.2)))
                  refine dc_C2i dL_holds_196 ml_L_83 mc_X11_letter (c_X11_letter e28) rfl fe28 rfl rfl rfl ?_
                  refine dr_if_gt 214 dL_holds_199 (by decide) (fun c8 => ?_) (fun c8 => ?_)
                  · replace H := wp_t c8 H
                    refine dr_iconst (iI (0)) dL_holds_214 rfl ?_
                    replace H := lp_re H
                    exact dr_iret dL_holds_215 rfl rfl H
                  · replace H := wp_f c8 H
                    exact dr_wk (am_s (am_s (am_s (am_n (am_s (am_n (am_n am_0))))))) ((lp_in H).2.2.2.1 _ _ _ _ _ rfl)
              · replace H := wp_f c6 H
                refine dr_iconst (iI (0)) dL_holds_178 rfl ?_
                replace H := lp_re H
                exact dr_iret dL_holds_179 rfl rfl H
        · replace H := wp_t c3 H
          refine dr_goto 216 dL_holds_97 (by decide) ?_
          refine qn_1_4 dL_holds_216 rfl trivial ?_
          refine dr_goto 13 dL_holds_219 (by decide) ?_
          exact dr_wk (am_s (am_s (am_s (am_n (am_s (am_n (am_n am_0))))))) ((lp_in H).1 _ _ _ _ _ rfl)
      · replace H := wp_f c2 H
        refine dr_iconst (iI (0)) dL_holds_89 rfl ?_
        replace H := lp_re H
        exact dr_iret dL_holds_90 rfl rfl H
  · subst e
    rw [S_L_holds] at H
    refine ql_a0 dL_holds_202 ?_
    refine ql_i4 dL_holds_203 ?_
    refine dr_bipush (iI (11)) dL_holds_205 rfl ?_
    obtain ⟨a1, e1, H⟩ := wp_b H
    obtain ⟨fe1, e1⟩ := dm_cl_some e1
    obtain ⟨a2, e2, H⟩ := wp_b H
    replace e1 := e1.trans (congrArg some (Prod.ext (dm_v_some e2) rfl : a1 = (_, a1.2)))
    refine dc_C2i dL_holds_207 ml_L_83 mc_X11_letter (c_X11_letter e1) rfl fe1 rfl rfl rfl ?_
    refine dr_iconst (iI (3)) dL_holds_210 rfl ?_
    refine dr_ic_le 216 dL_holds_211 (by decide) (fun c1 => ?_) (fun c1 => ?_)
    · replace H := wp_t c1 H
      refine qn_1_4 dL_holds_216 rfl trivial ?_
      refine dr_goto 13 dL_holds_219 (by decide) ?_
      exact dr_wk (am_s (am_s (am_s (am_n (am_s (am_n (am_n am_0))))))) ((lp_in H).1 _ _ _ _ _ rfl)
    · replace H := wp_f c1 H
      refine dr_iconst (iI (0)) dL_holds_214 rfl ?_
      replace H := lp_re H
      exact dr_iret dL_holds_215 rfl rfl H
  · subst e
    rw [S_L_holds] at H
    refine ql_i5 dL_holds_242 ?_
    refine ql_a0 dL_holds_244 ?_
    refine dr_bipush (iI (7)) dL_holds_245 rfl ?_
    obtain ⟨a1, e1, H⟩ := wp_b H
    obtain ⟨fe1, e1⟩ := dm_cl_some e1
    obtain ⟨a2, e2, H⟩ := wp_b H
    replace e1 := e1.trans (congrArg some (Prod.ext (dm_v_some e2) rfl : a1 = (_, a1.2)))
    refine dc_C1i dL_holds_247 ml_L_138 mc_X11_setting (c_X11_setting e1) rfl fe1 rfl rfl rfl ?_
    refine dr_ic_ge 339 dL_holds_250 (by decide) (fun c1 => ?_) (fun c1 => ?_)
    · replace H := wp_t c1 H
      refine dr_iconst (iI (0)) dL_holds_339 rfl ?_
      refine qs_i5 dL_holds_340 rfl trivial ?_
      exact dr_wk (am_s (am_s (am_n (am_n (am_s (am_s (am_n am_0))))))) ((lp_in H).2.2.2.2.2.1 _ _ _ _ _ rfl)
    · replace H := wp_f c1 H
      refine ql_a4 dL_holds_253 ?_
      refine ql_a0 dL_holds_255 ?_
      refine ql_i5 dL_holds_256 ?_
      refine dr_iconst (iI (0)) dL_holds_258 rfl ?_
      obtain ⟨a3, e3, H⟩ := wp_b H
      obtain ⟨fe3, e3⟩ := dm_cl_some e3
      obtain ⟨a4, e4, H⟩ := wp_b H
      replace e3 := e3.trans (congrArg some (Prod.ext (dm_v_some e4) rfl : a3 = (_, a3.2)))
      refine dc_C2i dL_holds_259 ml_L_107 mc_X11_scratch (c_X11_scratch e3) rfl fe3 rfl rfl rfl ?_
      refine dr_dup2 dL_holds_262 trivial trivial ?_
      obtain ⟨a5, e5, H⟩ := wp_b H
      refine dr_iald dL_holds_263 e5 ?_
      refine dr_iconst (iI (1)) dL_holds_264 rfl ?_
      refine dr_iadd dL_holds_265 ?_
      obtain ⟨d1, e6, H⟩ := wp_b H
      refine dr_iast dL_holds_266 e6 ?_
      refine ql_a0 dL_holds_267 ?_
      refine ql_i5 dL_holds_268 ?_
      refine dr_iconst (iI (2)) dL_holds_270 rfl ?_
      obtain ⟨a6, e7, H⟩ := wp_b H
      obtain ⟨fe7, e7⟩ := dm_cl_some e7
      obtain ⟨a7, e8, H⟩ := wp_b H
      replace e7 := e7.trans (congrArg some (Prod.ext (dm_v_some e8) rfl : a6 = (_, a6.2)))
      refine dc_C2i dL_holds_271 ml_L_107 mc_X11_scratch (c_X11_scratch e7) rfl fe7 rfl rfl rfl ?_
      refine qs_i6 dL_holds_274 rfl trivial ?_
      refine ql_a0 dL_holds_276 ?_
      refine ql_i5 dL_holds_277 ?_
      refine dr_iconst (iI (1)) dL_holds_279 rfl ?_
      obtain ⟨a8, e9, H⟩ := wp_b H
      obtain ⟨fe9, e9⟩ := dm_cl_some e9
      obtain ⟨a9, e10, H⟩ := wp_b H
      replace e9 := e9.trans (congrArg some (Prod.ext (dm_v_some e10) rfl : a8 = (_, a8.2)))
      refine dc_C2i dL_holds_280 ml_L_107 mc_X11_scratch (c_X11_scratch e9) rfl fe9 rfl rfl rfl ?_
      refine dr_bipush (iI (100)) dL_holds_283 rfl ?_
      obtain ⟨b1, H⟩ := wp_d H
      refine dr_irem dL_holds_285 b1 ?_
      refine dr_if_ne 331 dL_holds_286 (by decide) (fun c2 => ?_) (fun c2 => ?_)
      · replace H := wp_f c2 H
        refine dr_iconst (iI (0)) dL_holds_331 rfl ?_
        replace H := lp_re H
        exact dr_iret dL_holds_332 rfl rfl H
      · replace H := wp_t c2 H
        refine ql_a0 dL_holds_289 ?_
        refine ql_i5 dL_holds_290 ?_
        refine dr_iconst (iI (1)) dL_holds_292 rfl ?_
        obtain ⟨a10, e11, H⟩ := wp_b H
        obtain ⟨fe11, e11⟩ := dm_cl_some e11
        obtain ⟨a11, e12, H⟩ := wp_b H
        replace e11 := e11.trans (congrArg some (Prod.ext (dm_v_some e12) rfl : a10 = (_, a10.2)))
        refine dc_C2i dL_holds_293 ml_L_107 mc_X11_scratch (c_X11_scratch e11) rfl fe11 rfl rfl rfl ?_
        refine dr_bipush (iI (100)) dL_holds_296 rfl ?_
        refine dr_ic_lt 331 dL_holds_298 (by decide) (fun c3 => ?_) (fun c3 => ?_)
        · replace H := wp_t c3 H
          refine dr_iconst (iI (0)) dL_holds_331 rfl ?_
          replace H := lp_re H
          exact dr_iret dL_holds_332 rfl rfl H
        · replace H := wp_f c3 H
          refine ql_a0 dL_holds_301 ?_
          refine ql_i5 dL_holds_302 ?_
          refine dr_iconst (iI (1)) dL_holds_304 rfl ?_
          obtain ⟨a12, e13, H⟩ := wp_b H
          obtain ⟨fe13, e13⟩ := dm_cl_some e13
          obtain ⟨a13, e14, H⟩ := wp_b H
          replace e13 := e13.trans (congrArg some (Prod.ext (dm_v_some e14) rfl : a12 = (_, a12.2)))
          refine dc_C2i dL_holds_305 ml_L_107 mc_X11_scratch (c_X11_scratch e13) rfl fe13 rfl rfl rfl ?_
          refine dr_sipush (iI (2000)) dL_holds_308 rfl ?_
          refine dr_ic_gt 331 dL_holds_311 (by decide) (fun c4 => ?_) (fun c4 => ?_)
          · replace H := wp_t c4 H
            refine dr_iconst (iI (0)) dL_holds_331 rfl ?_
            replace H := lp_re H
            exact dr_iret dL_holds_332 rfl rfl H
          · replace H := wp_f c4 H
            refine ql_i6 dL_holds_314 ?_
            refine dr_if_lt 333 dL_holds_316 (by decide) (fun c5 => ?_) (fun c5 => ?_)
            · replace H := wp_t c5 H
              refine qn_1_5 dL_holds_333 rfl trivial ?_
              refine dr_goto 242 dL_holds_336 (by decide) ?_
              exact dr_wk (am_s (am_s (am_n (am_n (am_s (am_s (am_n am_0))))))) ((lp_in H).2.2.2.2.1 _ _ _ _ _ rfl)
            · replace H := wp_f c5 H
              refine ql_a0 dL_holds_319 ?_
              refine ql_i6 dL_holds_320 ?_
              refine dr_bipush (iI (9)) dL_holds_322 rfl ?_
              obtain ⟨a14, e15, H⟩ := wp_b H
              obtain ⟨fe15, e15⟩ := dm_cl_some e15
              obtain ⟨a15, e16, H⟩ := wp_b H
              replace e15 := e15.trans (congrArg some (Prod.ext (dm_v_some e16) rfl : a14 = (_, a14.2)))
              refine dc_C2i dL_holds_324 ml_L_83 mc_X11_letter (c_X11_letter e15) rfl fe15 rfl rfl rfl ?_
              refine dr_iconst (iI (1)) dL_holds_327 rfl ?_
              refine dr_ic_eq 333 dL_holds_328 (by decide) (fun c6 => ?_) (fun c6 => ?_)
              · replace H := wp_t c6 H
                refine qn_1_5 dL_holds_333 rfl trivial ?_
                refine dr_goto 242 dL_holds_336 (by decide) ?_
                exact dr_wk (am_s (am_s (am_n (am_n (am_s (am_s (am_n am_0))))))) ((lp_in H).2.2.2.2.1 _ _ _ _ _ rfl)
              · replace H := wp_f c6 H
                refine dr_iconst (iI (0)) dL_holds_331 rfl ?_
                replace H := lp_re H
                exact dr_iret dL_holds_332 rfl rfl H
  · subst e
    rw [S_L_holds] at H
    refine ql_i5 dL_holds_342 ?_
    refine ql_i1 dL_holds_344 ?_
    refine dr_ic_ge 372 dL_holds_345 (by decide) (fun c1 => ?_) (fun c1 => ?_)
    · replace H := wp_t c1 H
      refine dr_iconst (iI (0)) dL_holds_372 rfl ?_
      refine qs_i5 dL_holds_373 rfl trivial ?_
      refine dr_iconst (iI (0)) dL_holds_375 rfl ?_
      refine qs_i6 dL_holds_376 rfl trivial ?_
      exact dr_wk (am_s (am_s (am_n (am_n (am_n (am_s (am_s am_0))))))) ((lp_in H).2.2.2.2.2.2.1 _ _ _ _ _ rfl)
    · replace H := wp_f c1 H
      refine ql_a4 dL_holds_348 ?_
      refine ql_i5 dL_holds_350 ?_
      obtain ⟨a1, e1, H⟩ := wp_b H
      refine dr_iald dL_holds_352 e1 ?_
      refine ql_a0 dL_holds_353 ?_
      refine ql_i5 dL_holds_354 ?_
      refine dr_bipush (iI (12)) dL_holds_356 rfl ?_
      obtain ⟨a2, e2, H⟩ := wp_b H
      obtain ⟨fe2, e2⟩ := dm_cl_some e2
      obtain ⟨a3, e3, H⟩ := wp_b H
      replace e2 := e2.trans (congrArg some (Prod.ext (dm_v_some e3) rfl : a2 = (_, a2.2)))
      refine dc_C2i dL_holds_358 ml_L_83 mc_X11_letter (c_X11_letter e2) rfl fe2 rfl rfl rfl ?_
      refine dr_ic_eq 366 dL_holds_361 (by decide) (fun c2 => ?_) (fun c2 => ?_)
      · replace H := wp_t c2 H
        refine qn_1_5 dL_holds_366 rfl trivial ?_
        refine dr_goto 342 dL_holds_369 (by decide) ?_
        exact dr_wk (am_s (am_s (am_n (am_n (am_s (am_s (am_n am_0))))))) ((lp_in H).2.2.2.2.2.1 _ _ _ _ _ rfl)
      · replace H := wp_f c2 H
        refine dr_iconst (iI (0)) dL_holds_364 rfl ?_
        replace H := lp_re H
        exact dr_iret dL_holds_365 rfl rfl H
  · subst e
    rw [S_L_holds] at H
    refine ql_i6 dL_holds_378 ?_
    refine ql_i1 dL_holds_380 ?_
    refine dr_ic_gt 409 dL_holds_381 (by decide) (fun c1 => ?_) (fun c1 => ?_)
    · replace H := wp_t c1 H
      refine dr_iconst (iI (0)) dL_holds_409 rfl ?_
      refine qs_i6 dL_holds_410 rfl trivial ?_
      exact dr_wk (am_s (am_n (am_n (am_n (am_n (am_s (am_s am_0))))))) ((lp_in H).2.2.2.2.2.2.2 _ _ _ _ rfl)
    · replace H := wp_f c1 H
      refine ql_i5 dL_holds_384 ?_
      refine ql_a0 dL_holds_386 ?_
      refine ql_i6 dL_holds_387 ?_
      obtain ⟨a1, e1, H⟩ := wp_b H
      obtain ⟨fe1, e1⟩ := dm_cl_some e1
      obtain ⟨a2, e2, H⟩ := wp_b H
      replace e1 := e1.trans (congrArg some (Prod.ext (dm_v_some e2) rfl : a1 = (_, a1.2)))
      refine dc_C1i dL_holds_389 ml_L_192 mc_X11_flourishIn (c_X11_flourishIn e1) rfl fe1 rfl rfl rfl ?_
      refine dr_if_ge 399 dL_holds_392 (by decide) (fun c2 => ?_) (fun c2 => ?_)
      · replace H := wp_t c2 H
        refine dr_iconst (iI (1)) dL_holds_399 rfl ?_
        refine dr_iadd dL_holds_400 ?_
        refine qs_i5 dL_holds_401 rfl trivial ?_
        refine qn_1_6 dL_holds_403 rfl trivial ?_
        refine dr_goto 378 dL_holds_406 (by decide) ?_
        exact dr_wk (am_s (am_s (am_n (am_n (am_n (am_s (am_s am_0))))))) ((lp_in H).2.2.2.2.2.2.1 _ _ _ _ _ rfl)
      · replace H := wp_f c2 H
        refine dr_iconst (iI (0)) dL_holds_395 rfl ?_
        refine dr_goto 400 dL_holds_396 (by decide) ?_
        refine dr_iadd dL_holds_400 ?_
        refine qs_i5 dL_holds_401 rfl trivial ?_
        refine qn_1_6 dL_holds_403 rfl trivial ?_
        refine dr_goto 378 dL_holds_406 (by decide) ?_
        exact dr_wk (am_s (am_s (am_n (am_n (am_n (am_s (am_s am_0))))))) ((lp_in H).2.2.2.2.2.2.1 _ _ _ _ _ rfl)
  · subst e
    rw [S_L_holds] at H
    refine ql_i6 dL_holds_412 ?_
    refine ql_a0 dL_holds_414 ?_
    refine dr_iconst (iI (2)) dL_holds_415 rfl ?_
    obtain ⟨a1, e1, H⟩ := wp_b H
    obtain ⟨fe1, e1⟩ := dm_cl_some e1
    obtain ⟨a2, e2, H⟩ := wp_b H
    replace e1 := e1.trans (congrArg some (Prod.ext (dm_v_some e2) rfl : a1 = (_, a1.2)))
    refine dc_C1i dL_holds_416 ml_L_138 mc_X11_setting (c_X11_setting e1) rfl fe1 rfl rfl rfl ?_
    refine dr_ic_ge 439 dL_holds_419 (by decide) (fun c1 => ?_) (fun c1 => ?_)
    · replace H := wp_t c1 H
      refine ql_a0 dL_holds_439 ?_
      obtain ⟨a3, e3, H⟩ := wp_b H
      obtain ⟨fe3, e3⟩ := dm_cl_some e3
      refine dc_C0i dL_holds_440 ml_L_198 mc_X11_worth (c_X11_worth e3) rfl fe3 rfl rfl rfl ?_
      refine ql_i5 dL_holds_443 ?_
      refine dr_ic_lt 452 dL_holds_445 (by decide) (fun c2 => ?_) (fun c2 => ?_)
      · replace H := wp_t c2 H
        refine dr_iconst (iI (0)) dL_holds_452 rfl ?_
        replace H := lp_re H
        exact dr_iret dL_holds_453 rfl rfl H
      · replace H := wp_f c2 H
        refine dr_iconst (iI (1)) dL_holds_448 rfl ?_
        refine dr_goto 453 dL_holds_449 (by decide) ?_
        replace H := lp_re H
        exact dr_iret dL_holds_453 rfl rfl H
    · replace H := wp_f c1 H
      refine ql_a0 dL_holds_422 ?_
      refine ql_i6 dL_holds_423 ?_
      obtain ⟨a3, e3, H⟩ := wp_b H
      obtain ⟨fe3, e3⟩ := dm_cl_some e3
      obtain ⟨a4, e4, H⟩ := wp_b H
      replace e3 := e3.trans (congrArg some (Prod.ext (dm_v_some e4) rfl : a3 = (_, a3.2)))
      refine dc_C1i dL_holds_425 ml_L_195 mc_X11_stockLeft (c_X11_stockLeft e3) rfl fe3 rfl rfl rfl ?_
      refine dr_if_ge 433 dL_holds_428 (by decide) (fun c2 => ?_) (fun c2 => ?_)
      · replace H := wp_t c2 H
        refine qn_1_6 dL_holds_433 rfl trivial ?_
        refine dr_goto 412 dL_holds_436 (by decide) ?_
        exact dr_wk (am_s (am_n (am_n (am_n (am_n (am_s (am_s am_0))))))) ((lp_in H).2.2.2.2.2.2.2 _ _ _ _ rfl)
      · replace H := wp_f c2 H
        refine dr_iconst (iI (0)) dL_holds_431 rfl ?_
        replace H := lp_re H
        exact dr_iret dL_holds_432 rfl rfl H
theorem C_L_holds {X : dm_X}  {h : am_H} {d : dm_D} {a : Int32 × am_H × dm_D} (e : F_L_holds X h d = some a) : dm_Mx X yL_holds cL_holds 7 (some .boolean) 6 136 [am_r (.inl 1) 0] h d (some (am_i a.1)) a.2.1 a.2.2 := by
  refine dm_M.ofx (A := [some (am_r (.inl 1) 0), none, none, none, none, none, none]) (by decide +kernel) rfl (ble rfl) (fun Q hQ => ?_)
  have H : wp (F_L_holds X h d) (fun a => Q (some (am_i a.1)) a.2.1 a.2.2) := ⟨_, e, hQ⟩
  unfold F_L_holds at H
  refine ql_a0 dL_holds_0 ?_
  refine dr_iconst (iI (1)) dL_holds_1 rfl ?_
  obtain ⟨a1, e1, H⟩ := wp_b H
  obtain ⟨fe1, e1⟩ := dm_cl_some e1
  obtain ⟨a2, e2, H⟩ := wp_b H
  replace e1 := e1.trans (congrArg some (Prod.ext (dm_v_some e2) rfl : a1 = (_, a1.2)))
  refine dc_C1i dL_holds_2 ml_L_138 mc_X11_setting (c_X11_setting e1) rfl fe1 rfl rfl rfl ?_
  refine qs_i1 dL_holds_5 rfl trivial ?_
  refine dr_iconst (iI (0)) dL_holds_6 rfl ?_
  refine qs_i2 dL_holds_7 rfl trivial ?_
  refine dr_iconst (iI (0)) dL_holds_8 rfl ?_
  refine qs_i3 dL_holds_9 rfl trivial ?_
  refine dr_iconst (iI (0)) dL_holds_10 rfl ?_
  refine qs_i4 dL_holds_11 rfl trivial ?_
  exact dr_wk (am_s (am_s (am_s (am_n (am_s (am_n (am_n am_0))))))) ((C_L_holds_L _ H).1 _ _ _ _ _ rfl)
noncomputable def S_L_feeds (X : dm_X)  : dm_S (am_H × dm_D) → Option (dm_S (am_H × dm_D) ⊕ (Int32 × am_H × dm_D)) := fun s => match s with
  | (4, [x2, x3], [q1], (h, d)) => (dm_rk d q1 13).bind (fun u1 => (F_J0_length_8abf5 X q1 d).bind (fun a1 => if a1 ≤ x3 then ((dm_rk d q1 13).bind (fun u2 => (F_J0_isEmpty_aae02 X q1 d).bind (fun a2 => if a2 = 0 then ((dm_rk d q1 13).bind (fun u3 => (F_J0_length_8abf5 X q1 d).bind (fun a3 => if x2 < a3 then (some (.inr ((iI (0)), h, d))) else ((dm_rk d q1 13).bind (fun u4 => (F_J0_length_8abf5 X q1 d).bind (fun a4 => (dm_cl d (f_X11_truncate a4 h)).bind (fun a5 => (dm_v a5.1).bind (fun a6 => (dm_rk d q1 13).bind (fun u5 => (F_J0_length_8abf5 X q1 d).bind (fun a7 => if a6 = a7 then (some (.inr ((iI (1)), a5.2, d))) else (some (.inr ((iI (0)), a5.2, d))))))))))))) else (some (.inr ((iI (1)), h, d)))))) else ((dm_na d 0 (iI (5))).bind (fun d1 => some (.inl (20, [x3, (iI (0))], [q1, (.inl 0, d.1)], (h, d1)))))))
  | (20, [x3, x5], [q1, q4], (h, d)) => if (iI (20)) ≤ x5 then ((dm_li X d q4 (iI (0))).bind (fun a1 => (dm_li X d q4 (iI (1))).bind (fun a2 => (dm_li X d q4 (iI (2))).bind (fun a3 => (dm_li X d q4 (iI (3))).bind (fun a4 => (dm_li X d q4 (iI (4))).bind (fun a5 => (dm_cl d (f_X11_feed a1 a2 a3 a4 a5 h)).bind (fun a6 => (dm_v a6.1).bind (fun a7 => some (.inl (4, [a7, (x3 + iI (20))], [q1], (a6.2, d))))))))))) else (if (iI (4)) = 0 then none else (if (iI (4)) = 0 then none else ((dm_li X d q4 (x5 / (iI (4)))).bind (fun a1 => (dm_rk d q1 13).bind (fun u1 => (F_J0_length_8abf5 X q1 d).bind (fun a2 => if a2 ≤ (x3 + x5) then ((dm_wi d q4 0 (x5 / (iI (4))) ((a1 <<< ((iI (8)) &&& 31)) ||| (iI (32)))).bind (fun d1 => some (.inl (20, [x3, (x5 + 1)], [q1, q4], (h, d1))))) else ((dm_rk d q1 13).bind (fun u2 => (F_J0_charAt_5068e X q1 (x3 + x5) d).bind (fun a3 => (dm_wi d q4 0 (x5 / (iI (4))) ((a1 <<< ((iI (8)) &&& 31)) ||| a3)).bind (fun d1 => some (.inl (20, [x3, (x5 + 1)], [q1, q4], (h, d1)))))))))))))
  | _ => none
noncomputable def F_L_feeds_4 (X : dm_X) (q1 : am_G × Nat) (x2 : Int32) (x3 : Int32) (h : am_H) (d : dm_D) : Option (Int32 × am_H × dm_D) := lp (S_L_feeds X) (4, [x2, x3], [q1], (h, d))
noncomputable def F_L_feeds_20 (X : dm_X) (q1 : am_G × Nat) (x3 : Int32) (q4 : am_G × Nat) (x5 : Int32) (h : am_H) (d : dm_D) : Option (Int32 × am_H × dm_D) := lp (S_L_feeds X) (20, [x3, x5], [q1, q4], (h, d))
theorem E_L_feeds_4 (X : dm_X) (q1 : am_G × Nat) (x2 : Int32) (x3 : Int32) (h : am_H) (d : dm_D) : F_L_feeds_4 X q1 x2 x3 h d = ((dm_rk d q1 13).bind (fun u1 => (F_J0_length_8abf5 X q1 d).bind (fun a1 => if a1 ≤ x3 then ((dm_rk d q1 13).bind (fun u2 => (F_J0_isEmpty_aae02 X q1 d).bind (fun a2 => if a2 = 0 then ((dm_rk d q1 13).bind (fun u3 => (F_J0_length_8abf5 X q1 d).bind (fun a3 => if x2 < a3 then (some ((iI (0)), h, d)) else ((dm_rk d q1 13).bind (fun u4 => (F_J0_length_8abf5 X q1 d).bind (fun a4 => (dm_cl d (f_X11_truncate a4 h)).bind (fun a5 => (dm_v a5.1).bind (fun a6 => (dm_rk d q1 13).bind (fun u5 => (F_J0_length_8abf5 X q1 d).bind (fun a7 => if a6 = a7 then (some ((iI (1)), a5.2, d)) else (some ((iI (0)), a5.2, d)))))))))))) else (some ((iI (1)), h, d))))) else ((dm_na d 0 (iI (5))).bind (fun d1 => F_L_feeds_20 X q1 x3 (.inl 0, d.1) (iI (0)) h d1))))) := by
  show lp _ _ = _
  rw [lp_eq, S_L_feeds]
  simp only [lpk_i, lpk_b, lpk_n, lpk_j, lpk_r] <;> rfl
theorem E_L_feeds_20 (X : dm_X) (q1 : am_G × Nat) (x3 : Int32) (q4 : am_G × Nat) (x5 : Int32) (h : am_H) (d : dm_D) : F_L_feeds_20 X q1 x3 q4 x5 h d = (if (iI (20)) ≤ x5 then ((dm_li X d q4 (iI (0))).bind (fun a1 => (dm_li X d q4 (iI (1))).bind (fun a2 => (dm_li X d q4 (iI (2))).bind (fun a3 => (dm_li X d q4 (iI (3))).bind (fun a4 => (dm_li X d q4 (iI (4))).bind (fun a5 => (dm_cl d (f_X11_feed a1 a2 a3 a4 a5 h)).bind (fun a6 => (dm_v a6.1).bind (fun a7 => F_L_feeds_4 X q1 a7 (x3 + iI (20)) a6.2 d)))))))) else (if (iI (4)) = 0 then none else (if (iI (4)) = 0 then none else ((dm_li X d q4 (x5 / (iI (4)))).bind (fun a1 => (dm_rk d q1 13).bind (fun u1 => (F_J0_length_8abf5 X q1 d).bind (fun a2 => if a2 ≤ (x3 + x5) then ((dm_wi d q4 0 (x5 / (iI (4))) ((a1 <<< ((iI (8)) &&& 31)) ||| (iI (32)))).bind (fun d1 => F_L_feeds_20 X q1 x3 q4 (x5 + 1) h d1)) else ((dm_rk d q1 13).bind (fun u2 => (F_J0_charAt_5068e X q1 (x3 + x5) d).bind (fun a3 => (dm_wi d q4 0 (x5 / (iI (4))) ((a1 <<< ((iI (8)) &&& 31)) ||| a3)).bind (fun d1 => F_L_feeds_20 X q1 x3 q4 (x5 + 1) h d1))))))))))) := by
  show lp _ _ = _
  rw [lp_eq, S_L_feeds]
  simp only [lpk_i, lpk_b, lpk_n, lpk_j, lpk_r] <;> rfl
noncomputable def F_L_feeds (X : dm_X) (q1 : am_G × Nat) (h : am_H) (d : dm_D) : Option (Int32 × am_H × dm_D) :=
  F_L_feeds_4 X q1 (iI (0)) (iI (0)) h d
theorem C_L_feeds_L {X : dm_X} {k0 : Nat} {Q : Option am_v → am_H → dm_D → Prop} : ∀ s, wp (lp (S_L_feeds X) s) (fun a => Q (some (am_i a.1)) a.2.1 a.2.2) → ((∀ q1 x2 x3 h d, s = (4, [x2, x3], [q1], (h, d)) → dm_V RL "feeds" cL_feeds 6 (some .boolean) 4 93 k0 X (dm_Tm cL_feeds (some .boolean) Q) 4 [some (am_r (.inl 1) 0), some (.inr q1), some (am_i x2), some (am_i x3), none, none] [] h d) ∧ (∀ q1 x3 q4 x5 h d, s = (20, [x3, x5], [q1, q4], (h, d)) → dm_V RL "feeds" cL_feeds 6 (some .boolean) 4 93 k0 X (dm_Tm cL_feeds (some .boolean) Q) 20 [some (am_r (.inl 1) 0), some (.inr q1), none, some (am_i x3), some (.inr q4), some (am_i x5)] [] h d)) := by
  refine lp_ind _ _ (fun s H => ⟨fun q1 x2 x3 h d e => ?_, fun q1 x3 q4 x5 h d e => ?_⟩)
  · subst e
    rw [S_L_feeds] at H
    refine ql_i3 dL_feeds_4 ?_
    refine ql_a1 dL_feeds_5 ?_
    obtain ⟨u1, e2, H⟩ := wp_b H
    obtain ⟨a1, e1, H⟩ := wp_b H
    refine dc_V0i (C := (RJ0, TJ0, 4)) dL_feeds_6 ml_L_16 mc_J0_length_8abf5 (C_J0_length_8abf5 e1) (dm_rk_some e2) rfl rfl rfl rfl rfl ?_
    refine dr_ic_ge 106 dL_feeds_9 (by decide) (fun c1 => ?_) (fun c1 => ?_)
    · replace H := wp_t c1 H
      refine ql_a1 dL_feeds_106 ?_
      obtain ⟨u2, e4, H⟩ := wp_b H
      obtain ⟨a2, e3, H⟩ := wp_b H
      refine dc_V0i (C := (RJ0, TJ0, 4)) dL_feeds_107 ml_L_32 mc_J0_isEmpty_aae02 (C_J0_isEmpty_aae02 e3) (dm_rk_some e4) rfl rfl rfl rfl rfl ?_
      refine dr_if_ne 136 dL_feeds_110 (by decide) (fun c2 => ?_) (fun c2 => ?_)
      · replace H := wp_f c2 H
        refine dr_iconst (iI (1)) dL_feeds_136 rfl ?_
        refine dr_goto 141 dL_feeds_137 (by decide) ?_
        replace H := lp_re H
        exact dr_iret dL_feeds_141 rfl rfl H
      · replace H := wp_t c2 H
        refine ql_i2 dL_feeds_113 ?_
        refine ql_a1 dL_feeds_114 ?_
        obtain ⟨u3, e6, H⟩ := wp_b H
        obtain ⟨a3, e5, H⟩ := wp_b H
        refine dc_V0i (C := (RJ0, TJ0, 4)) dL_feeds_115 ml_L_16 mc_J0_length_8abf5 (C_J0_length_8abf5 e5) (dm_rk_some e6) rfl rfl rfl rfl rfl ?_
        refine dr_ic_lt 140 dL_feeds_118 (by decide) (fun c3 => ?_) (fun c3 => ?_)
        · replace H := wp_t c3 H
          refine dr_iconst (iI (0)) dL_feeds_140 rfl ?_
          replace H := lp_re H
          exact dr_iret dL_feeds_141 rfl rfl H
        · replace H := wp_f c3 H
          refine ql_a0 dL_feeds_121 ?_
          refine ql_a1 dL_feeds_122 ?_
          obtain ⟨u4, e8, H⟩ := wp_b H
          obtain ⟨a4, e7, H⟩ := wp_b H
          refine dc_V0i (C := (RJ0, TJ0, 4)) dL_feeds_123 ml_L_16 mc_J0_length_8abf5 (C_J0_length_8abf5 e7) (dm_rk_some e8) rfl rfl rfl rfl rfl ?_
          obtain ⟨a5, e9, H⟩ := wp_b H
          obtain ⟨fe9, e9⟩ := dm_cl_some e9
          obtain ⟨a6, e10, H⟩ := wp_b H
          replace e9 := e9.trans (congrArg some (Prod.ext (dm_v_some e10) rfl : a5 = (_, a5.2)))
          refine dc_C1i dL_feeds_126 ml_L_36 mc_X11_truncate (c_X11_truncate e9) rfl fe9 rfl rfl rfl ?_
          refine ql_a1 dL_feeds_129 ?_
          obtain ⟨u5, e12, H⟩ := wp_b H
          obtain ⟨a7, e11, H⟩ := wp_b H
          refine dc_V0i (C := (RJ0, TJ0, 4)) dL_feeds_130 ml_L_16 mc_J0_length_8abf5 (C_J0_length_8abf5 e11) (dm_rk_some e12) rfl rfl rfl rfl rfl ?_
          refine dr_ic_ne 140 dL_feeds_133 (by decide) (fun c4 => ?_) (fun c4 => ?_)
          · replace H := wp_f c4 H
            refine dr_iconst (iI (0)) dL_feeds_140 rfl ?_
            replace H := lp_re H
            exact dr_iret dL_feeds_141 rfl rfl H
          · replace H := wp_t c4 H
            refine dr_iconst (iI (1)) dL_feeds_136 rfl ?_
            refine dr_goto 141 dL_feeds_137 (by decide) ?_
            replace H := lp_re H
            exact dr_iret dL_feeds_141 rfl rfl H
    · replace H := wp_f c1 H
      refine dr_iconst (iI (5)) dL_feeds_12 rfl ?_
      obtain ⟨d1, e3, H⟩ := wp_b H
      refine dr_newa dL_feeds_13 na_int (fun _ => rfl) (by decide) (fun _ _ => rfl) e3 ?_
      refine qs_a4 dL_feeds_15 rfl trivial ?_
      refine dr_iconst (iI (0)) dL_feeds_17 rfl ?_
      refine qs_i5 dL_feeds_18 rfl trivial ?_
      exact dr_wk (am_s (am_s (am_n (am_s (am_s (am_s am_0)))))) ((lp_in H).2 _ _ _ _ _ _ rfl)
  · subst e
    rw [S_L_feeds] at H
    refine ql_i5 dL_feeds_20 ?_
    refine dr_bipush (iI (20)) dL_feeds_22 rfl ?_
    refine dr_ic_ge 75 dL_feeds_24 (by decide) (fun c1 => ?_) (fun c1 => ?_)
    · replace H := wp_t c1 H
      refine ql_a0 dL_feeds_75 ?_
      refine ql_a4 dL_feeds_76 ?_
      refine dr_iconst (iI (0)) dL_feeds_78 rfl ?_
      obtain ⟨a1, e1, H⟩ := wp_b H
      refine dr_iald dL_feeds_79 e1 ?_
      refine ql_a4 dL_feeds_80 ?_
      refine dr_iconst (iI (1)) dL_feeds_82 rfl ?_
      obtain ⟨a2, e2, H⟩ := wp_b H
      refine dr_iald dL_feeds_83 e2 ?_
      refine ql_a4 dL_feeds_84 ?_
      refine dr_iconst (iI (2)) dL_feeds_86 rfl ?_
      obtain ⟨a3, e3, H⟩ := wp_b H
      refine dr_iald dL_feeds_87 e3 ?_
      refine ql_a4 dL_feeds_88 ?_
      refine dr_iconst (iI (3)) dL_feeds_90 rfl ?_
      obtain ⟨a4, e4, H⟩ := wp_b H
      refine dr_iald dL_feeds_91 e4 ?_
      refine ql_a4 dL_feeds_92 ?_
      refine dr_iconst (iI (4)) dL_feeds_94 rfl ?_
      obtain ⟨a5, e5, H⟩ := wp_b H
      refine dr_iald dL_feeds_95 e5 ?_
      obtain ⟨a6, e6, H⟩ := wp_b H
      obtain ⟨fe6, e6⟩ := dm_cl_some e6
      obtain ⟨a7, e7, H⟩ := wp_b H
      replace e6 := e6.trans (congrArg some (Prod.ext (dm_v_some e7) rfl : a6 = (_, a6.2)))
      refine dc_C5i dL_feeds_96 ml_L_26 mc_X11_feed (c_X11_feed e6) rfl fe6 rfl rfl rfl ?_
      refine qs_i2 dL_feeds_99 rfl trivial ?_
      refine qn_m_3 (v := x3 + iI (20)) dL_feeds_100 rfl trivial rfl ?_
      refine dr_goto 4 dL_feeds_103 (by decide) ?_
      exact dr_wk (am_s (am_s (am_s (am_s (am_n (am_n am_0)))))) ((lp_in H).1 _ _ _ _ _ rfl)
    · replace H := wp_f c1 H
      refine ql_a4 dL_feeds_27 ?_
      refine ql_i5 dL_feeds_29 ?_
      refine dr_iconst (iI (4)) dL_feeds_31 rfl ?_
      obtain ⟨b1, H⟩ := wp_d H
      refine dr_idiv dL_feeds_32 b1 ?_
      refine ql_a4 dL_feeds_33 ?_
      refine ql_i5 dL_feeds_35 ?_
      refine dr_iconst (iI (4)) dL_feeds_37 rfl ?_
      obtain ⟨b2, H⟩ := wp_d H
      refine dr_idiv dL_feeds_38 b2 ?_
      obtain ⟨a1, e1, H⟩ := wp_b H
      refine dr_iald dL_feeds_39 e1 ?_
      refine dr_bipush (iI (8)) dL_feeds_40 rfl ?_
      refine dr_ishl dL_feeds_42 ?_
      refine ql_i3 dL_feeds_43 ?_
      refine ql_i5 dL_feeds_44 ?_
      refine dr_iadd dL_feeds_46 ?_
      refine ql_a1 dL_feeds_47 ?_
      obtain ⟨u1, e3, H⟩ := wp_b H
      obtain ⟨a2, e2, H⟩ := wp_b H
      refine dc_V0i (C := (RJ0, TJ0, 4)) dL_feeds_48 ml_L_16 mc_J0_length_8abf5 (C_J0_length_8abf5 e2) (dm_rk_some e3) rfl rfl rfl rfl rfl ?_
      refine dr_ic_ge 65 dL_feeds_51 (by decide) (fun c2 => ?_) (fun c2 => ?_)
      · replace H := wp_t c2 H
        refine dr_bipush (iI (32)) dL_feeds_65 rfl ?_
        refine dr_ior dL_feeds_67 ?_
        obtain ⟨d1, e4, H⟩ := wp_b H
        refine dr_iast dL_feeds_68 e4 ?_
        refine qn_1_5 dL_feeds_69 rfl trivial ?_
        refine dr_goto 20 dL_feeds_72 (by decide) ?_
        exact dr_wk (am_s (am_s (am_n (am_s (am_s (am_s am_0)))))) ((lp_in H).2 _ _ _ _ _ _ rfl)
      · replace H := wp_f c2 H
        refine ql_a1 dL_feeds_54 ?_
        refine ql_i3 dL_feeds_55 ?_
        refine ql_i5 dL_feeds_56 ?_
        refine dr_iadd dL_feeds_58 ?_
        obtain ⟨u2, e5, H⟩ := wp_b H
        obtain ⟨a3, e4, H⟩ := wp_b H
        refine dc_V1i (C := (RJ0, TJ0, 4)) dL_feeds_59 ml_L_22 mc_J0_charAt_5068e (C_J0_charAt_5068e e4) (dm_rk_some e5) rfl rfl rfl rfl rfl ?_
        refine dr_goto 67 dL_feeds_62 (by decide) ?_
        refine dr_ior dL_feeds_67 ?_
        obtain ⟨d1, e6, H⟩ := wp_b H
        refine dr_iast dL_feeds_68 e6 ?_
        refine qn_1_5 dL_feeds_69 rfl trivial ?_
        refine dr_goto 20 dL_feeds_72 (by decide) ?_
        exact dr_wk (am_s (am_s (am_n (am_s (am_s (am_s am_0)))))) ((lp_in H).2 _ _ _ _ _ _ rfl)
theorem C_L_feeds {X : dm_X} {q1 : am_G × Nat} {h : am_H} {d : dm_D} {a : Int32 × am_H × dm_D} (e : F_L_feeds X q1 h d = some a) : dm_Mx X yL_feeds cL_feeds 6 (some .boolean) 4 93 [am_r (.inl 1) 0, .inr q1] h d (some (am_i a.1)) a.2.1 a.2.2 := by
  refine dm_M.ofx (A := [some (am_r (.inl 1) 0), some (.inr q1), none, none, none, none]) (by decide +kernel) rfl (ble rfl) (fun Q hQ => ?_)
  have H : wp (F_L_feeds X q1 h d) (fun a => Q (some (am_i a.1)) a.2.1 a.2.2) := ⟨_, e, hQ⟩
  unfold F_L_feeds at H
  refine dr_iconst (iI (0)) dL_feeds_0 rfl ?_
  refine qs_i2 dL_feeds_1 rfl trivial ?_
  refine dr_iconst (iI (0)) dL_feeds_2 rfl ?_
  refine qs_i3 dL_feeds_3 rfl trivial ?_
  exact dr_wk (am_s (am_s (am_s (am_s (am_n (am_n am_0)))))) ((C_L_feeds_L _ H).1 _ _ _ _ _ rfl)
