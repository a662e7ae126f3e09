/-! statements, the program's -/
theorem cK.wr {X : Type} {o : Option (Int32 × am_H)} {r : Rs X} {Q : X → am_H → Prop} {F : am_H → Prop} (C : cK o r Q) (f : ∀ a, o = some a → F a.2) : cK o r (fun x h' => Q x h' ∧ F h') := by
  cases r with
  | inl e => exact C
  | inr x => obtain ⟨h', e1, q⟩ := C; exact ⟨h', e1, q, f _ e1⟩
theorem arcV_c {v : pv_T} {r d rt hd : Int} {c : Nat} (h : c = 0 ∨ 5 ≤ c) : (arcV v r d rt hd).2 c = v.2 c := by
  funext i
  show (pu (pu (pu (pu v 1 (v.1 0) r) 2 (v.1 0) d) 3 (v.1 0) rt) 4 (v.1 0) hd).2 c i = _
  rw [pu_o (by omega), pu_o (by omega), pu_o (by omega), pu_o (by omega)]
theorem namV_c {v : pv_T} {f : Nat → Int} {n c : Nat} (h : c ≠ 5 ∧ c ≠ 6 ∧ c ≠ 7) : (namV v f n).2 c = v.2 c := by
  funext i
  show (if c = 5 ∧ v.1 1 ≤ i then _ else (if (c = 6 ∨ c = 7) ∧ v.1 1 ≤ i then _ else _)) = _
  rw [if_neg (by omega), if_neg (by omega)]
theorem namV_5 {v : pv_T} {f : Nat → Int} {n j : Nat} (h : v.1 1 ≤ j) : (namV v f n).2 5 j = f (j - v.1 1) - 97 := if_pos ⟨rfl, h⟩
theorem namV_67 {v : pv_T} {f : Nat → Int} {n j c : Nat} (hc : c = 6 ∨ c = 7) (h : v.1 1 ≤ j) : (namV v f n).2 c j = 0 := (if_neg (by omega)).trans (if_pos ⟨hc, h⟩)
theorem namV_lt {v : pv_T} {f : Nat → Int} {n j c : Nat} (h : j < v.1 1) : (namV v f n).2 c j = v.2 c j := (if_neg (by omega)).trans (if_neg (by omega))
theorem kinV_c {v : pv_T} {f : Nat → Int} {w wo sk : Int} {c : Nat} (h : c ≠ 9 ∧ c ≠ 10 ∧ c ≠ 11 ∧ c ≠ 14) : (kinV v f w wo sk).2 c = v.2 c := by
  funext i
  show (pu (pu (pu (nmV v f) 9 (v.1 2) w) 10 (v.1 2) wo) 11 (v.1 2) sk).2 c i = _
  rw [pu_o h.2.2.1, pu_o h.2.1, pu_o h.1]
  exact if_neg (fun z => h.2.2.2 z.1)
theorem nm_b {f : Nat → Int} (h : nm_ok f) {i : Nat} (hi : i < 8) : 0 ≤ f i ∧ f i ≤ 122 := by
  obtain ⟨n, n1, n2, n3, n4⟩ := h
  by_cases c : i < n
  · have := n3 i c; omega
  · have := n4 i (by omega) hi; omega
section CST
variable {h : am_H} {b : bfT} {T : Tk} {v : pv_T} {k : Nat}
theorem cl_cu.mv {h' : am_H} {w : pv_T} (e : ∀ o, 1 ≤ o → o ≤ 5 → h'.1 (.inr k) o = h.1 (.inr k) o) (e1 : w.1 0 = v.1 0) (e2 : ∀ c, 1 ≤ c → c ≤ 4 → w.2 c = v.2 c) (R : cl_cu h k v) : cl_cu h' k w := by
  unfold cl_cu at *
  rw [e 1 (by omega) (by omega), e 2 (by omega) (by omega), e 3 (by omega) (by omega), e 4 (by omega) (by omega), e 5 (by omega) (by omega), e1, e2 1 (by omega) (by omega), e2 2 (by omega) (by omega), e2 3 (by omega) (by omega), e2 4 (by omega) (by omega)]
  exact R
theorem cl_na.mv {h' : am_H} {w : pv_T} (e : ∀ o, 6 ≤ o → o ≤ 10 → h'.1 (.inr k) o = h.1 (.inr k) o) (e1 : w.1 1 = v.1 1) (e2 : ∀ c, 5 ≤ c → c ≤ 8 → w.2 c = v.2 c) (R : cl_na h k v) : cl_na h' k w := by
  unfold cl_na at *
  rw [e 6 (by omega) (by omega), e 7 (by omega) (by omega), e 8 (by omega) (by omega), e 9 (by omega) (by omega), e 10 (by omega) (by omega), e1, e2 5 (by omega) (by omega), e2 6 (by omega) (by omega), e2 7 (by omega) (by omega), e2 8 (by omega) (by omega)]
  exact R
theorem cl_ki.mv {h' : am_H} {w : pv_T} (e : ∀ o, 11 ≤ o → o ≤ 15 → h'.1 (.inr k) o = h.1 (.inr k) o) (e1 : w.1 2 = v.1 2) (e2 : ∀ c, c = 9 ∨ c = 10 ∨ c = 11 ∨ c = 14 → w.2 c = v.2 c) (R : cl_ki h k v) : cl_ki h' k w := by
  unfold cl_ki at *
  rw [e 11 (by omega) (by omega), e 12 (by omega) (by omega), e 13 (by omega) (by omega), e 14 (by omega) (by omega), e 15 (by omega) (by omega), e1, e2 9 (by omega), e2 10 (by omega), e2 11 (by omega), e2 14 (by omega)]
  exact R
theorem cl_gr.mv {h' : am_H} {g : am_G} {o : Nat} {w : pv_T} (e : h'.1 g o = h.1 g o) (e2 : w.2 0 = v.2 0) (R : cl_gr h g o v) : cl_gr h' g o w := by
  unfold cl_gr at *
  rw [e, e2]; exact R
theorem cl_sc.mv {h' : am_H} {w : pv_T} (e : ∀ o, 17 ≤ o → o ≤ 19 → h'.1 (.inr k) o = h.1 (.inr k) o) (e1 : w.1 3 = v.1 3) (e2 : ∀ c, c = 12 ∨ c = 13 → w.2 c = v.2 c) (R : cl_sc h k v) : cl_sc h' k w := by
  unfold cl_sc at *
  rw [e 17 (by omega) (by omega), e 18 (by omega) (by omega), e 19 (by omega) (by omega), e1, e2 12 (by omega), e2 13 (by omega)]
  exact R
theorem k_addArc (h8 : v.1 0 < 8) (P : cl_pl h k v) {r d rt hd : Int} (ht : 0 ≤ rt ∧ rt ≤ 1) : ∃ h', f_X0_addArc k (iI r) (iI d) (iI rt) (iI hd) h = some h' ∧ cl_pl h' k (arcV v r d rt hd) := by
  have hx : f_X0_addArc k (iI r) (iI d) (iI rt) (iI hd) h = some (am_u (am_u (am_u (am_u (am_u h (.inr k) 2 (v.1 0) (iI r)) (.inr k) 3 (v.1 0) (iI d)) (.inr k) 5 (v.1 0) (iI rt)) (.inr k) 4 (v.1 0) (iI hd)) (.inr k) 1 4 (iI ((v.1 0 : Int) + 1))) := by
    have r1 := P.1.1
    unfold f_X0_addArc
    simp (disch := omega) only [xI_le, xI_lt, xI_eq, xI_0, xI_ib, if_pos, if_neg, if_true, if_false, xI_cl, Int.toNat_natCast, iI_m, iI_a, iI_s, iI_1, xI_n, Option.bind_some, Int.natCast_add, Int.natCast_one, xI_zb, if_bI0, if_bI1, xI_rn, xI_ti, r1, am_lt, nar_b, am_u_row (show ((.inr k : am_G), 1) ≠ (.inr k, 2) by simp), am_u_row (show ((.inr k : am_G), 1) ≠ (.inr k, 3) by simp), am_u_row (show ((.inr k : am_G), 1) ≠ (.inr k, 5) by simp), am_u_row (show ((.inr k : am_G), 1) ≠ (.inr k, 4) by simp)]
  refine ⟨_, hx, ?_⟩
  have w := wr_X0_addArc hx
  refine ⟨⟨?_, fun i hi => ?_⟩, P.2.1.mv (v := v) (w := arcV v r d rt hd) (fun o h1 h2 => w.1 _ _ (by simp; omega)) rfl (fun c h1 h2 => arcV_c (c := c) (by omega)), P.2.2.1.mv (v := v) (w := arcV v r d rt hd) (fun o h1 h2 => w.1 _ _ (by simp; omega)) rfl (fun c h1 => arcV_c (c := c) (by omega)), P.2.2.2.1.mv (v := v) (w := arcV v r d rt hd) (w.1 _ _ (by simp)) (arcV_c (by omega)), P.2.2.2.2.1.mv (v := v) (w := arcV v r d rt hd) (fun o h1 h2 => w.1 _ _ (by simp; omega)) rfl (fun c h1 => arcV_c (c := c) (by omega)), ?_⟩
  · rw [au_s, if_pos rfl]; rfl
  · have hi' : i < v.1 0 + 1 := hi
    have a1 : (arcV v r d rt hd).2 1 i = if i = v.1 0 then r else v.2 1 i := rfl
    have a2 : (arcV v r d rt hd).2 2 i = if i = v.1 0 then d else v.2 2 i := rfl
    have a3 : (arcV v r d rt hd).2 3 i = if i = v.1 0 then rt else v.2 3 i := rfl
    have a4 : (arcV v r d rt hd).2 4 i = if i = v.1 0 then hd else v.2 4 i := rfl
    rw [a1, a2, a3, a4]
    refine ⟨?_, ?_, ?_, ?_⟩
    · rw [am_u_row (by simp), am_u_row (by simp), am_u_row (by simp), am_u_row (by simp), au_s]
      by_cases c : i = v.1 0
      · rw [if_pos c, if_pos c]
      · rw [if_neg c, if_neg c]; exact (P.1.2 i (by omega)).1
    · rw [am_u_row (by simp), am_u_row (by simp), am_u_row (by simp), au_s, am_u_row (by simp)]
      by_cases c : i = v.1 0
      · rw [if_pos c, if_pos c]
      · rw [if_neg c, if_neg c]; exact (P.1.2 i (by omega)).2.1
    · rw [am_u_row (by simp), au_s, am_u_row (by simp), am_u_row (by simp), am_u_row (by simp)]
      by_cases c : i = v.1 0
      · rw [if_pos c, if_pos c]
      · rw [if_neg c, if_neg c]; exact (P.1.2 i (by omega)).2.2.1
    · rw [am_u_row (by simp), am_u_row (by simp), au_s, am_u_row (by simp), am_u_row (by simp)]
      by_cases c : i = v.1 0
      · rw [if_pos c, if_pos c]
      · rw [if_neg c, if_neg c]; exact (P.1.2 i (by omega)).2.2.2
  · rw [w.1 _ _ (by simp), arcV_c (by omega)]; exact P.2.2.2.2.2
theorem cl_bf.wr {h' : am_H} {L : List (am_G × Nat)} (w : Wr L h h') (h8 : ((.inl 1 : am_G), 8) ∉ L) (h9 : ((.inl 1 : am_G), 9) ∉ L) (R : cl_bf h b) : cl_bf h' b := by
  unfold cl_bf at *
  rw [w.1 _ _ h8, w.1 _ _ h9]; exact R
theorem cl_tk.wr {h' : am_H} {L : List (am_G × Nat)} (w : Wr L h h') (h8 : ((.inl 1 : am_G), 8) ∉ L) (h9 : ((.inl 1 : am_G), 9) ∉ L) (R : cl_tk h b T) : cl_tk h' b T := by
  unfold cl_tk cl_t0 cl_bf at *
  rw [w.1 _ _ h8, w.1 _ _ h9]; exact R
theorem k_addName (hb : bOk b) (hT : tk_ok b T) (h1 : T.1 = 1) (h20 : v.1 1 + (T.2.2 - T.2.1) ≤ 20) (R : cl_bf h b) (P : cl_pl h k v) : ∃ h', f_X4_addWord k (iI T.2.1) (iI T.2.2) h = some h' ∧ cl_pl h' k (namV v (wdF b T) (T.2.2 - T.2.1)) := by
  have hb1 := hb.1
  have hTe := hT.2.2.1
  have hTs := hT.2.1
  obtain ⟨s, e1, p1, p2, p3⟩ := ch_rel (fun i s => f_X4_addWord_3 k (iI T.2.2) (iI ((T.2.1 : Int) + i)) s) (fun i s => s.1 (.inr k) 6 4 = iI ((v.1 1 + i : Nat) : Int) ∧ (∀ j, j < v.1 1 + i → s.1 (.inr k) 7 j = iI ((namV v (wdF b T) i).2 5 j) ∧ s.1 (.inr k) 8 j = iI ((namV v (wdF b T) i).2 6 j) ∧ s.1 (.inr k) 9 j = iI ((namV v (wdF b T) i).2 7 j)) ∧ Wr [((.inr k), 7), ((.inr k), 8), ((.inr k), 9), ((.inr k), 6)] h s) (n := T.2.2 - T.2.1) (fun i s hi hs => by
    obtain ⟨p1, p2, w⟩ := hs
    have hc := wdF_l hT h1 hi
    have Rs := R.wr w (by simp) (by simp)
    have ep := k_placeAt (h := s) (n := b.1) (i := T.2.1 + i) (b := b.2) (by omega) hb1 hc Rs.2
    rw [Int.natCast_add] at ep
    have hc' : 97 ≤ b.2 (T.2.1 + i) ∧ b.2 (T.2.1 + i) ≤ 122 := hc
    have eq := k_isPlace (p := b.2 (T.2.1 + i) - 97) (by omega)
    rw [show bI (0 ≤ b.2 (T.2.1 + i) - 97 ∧ b.2 (T.2.1 + i) - 97 ≤ 25) = 1 from if_pos (by omega)] at eq
    refine ⟨am_u (am_u (am_u (am_u s (.inr k) 7 (v.1 1 + i) (iI (b.2 (T.2.1 + i) - 97))) (.inr k) 8 (v.1 1 + i) (iI 0)) (.inr k) 9 (v.1 1 + i) (iI 0)) (.inr k) 6 4 (iI ((v.1 1 : Int) + i + 1)), ?_, ?_, fun j hj => ?_, ?_⟩
    · show f_X4_addWord_3 _ _ _ _ = f_X4_addWord_3 _ _ _ _
      rw [Int.natCast_add] at p1
      rw [e_X4_addWord_3]
      simp (disch := omega) only [xI_le, xI_lt, xI_eq, xI_0, xI_ib, if_pos, if_neg, if_true, if_false, xI_cl, Int.toNat_natCast, iI_m, iI_a, iI_s, iI_1, xI_n, Option.bind_some, Int.natCast_add, Int.natCast_one, xI_zb, if_bI0, if_bI1, xI_rn, xI_ti, ep, eq, p1, am_lt, vz0, am_u_row (show ((.inr k : am_G), 6) ≠ (.inr k, 7) by simp), am_u_row (show ((.inr k : am_G), 6) ≠ (.inr k, 8) by simp), am_u_row (show ((.inr k : am_G), 6) ≠ (.inr k, 9) by simp), show ((v.1 1 : Int) + (i : Int)).toNat = v.1 1 + i from by omega, show (T.2.1 : Int) + ((i : Int) + 1) = (T.2.1 : Int) + i + 1 from by omega]
    · rw [au_s, if_pos rfl]
      congr 1
    · rw [am_u_row (by simp), am_u_row (by simp), am_u_row (by simp), au_s, am_u_row (by simp), am_u_row (by simp), au_s, am_u_row (by simp), am_u_row (by simp), au_s, am_u_row (by simp), am_u_row (by simp)]
      by_cases c : j = v.1 1 + i
      · rw [if_pos c, if_pos c, if_pos c]
        rw [namV_5 (by omega), namV_67 (Or.inl rfl) (by omega), namV_67 (Or.inr rfl) (by omega), show j - v.1 1 = i by omega]
        exact ⟨rfl, rfl, rfl⟩
      · rw [if_neg c, if_neg c, if_neg c]
        exact p2 j (by omega)
    · exact w.tr ((Wr.u (by simp)).tr ((Wr.u (by simp)).tr ((Wr.u (by simp)).tr (Wr.u (by simp)))))) (s0 := h) ⟨P.2.1.1, fun j hj => by
        have := P.2.1.2.1 j (by omega)
        rw [namV_lt (by omega), namV_lt (by omega), namV_lt (by omega)]
        exact this, Wr.rf⟩
  refine ⟨s, ?_, P.1.mv (v := v) (w := namV v (wdF b T) (T.2.2 - T.2.1)) (fun o a c => p3.1 _ _ (by simp; omega)) rfl (fun c a d => namV_c (c := c) (by omega)), ⟨p1, p2, ?_⟩, P.2.2.1.mv (v := v) (w := namV v (wdF b T) (T.2.2 - T.2.1)) (fun o a c => p3.1 _ _ (by simp; omega)) rfl (fun c a => namV_c (c := c) (by omega)), P.2.2.2.1.mv (v := v) (w := namV v (wdF b T) (T.2.2 - T.2.1)) (p3.1 _ _ (by simp)) (namV_c (by omega)), P.2.2.2.2.1.mv (v := v) (w := namV v (wdF b T) (T.2.2 - T.2.1)) (fun o a c => p3.1 _ _ (by simp; omega)) rfl (fun c a => namV_c (c := c) (by omega)), ?_⟩
  · unfold f_X4_addWord
    refine Eq.trans (Eq.trans (congrArg (fun z => f_X4_addWord_3 k (iI T.2.2) (iI z) h) (show (T.2.1 : Int) = (T.2.1 : Int) + ((0 : Nat) : Int) by omega)) e1) ?_
    show f_X4_addWord_3 _ _ _ _ = _
    rw [e_X4_addWord_3]
    simp (disch := omega) only [xI_le, xI_lt, xI_eq, xI_0, xI_ib, if_pos, if_neg, if_true, if_false, xI_cl, Int.toNat_natCast, iI_m, iI_a, iI_s, iI_1, xI_n, Option.bind_some, Int.natCast_add, Int.natCast_one, xI_zb, if_bI0, if_bI1, xI_rn, xI_ti, show ((T.2.2 - T.2.1 : Nat) : Int) = (T.2.2 : Int) - T.2.1 from by omega]
  · rw [p3.1 _ _ (by simp), namV_c (by omega)]; exact P.2.1.2.2
  · rw [p3.1 _ _ (by simp), namV_c (by omega)]; exact P.2.2.2.2.2
theorem k_widen (hb : bOk b) (hT : tk_ok b T) (h1 : T.1 = 1) {w : Int} (R : cl_bf h b) (P : cl_pl h k v) : ∃ h', f_X4_widenWord k (iI T.2.1) (iI T.2.2) (iI w) h = some h' ∧ cl_pl h' k (widV v (wdF b T) w (T.2.2 - T.2.1)) := by
  have hb1 := hb.1
  have hTe := hT.2.2.1
  have hTs := hT.2.1
  obtain ⟨s, e1, p1, p2⟩ := ch_rel (fun i s => f_X4_widenWord_3 k (iI T.2.2) (iI w) (iI ((T.2.1 : Int) + i)) s) (fun i s => cl_pl s k (widV v (wdF b T) w i) ∧ cl_bf s b) (n := T.2.2 - T.2.1) (fun i s hi hs => by
    obtain ⟨p, Rs⟩ := hs
    have hc := wdF_l hT h1 hi
    have ep := k_placeAt (h := s) (n := b.1) (i := T.2.1 + i) (b := b.2) (by omega) hb1 hc Rs.2
    rw [Int.natCast_add] at ep
    have hc' : 97 ≤ b.2 (T.2.1 + i) ∧ b.2 (T.2.1 + i) ≤ 122 := hc
    have eq := k_isPlace (p := b.2 (T.2.1 + i) - 97) (by omega)
    rw [show bI (0 ≤ b.2 (T.2.1 + i) - 97 ∧ b.2 (T.2.1 + i) - 97 ≤ 25) = 1 from if_pos (by omega)] at eq
    refine ⟨am_u s (.inr k) 10 (b.2 (T.2.1 + i) - 97).toNat (iI w), ?_, p.r10, Rs.wr (Wr.u (L := [(.inr k, 10)]) (by simp)) (by simp) (by simp)⟩
    show f_X4_widenWord_3 _ _ _ _ _ = f_X4_widenWord_3 _ _ _ _ _
    rw [e_X4_widenWord_3]
    simp (disch := omega) only [xI_le, xI_lt, xI_eq, xI_0, xI_ib, if_pos, if_neg, if_true, if_false, xI_cl, Int.toNat_natCast, iI_m, iI_a, iI_s, iI_1, xI_n, Option.bind_some, Int.natCast_add, Int.natCast_one, xI_zb, if_bI0, if_bI1, xI_rn, xI_ti, ep, eq, am_lt, show (T.2.1 : Int) + ((i : Int) + 1) = (T.2.1 : Int) + i + 1 from by omega]) (s0 := h) ⟨P, R⟩
  refine ⟨s, ?_, p1⟩
  unfold f_X4_widenWord
  refine Eq.trans (Eq.trans (congrArg (fun z => f_X4_widenWord_3 k (iI T.2.2) (iI w) (iI z) h) (show (T.2.1 : Int) = (T.2.1 : Int) + ((0 : Nat) : Int) by omega)) e1) ?_
  show f_X4_widenWord_3 _ _ _ _ _ = _
  rw [e_X4_widenWord_3]
  simp (disch := omega) only [xI_le, xI_lt, xI_eq, xI_0, xI_ib, if_pos, if_neg, if_true, if_false, xI_cl, Int.toNat_natCast, iI_m, iI_a, iI_s, iI_1, xI_n, Option.bind_some, Int.natCast_add, Int.natCast_one, xI_zb, if_bI0, if_bI1, xI_rn, xI_ti, show ((T.2.2 - T.2.1 : Nat) : Int) = (T.2.2 : Int) - T.2.1 from by omega]
theorem k_nmB {q i : Nat} (hq : q < 6) (hi : i < 8) : f_X2_nameByte k (iI q) (iI i) h = some (h.1 (.inr k) 12 (8 * q + i)) := by
  unfold f_X2_nameByte
  simp (disch := omega) only [xI_le, xI_lt, xI_eq, xI_0, xI_ib, if_pos, if_neg, if_true, if_false, xI_cl, Int.toNat_natCast, iI_m, iI_a, iI_s, iI_1, xI_n, Option.bind_some, Int.natCast_add, Int.natCast_one, xI_zb, if_bI0, if_bI1, xI_rn, xI_ti, k_isWithin (n := (i : Int)) (a := 0) (b := 7) (by omega) (by omega) (by omega), show ((q : Int) * 8 + (i : Int)).toNat = 8 * q + i from by omega]
theorem k_beginKind (hb : bOk b) (hT : tk_ok b T) (h1 : T.1 = 1) (h6 : v.1 2 < 6) (R : cl_tk h b T) (P : cl_pl h k v) : ∃ h', f_X2_beginKind k h = some h' ∧ cl_pl h' k v ∧ ∀ i, i < 8 → h'.1 (.inr k) 12 (8 * v.1 2 + i) = iI (wdZ b T i) := by
  have hb1 := hb.1
  have hTe := hT.2.2.1
  have hTs := hT.2.1
  obtain ⟨s, e1, p1, p2, p3⟩ := ch_rel (fun i s => f_X2_beginKind_2 k (iI i) s) (fun i s => (∀ j, j < i → s.1 (.inr k) 12 (8 * v.1 2 + j) = iI (wdZ b T j)) ∧ (∀ j, j < 8 * v.1 2 → s.1 (.inr k) 12 j = h.1 (.inr k) 12 j) ∧ Wr [(.inr k, 12)] h s) (n := 8) (fun i s hi hs => by
    obtain ⟨p1, p2, w⟩ := hs
    have Rs := R.wr w (by simp) (by simp)
    have r2 : s.1 (.inr k) 11 4 = iI (v.1 2) := by rw [w.1 _ _ (by simp)]; exact P.2.2.1.1
    refine ⟨am_u s (.inr k) 12 (8 * v.1 2 + i) (iI (wdZ b T i)), ?_, fun j hj => ?_, fun j hj => ?_, w.tr (Wr.u (by simp))⟩
    · show f_X2_beginKind_2 _ _ _ = f_X2_beginKind_2 _ _ _
      by_cases c : i < T.2.2 - T.2.1
      · have ez : wdZ b T i = b.2 (T.2.1 + i) := if_pos c
        have hc := wdF_l hT h1 c
        have hc' : 97 ≤ b.2 (T.2.1 + i) ∧ b.2 (T.2.1 + i) ≤ 122 := hc
        have ea := k_byteAt hb Rs.1.1 (i := T.2.1 + i) (by omega)
        rw [Int.natCast_add, sby_e (by omega)] at ea
        rw [e_X2_beginKind_2, ez]
        simp (disch := omega) only [xI_le, xI_lt, xI_eq, xI_0, xI_ib, if_pos, if_neg, if_true, if_false, xI_cl, Int.toNat_natCast, iI_m, iI_a, iI_s, iI_1, xI_n, Option.bind_some, Int.natCast_add, Int.natCast_one, xI_zb, if_bI0, if_bI1, xI_rn, xI_ti, Rs.1.2.2.1, Rs.1.2.2.2, r2, ea, am_lt, show ((v.1 2 : Int) * 8 + (i : Int)).toNat = 8 * v.1 2 + i from by omega]
      · have ez : wdZ b T i = 0 := if_neg c
        rw [e_X2_beginKind_2, ez]
        simp (disch := omega) only [xI_le, xI_lt, xI_eq, xI_0, xI_ib, if_pos, if_neg, if_true, if_false, xI_cl, Int.toNat_natCast, iI_m, iI_a, iI_s, iI_1, xI_n, Option.bind_some, Int.natCast_add, Int.natCast_one, xI_zb, if_bI0, if_bI1, xI_rn, xI_ti, Rs.1.2.2.1, Rs.1.2.2.2, r2, am_lt, show ((v.1 2 : Int) * 8 + (i : Int)).toNat = 8 * v.1 2 + i from by omega]
    · rw [au_s]
      by_cases c : j = i
      · rw [if_pos (by omega), c]
      · rw [if_neg (by omega)]; exact p1 j (by omega)
    · rw [au_s, if_neg (by omega)]; exact p2 j hj) (s0 := h) ⟨fun j hj => absurd hj (Nat.not_lt_zero j), fun j _ => rfl, Wr.rf⟩
  refine ⟨s, ?_, ⟨P.1.mv (v := v) (w := v) (fun o a c => p3.1 _ _ (by simp; omega)) rfl (fun _ _ _ => rfl), P.2.1.mv (v := v) (w := v) (fun o a c => p3.1 _ _ (by simp; omega)) rfl (fun _ _ _ => rfl), ⟨?_, ?_, fun i hi => ?_⟩, P.2.2.2.1.mv (v := v) (w := v) (p3.1 _ _ (by simp)) rfl, P.2.2.2.2.1.mv (v := v) (w := v) (fun o a c => p3.1 _ _ (by simp; omega)) rfl (fun _ _ => rfl), ?_⟩, p1⟩
  · unfold f_X2_beginKind
    refine Eq.trans e1 ?_
    show f_X2_beginKind_2 _ _ _ = _
    rw [e_X2_beginKind_2]
    simp (disch := omega) only [xI_le, xI_lt, xI_eq, xI_0, xI_ib, if_pos, if_neg, if_true, if_false, xI_cl, Int.toNat_natCast, iI_m, iI_a, iI_s, iI_1, xI_n, Option.bind_some, Int.natCast_add, Int.natCast_one, xI_zb, if_bI0, if_bI1, xI_rn, xI_ti]
  · rw [p3.1 _ _ (by simp)]; exact P.2.2.1.1
  · rw [p3.1 _ _ (by simp), p3.1 _ _ (by simp), p3.1 _ _ (by simp)]; exact P.2.2.1.2.1
  · rw [p2 i hi]; exact P.2.2.1.2.2 i hi
  · rw [p3.1 _ _ (by simp)]; exact P.2.2.2.2.2
theorem k_isSame {q n : Nat} {f g : Nat → Int} (hq : q < 6) (hn : n < 6) (e1 : ∀ i, i < 8 → h.1 (.inr k) 12 (8 * q + i) = iI (f i)) (e2 : ∀ i, i < 8 → h.1 (.inr k) 12 (8 * n + i) = iI (g i)) (b1 : ∀ i, i < 8 → 0 ≤ f i ∧ f i ≤ 122) (b2 : ∀ i, i < 8 → 0 ≤ g i ∧ g i ≤ 122) : f_X2_isSameName k (iI q) (iI n) h = some (iI (bI (eqB f g 8 = true))) := by
  have hm := pv_fst_le (fun i => decide (f i ≠ g i)) 8 0
  have hat := pv_fst_at (fun i => decide (f i ≠ g i)) 8 0
  have hlt := pv_fst_lt (fun i => decide (f i ≠ g i)) 8 0
  have s := ch_to (fun i : Nat => f_X2_isSameName_2 k (iI q) (iI n) (iI i) h) (Nat.zero_le (pv_fst (fun i => decide (f i ≠ g i)) 8 0)) (fun i _ hi => by
    have h2 := hlt i (Nat.zero_le i) hi
    simp only [decide_eq_false_iff_not, Decidable.not_not] at h2
    have a1 := k_nmB (h := h) (k := k) hq (i := i) (by omega)
    have a2 := k_nmB (h := h) (k := k) hn (i := i) (by omega)
    rw [e1 i (by omega)] at a1
    rw [e2 i (by omega), ← h2] at a2
    show f_X2_isSameName_2 _ _ _ _ _ = f_X2_isSameName_2 _ _ _ _ _
    rw [e_X2_isSameName_2, a1, a2]
    simp (disch := omega) only [xI_le, xI_lt, xI_eq, xI_0, xI_ib, if_pos, if_neg, if_true, if_false, xI_cl, Int.toNat_natCast, iI_m, iI_a, iI_s, iI_1, xI_n, Option.bind_some, Int.natCast_add, Int.natCast_one, xI_zb, if_bI0, if_bI1, xI_rn, xI_ti])
  unfold f_X2_isSameName
  refine Eq.trans s ?_
  show f_X2_isSameName_2 _ _ _ _ _ = _
  generalize pv_fst (fun i => decide (f i ≠ g i)) 8 0 = m at *
  by_cases c : m = 8
  · rw [show bI (eqB f g 8 = true) = 1 from if_pos (eqB_i.mpr (fun i hi => by
      have h2 := hlt i (Nat.zero_le i) (by omega)
      simpa only [decide_eq_false_iff_not, Decidable.not_not] using h2)), c, e_X2_isSameName_2]
    simp (disch := omega) only [xI_le, xI_lt, xI_eq, xI_0, xI_ib, if_pos, if_neg, if_true, if_false, xI_cl, Int.toNat_natCast, iI_m, iI_a, iI_s, iI_1, xI_n, Option.bind_some, Int.natCast_add, Int.natCast_one, xI_zb, if_bI0, if_bI1, xI_rn, xI_ti]
  · have h2 := hat (by omega)
    simp only [decide_eq_true_eq] at h2
    have a1 := k_nmB (h := h) (k := k) hq (i := m) (by omega)
    have a2 := k_nmB (h := h) (k := k) hn (i := m) (by omega)
    rw [e1 m (by omega)] at a1
    rw [e2 m (by omega)] at a2
    have c1 := b1 m (by omega)
    have c2 := b2 m (by omega)
    rw [show bI (eqB f g 8 = true) = 0 from if_neg (fun z => h2 (eqB_i.mp z m (by omega))), e_X2_isSameName_2, a1, a2]
    generalize f m = y1 at *
    generalize g m = y2 at *
    simp (disch := omega) only [xI_le, xI_lt, xI_eq, xI_0, xI_ib, if_pos, if_neg, if_true, if_false, xI_cl, Int.toNat_natCast, iI_m, iI_a, iI_s, iI_1, xI_n, Option.bind_some, Int.natCast_add, Int.natCast_one, xI_zb, if_bI0, if_bI1, xI_rn, xI_ti]
theorem k_taken {f : Nat → Int} (hv : pvA v) (h6 : v.1 2 < 6) (P : cl_pl h k v) (e2 : ∀ i, i < 8 → h.1 (.inr k) 12 (8 * v.1 2 + i) = iI (f i)) (b2 : ∀ i, i < 8 → 0 ≤ f i ∧ f i ≤ 122) : f_X2_isBegunNameTaken k h = some (iI (bI (takN v f = true))) := by
  have hm := pv_fst_le (fun q => eqB (fun i => v.2 14 (8 * q + i)) f 8) (v.1 2) 0
  have hat := pv_fst_at (fun q => eqB (fun i => v.2 14 (8 * q + i)) f 8) (v.1 2) 0
  have hlt := pv_fst_lt (fun q => eqB (fun i => v.2 14 (8 * q + i)) f 8) (v.1 2) 0
  have eS : ∀ q, q < v.1 2 → f_X2_isSameName k (iI q) (iI (v.1 2)) h = some (iI (bI (eqB (fun i => v.2 14 (8 * q + i)) f 8 = true))) := fun q hq => k_isSame (f := fun i => v.2 14 (8 * q + i)) (by omega) h6 (fun i hi => P.2.2.1.2.2 _ (by omega)) e2 (fun i hi => nm_b (hv.2.2 q hq) hi) b2
  have s := ch_to (fun q : Nat => f_X2_isBegunNameTaken_2 k (iI q) h) (Nat.zero_le (pv_fst (fun q => eqB (fun i => v.2 14 (8 * q + i)) f 8) (v.1 2) 0)) (fun q _ hq => by
    have h2 := hlt q (Nat.zero_le q) hq
    have h2 := Bool.eq_false_iff.mp h2
    have a := eS q (by omega)
    rw [show bI (eqB (fun i => v.2 14 (8 * q + i)) f 8 = true) = 0 from if_neg h2] at a
    show f_X2_isBegunNameTaken_2 _ _ _ = f_X2_isBegunNameTaken_2 _ _ _
    rw [e_X2_isBegunNameTaken_2, P.2.2.1.1, a]
    simp (disch := omega) only [xI_le, xI_lt, xI_eq, xI_0, xI_ib, if_pos, if_neg, if_true, if_false, xI_cl, Int.toNat_natCast, iI_m, iI_a, iI_s, iI_1, xI_n, Option.bind_some, Int.natCast_add, Int.natCast_one, xI_zb, if_bI0, if_bI1, xI_rn, xI_ti])
  unfold f_X2_isBegunNameTaken
  refine Eq.trans s ?_
  show f_X2_isBegunNameTaken_2 _ _ _ = _
  generalize pv_fst (fun q => eqB (fun i => v.2 14 (8 * q + i)) f 8) (v.1 2) 0 = m at *
  by_cases c : m = v.1 2
  · rw [show bI (takN v f = true) = 0 from if_neg (fun z => by
      obtain ⟨q, q1, q2⟩ := takN_i.mp z
      have h2 := hlt q (Nat.zero_le q) (by omega)
      exact Bool.eq_false_iff.mp h2 (eqB_i.mpr q2)), c, e_X2_isBegunNameTaken_2, P.2.2.1.1]
    simp (disch := omega) only [xI_le, xI_lt, xI_eq, xI_0, xI_ib, if_pos, if_neg, if_true, if_false, xI_cl, Int.toNat_natCast, iI_m, iI_a, iI_s, iI_1, xI_n, Option.bind_some, Int.natCast_add, Int.natCast_one, xI_zb, if_bI0, if_bI1, xI_rn, xI_ti]
  · have h2 := hat (by omega)
    have a := eS m (by omega)
    rw [show bI (eqB (fun i => v.2 14 (8 * m + i)) f 8 = true) = 1 from if_pos h2] at a
    rw [show bI (takN v f = true) = 1 from if_pos (takN_i.mpr ⟨m, by omega, eqB_i.mp h2⟩), e_X2_isBegunNameTaken_2, P.2.2.1.1, a]
    simp (disch := omega) only [xI_le, xI_lt, xI_eq, xI_0, xI_ib, if_pos, if_neg, if_true, if_false, xI_cl, Int.toNat_natCast, iI_m, iI_a, iI_s, iI_1, xI_n, Option.bind_some, Int.natCast_add, Int.natCast_one, xI_zb, if_bI0, if_bI1, xI_rn, xI_ti]
theorem k_endKind {f : Nat → Int} (h6 : v.1 2 < 6) (P : cl_pl h k v) (e2 : ∀ i, i < 8 → h.1 (.inr k) 12 (8 * v.1 2 + i) = iI (f i)) {w wo sk : Int} : ∃ h', f_X2_endKind k (iI w) (iI wo) (iI sk) h = some h' ∧ cl_pl h' k (kinV v f w wo sk) := by
  have r2 := P.2.2.1.1
  have hx : f_X2_endKind k (iI w) (iI wo) (iI sk) h = some (am_u (am_u (am_u (am_u h (.inr k) 13 (v.1 2) (iI w)) (.inr k) 14 (v.1 2) (iI wo)) (.inr k) 15 (v.1 2) (iI sk)) (.inr k) 11 4 (iI ((v.1 2 : Int) + 1))) := by
    unfold f_X2_endKind
    simp (disch := omega) only [xI_le, xI_lt, xI_eq, xI_0, xI_ib, if_pos, if_neg, if_true, if_false, xI_cl, Int.toNat_natCast, iI_m, iI_a, iI_s, iI_1, xI_n, Option.bind_some, Int.natCast_add, Int.natCast_one, xI_zb, if_bI0, if_bI1, xI_rn, xI_ti, r2, am_lt, am_u_row (show ((.inr k : am_G), 11) ≠ (.inr k, 13) by simp), am_u_row (show ((.inr k : am_G), 11) ≠ (.inr k, 14) by simp), am_u_row (show ((.inr k : am_G), 11) ≠ (.inr k, 15) by simp)]
  refine ⟨_, hx, ?_⟩
  have w1 := wr_X2_endKind hx
  refine ⟨P.1.mv (v := v) (w := kinV v f w wo sk) (fun o a c => w1.1 _ _ (by simp; omega)) rfl (fun c a d => kinV_c (c := c) (by omega)), P.2.1.mv (v := v) (w := kinV v f w wo sk) (fun o a c => w1.1 _ _ (by simp; omega)) rfl (fun c a d => kinV_c (c := c) (by omega)), ⟨?_, fun i hi => ?_, fun i hi => ?_⟩, P.2.2.2.1.mv (v := v) (w := kinV v f w wo sk) (w1.1 _ _ (by simp)) (kinV_c (by omega)), P.2.2.2.2.1.mv (v := v) (w := kinV v f w wo sk) (fun o a c => w1.1 _ _ (by simp; omega)) rfl (fun c a => kinV_c (c := c) (by omega)), ?_⟩
  · rw [au_s, if_pos rfl]; rfl
  · have hi' : i < v.1 2 + 1 := hi
    have a9 : (kinV v f w wo sk).2 9 i = if i = v.1 2 then w else v.2 9 i := rfl
    have a10 : (kinV v f w wo sk).2 10 i = if i = v.1 2 then wo else v.2 10 i := rfl
    have a11 : (kinV v f w wo sk).2 11 i = if i = v.1 2 then sk else v.2 11 i := rfl
    rw [a9, a10, a11]
    refine ⟨?_, ?_, ?_⟩
    · rw [am_u_row (by simp), am_u_row (by simp), am_u_row (by simp), au_s]
      by_cases c : i = v.1 2
      · rw [if_pos c, if_pos c]
      · rw [if_neg c, if_neg c]; exact (P.2.2.1.2.1 i (by omega)).1
    · rw [am_u_row (by simp), am_u_row (by simp), au_s, am_u_row (by simp)]
      by_cases c : i = v.1 2
      · rw [if_pos c, if_pos c]
      · rw [if_neg c, if_neg c]; exact (P.2.2.1.2.1 i (by omega)).2.1
    · rw [am_u_row (by simp), au_s, am_u_row (by simp), am_u_row (by simp)]
      by_cases c : i = v.1 2
      · rw [if_pos c, if_pos c]
      · rw [if_neg c, if_neg c]; exact (P.2.2.1.2.1 i (by omega)).2.2
  · have hi' : i < 8 * (v.1 2 + 1) := hi
    have a14 : (kinV v f w wo sk).2 14 i = if 14 = 14 ∧ 8 * v.1 2 ≤ i then f (i - 8 * v.1 2) else v.2 14 i := rfl
    rw [w1.1 _ _ (by simp), a14]
    by_cases c : 8 * v.1 2 ≤ i
    · rw [if_pos ⟨rfl, c⟩]
      have := e2 (i - 8 * v.1 2) (by omega)
      rw [show 8 * v.1 2 + (i - 8 * v.1 2) = i by omega] at this
      exact this
    · rw [if_neg (by omega)]
      exact P.2.2.1.2.2 i (by omega)
  · rw [w1.1 _ _ (by simp), kinV_c (by omega)]; exact P.2.2.2.2.2
end CST
