/-! readText, the program's -/
def v0 : pv_T := (fun _ => 0, fun c i => if c = 0 then (if i = 0 then 50 else if i = 1 then 1 else if i = 2 then 1 else 0) else if c = 8 then 4 else 0)
theorem v0_Z : pvZ v0 := by
  refine ⟨⟨⟨?_, fun i hi => absurd hi (Nat.not_lt_zero i), fun i hi => absurd hi (Nat.not_lt_zero i), fun i hi => ?_, fun i hi => absurd hi (Nat.not_lt_zero i), fun i hi => absurd hi (Nat.not_lt_zero i), ?_⟩, fun i hi => absurd hi (Nat.not_lt_zero i), fun i hi => absurd hi (Nat.not_lt_zero i)⟩, rfl⟩
  · exact ⟨Nat.zero_le _, Nat.zero_le _, Nat.zero_le _, Nat.zero_le _⟩
  · show (1 : Int) ≤ 4 ∧ (4 : Int) ≤ 99; omega
  · show (0 : Int) ≤ 50 ∧ (50 : Int) ≤ 99 ∧ (0 : Int) ≤ 1 ∧ (1 : Int) ≤ 99; omega
abbrev g0 : G3 := (false, false, false)
def rdT (st : St) : Rs pv_T := sTxt st.2.2.2.1 500 v0 g0 (tkA st.2.2.2.1 0)
def sRTf (st : St) (r : Rs pv_T) : St := match r with
  | .inl e => stB st (0, st.2.2.2.1.2) e
  | .inr w => setPl (setU (stB st (0, st.2.2.2.1.2) (0, -1)) 0) w
def oRTf (r : Rs pv_T) : Int32 ⊕ Nat := match r with
  | .inl _ => .inr 1
  | .inr w => .inl (iI (w.1 1))
theorem sRT_ok {st : St} (ok : Ok st) : Ok (sRTf st (rdT st)) := by
  have hb : st.2.2.2.1.1 ≤ 500 := ok.2.2.2.1.1
  have hT := tkA_ok (b := st.2.2.2.1) (p := 0) (Nat.zero_le _)
  cases e : rdT st with
  | inl q => exact ⟨ok.1, ok.2.1, ok.2.2.1, ⟨Nat.zero_le 500, ok.2.2.2.1.2⟩, ok.2.2.2.2⟩
  | inr w =>
    have hw := sTxt_ok 500 hT.1 v0_Z e
    exact ⟨hw.1, ok.2.1, ⟨Nat.zero_le 6, fun i hi => absurd hi (Nat.not_lt_zero i)⟩, ⟨Nat.zero_le 500, ok.2.2.2.1.2⟩, ok.2.2.2.2⟩
section CRT
variable {h : am_H} {st : St}
theorem k_clearN {k : Nat} : ∃ h', f_X4_clear k h = some h' ∧ cl_na h' k v0 := by
  obtain ⟨s, e1, p1, p2⟩ := ch_rel (fun i s => f_X4_clear_7 k (iI i) s) (fun i s => s.1 (.inr k) 6 4 = iI 0 ∧ ∀ j, j < i → s.1 (.inr k) 10 j = iI 4) (n := 26) (fun i s hi hs => by
    obtain ⟨p1, p2⟩ := hs
    refine ⟨am_u s (.inr k) 10 i (iI 4), ?_, by rw [am_u_row (by simp)]; exact p1, fun j hj => ?_⟩
    · show f_X4_clear_7 _ _ _ = f_X4_clear_7 _ _ _
      rw [e_X4_clear_7]
      simp (disch := omega) only [xI_le, xI_lt, xI_eq, xI_0, xI_ib, if_pos, if_neg, if_true, if_false, xI_cl, Int.toNat_natCast, iI_m, iI_a, iI_s, iI_1, xI_n, Option.bind_some, Int.natCast_add, Int.natCast_one, xI_zb, if_bI0, if_bI1, xI_rn, xI_ti, am_lt]
    · rw [au_s]
      by_cases c : j = i
      · rw [if_pos c]
      · rw [if_neg c]; exact p2 j (by omega)) (s0 := am_u h (.inr k) 6 4 (iI 0)) ⟨by rw [au_s, if_pos rfl], fun j hj => absurd hj (Nat.not_lt_zero j)⟩
  refine ⟨s, ?_, p1, fun i hi => absurd hi (Nat.not_lt_zero i), p2⟩
  unfold f_X4_clear
  rw [am_lt]
  refine Eq.trans e1 ?_
  show f_X4_clear_7 _ _ _ = _
  rw [e_X4_clear_7]
  simp (disch := omega) only [xI_le, xI_lt, xI_eq, xI_0, xI_ib, if_pos, if_neg, if_true, if_false, xI_cl, Int.toNat_natCast, iI_m, iI_a, iI_s, iI_1, xI_n, Option.bind_some, Int.natCast_add, Int.natCast_one, xI_zb, if_bI0, if_bI1, xI_rn, xI_ti]
theorem k_clear {k : Nat} : ∃ h', f_X5_clear k h = some h' ∧ cl_pl h' k v0 := by
  obtain ⟨h1, e1, N1⟩ := k_clearN (h := am_u h (.inr k) 1 4 (iI 0)) (k := k)
  have w1 := wr_X4_clear e1
  have e2 : f_X1_clear (.inr k) 16 (am_u h1 (.inr k) 11 4 (iI 0)) = some (am_u (am_u (am_u (am_u (am_u h1 (.inr k) 11 4 (iI 0)) (.inr k) 16 0 (iI 50)) (.inr k) 16 1 (iI 1)) (.inr k) 16 2 (iI 0)) (.inr k) 16 3 (iI 0)) := rfl
  refine ⟨am_u (am_u (am_u (am_u (am_u (am_u (am_u h1 (.inr k) 11 4 (iI 0)) (.inr k) 16 0 (iI 50)) (.inr k) 16 1 (iI 1)) (.inr k) 16 2 (iI 0)) (.inr k) 16 3 (iI 0)) (.inr k) 17 2 (iI 0)) (.inr k) 0 5 (iI 1), ?_, ⟨?_, fun i hi => absurd hi (Nat.not_lt_zero i)⟩, ⟨?_, fun i hi => absurd hi (Nat.not_lt_zero i), fun i hi => ?_⟩, ⟨?_, fun i hi => absurd hi (Nat.not_lt_zero i), fun i hi => absurd hi (Nat.not_lt_zero i)⟩, ⟨?_, ?_, ?_, ?_⟩, ⟨?_, fun i hi => absurd hi (Nat.not_lt_zero i)⟩, ?_⟩
  · unfold f_X5_clear
    rw [am_lt, e1, Option.bind_some, am_lt, e2, Option.bind_some, am_lt, am_lt]
  · rw [am_u_row (by simp), am_u_row (by simp), am_u_row (by simp), am_u_row (by simp), am_u_row (by simp), am_u_row (by simp), am_u_row (by simp), w1.1 _ _ (by simp), au_s, if_pos rfl]; rfl
  · rw [am_u_row (by simp), am_u_row (by simp), am_u_row (by simp), am_u_row (by simp), am_u_row (by simp), am_u_row (by simp), am_u_row (by simp)]; exact N1.1
  · rw [am_u_row (by simp), am_u_row (by simp), am_u_row (by simp), am_u_row (by simp), am_u_row (by simp), am_u_row (by simp), am_u_row (by simp)]; exact N1.2.2 i hi
  · rw [am_u_row (by simp), am_u_row (by simp), am_u_row (by simp), am_u_row (by simp), am_u_row (by simp), am_u_row (by simp), au_s, if_pos rfl]; rfl
  · rw [am_u_row (by simp), am_u_row (by simp), au_s, if_neg (by omega), au_s, if_neg (by omega), au_s, if_neg (by omega), au_s, if_pos rfl]; rfl
  · rw [am_u_row (by simp), am_u_row (by simp), au_s, if_neg (by omega), au_s, if_neg (by omega), au_s, if_pos rfl]; rfl
  · rw [am_u_row (by simp), am_u_row (by simp), au_s, if_neg (by omega), au_s, if_pos rfl]; rfl
  · rw [am_u_row (by simp), am_u_row (by simp), au_s, if_pos rfl]; rfl
  · rw [am_u_row (by simp), au_s, if_pos rfl]; rfl
  · rw [au_s, if_pos rfl]; rfl
theorem k_begin {b : bfT} (hb : bOk b) (R : cl_bf h b) : ∃ h', f_X10_begin h = some h' ∧ cl_tk h' b (tkA b 0) := by
  have R1 : cl_bf (am_u (am_u (am_u h (.inl 1) 8 6 (iI 0)) (.inl 1) 8 7 (iI (-1))) (.inl 1) 8 4 (iI 0)) b := by
    refine ⟨?_, fun i hi => ?_⟩
    · rw [au_s, if_neg (by omega), au_s, if_neg (by omega), au_s, if_neg (by omega)]; exact R.1
    · rw [am_u_row (by simp), am_u_row (by simp), am_u_row (by simp)]; exact R.2 i hi
  obtain ⟨h', e, t, k⟩ := k_adv hb R1 (p := 0) (Nat.zero_le _) (by rw [au_s, if_pos rfl]; rfl)
  refine ⟨h', ?_, t, ?_, ?_⟩
  · unfold f_X10_begin
    rw [am_lt, am_lt, am_lt, e, Option.bind_some]
  · rw [k 6 (by omega), au_s, if_neg (by omega), au_s, if_neg (by omega), au_s, if_pos rfl]
  · rw [k 7 (by omega), au_s, if_neg (by omega), au_s, if_pos rfl]
theorem k_readDraft {b : bfT} (hb : bOk b) (R : cl_bf h b) : cK (f_X9_readInto 1 h) (sTxt b 500 v0 g0 (tkA b 0)) (fun w h' => cl_bf h' b ∧ cl_pl h' 1 w ∧ h'.1 (.inl 1) 8 6 = iI 0 ∧ h'.1 (.inl 1) 8 7 = iI (-1)) := by
  obtain ⟨h1, e1, P1⟩ := k_clear (h := h) (k := 1)
  have w1 := wr_X5_clear e1
  have w2 : Wr [(.inl 1, 10)] h1 (am_u (am_u (am_u h1 (.inl 1) 10 0 (iI 0)) (.inl 1) 10 1 (iI 0)) (.inl 1) 10 2 (iI 0)) := (Wr.u (by simp)).tr ((Wr.u (by simp)).tr (Wr.u (by simp)))
  have F2 : cl_fg (am_u (am_u (am_u h1 (.inl 1) 10 0 (iI 0)) (.inl 1) 10 1 (iI 0)) (.inl 1) 10 2 (iI 0)) g0 := ⟨by rw [au_s, if_neg (by omega), au_s, if_neg (by omega), au_s, if_pos rfl]; rfl, by rw [au_s, if_neg (by omega), au_s, if_pos rfl]; rfl, by rw [au_s, if_pos rfl]; rfl⟩
  obtain ⟨h3, e3, t3⟩ := k_begin hb ((R.wr w1 (by simp) (by simp)).wr w2 (by simp) (by simp))
  have w3 := wr_X10_begin e3
  have := k_readInto hb 500 (by omega) (h := h3) (v := v0) (g := g0) (T := tkA b 0) (tkA_ok (Nat.zero_le _)).1 v0_Z t3 ((P1.eq (w2.P (by simp))).eq (w3.P (by simp))) (F2.wr w3 (by simp))
  unfold f_X9_readInto
  rw [e1, Option.bind_some, am_lt, am_lt, am_lt, e3, Option.bind_some]
  exact this
theorem ClR.rd {h' : am_H} {L : List (am_G × Nat)} {e : Int × Int} (w : Wr L h h') (n : ∀ x ∈ L, x = (.inl 1, 8) ∨ x = (.inl 1, 10) ∨ x = (.inl 1, 11) ∨ x = (.inl 1, 12) ∨ x = (.inl 1, 13) ∨ x = (.inl 1, 14) ∨ x = (.inl 1, 15) ∨ x.1 = .inr 1) (z1 : h'.1 (.inl 1) 8 1 = iI 0) (z6 : h'.1 (.inl 1) 8 6 = iI e.1) (z7 : h'.1 (.inl 1) 8 7 = iI e.2) (R : ClR h st) : ClR h' (stB st (0, st.2.2.2.1.2) e) := by
  have ek : ∀ k, k ≠ 1 → ∀ o, h'.1 (.inr k) o = h.1 (.inr k) o := fun k hk o => w.1 _ _ (fun z => by
    rcases n _ z with q | q | q | q | q | q | q | q <;> cases q
    exact hk rfl)
  have eo : ∀ o, o = 0 ∨ o = 16 ∨ o = 17 → h'.1 (.inl 1) o = h.1 (.inl 1) o := fun o ho => w.1 _ _ (fun z => by
    rcases n _ z with q | q | q | q | q | q | q | q <;> cases q <;> omega)
  obtain ⟨r1, ⟨r2, r3⟩, ⟨r4, r5, r6, r7⟩, ⟨r8, r9⟩, ⟨r10, r11⟩, r12, r13⟩ := R
  exact ⟨r1.eq (ek 0 (by omega)), ⟨by rw [eo 0 (by omega)]; exact r2, fun z => (r3 z).eq (ek 3 (by omega))⟩, ⟨by rw [eo 0 (by omega)]; exact r4, by rw [w.2.2]; exact r5, by rw [w.2.2]; exact r6, fun i c hi => by rw [w.2.2]; exact (r7 i c hi).eq (ek _ (by have := (r5 i c).1; omega))⟩, ⟨z1, fun i hi => absurd hi (Nat.not_lt_zero i)⟩, ⟨z6, z7⟩, by rw [eo 16 (by omega)]; exact r12, by rw [eo 17 (by omega)]; exact r13⟩
theorem cl_readText (ok : Ok st) (R : ClR h st) : clC f_X11_readText h (sRTf st (rdT st)) (oRTf (rdT st)) := by
  have hb : bOk st.2.2.2.1 := ok.2.2.2.1
  have Bf : cl_bf h st.2.2.2.1 := R.2.2.2.1
  have K := k_readDraft hb Bf
  have hZ : ∀ w, sTxt st.2.2.2.1 500 v0 g0 (tkA st.2.2.2.1 0) = .inr w → pvZ w := fun w e => sTxt_ok 500 (tkA_ok (Nat.zero_le _)).1 v0_Z e
  show clC f_X11_readText h (sRTf st (sTxt st.2.2.2.1 500 v0 g0 (tkA st.2.2.2.1 0))) (oRTf (sTxt st.2.2.2.1 500 v0 g0 (tkA st.2.2.2.1 0)))
  generalize sTxt st.2.2.2.1 500 v0 g0 (tkA st.2.2.2.1 0) = r at *
  cases r with
  | inl e =>
    obtain ⟨h1, e1, z6, z7⟩ := K
    have w1 := wr_X9_readInto e1
    have w2 : Wr [(.inl 1, 8)] h1 (am_u h1 (.inl 1) 8 1 (iI 0)) := Wr.u (by simp)
    refine ⟨am_u h1 (.inl 1) 8 1 (iI 0), ?_, ClR.rd (w1.tr (w2.mono (by simp))) (by simp) (by rw [au_s, if_pos rfl]) (by rw [au_s, if_neg (by omega)]; exact z6) (by rw [au_s, if_neg (by omega)]; exact z7) R, ?_⟩
    · unfold f_X11_readText
      rw [e1, Option.bind_some, am_lt]
      rfl
    · exact (w1.MF rfl).tr (w2.MF rfl)
  | inr w =>
    obtain ⟨h1, e1, -, P1, z6, z7⟩ := K
    have hw := hZ w rfl
    have w1 := wr_X9_readInto e1
    have w2 : Wr [(.inl 1, 8)] h1 (am_u h1 (.inl 1) 8 1 (iI 0)) := Wr.u (by simp)
    obtain ⟨h3, e3, P3⟩ := k_copyPl (k := 0) (k2 := 1) (by omega) hw.1.1 (P1.eq (w2.P (by simp)))
    have w3 := wr_X5_copyFrom e3
    have C2 : ClR (am_u h1 (.inl 1) 8 1 (iI 0)) (stB st (0, st.2.2.2.1.2) (0, -1)) := ClR.rd (w1.tr (w2.mono (by simp))) (by simp) (by rw [au_s, if_pos rfl]) (by rw [au_s, if_neg (by omega)]; exact z6) (by rw [au_s, if_neg (by omega)]; exact z7) R
    have C3 := C2.pl0 w3 (by simp) P3
    have C4 := C3.setU (m := 0) (Nat.zero_le _)
    refine ⟨am_u h3 (.inl 1) 0 6 (iI 0), ?_, C4, (w1.MF rfl).tr ((w2.MF rfl).tr ((w3.MF rfl).tr ((Wr.u (L := [(.inl 1, 0)]) (by simp)).MF rfl)))⟩
    have e9 : (am_u h3 (.inl 1) 0 6 (iI 0)).1 (.inr 0) 6 4 = iI (w.1 1) := by rw [am_u_row (by simp)]; exact P3.2.1.1
    unfold f_X11_readText
    rw [e1, Option.bind_some, am_lt]
    dsimp only
    rw [if_neg (by decide), e3, Option.bind_some, am_lt, e9]
    rfl
end CRT
