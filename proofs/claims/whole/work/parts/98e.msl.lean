/-! scripts read, the reference's: loops -/
section MSL
variable {b : bfT}
def mo_rc (h' : am_H) (r : Rs SC) : Prop := match r with
  | .inl e => mo_er h' e
  | .inr x => mo_st h' x ∧ h'.1 (.inl 0) 0 8 = iI 0 ∧ h'.1 (.inl 0) 0 9 = iI (-1)
theorem er_rs19 {h : am_H} {e : Int × Int} (E : mo_er h e) : f_X12_runScript_19 h = f_X12_runScript_82 h := by
  rw [e_X12_runScript_19, er_good E, Option.bind_some, if_pos (by decide), e_X12_runScript_63, er_good E, Option.bind_some, if_pos (by decide)]
theorem er_clo {h : am_H} {e : Int × Int} (E : mo_er h e) : f_X12_closes_0 h = some h := by
  rw [e_X12_closes_0]
  split
  · rfl
  · rw [er_isSign E, Option.bind_some, if_pos (by decide)]
theorem er_clo19 {h : am_H} {e : Int × Int} (E : mo_er h e) : (f_X12_closes_0 h).bind (fun a => f_X12_runScript_19 a) = f_X12_runScript_82 h := by
  rw [er_clo E, Option.bind_some, er_rs19 E]
theorem m_fin {h : am_H} {T : Tk} {S : SC} {c : Nat} (hT : tk_ok b T) (h4 : T.1 ≠ 4) (hd : scD S ≤ 2) (R : mo_tk h b T) (SS : mo_ss h S c) : ∃ h', f_X12_runScript_63 h = f_X12_runScript_82 h' ∧ mo_rc h' (sFin S T) ∧ TV h h' := by
  unfold sFin
  rw [e_X12_runScript_63, m_good R, Option.bind_some, if_neg (by decide), SS.2.2]
  by_cases d : scD S = 0
  · rw [if_pos d, d, if_pos (by decide)]
    exact ⟨h, rfl, ⟨SS.1, R.2.1, R.2.2⟩, TV.rf⟩
  · obtain ⟨h1, w1, t1, k1⟩ := m_wrong hT R (c := 1) (by omega)
    rw [if_neg h4] at t1
    rw [if_neg d, if_neg (by rw [xI_0, xI_le (by omega) (by omega) (by omega) (by omega)]; omega), w1, Option.bind_some]
    exact ⟨h1, rfl, t1, k1.v⟩
theorem m_scLoop (hb : bOk b) : ∀ (n : Nat), (∀ {h : am_H} {S : SC} {c : Nat} {T : Tk}, 500 ≤ T.2.1 + n → tk_ok b T → sc_ok S c → mo_tk h b T → mo_ss h S c → ¬ clo b S T → ∃ h', f_X12_runScript_19 h = f_X12_runScript_82 h' ∧ mo_rc h' (sScr b n S c T) ∧ TV h h') ∧ (∀ {h : am_H} {S : SC} {c : Nat} {T : Tk}, 500 ≤ T.2.1 + n → tk_ok b T → sc_ok S c → mo_tk h b T → mo_ss h S c → ∃ h', (f_X12_closes_0 h).bind (fun a => f_X12_runScript_19 a) = f_X12_runScript_82 h' ∧ mo_rc h' (sScr b n S c T) ∧ TV h h')
  | 0 => by
    have hb1 := hb.1
    have z : ∀ {T : Tk}, 500 ≤ T.2.1 + 0 → tk_ok b T → T.1 = 0 := fun {T} hn hT => by
      have h2 := hT.2.1
      have h3 := hT.2.2.1
      by_cases c : T.1 = 0
      · exact c
      · have := hT.2.2.2.2.1 c; omega
    have A : ∀ {h : am_H} {S : SC} {c : Nat} {T : Tk}, 500 ≤ T.2.1 + 0 → tk_ok b T → sc_ok S c → mo_tk h b T → mo_ss h S c → ¬ clo b S T → ∃ h', f_X12_runScript_19 h = f_X12_runScript_82 h' ∧ mo_rc h' (sScr b 0 S c T) ∧ TV h h' := fun {h S c T} hn hT hS R SS _ => by
      have h0 := z hn hT
      rw [e_X12_runScript_19, m_good R, Option.bind_some, if_neg (by decide), R.1.2.2.2.1, h0, if_pos (by decide)]
      exact m_fin hT (by omega) hS.2.2.1 R SS
    refine ⟨A, fun {h S c T} hn hT hS R SS => ?_⟩
    have h0 := z hn hT
    have hd2 := hS.2.2.1
    have e : f_X12_closes_0 h = some h := by
      rw [e_X12_closes_0]
      split
      · rfl
      · rw [m_isSign hb hT R (by omega), Option.bind_some, if_pos (by rw [show bI (T.1 = 3 ∧ b.2 T.2.1 = 41) = 0 from if_neg (by omega)]; decide)]
    rw [e, Option.bind_some]
    exact A hn hT hS R SS (fun q => by have := q.2.1; omega)
  | n + 1 => by
    obtain ⟨-, Bn⟩ := m_scLoop hb n
    have A : ∀ {h : am_H} {S : SC} {c : Nat} {T : Tk}, 500 ≤ T.2.1 + (n + 1) → tk_ok b T → sc_ok S c → mo_tk h b T → mo_ss h S c → ¬ clo b S T → ∃ h', f_X12_runScript_19 h = f_X12_runScript_82 h' ∧ mo_rc h' (sScr b (n + 1) S c T) ∧ TV h h' := fun {h S c T} hn hT hS R SS hc => by
      have t1 := hT.1
      have hd2 := hS.2.2.1
      unfold sScr
      rw [e_X12_runScript_19, m_good R, Option.bind_some, if_neg (by decide), R.1.2.2.2.1]
      by_cases c0 : T.1 = 0
      · rw [if_pos c0, c0, if_pos (by decide)]
        exact m_fin hT (by omega) hS.2.2.1 R SS
      · rw [if_neg c0, if_neg (by rw [xI_0, xI_eq (by omega) (by omega) (by omega) (by omega)]; omega), if_neg hc]
        have C := m_command hb hT hS R SS
        have okM := fun x e => sComM_ok (b := b) (S := S) (c := c) (T := T) (x := x) hT e
        have okC := fun x e => sCom_ok (b := b) (S := S) (c := c) (T := T) (x := x) hT hS e
        rw [sComM_e] at okC ⊢
        generalize sComM b S c T = r at *
        cases r with
        | inl e =>
          obtain ⟨h1, e1, E, f⟩ := C
          refine ⟨h1, ?_, E, f⟩
          rw [e1, Option.bind_some, er_mustSign E, Option.bind_some]
          have := er_clo19 E
          unfold f_X12_closes
          rw [this]
          split <;> rfl
        | inr x =>
          obtain ⟨h1, e1, q, f⟩ := C
          have om := okM x rfl
          rw [e1, Option.bind_some, q.2.2.2, SS.2.2]
          unfold f_X12_closes
          have okC' : ∀ y, (if cmdT b T = 6 then (.inr x : Rs (SC × Nat × Tk)) else (sSign b x.2.2 59).bd (fun T' => .inr (x.1, x.2.1, T'))) = .inr y → sc_ok y.1 y.2.1 ∧ tk_ok b y.2.2 ∧ T.2.1 < y.2.2.2.1 := okC
          show ∃ h', _ ∧ mo_rc h' (Rs.bd (if cmdT b T = 6 then (.inr x : Rs (SC × Nat × Tk)) else (sSign b x.2.2 59).bd (fun T' => .inr (x.1, x.2.1, T'))) (fun x => sScr b n x.1 x.2.1 x.2.2)) ∧ _
          by_cases c6 : cmdT b T = 6
          · have hD := om.2.1 c6
            rw [if_pos c6] at okC' ⊢
            have o := okC' x rfl
            rw [if_neg (by rw [xI_eq (by omega) (by omega) (by omega) (by omega)]; omega)]
            obtain ⟨h2, e2, q2, f2⟩ := Bn (h := h1) (S := x.1) (c := x.2.1) (T := x.2.2) (by omega) o.2.1 o.1 q.1 q.2
            exact ⟨h2, e2, q2, f.tr f2⟩
          · have hD := om.2.2.1 c6
            rw [if_neg c6] at okC' ⊢
            rw [if_pos (by rw [hD])]
            have M := m_mustSign hb om.1 q.1 (c := 59) (by omega)
            generalize sSign b x.2.2 59 = r2 at *
            cases r2 with
            | inl e =>
              obtain ⟨h2, e2, E, f2⟩ := M
              refine ⟨h2, ?_, E, f.tr f2.v⟩
              rw [e2, Option.bind_some, er_clo19 E]
            | inr T' =>
              obtain ⟨h2, e2, t2, f2⟩ := M
              have o := okC' (x.1, x.2.1, T') rfl
              obtain ⟨h3, e3, q3, f3⟩ := Bn (h := h2) (S := x.1) (c := x.2.1) (T := T') (by have : T.2.1 < T'.2.1 := o.2.2; omega) o.2.1 o.1 t2 (q.2.tf f2)
              refine ⟨h3, ?_, q3, f.tr (f2.v.tr f3)⟩
              rw [e2, Option.bind_some]
              exact e3
    refine ⟨A, fun {h S c T} hn hT hS R SS => ?_⟩
    have t1 := hT.1
    have hd2 := hS.2.2.1
    have hsz := hS.2.1
    have hc30 := hS.1
    by_cases d : clo b S T
    · have hA := adv_ok hT
      have eS : sScr b (n + 1) S c T = (sEnd b S c T).bd (fun x => sScr b n x.1 x.2.1 x.2.2) := (if_neg (show ¬ T.1 = 0 by have := d.2.1; omega)).trans (by rw [if_pos d])
      rw [eS, e_X12_closes_0, SS.2.2, if_neg (by rw [xI_0, xI_le (by omega) (by omega) (by omega) (by omega)]; have := d.1; omega), m_isSign hb hT R (by omega), Option.bind_some, if_neg (by rw [show bI (T.1 = 3 ∧ b.2 T.2.1 = 41) = 1 from if_pos d.2]; decide), am_lt, iI_s]
      have hd0 := d.1
      have okE := fun x e => sEnd_ok (b := b) (S := S) (c := c) (T := T) (x := x) hT hS hd0 e
      have x31 : (am_u h (.inl 0) 0 33 (iI ((scD S : Int) - 1))).1 (.inl 0) 0 31 = iI S.1 := by rw [au_s, if_neg (by omega)]; exact SS.1.1
      rw [x31, if_pos (by rw [xI_ib (by omega) (by omega) (by omega)]; trivial), xI_cl (by omega) (by omega), Int.toNat_natCast, am_lt, am_lt]
      have y31 : (am_u (am_u h (.inl 0) 0 33 (iI ((scD S : Int) - 1))) (.inl 0) 13 S.1 (iI 7)).1 (.inl 0) 0 31 = iI S.1 := by rw [am_u_row (by simp)]; exact x31
      rw [y31, iI_a]
      have R0 := ((R.u0 (i := 33) (x := iI ((scD S : Int) - 1)) (by omega)).u13 (o := 13) (i := S.1) (x := iI 7) (by omega)).u0 (i := 31) (x := iI ((S.1 : Int) + 1)) (by omega)
      have v0 : TV h (am_u (am_u (am_u h (.inl 0) 0 33 (iI ((scD S : Int) - 1))) (.inl 0) 13 S.1 (iI 7)) (.inl 0) 0 31 (iI ((S.1 : Int) + 1))) := (TV.u0 (by omega)).tr ((TV.u13 (by omega)).tr (TV.u0 (by omega)))
      have SS0 : mo_ss (am_u (am_u (am_u h (.inl 0) 0 33 (iI ((scD S : Int) - 1))) (.inl 0) 13 S.1 (iI 7)) (.inl 0) 0 31 (iI ((S.1 : Int) + 1))) (scP S 7 (scT S (scD S - 1))) c := by
        refine ⟨⟨by rw [au_s, if_pos rfl]; rfl, fun i hi => ?_⟩, ?_, ?_⟩
        · have hi' : i < S.1 + 1 := hi
          rw [am_u_row (by simp), au_s, am_u_row (by simp), am_u_row (by simp), am_u_row (by simp), am_u_row (by simp)]
          by_cases g : i = S.1
          · subst g
            rw [if_pos rfl, scP_s.1]
            exact ⟨rfl, fun _ z => absurd rfl z⟩
          · rw [if_neg g, (scP_lt (by omega)).1, (scP_lt (by omega)).2]
            exact SS.1.2 i (by omega)
        · rw [au_s, if_neg (by omega), am_u_row (by simp), au_s, if_neg (by omega)]; exact SS.2.1
        · rw [au_s, if_neg (by omega), am_u_row (by simp), au_s, if_pos rfl, scP_D7, show ((scD S - 1 : Nat) : Int) = (scD S : Int) - 1 from by omega]
      generalize (am_u (am_u (am_u h (.inl 0) 0 33 (iI ((scD S : Int) - 1))) (.inl 0) 13 S.1 (iI 7)) (.inl 0) 0 31 (iI ((S.1 : Int) + 1))) = h0 at *
      obtain ⟨h1, e1, t1', k1⟩ := m_next hb hT R0
      have SS1 := SS0.tf k1
      have M := m_mustSign hb hA.1 t1' (c := 59) (by omega)
      unfold sEnd at okE ⊢
      rw [e1, Option.bind_some]
      generalize sSign b (tkA b T.2.2) 59 = r2 at *
      cases r2 with
      | inl e =>
        obtain ⟨h2, e2, E, f2⟩ := M
        refine ⟨h2, ?_, E, v0.tr (k1.v.tr f2.v)⟩
        rw [e2, Option.bind_some, er_clo19 E]
      | inr T' =>
        obtain ⟨h2, e2, t2, f2⟩ := M
        have o := okE (scP S 7 (scT S (scD S - 1)), c, T') rfl
        obtain ⟨h3, e3, q3, f3⟩ := Bn (h := h2) (S := scP S 7 (scT S (scD S - 1))) (c := c) (T := T') (by have : T.2.1 < T'.2.1 := o.2.2; omega) o.2.1 o.1 t2 (SS1.tf f2)
        refine ⟨h3, ?_, q3, v0.tr (k1.v.tr (f2.v.tr f3))⟩
        rw [e2, Option.bind_some]
        exact e3
    · have e : f_X12_closes_0 h = some h := by
        rw [e_X12_closes_0, SS.2.2]
        by_cases d0 : 0 < scD S
        · rw [if_neg (by rw [xI_0, xI_le (by omega) (by omega) (by omega) (by omega)]; omega), m_isSign hb hT R (by omega), Option.bind_some, if_pos (by rw [show bI (T.1 = 3 ∧ b.2 T.2.1 = 41) = 0 from if_neg (fun z => d ⟨d0, z⟩)]; decide)]
        · rw [if_pos (by rw [xI_0, xI_le (by omega) (by omega) (by omega) (by omega)]; omega)]
      rw [e, Option.bind_some]
      exact A hn hT hS R SS d
end MSL
