/-! runScript, on both sides -/
section RSC
variable {h : am_H} {st : St} {S : SC} {v : pv_T}
theorem sc_nn {k : Nat} (a : sc_at S k) (c6 : S.2.1 k ≠ 6) (c7 : S.2.1 k ≠ 7) : 0 ≤ S.2.1 k ∧ S.2.1 k ≤ 5 := by have := a.1; omega
theorem rn_0 {m dn k : Nat} {lp : Nat → Nat} (e : S.1 ≤ k ∨ 40 ≤ dn) : rnS S m v dn k lp = (dn, v) := by
  cases m with
  | zero => rfl
  | succ m => exact if_pos e
theorem canB_1 {n m : Int} : canB v 1 n = canB v 1 m := rfl
theorem doV_1 {n m : Int} : doV v 1 n = doV v 1 m := rfl
theorem k_run (hS : ∀ k, k < S.1 → sc_at S k) (h60 : S.1 ≤ 60) : ∀ (m : Nat) {h : am_H} {v : pv_T} {dn k i : Nat} {lp : Nat → Nat}, mes S k lp ≤ m → i + m ≤ 24000 → k ≤ S.1 → dn ≤ 40 → pvA v → lp_ok S k lp → cl_pl h 0 v → cl_st h S → (∀ j, j < dep S.2.1 k → h.1 (.inl 1) 14 (stk' S.2.1 k j) = iI (lp j)) → ∃ h', f_X8_runOn_7 0 (iI dn) (iI k) (iI i) h = some (iI (rnS S m v dn k lp).1, h') ∧ cl_pl h' 0 (rnS S m v dn k lp).2
  | 0, h, v, dn, k, i, lp, hm, hi, hk, hdn, hv, L, P, St, Lp => by
    have hN : S.1 ≤ k := by
      refine Nat.not_lt.mp (fun z => ?_)
      have := mes_p (lp := lp) hS z
      omega
    refine ⟨h, ?_, P⟩
    rw [e_X8_runOn_7, show (1000000 : Int32) = iI 1000000 from rfl]
    simp (disch := omega) only [xI_le, xI_lt, xI_eq, xI_0, xI_ib, if_pos, if_neg, if_true, if_false, xI_cl, Int.toNat_natCast, iI_m, iI_a, iI_s, iI_1, xI_n, Option.bind_some, Int.natCast_add, Int.natCast_one, xI_zb, if_bI0, if_bI1, xI_rn, xI_ti, St.1]
    rfl
  | m + 1, h, v, dn, k, i, lp, hm, hi, hk, hdn, hv, L, P, St, Lp => by
    have e0 : f_X8_runOn_7 0 (iI dn) (iI k) (iI i) h = _ := e_X8_runOn_7 0 (iI dn) (iI k) (iI i) h
    rw [show (1000000 : Int32) = iI 1000000 from rfl, if_neg (by rw [xI_le (by omega) (by omega) (by omega) (by omega)]; omega), St.1] at e0
    by_cases hN : S.1 ≤ k
    · rw [rn_0 (Or.inl hN)]
      exact ⟨h, by rw [e0, if_pos (by rw [xI_le (by omega) (by omega) (by omega) (by omega)]; omega)], P⟩
    · rw [if_neg (by rw [xI_le (by omega) (by omega) (by omega) (by omega)]; omega)] at e0
      by_cases h40 : 40 ≤ dn
      · rw [rn_0 (Or.inr h40)]
        exact ⟨h, by rw [e0, if_pos (by rw [xI_le (by omega) (by omega) (by omega) (by omega)]; omega)], P⟩
      · have hk' : k < S.1 := by omega
        have a := hS k hk'
        have h2 := dep_le2 hS k hk
        have ibk : ib (iI k) 60 := by rw [xI_ib (by omega) (by omega) (by omega)]; trivial
        have ck : (iI (k : Int)).toNatClampNeg = k := by rw [xI_cl (by omega) (by omega), Int.toNat_natCast]
        obtain ⟨r12, r13⟩ := St.2 k hk'
        have ea : (iI (i : Int)) + 1 = iI ((i + 1 : Nat) : Int) := iI_1 _
        have ek : (iI (k : Int)) + 1 = iI ((k + 1 : Nat) : Int) := iI_1 _
        have ed : (iI (dn : Int)) + 1 = iI ((dn + 1 : Nat) : Int) := iI_1 _
        rw [if_neg (by rw [xI_le (by omega) (by omega) (by omega) (by omega)]; omega)] at e0
        simp only [if_pos ibk, ck, r12, ea, ek, ed] at e0
        have un : rnS S (m + 1) v dn k lp = if S.2.1 k = 6 then rnS S m v dn (k + 1) (fu lp (dep S.2.1 k) (S.2.2 k).toNat) else if S.2.1 k = 7 then rnS S m v dn (if 1 < lp (dep S.2.1 k - 1) then stk' S.2.1 k (dep S.2.1 k - 1) + 1 else k + 1) (fu lp (dep S.2.1 k - 1) (lp (dep S.2.1 k - 1) - 1)) else if canB v (S.2.1 k) (S.2.2 k) = true then rnS S m (doV v (S.2.1 k) (S.2.2 k)) (dn + 1) (k + 1) lp else (dn, v) := if_neg (by omega)
        rw [un]
        have hb1 := a.1
        by_cases c6 : S.2.1 k = 6
        · obtain ⟨b1, b2, b3⟩ := a.2.1 c6
          obtain ⟨n, en⟩ : ∃ n : Nat, S.2.2 k = n := ⟨(S.2.2 k).toNat, by omega⟩
          have r13' := r13 (by omega)
          rw [if_pos c6, en, Int.toNat_natCast]
          rw [if_pos (by rw [c6]), r13', en, am_lt] at e0
          rw [e0]
          have hme := mes6 (lp := lp) (n := n) hk' c6 b1 (by omega)
          refine k_run hS h60 m (h := am_u h (.inl 1) 14 k (iI n)) (v := v) (dn := dn) (k := k + 1) (i := i + 1) (lp := fu lp (dep S.2.1 k) n) (by omega) (by omega) (by omega) hdn hv (lp_6 c6 (by omega) L) (P.eq (fun o => am_u_row (by simp))) ⟨by rw [am_u_row (by simp)]; exact St.1, fun q hq => by rw [am_u_row (by simp), am_u_row (by simp)]; exact St.2 q hq⟩ (fun j hj => ?_)
          rw [dep_6 c6] at hj
          rw [stk_6 c6, au_s]
          by_cases d : j = dep S.2.1 k
          · rw [if_pos d, if_pos rfl, d, fu_s]
          · have p := stk_p (kd := S.2.1) k (j := j) (by omega)
            rw [if_neg d, if_neg (by omega), fu_o d]
            exact Lp j (by omega)
        · rw [if_neg c6]
          rw [if_neg (by rw [xI_eq (by omega) (by omega) (by omega) (by omega)]; exact c6)] at e0
          by_cases c7 : S.2.1 k = 7
          · obtain ⟨b1, b2⟩ := a.2.2.1 c7
            obtain ⟨p1, p2, p3, p4⟩ := stk_p (kd := S.2.1) k (j := dep S.2.1 k - 1) (by omega)
            have l1 := L (dep S.2.1 k - 1) (by omega)
            have r13' := r13 (by omega)
            have r14 := Lp (dep S.2.1 k - 1) (by omega)
            rw [b2] at r13'
            rw [if_pos c7]
            rw [if_pos (by rw [c7])] at e0
            have hme := mes7 (lp := lp) hS hk' c7 b1
            have hlp := lp_7 c7 b1 L
            have ibr : ib (iI (stk' S.2.1 k (dep S.2.1 k - 1) : Int)) 60 := by rw [xI_ib (by omega) (by omega) (by omega)]; trivial
            have cr : (iI ((stk' S.2.1 k (dep S.2.1 k - 1) : Nat) : Int)).toNatClampNeg = stk' S.2.1 k (dep S.2.1 k - 1) := by rw [xI_cl (by omega) (by omega), Int.toNat_natCast]
            -- the step behind the end
            have es : f_X8_stepBehindEnd (iI k) h = some (iI ((if 1 < lp (dep S.2.1 k - 1) then stk' S.2.1 k (dep S.2.1 k - 1) + 1 else k + 1 : Nat) : Int), am_u h (.inl 1) 14 (stk' S.2.1 k (dep S.2.1 k - 1)) (iI ((lp (dep S.2.1 k - 1) - 1 : Nat) : Int))) := by
              unfold f_X8_stepBehindEnd
              simp only [if_pos ibk, ck, r13', if_pos ibr, cr, r14, iI_s, am_lt, au_s, if_true]
              rw [show (lp (dep S.2.1 k - 1) : Int) - 1 = ((lp (dep S.2.1 k - 1) - 1 : Nat) : Int) from by omega]
              by_cases g : 1 < lp (dep S.2.1 k - 1)
              · rw [if_pos g, if_neg (by rw [xI_0, xI_le (by omega) (by omega) (by omega) (by omega)]; omega), iI_a]; rfl
              · rw [if_neg g, if_pos (by rw [xI_0, xI_le (by omega) (by omega) (by omega) (by omega)]; omega), iI_a]; rfl
            rw [es, Option.bind_some] at e0
            dsimp only at e0
            rw [e0]
            have kk : (if 1 < lp (dep S.2.1 k - 1) then stk' S.2.1 k (dep S.2.1 k - 1) + 1 else k + 1) ≤ S.1 := by split <;> omega
            have Lp' : ∀ j, j < dep S.2.1 (if 1 < lp (dep S.2.1 k - 1) then stk' S.2.1 k (dep S.2.1 k - 1) + 1 else k + 1) → (am_u h (.inl 1) 14 (stk' S.2.1 k (dep S.2.1 k - 1)) (iI ((lp (dep S.2.1 k - 1) - 1 : Nat) : Int))).1 (.inl 1) 14 (stk' S.2.1 (if 1 < lp (dep S.2.1 k - 1) then stk' S.2.1 k (dep S.2.1 k - 1) + 1 else k + 1) j) = iI ((fu lp (dep S.2.1 k - 1) (lp (dep S.2.1 k - 1) - 1) j : Nat) : Int) := fun j hj => by
              have ne : ∀ i, i < dep S.2.1 k - 1 → stk' S.2.1 k i ≠ stk' S.2.1 k (dep S.2.1 k - 1) := fun i hi z => by
                have q := (stk_p (kd := S.2.1) k (j := i) (by omega)).2.2.1
                rw [z, p3] at q
                omega
              by_cases g : 1 < lp (dep S.2.1 k - 1)
              · rw [if_pos g] at hj ⊢
                rw [p3] at hj
                rw [p4 j (by omega), au_s]
                by_cases d : j = dep S.2.1 k - 1
                · rw [d, if_pos rfl, fu_s]
                · rw [if_neg (ne j (by omega)), fu_o d]
                  exact Lp j (by omega)
              · rw [if_neg g] at hj ⊢
                rw [dep_7 c7] at hj
                rw [stk_o c6, au_s, if_neg (ne j (by omega)), fu_o (by omega)]
                exact Lp j (by omega)
            generalize (if 1 < lp (dep S.2.1 k - 1) then stk' S.2.1 k (dep S.2.1 k - 1) + 1 else k + 1) = k2 at *
            exact k_run hS h60 m (k := k2) (i := i + 1) (by omega) (by omega) kk hdn hv hlp (P.eq (fun o => am_u_row (by simp))) ⟨by rw [am_u_row (by simp)]; exact St.1, fun q hq => by rw [am_u_row (by simp), am_u_row (by simp)]; exact St.2 q hq⟩ Lp'
          · rw [if_neg c7]
            rw [if_neg (by rw [xI_eq (by omega) (by omega) (by omega) (by omega)]; exact c7)] at e0
            have hq := sc_nn a c6 c7
            have hme := mesC (lp := lp) hS hk' c6 c7
            -- the command
            have D : (canB v (S.2.1 k) (S.2.2 k) = true → ∃ h', f_X8_isDone 0 (iI (S.2.1 k)) (h.1 (.inl 1) 13 k) h = some (iI 1, h') ∧ cl_pl h' 0 (doV v (S.2.1 k) (S.2.2 k))) ∧ (¬ canB v (S.2.1 k) (S.2.2 k) = true → f_X8_isDone 0 (iI (S.2.1 k)) (h.1 (.inl 1) 13 k) h = some (iI 0, h)) := by
              by_cases c1 : S.2.1 k = 1
              · rw [c1]
                exact k_isDone (n := 0) hv P (by omega) (by omega) (fun z => absurd rfl z)
              · exact k_isDone hv P hq (a.2.2.2 c1 c6 c7) r13
            by_cases d : canB v (S.2.1 k) (S.2.2 k) = true
            · obtain ⟨h1, e1, P1⟩ := D.1 d
              have w1 := wr_X8_isDone e1
              have A1 : pvA (doV v (S.2.1 k) (S.2.2 k)) := (doV_A hv hq d).1
              rw [if_pos d]
              rw [e1, Option.bind_some] at e0
              dsimp only at e0
              rw [if_neg (show ¬ iI 1 = 0 by decide)] at e0
              rw [e0]
              refine k_run hS h60 m (k := k + 1) (i := i + 1) (by omega) (by omega) (by omega) (by omega) A1 (lp_C c6 c7 L) P1 ⟨by rw [w1.1 _ _ (by simp)]; exact St.1, fun q hq => by rw [w1.1 _ _ (by simp), w1.1 _ _ (by simp)]; exact St.2 q hq⟩ (fun j hj => ?_)
              rw [dep_o c6 c7] at hj
              rw [w1.1 _ _ (by simp), stk_o c6]
              exact Lp j hj
            · rw [if_neg d]
              rw [D.2 d, Option.bind_some] at e0
              dsimp only at e0
              rw [if_pos (show iI 0 = 0 by decide)] at e0
              exact ⟨h, e0, P⟩
theorem m_run (hS : ∀ k, k < S.1 → sc_at S k) (h60 : S.1 ≤ 60) : ∀ (m : Nat) {h : am_H} {v : pv_T} {dn k : Nat} {lp : Nat → Nat}, mes S k lp ≤ m → k ≤ S.1 → dn ≤ 40 → pvA v → lp_ok S k lp → mo_pl h v → mo_st h S → (∀ j, j < dep S.2.1 k → h.1 (.inl 0) 15 j = iI (stk' S.2.1 k j) ∧ h.1 (.inl 0) 16 j = iI (lp j)) → ∃ h', f_X12_doesAll_9 (iI dn) (iI (dep S.2.1 k)) (iI k) (iI 1) h = some (iI (rnS S m v dn k lp).1, h') ∧ mo_pl h' (rnS S m v dn k lp).2
  | 0, h, v, dn, k, lp, hm, hk, hdn, hv, L, P, St, Lp => by
    have hN : S.1 ≤ k := by
      refine Nat.not_lt.mp (fun z => ?_)
      have := mes_p (lp := lp) hS z
      omega
    refine ⟨h, ?_, P⟩
    rw [e_X12_doesAll_9, if_neg (by decide), St.1, if_pos (by rw [xI_le (by omega) (by omega) (by omega) (by omega)]; omega)]
    rfl
  | m + 1, h, v, dn, k, lp, hm, hk, hdn, hv, L, P, St, Lp => by
    have e0 : f_X12_doesAll_9 (iI dn) (iI (dep S.2.1 k)) (iI k) (iI 1) h = _ := e_X12_doesAll_9 (iI dn) (iI (dep S.2.1 k)) (iI k) (iI 1) h
    rw [if_neg (by decide), St.1] at e0
    by_cases hN : S.1 ≤ k
    · rw [rn_0 (Or.inl hN)]
      exact ⟨h, by rw [e0, if_pos (by rw [xI_le (by omega) (by omega) (by omega) (by omega)]; omega)], P⟩
    · rw [if_neg (by rw [xI_le (by omega) (by omega) (by omega) (by omega)]; omega)] at e0
      by_cases h40 : 40 ≤ dn
      · rw [rn_0 (Or.inr h40)]
        exact ⟨h, by rw [e0, if_pos (by rw [xI_le (by omega) (by omega) (by omega) (by omega)]; omega)], P⟩
      · have hk' : k < S.1 := by omega
        have a := hS k hk'
        have h2 := dep_le2 hS k hk
        have ibk : ib (iI k) 60 := by rw [xI_ib (by omega) (by omega) (by omega)]; trivial
        have ck : (iI (k : Int)).toNatClampNeg = k := by rw [xI_cl (by omega) (by omega), Int.toNat_natCast]
        obtain ⟨r12, r13⟩ := St.2 k hk'
        have ek : (iI (k : Int)) + 1 = iI ((k + 1 : Nat) : Int) := iI_1 _
        rw [if_neg (by rw [xI_le (by omega) (by omega) (by omega) (by omega)]; omega)] at e0
        simp only [if_pos ibk, ck, r12, ek] at e0
        have un : rnS S (m + 1) v dn k lp = if S.2.1 k = 6 then rnS S m v dn (k + 1) (fu lp (dep S.2.1 k) (S.2.2 k).toNat) else if S.2.1 k = 7 then rnS S m v dn (if 1 < lp (dep S.2.1 k - 1) then stk' S.2.1 k (dep S.2.1 k - 1) + 1 else k + 1) (fu lp (dep S.2.1 k - 1) (lp (dep S.2.1 k - 1) - 1)) else if canB v (S.2.1 k) (S.2.2 k) = true then rnS S m (doV v (S.2.1 k) (S.2.2 k)) (dn + 1) (k + 1) lp else (dn, v) := if_neg (by omega)
        rw [un]
        have hb1 := a.1
        by_cases c6 : S.2.1 k = 6
        · obtain ⟨b1, b2, b3⟩ := a.2.1 c6
          obtain ⟨n, en⟩ : ∃ n : Nat, S.2.2 k = n := ⟨(S.2.2 k).toNat, by omega⟩
          have r13' := r13 (by omega) (by omega)
          have ibd : ib (iI (dep S.2.1 k : Int)) 2 := by rw [xI_ib (by omega) (by omega) (by omega)]; trivial
          have cd : (iI ((dep S.2.1 k : Nat) : Int)).toNatClampNeg = dep S.2.1 k := by rw [xI_cl (by omega) (by omega), Int.toNat_natCast]
          have edp : (iI ((dep S.2.1 k : Nat) : Int)) + 1 = iI ((dep S.2.1 (k + 1) : Nat) : Int) := by rw [dep_6 c6]; exact iI_1 _
          rw [if_pos c6, en, Int.toNat_natCast]
          rw [if_pos (by rw [c6])] at e0
          simp only [if_pos ibd, cd, am_lt] at e0
          rw [am_u_row (by simp), r13', en, edp] at e0
          rw [e0]
          have hme := mes6 (lp := lp) (n := n) hk' c6 b1 (by omega)
          refine m_run hS h60 m (h := am_u (am_u h (.inl 0) 15 (dep S.2.1 k) (iI k)) (.inl 0) 16 (dep S.2.1 k) (iI n)) (v := v) (dn := dn) (k := k + 1) (lp := fu lp (dep S.2.1 k) n) (by omega) (by omega) hdn hv (lp_6 c6 (by omega) L) (P.eq (by rw [am_u_row (by simp), am_u_row (by simp)])) ⟨by rw [am_u_row (by simp), am_u_row (by simp)]; exact St.1, fun q hq => by rw [am_u_row (by simp), am_u_row (by simp), am_u_row (by simp), am_u_row (by simp)]; exact St.2 q hq⟩ (fun j hj => ?_)
          rw [dep_6 c6] at hj
          rw [am_u_row (by simp), au_s, au_s, am_u_row (by simp), stk_6 c6]
          by_cases d : j = dep S.2.1 k
          · rw [if_pos d, if_pos d, if_pos d, d, fu_s]; exact ⟨rfl, rfl⟩
          · rw [if_neg d, if_neg d, if_neg d, fu_o d]
            exact Lp j (by omega)
        · rw [if_neg c6]
          rw [if_neg (by rw [xI_eq (by omega) (by omega) (by omega) (by omega)]; exact c6)] at e0
          by_cases c7 : S.2.1 k = 7
          · obtain ⟨b1, b2⟩ := a.2.2.1 c7
            obtain ⟨p1, p2, p3, p4⟩ := stk_p (kd := S.2.1) k (j := dep S.2.1 k - 1) (by omega)
            have l1 := L (dep S.2.1 k - 1) (by omega)
            obtain ⟨r15, r16⟩ := Lp (dep S.2.1 k - 1) (by omega)
            rw [if_pos c7]
            have ed1 : iI ((dep S.2.1 k : Nat) : Int) - iI 1 = iI ((dep S.2.1 k - 1 : Nat) : Int) := by rw [iI_s, show ((dep S.2.1 k - 1 : Nat) : Int) = (dep S.2.1 k : Int) - 1 from by omega]
            have ibd : ib (iI ((dep S.2.1 k - 1 : Nat) : Int)) 2 := by rw [xI_ib (by omega) (by omega) (by omega)]; trivial
            have cd : (iI ((dep S.2.1 k - 1 : Nat) : Int)).toNatClampNeg = dep S.2.1 k - 1 := by rw [xI_cl (by omega) (by omega), Int.toNat_natCast]
            have el : iI ((lp (dep S.2.1 k - 1) : Nat) : Int) - iI 1 = iI ((lp (dep S.2.1 k - 1) - 1 : Nat) : Int) := by rw [iI_s, show ((lp (dep S.2.1 k - 1) - 1 : Nat) : Int) = (lp (dep S.2.1 k - 1) : Int) - 1 from by omega]
            rw [if_pos (by rw [c7])] at e0
            simp only [ed1, if_pos ibd, cd, r16, el, am_lt, au_s, if_true] at e0
            have hme := mes7 (lp := lp) hS hk' c7 b1
            have hlp := lp_7 c7 b1 L
            have Lp' : ∀ j, j < dep S.2.1 (if 1 < lp (dep S.2.1 k - 1) then stk' S.2.1 k (dep S.2.1 k - 1) + 1 else k + 1) → (am_u h (.inl 0) 16 (dep S.2.1 k - 1) (iI ((lp (dep S.2.1 k - 1) - 1 : Nat) : Int))).1 (.inl 0) 15 j = iI (stk' S.2.1 (if 1 < lp (dep S.2.1 k - 1) then stk' S.2.1 k (dep S.2.1 k - 1) + 1 else k + 1) j) ∧ (am_u h (.inl 0) 16 (dep S.2.1 k - 1) (iI ((lp (dep S.2.1 k - 1) - 1 : Nat) : Int))).1 (.inl 0) 16 j = iI ((fu lp (dep S.2.1 k - 1) (lp (dep S.2.1 k - 1) - 1) j : Nat) : Int) := fun j hj => by
              rw [am_u_row (by simp), au_s]
              by_cases g : 1 < lp (dep S.2.1 k - 1)
              · rw [if_pos g] at hj ⊢
                rw [p3] at hj
                rw [p4 j (by omega)]
                by_cases d : j = dep S.2.1 k - 1
                · rw [if_pos d, d, fu_s]; exact ⟨r15, rfl⟩
                · rw [if_neg d, fu_o d]; exact Lp j (by omega)
              · rw [if_neg g] at hj ⊢
                rw [dep_7 c7] at hj
                rw [stk_o c6, if_neg (by omega), fu_o (by omega)]
                exact Lp j (by omega)
            have P' : mo_pl (am_u h (.inl 0) 16 (dep S.2.1 k - 1) (iI ((lp (dep S.2.1 k - 1) - 1 : Nat) : Int))) v := P.eq (am_u_row (by simp))
            have St' : mo_st (am_u h (.inl 0) 16 (dep S.2.1 k - 1) (iI ((lp (dep S.2.1 k - 1) - 1 : Nat) : Int))) S := ⟨by rw [am_u_row (by simp)]; exact St.1, fun q hq => by rw [am_u_row (by simp), am_u_row (by simp)]; exact St.2 q hq⟩
            have r15' : (am_u h (.inl 0) 16 (dep S.2.1 k - 1) (iI ((lp (dep S.2.1 k - 1) - 1 : Nat) : Int))).1 (.inl 0) 15 (dep S.2.1 k - 1) = iI (stk' S.2.1 k (dep S.2.1 k - 1)) := by rw [am_u_row (by simp)]; exact r15
            have kk : (if 1 < lp (dep S.2.1 k - 1) then stk' S.2.1 k (dep S.2.1 k - 1) + 1 else k + 1) ≤ S.1 := by split <;> omega
            generalize am_u h (.inl 0) 16 (dep S.2.1 k - 1) (iI ((lp (dep S.2.1 k - 1) - 1 : Nat) : Int)) = h1 at *
            have e9 : f_X12_doesAll_9 (iI dn) (iI (dep S.2.1 k)) (iI k) (iI 1) h = f_X12_doesAll_9 (iI dn) (iI (dep S.2.1 (if 1 < lp (dep S.2.1 k - 1) then stk' S.2.1 k (dep S.2.1 k - 1) + 1 else k + 1))) (iI ((if 1 < lp (dep S.2.1 k - 1) then stk' S.2.1 k (dep S.2.1 k - 1) + 1 else k + 1 : Nat) : Int)) (iI 1) h1 := by
              by_cases g : 1 < lp (dep S.2.1 k - 1)
              · rw [if_neg (by rw [xI_0, xI_le (by omega) (by omega) (by omega) (by omega)]; omega), e_X12_doesAll_106, if_neg (by decide), ed1, if_pos ibd, cd, r15', e_X12_doesAll_129, if_neg (by decide), m_truth0, Option.bind_some, iI_s, iI_a] at e0
                rw [e0, if_pos g, p3, show (dep S.2.1 k : Int) - 0 = ((dep S.2.1 k - 1 + 1 : Nat) : Int) from by omega]
                rfl
              · rw [if_pos (by rw [xI_0, xI_le (by omega) (by omega) (by omega) (by omega)]; omega), e_X12_doesAll_106, if_pos (by decide), e_X12_doesAll_129, if_pos (by decide), m_truth1, Option.bind_some, ed1, iI_a] at e0
                rw [e0, if_neg g, dep_7 c7]
                rfl
            rw [e9]
            generalize (if 1 < lp (dep S.2.1 k - 1) then stk' S.2.1 k (dep S.2.1 k - 1) + 1 else k + 1) = k2 at *
            exact m_run hS h60 m (h := h1) (k := k2) (by omega) kk hdn hv hlp P' St' Lp'
          · rw [if_neg c7]
            rw [if_neg (by rw [xI_eq (by omega) (by omega) (by omega) (by omega)]; exact c7)] at e0
            have hq := sc_nn a c6 c7
            have hme := mesC (lp := lp) hS hk' c6 c7
            obtain ⟨n, hn, q14, qc, qd⟩ : ∃ n : Int, (0 ≤ n ∧ n ≤ 999) ∧ (S.2.1 k ≠ 1 → h.1 (.inl 0) 14 k = iI n) ∧ canB v (S.2.1 k) (S.2.2 k) = canB v (S.2.1 k) n ∧ doV v (S.2.1 k) (S.2.2 k) = doV v (S.2.1 k) n := by
              by_cases c1 : S.2.1 k = 1
              · rw [c1]
                exact ⟨0, by omega, fun z => absurd rfl z, rfl, rfl⟩
              · exact ⟨S.2.2 k, a.2.2.2 c1 c6 c7, fun z => r13 z c7, rfl, rfl⟩
            have em := m_may hv P (by omega) hq hn r12 q14
            rw [qc, qd]
            rw [em, Option.bind_some] at e0
            by_cases d : canB v (S.2.1 k) n = true
            · obtain ⟨y, h1, e1, P1, w1⟩ := m_does hv P (by omega) hq hn r12 q14 d
              have A1 : pvA (doV v (S.2.1 k) n) := (doV_A hv hq d).1
              rw [if_pos d]
              rw [show bI (canB v (S.2.1 k) n = true) = 1 from if_pos d, if_neg (by decide), e1, Option.bind_some] at e0
              dsimp only at e0
              rw [e_X12_doesAll_170, m_truth1, Option.bind_some, iI_a, ek] at e0
              rw [e0]
              have := m_run hS h60 m (h := h1) (v := doV v (S.2.1 k) n) (dn := dn + 1) (k := k + 1) (lp := lp) (by omega) (by omega) (by omega) A1 (lp_C c6 c7 L) P1 ⟨by rw [w1.1 _ _ (by simp)]; exact St.1, fun q hq => by rw [w1.1 _ _ (by simp), w1.1 _ _ (by simp)]; exact St.2 q hq⟩ (fun j hj => by
                rw [dep_o c6 c7] at hj
                rw [w1.1 _ _ (by simp), w1.1 _ _ (by simp), stk_o c6]
                exact Lp j hj)
              rw [dep_o c6 c7] at this
              exact this
            · rw [if_neg d]
              rw [show bI (canB v (S.2.1 k) n = true) = 0 from if_neg d, if_pos (by decide), e_X12_doesAll_170, m_truth0, Option.bind_some, iI_a, e_X12_doesAll_9 _ _ _ (iI 0), if_pos (show iI 0 = 0 by decide), Int.add_zero] at e0
              exact ⟨h, e0, P⟩
theorem rnS_A (hS : ∀ k, k < S.1 → sc_at S k) : ∀ (m : Nat) {v : pv_T} {dn k : Nat} {lp : Nat → Nat}, pvA v → k ≤ S.1 → dn ≤ 40 → pvA (rnS S m v dn k lp).2 ∧ sameK v (rnS S m v dn k lp).2 ∧ (rnS S m v dn k lp).1 ≤ 40
  | 0, v, dn, k, lp, hv, hk, hd => ⟨hv, ⟨rfl, fun _ _ => rfl⟩, hd⟩
  | m + 1, v, dn, k, lp, hv, hk, hd => by
    unfold rnS
    split
    · exact ⟨hv, ⟨rfl, fun _ _ => rfl⟩, hd⟩
    next c =>
      have hk' : k < S.1 := by omega
      have a := hS k hk'
      split
      · exact rnS_A hS m hv (by omega) hd
      next c6 =>
        split
        next c7 =>
          have p := stk_p (kd := S.2.1) k (j := dep S.2.1 k - 1) (by have := (a.2.2.1 c7).1; omega)
          exact rnS_A hS m hv (by split <;> omega) hd
        next c7 =>
          split
          next d =>
            have A := doV_A hv (sc_nn a c6 c7) d
            have q := rnS_A hS m (v := doV v (S.2.1 k) (S.2.2 k)) (dn := dn + 1) (k := k + 1) (lp := lp) A.1 (by omega) (by omega)
            exact ⟨q.1, ⟨q.2.1.1.trans A.2.1, fun z hz => (q.2.1.2 z (by rw [A.2.1]; exact hz)).trans (A.2.2 z hz)⟩, q.2.2⟩
          · exact ⟨hv, ⟨rfl, fun _ _ => rfl⟩, hd⟩
/-! the method -/
def rdS (st : St) : Rs SC := sScr st.2.2.2.1 500 S0 0 (tkA st.2.2.2.1 0)
def rnV (v : pv_T) (S : SC) : Nat × pv_T := rnS S 24000 v 0 0 (fun _ => 0)
def sRSf (st : St) (r : Rs SC) : St := match r with
  | .inl e => stB st (0, st.2.2.2.1.2) e
  | .inr S => setPl (stK (stB st (0, st.2.2.2.1.2) (0, -1))) (rnV st.1 S).2
def oRSf (st : St) (r : Rs SC) : Int32 ⊕ Nat := match r with
  | .inl _ => .inr 1
  | .inr S => .inl (iI (rnV st.1 S).1)
theorem stB0_ok (ok : Ok st) {e : Int × Int} : Ok (stB st (0, st.2.2.2.1.2) e) := ⟨ok.1, ok.2.1, ok.2.2.1, ⟨Nat.zero_le 500, ok.2.2.2.1.2⟩, ok.2.2.2.2⟩
theorem rdS_ok {x : SC} (e : rdS st = .inr x) : (∀ k, k < x.1 → sc_at x k) ∧ x.1 ≤ 60 := by
  obtain ⟨c, h⟩ := sScr_ok 500 (tkA_ok (Nat.zero_le _)).1 S0_ok e
  have := h.1
  have := h.2.1
  exact ⟨h.2.2.2, by omega⟩
theorem sRS_ok (ok : Ok st) : Ok (sRSf st (rdS st)) := by
  cases e : rdS st with
  | inl q => exact stB0_ok ok
  | inr S =>
    have h := rdS_ok e
    have A := rnS_A h.1 24000 (dn := 0) (k := 0) (lp := fun _ => 0) ok.1 (Nat.zero_le _) (Nat.zero_le _)
    exact setPl_ok (stK_ok (stB0_ok ok)) A.1 A.2.1
theorem cl_keepR (ok : Ok st) (R : ClR h st) : ∃ h', f_X11_keepForUndo h = some h' ∧ ClR h' (stK st) ∧ MFr h h' ∧ ∀ o, o ≠ 0 → h'.1 (.inl 1) o = h.1 (.inl 1) o := by
  obtain ⟨h', e, C, M⟩ := cl_keep ok R
  refine ⟨h', e, C, M, ?_⟩
  obtain ⟨r1, -, ⟨r4, r5, r6, r7⟩, -⟩ := R
  by_cases c : st.2.2.1.1 < 6
  · obtain ⟨h2, e2, a1, a2, a3, a4, a5, -⟩ := k_keep56 ok c r1 r4 r5 r6 r7
    have : f_X11_keepForUndo h = some h2 := by
      unfold f_X11_keepForUndo
      simp (disch := omega) only [xI_le, xI_lt, xI_eq, xI_0, xI_ib, if_pos, if_neg, if_true, if_false, xI_cl, Int.toNat_natCast, iI_m, iI_a, iI_s, iI_1, xI_n, Option.bind_some, Int.natCast_add, Int.natCast_one, xI_zb, if_bI0, if_bI1, xI_rn, xI_ti, r4, e2]
    cases this.symm.trans e
    exact a5
  · obtain ⟨s, e0, b1, b2, b3, b4, b5⟩ := k_rot (h := h) rfl r5
    have o6 := ok.2.2.1.1
    have hs : st.2.2.1.1 = 6 := by omega
    have bp : ∀ k o, s.1 (.inr k) o = h.1 (.inr k) o := fun k o => b2 _ _ (by simp)
    have hx : ∀ i, i < 6 → s.2.2 i = h.2.2 (if i = 5 then 0 else i + 1) := fun i hi => by
      rw [b1]
      by_cases d : i = 5
      · subst d; rfl
      · rw [if_neg d]; exact if_pos (by omega)
    obtain ⟨h2, e2, a1, a2, a3, a4, a5, -⟩ := k_keep56 (h := s) (n := 5) (f := fun i => st.2.2.1.2 (i + 1)) ok (by omega) (r1.eq (bp 0)) b4 (fun i hi => by
      rw [hx i hi]; exact r5 _ (by split <;> omega)) (fun i j hi hj z => by
      rw [hx i hi, hx j hj] at z
      have := r6 _ _ (by split <;> omega) (by split <;> omega) z
      split at this <;> split at this <;> omega) (fun i hi h5 => by
      rw [hx i hi, if_neg (by omega)]
      exact (r7 (i + 1) (by omega) (by omega)).eq (bp _))
    have : f_X11_keepForUndo h = some h2 := by
      unfold f_X11_keepForUndo
      have hr := r5 0 (by omega)
      simp (disch := omega) only [xI_le, xI_lt, xI_eq, xI_0, xI_ib, if_pos, if_neg, if_true, if_false, xI_cl, Int.toNat_natCast, iI_m, iI_a, iI_s, iI_1, xI_n, Option.bind_some, Int.natCast_add, Int.natCast_one, xI_zb, if_bI0, if_bI1, xI_rn, xI_ti, r4, hs, show (0 : Int).toNat = 0 from rfl]
      rw [e0, e2]
    cases this.symm.trans e
    exact fun o ho => (a5 o ho).trans (b2 _ _ (fun z => ho z.2))
theorem ClR.plR {h' : am_H} {L : List (am_G × Nat)} (w : Wr L h h') (n : ∀ x ∈ L, x.1 = .inr 0 ∨ x = (.inl 1, 14)) (P : cl_pl h' 0 v) (R : ClR h st) : ClR h' (setPl st v) := by
  have e1 : ∀ o, o ≠ 14 → h'.1 (.inl 1) o = h.1 (.inl 1) o := fun o ho => w.1 _ _ (fun z => by
    rcases n _ z with q | q
    · cases q
    · cases q; exact ho rfl)
  have ek : ∀ k, k ≠ 0 → ∀ o, h'.1 (.inr k) o = h.1 (.inr k) o := fun k hk o => w.1 _ _ (fun z => by
    rcases n _ z with q | q
    · cases q; exact hk rfl
    · cases q)
  obtain ⟨r1, ⟨r2, r3⟩, ⟨r4, r5, r6, r7⟩, ⟨r8, r9⟩, ⟨r10, r11⟩, r12, r13⟩ := R
  exact ⟨P, ⟨by rw [e1 0 (by omega)]; exact r2, fun z => (r3 z).eq (ek 3 (by omega))⟩, ⟨by rw [e1 0 (by omega)]; exact r4, by rw [w.2.2]; exact r5, by rw [w.2.2]; exact r6, fun i c hi => by rw [w.2.2]; exact (r7 i c hi).eq (ek _ (by have := (r5 i c).1; omega))⟩, ⟨by rw [e1 8 (by omega)]; exact r8, by rw [e1 9 (by omega)]; exact r9⟩, ⟨by rw [e1 8 (by omega)]; exact r10, by rw [e1 8 (by omega)]; exact r11⟩, by rw [e1 16 (by omega)]; exact r12, by rw [e1 17 (by omega)]; exact r13⟩
theorem cl_runScript (ok : Ok st) (R : ClR h st) : clC f_X11_runScript h (sRSf st (rdS st)) (oRSf st (rdS st)) := by
  have hb : bOk st.2.2.2.1 := ok.2.2.2.1
  have Bf : cl_bf h st.2.2.2.1 := R.2.2.2.1
  have K := k_readFrom hb Bf
  have hZ : ∀ x, sScr st.2.2.2.1 500 S0 0 (tkA st.2.2.2.1 0) = .inr x → (∀ k, k < x.1 → sc_at x k) ∧ x.1 ≤ 60 := fun x e => rdS_ok e
  show clC f_X11_runScript h (sRSf st (sScr st.2.2.2.1 500 S0 0 (tkA st.2.2.2.1 0))) (oRSf st (sScr st.2.2.2.1 500 S0 0 (tkA st.2.2.2.1 0)))
  generalize sScr st.2.2.2.1 500 S0 0 (tkA st.2.2.2.1 0) = r at *
  cases r with
  | inl e =>
    obtain ⟨h1, e1, z6, z7⟩ := K
    have w1 := wr_X8_readFrom e1
    have w2 : Wr [(.inl 1, 8)] h1 (am_u h1 (.inl 1) 8 1 (iI 0)) := Wr.u (by simp)
    refine ⟨am_u h1 (.inl 1) 8 1 (iI 0), ?_, ClR.rd (w1.tr (w2.mono (by simp))) (by simp) (by rw [au_s, if_pos rfl]) (by rw [au_s, if_neg (by omega)]; exact z6) (by rw [au_s, if_neg (by omega)]; exact z7) R, ?_⟩
    · unfold f_X11_runScript
      rw [e1, Option.bind_some, am_lt]
      rfl
    · exact (w1.MF rfl).tr (w2.MF rfl)
  | inr S =>
    obtain ⟨h1, e1, St, -, z6, z7⟩ := K
    have hs := hZ S rfl
    have w1 := wr_X8_readFrom e1
    have w2 : Wr [(.inl 1, 8)] h1 (am_u h1 (.inl 1) 8 1 (iI 0)) := Wr.u (by simp)
    have C2 : ClR (am_u h1 (.inl 1) 8 1 (iI 0)) (stB st (0, st.2.2.2.1.2) (0, -1)) := ClR.rd (w1.tr (w2.mono (by simp))) (by simp) (by rw [au_s, if_pos rfl]) (by rw [au_s, if_neg (by omega)]; exact z6) (by rw [au_s, if_neg (by omega)]; exact z7) R
    have ok2 := stB0_ok ok (e := (0, -1))
    have St2 : cl_st (am_u h1 (.inl 1) 8 1 (iI 0)) S := ⟨by rw [am_u_row (by simp)]; exact St.1, fun q hq => by rw [am_u_row (by simp), am_u_row (by simp)]; exact St.2 q hq⟩
    have M2 : MFr h (am_u h1 (.inl 1) 8 1 (iI 0)) := (w1.MF rfl).tr (w2.MF rfl)
    obtain ⟨h3, e3, C3, M3, k3⟩ := cl_keepR ok2 C2
    have St3 : cl_st h3 S := ⟨by rw [k3 11 (by omega)]; exact St2.1, fun q hq => by rw [k3 12 (by omega), k3 13 (by omega)]; exact St2.2 q hq⟩
    obtain ⟨h4, e4, P4⟩ := k_run hs.1 hs.2 24000 (h := h3) (v := st.1) (dn := 0) (k := 0) (i := 0) (lp := fun _ => 0) (mes_0 hs.1 hs.2) (by omega) (Nat.zero_le _) (Nat.zero_le _) ok.1 (fun j hj => absurd hj (Nat.not_lt_zero j)) C3.1 St3 (fun j hj => absurd hj (Nat.not_lt_zero j))
    have e4' : f_X8_runOn 0 h3 = some (iI (rnV st.1 S).1, h4) := e4
    have w4 := wr_X8_runOn e4'
    refine ⟨h4, ?_, ClR.plR w4 (by simp) P4 C3, M2.tr (M3.tr (w4.MF rfl))⟩
    unfold f_X11_runScript
    rw [e1, Option.bind_some, am_lt]
    dsimp only
    rw [if_neg (show ¬ iI 1 = 0 by decide), e3, Option.bind_some, e4', Option.bind_some]
    rfl
theorem MoR.plR {h' : am_H} (w : Wr [(.inl 0, 2), (.inl 0, 16), (.inl 0, 15)] h h') (P : mo_pl h' v) (hk : sameK st.1 v) (R : MoR h st) : MoR h' (setPl st v) := by
  obtain ⟨⟨r1, r1n⟩, r2⟩ := R
  have k : ∀ o, o ≠ 2 → o < 15 ∨ o = 17 → h'.1 (.inl 0) o = h.1 (.inl 0) o := fun o h2 h3 => w.1 _ _ (by simp; omega)
  have kl : ∀ o, o ≠ 2 → o < 15 ∨ o = 17 → h'.2.1 (.inl 0) o = h.2.1 (.inl 0) o := fun o h2 h3 => w.2.1 _ _ (by simp; omega)
  refine ⟨⟨P, fun q hq => ?_⟩, ?_⟩
  · have hq' : q < v.1 2 := hq
    rw [hk.1] at hq'
    rw [kl 7 (by omega) (by omega), r1n q hq']
    show _ = lN (pkN (nmf v q) 8)
    rw [hk.2 q hq']
  · unfold mo_nm at *
    rw [k 0 (by omega) (by omega), k 1 (by omega) (by omega), k 3 (by omega) (by omega), k 6 (by omega) (by omega), k 17 (by omega) (by omega), kl 8 (by omega) (by omega)]
    exact r2
theorem mo_runScript (ok : Ok st) (R : MoR h st) : moC f_X12_runScript h (sRSf st (rdS st)) (oRSf st (rdS st)) ex1 := by
  have hb : bOk st.2.2.2.1 := ok.2.2.2.1
  have Bf : mo_bf h st.2.2.2.1 := R.2.2.2.1
  have hTo := tkA_ok (b := st.2.2.2.1) (p := 0) (Nat.zero_le _)
  obtain ⟨h1, e1, t1, z2, kj1, w1⟩ := m_begins hb Bf
  have w5 : Wr [(.inl 0, 0)] h1 (am_u (am_u (am_u h1 (.inl 0) 0 31 (iI 0)) (.inl 0) 0 32 (iI 0)) (.inl 0) 0 33 (iI 0)) := (Wr.u (by simp)).tr ((Wr.u (by simp)).tr (Wr.u (by simp)))
  have t5 := ((t1.u0 (i := 31) (x := iI 0) (by omega)).u0 (i := 32) (x := iI 0) (by omega)).u0 (i := 33) (x := iI 0) (by omega)
  have S5 : mo_ss (am_u (am_u (am_u h1 (.inl 0) 0 31 (iI 0)) (.inl 0) 0 32 (iI 0)) (.inl 0) 0 33 (iI 0)) S0 0 := ⟨⟨by rw [au_s, if_neg (by omega), au_s, if_neg (by omega), au_s, if_pos rfl]; rfl, fun i hi => absurd hi (Nat.not_lt_zero i)⟩, by rw [au_s, if_neg (by omega), au_s, if_pos rfl]; rfl, by rw [au_s, if_pos rfl]; rfl⟩
  have kj5 : ∀ j, j < 31 ∨ 33 < j → (am_u (am_u (am_u h1 (.inl 0) 0 31 (iI 0)) (.inl 0) 0 32 (iI 0)) (.inl 0) 0 33 (iI 0)).1 (.inl 0) 0 j = h1.1 (.inl 0) 0 j := fun j hj => by rw [au_s, if_neg (by omega), au_s, if_neg (by omega), au_s, if_neg (by omega)]
  obtain ⟨h6, e6, q6, f6⟩ := (m_scLoop hb 500).1 (by omega) hTo.1 S0_ok t5 S5 (fun z => absurd z.1 (by decide))
  have eA : f_X12_runScript h = f_X12_runScript_82 h6 := by
    unfold f_X12_runScript
    rw [e1, Option.bind_some, am_lt, am_lt, am_lt]
    exact e6
  have kj : ∀ j, j = 2 ∨ j = 21 ∨ j = 22 ∨ j = 35 ∨ j = 36 → h6.1 (.inl 0) 0 j = h1.1 (.inl 0) 0 j := fun j hj => by
    rw [f6.1 j (by omega), kj5 j (by omega)]
  have w6 : Wr [(.inl 0, 0), (.inl 0, 13), (.inl 0, 14)] h h6 := (w1.mono (by simp)).tr ((w5.mono (by simp)).tr f6.2)
  have hZ : ∀ x, sScr st.2.2.2.1 500 S0 0 (tkA st.2.2.2.1 0) = .inr x → (∀ k, k < x.1 → sc_at x k) ∧ x.1 ≤ 60 := fun x e => rdS_ok e
  show moC f_X12_runScript h (sRSf st (sScr st.2.2.2.1 500 S0 0 (tkA st.2.2.2.1 0))) (oRSf st (sScr st.2.2.2.1 500 S0 0 (tkA st.2.2.2.1 0))) ex1
  generalize sScr st.2.2.2.1 500 S0 0 (tkA st.2.2.2.1 0) = r at *
  have r21 : h.1 (.inl 0) 0 21 = iI st.2.2.1.1 := R.2.2.1.1
  have gen : ∀ {h7 : am_H} {e : Int × Int}, Wr [(.inl 0, 0)] h6 h7 → (∀ j, j = 2 ∨ j = 21 ∨ j = 22 ∨ j = 35 ∨ j = 36 → h7.1 (.inl 0) 0 j = h6.1 (.inl 0) 0 j) → h7.1 (.inl 0) 0 10 = iI e.1 → h7.1 (.inl 0) 0 11 = iI e.2 → MoR h7 (stB st (0, st.2.2.2.1.2) e) := fun {h7 e} w7 xj x10 x11 => by
    have w := w6.tr (w7.mono (by simp))
    exact mo_rdR (h' := h7) (w := st.1) (u := st.2.2.1.1) (e := e) (Nat.le_refl _) (by rw [xj 2 (by omega), kj 2 (by omega)]; exact z2) x10 x11 (by rw [xj 21 (by omega), kj 21 (by omega), kj1 21 (by omega)]; exact r21) (fun j hj => by rw [xj j (by omega), kj j (by omega), kj1 j (by omega)]) (fun o ho => w.1 _ _ (by simp; omega)) (w.2.1 _ _ (by simp)) (R.1.1.eq (w.1 _ _ (by simp))) (fun q hq => by rw [w.2.1 _ _ (by simp)]; exact R.1.2 q hq) R
  cases r with
  | inl e =>
    have E : mo_er h6 e := q6
    have eE := m_endsText0 E
    have w7 : Wr [(.inl 0, 0)] h6 (am_u (am_u (am_u h6 (.inl 0) 0 10 (iI e.1)) (.inl 0) 0 11 (iI e.2)) (.inl 0) 0 0 (iI 1)) := (Wr.u (by simp)).tr ((Wr.u (by simp)).tr (Wr.u (by simp)))
    have M := gen (e := e) w7 (fun j hj => by rw [au_s, if_neg (by omega), au_s, if_neg (by omega), au_s, if_neg (by omega)]) (by rw [au_s, if_neg (by omega), au_s, if_neg (by omega), au_s, if_pos rfl]) (by rw [au_s, if_neg (by omega), au_s, if_pos rfl])
    refine ⟨iI 0, _, ?_, M, (w6.CF rfl).tr (w7.CF rfl), ?_⟩
    · rw [eA, e_X12_runScript_82, eE, Option.bind_some]
      dsimp only
      rw [if_pos (by decide)]
    · rw [au_s, if_pos rfl]
      exact agr1
  | inr S =>
    obtain ⟨s6, y8, y9⟩ := q6
    have hs := hZ S rfl
    have eE := m_endsText1 y8 y9
    have w7 : Wr [(.inl 0, 0)] h6 (am_u (am_u (am_u h6 (.inl 0) 0 10 (iI 0)) (.inl 0) 0 11 (iI (-1))) (.inl 0) 0 0 (iI 0)) := (Wr.u (by simp)).tr ((Wr.u (by simp)).tr (Wr.u (by simp)))
    have M7 := gen (e := (0, -1)) w7 (fun j hj => by rw [au_s, if_neg (by omega), au_s, if_neg (by omega), au_s, if_neg (by omega)]) (by rw [au_s, if_neg (by omega), au_s, if_neg (by omega), au_s, if_pos rfl]) (by rw [au_s, if_neg (by omega), au_s, if_pos rfl])
    have x0 : (am_u (am_u (am_u h6 (.inl 0) 0 10 (iI 0)) (.inl 0) 0 11 (iI (-1))) (.inl 0) 0 0 (iI 0)).1 (.inl 0) 0 0 = iI 0 := by rw [au_s, if_pos rfl]
    have s7 : mo_st (am_u (am_u (am_u h6 (.inl 0) 0 10 (iI 0)) (.inl 0) 0 11 (iI (-1))) (.inl 0) 0 0 (iI 0)) S := ⟨by rw [au_s, if_neg (by omega), au_s, if_neg (by omega), au_s, if_neg (by omega)]; exact s6.1, fun q hq => by rw [w7.1 _ _ (by simp), w7.1 _ _ (by simp)]; exact s6.2 q hq⟩
    generalize (am_u (am_u (am_u h6 (.inl 0) 0 10 (iI 0)) (.inl 0) 0 11 (iI (-1))) (.inl 0) 0 0 (iI 0)) = h7 at *
    obtain ⟨h8, e8, c8, w8⟩ := m_laysAside h7
    have M8 := M7.wr w8 rfl
    have s8 : mo_st h8 S := ⟨by rw [w8.1 _ _ (by simp)]; exact s7.1, fun q hq => by rw [w8.1 _ _ (by simp), w8.1 _ _ (by simp)]; exact s7.2 q hq⟩
    obtain ⟨h9, e9, P9⟩ := m_run hs.1 hs.2 24000 (h := h8) (v := st.1) (dn := 0) (k := 0) (lp := fun _ => 0) (mes_0 hs.1 hs.2) (Nat.zero_le _) (Nat.zero_le _) ok.1 (fun j hj => absurd hj (Nat.not_lt_zero j)) M8.1.1 s8 (fun j hj => absurd hj (Nat.not_lt_zero j))
    have e9' : f_X12_doesAll h8 = some (iI (rnV st.1 S).1, h9) := e9
    have w9 := wr_X12_doesAll e9'
    have A := rnS_A hs.1 24000 (v := st.1) (dn := 0) (k := 0) (lp := fun _ => 0) ok.1 (Nat.zero_le _) (Nat.zero_le _)
    have M9 : MoR h9 (setPl (stB st (0, st.2.2.2.1.2) (0, -1)) (rnV st.1 S).2) := M8.plR w9 P9 A.2.1
    have R4 : mo_rw (h9.1 (.inl 0) 4) st.1 := by
      rw [w9.1 _ _ (by simp)]
      exact M7.1.1.e408 ok.1.1 c8
    obtain ⟨h10, e10, M10, C10, z10⟩ := mo_keep (st := stB st (0, st.2.2.2.1.2) (0, -1)) (stB0_ok ok) M9 R4
    refine ⟨iI (rnV st.1 S).1, h10, ?_, M10, (w6.CF rfl).tr ((w7.CF rfl).tr ((w8.CF rfl).tr ((w9.CF rfl).tr C10))), ?_⟩
    · rw [eA, e_X12_runScript_82, eE, Option.bind_some]
      dsimp only
      rw [if_neg (by decide), e8, Option.bind_some, e9', Option.bind_some]
      dsimp only
      rw [e10, Option.bind_some]
    · rw [z10, w9.1 _ _ (by simp), w8.1 _ _ (by simp), x0]
      exact agrv
end RSC
