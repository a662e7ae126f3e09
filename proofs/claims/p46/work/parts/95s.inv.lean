/-! engraving keeps what holds of scratches -/
def InvJ (v : pv_T) (j : Nat) : Prop := ∀ s, s < v.1 3 → (v.2 6 (v.2 12 s).toNat = 1 ∨ v.2 12 s = j) ∧ v.2 13 s % 100 = 0
theorem stk0_m {G : G4} {hd x1 x2 d1 d2 : Int} : (stk0 G hd x1 x2 d1 d2).1 % 100 = 0 := by
  unfold stk0
  split
  · rfl
  · split
    · rfl
    · show 100 * (1 + d2 % 20) % 100 = 0
      omega
theorem stP_J {v : pv_T} {j : Nat} (h : InvJ v j) : InvJ (stP v j) j := by
  have hm : (stk (gvO v) (hdL v j)).1 % 100 = 0 := stk0_m
  unfold stP
  generalize stk (gvO v) (hdL v j) = T at hm ⊢
  obtain ⟨r, G⟩ := T
  by_cases c : 0 < r
  · rw [if_pos c]
    intro s hs
    have hs : s < v.1 3 + 1 := hs
    by_cases e : s = v.1 3
    · subst e
      have e12 : (addS (setG v G) j r).2 12 (v.1 3) = j := by
        show (pu (pu (setG v G) 12 (v.1 3) j) 13 (v.1 3) r).2 12 (v.1 3) = j
        rw [pu_o (by omega), pu_s]
      have e13 : (addS (setG v G) j r).2 13 (v.1 3) = r := by
        show (pu (pu (setG v G) 12 (v.1 3) j) 13 (v.1 3) r).2 13 (v.1 3) = r
        rw [pu_s]
      rw [e12, e13]
      exact ⟨Or.inr rfl, hm⟩
    · have e12 : (addS (setG v G) j r).2 12 s = v.2 12 s := by
        show (pu (pu (setG v G) 12 (v.1 3) j) 13 (v.1 3) r).2 12 s = _
        rw [pu_o (by omega), pu_i e]
        rfl
      have e13 : (addS (setG v G) j r).2 13 s = v.2 13 s := by
        show (pu (pu (setG v G) 12 (v.1 3) j) 13 (v.1 3) r).2 13 s = _
        rw [pu_i e, pu_o (by omega)]
        rfl
      have e6 : (addS (setG v G) j r).2 6 = v.2 6 := rfl
      rw [e12, e13, e6]
      exact h s (by omega)
  · rw [if_neg c]
    exact h
theorem itP_J {v : pv_T} {j : Nat} (h : InvJ v j) : ∀ n, InvJ (itP n v j) j
  | 0 => h
  | n + 1 => stP_J (itP_J h n)
theorem engL_I {v : pv_T} {j : Nat} (h : Inv v) : Inv (engL v j) := by
  have hJ : InvJ v j := fun s hs => ⟨Or.inl (h s hs).1, (h s hs).2⟩
  intro s hs
  have h1 := itP_J hJ (nst v j) s hs
  have e12 : (engL v j).2 12 s = (itP (nst v j) v j).2 12 s := pu_o (by omega)
  have e13 : (engL v j).2 13 s = (itP (nst v j) v j).2 13 s := pu_o (by omega)
  rw [e12, e13]
  refine ⟨?_, h1.2⟩
  show (pu (itP (nst v j) v j) 6 j 1).2 6 ((itP (nst v j) v j).2 12 s).toNat = 1
  by_cases c : ((itP (nst v j) v j).2 12 s).toNat = j
  · rw [c, pu_s]
  · rw [pu_i c]
    rcases h1.1 with h2 | h2
    · exact h2
    · rw [h2] at c
      exact absurd (Int.toNat_natCast j) c
theorem enA_I {lim : Nat} {v : pv_T} (h : Inv v) : ∀ n, Inv (enA lim v n).2
  | 0 => h
  | n + 1 => by
    by_cases c : (enA lim v n).2.2 6 n = 0 ∧ (enA lim v n).2.1 3 ≤ lim
    · rw [enA_t c]
      exact engL_I (enA_I h n)
    · rw [enA_f c]
      exact enA_I h n
section ACX
variable {X : dm_X} {d : dm_D} {h : am_H} {w : Nat} {tx : am_v} {N : Nat → Nat} {st : St}
theorem act9 (B : Both w tx N h d st) {p r : Nat} {g : Nat → Int32} (hp : p < st.1.1 1) (o : dAr d r 0 3 g) (hg : g 1 = iI (st.1.2 6 p)) (ha : 0 < st.1.1 0) (h40 : st.1.1 3 ≤ 40) (hb : d.2.1 + 432 ≤ dm_L) : ActOk w tx N 432 d ((dm_li X d (.inl 0, r) (iI (1))).bind (fun a8 => if a8 = (iI (1)) then (some ((iI (1)), h, d)) else ((dm_cl d (f_X11_engrave (iI p) h)).bind (fun a9 => (dm_v a9.1).bind (fun a10 => (dm_rk d (.inl 0, w) 12).bind (fun u7 => (F_X12_engrave X (.inl 0, w) (iI p) d).bind (fun a11 => if a10 = a11.1 then (some ((iI (1)), a9.2, a11.2)) else (some ((iI (0)), a9.2, a11.2))))))))) := by
  have B0 := B
  obtain ⟨ok, C, I, hf, M, E, F, R⟩ := B
  have h20 := ok.1.1.1.2.1
  have h6 := ok.1.1.2.2.1 p hp
  rw [li1 o rfl rfl, Option.bind_some, hg]
  by_cases c : st.1.2 6 p = 1
  · refine ⟨(iI 1, h, d), st, ?_, one_n0, B0, Hol.rf.le (Nat.zero_le _)⟩
    rw [c, if_pos rfl]
  · obtain ⟨h1, q1, C1, -⟩ := cl_engrave ok C (i := (p : Int)) (by omega)
    have e1 : oEn st p = .inl (iI (((engL st.1 p).1 3 : Int) - st.1.1 3)) := by
      unfold oEn
      rw [if_pos (by omega), Int.toNat_natCast, if_pos ⟨by omega, ha, h40⟩]
    have e3 : (sEn st p).1 = engL st.1 p := by
      unfold sEn
      rw [Int.toNat_natCast, if_pos ⟨by omega, by omega, ha, h40⟩]
      rfl
    obtain ⟨d2, M2, E2, F2, p2, R2, H2⟩ := engrave_ok (X := X) ok.1.1 hp h40 R hb
    refine ⟨(iI 1, h1, d2), sEn st p, ?_, one_n0, ⟨sEn_ok ok, C1, ?_, H2.full hf, M2, E2, F2, ?_⟩, H2⟩
    · rw [if_neg (by rw [xI_eq (by omega) (by omega) (by omega) (by omega)]; exact c), q1, dm_cl_of hf, Option.bind_some]
      dsimp only
      rw [e1]
      show (some (iI (((engL st.1 p).1 3 : Int) - st.1.1 3))).bind _ = _
      rw [Option.bind_some, rk_at R.1, Option.bind_some, p2, Option.bind_some]
      exact if_pos rfl
    · rw [e3]
      exact engL_I I
    · rw [e3]
      exact R2
end ACX
