section ADC
variable {X : dm_X} {d : dm_D} {h : am_H} {w : Nat} {tx : am_v} {N : Nat → Nat} {st : St}
theorem ActOk.le {a b : Nat} {r : Option (Int32 × am_H × dm_D)} (hab : a ≤ b) (A : ActOk w tx N a d r) : ActOk w tx N b d r := by
  obtain ⟨x, st', h1, h2, h3, h4⟩ := A
  exact ⟨x, st', h1, h2, h3, h4.le hab⟩
theorem num10 {a L : Nat} (h : a + 8645 ≤ L) : a + 5 ≤ L ∧ a + 432 ≤ L := by omega
theorem acts_ok (hX : X.1 < 2147483648) (B : Both w tx N h d st) {i : Nat} (hi : i < 16) (hb : d.2.1 + 8645 ≤ dm_L) : ActOk w tx N 8645 d (F_L_acts X (.inl 0, w) (.inl 4, 3) (iI i) h d) := by
  obtain ⟨z, hz⟩ : ∃ z, pickV X (340 + i) 400000 = z := ⟨_, rfl⟩
  obtain ⟨y, hy⟩ : ∃ y, pickV X (300 + i) 14 = y := ⟨_, rfl⟩
  have z1 := pick_b (X := X) (k := 340 + i) (n := 400000) (by omega)
  have y1 := pick_b (X := X) (k := 300 + i) (n := 14) (by omega)
  rw [hz] at z1
  rw [hy] at y1
  have p1 := pick_ok (X := X) (d := d) hX (k := 340 + i) (by omega) (n := 400000) (by omega)
  have p2 := pick_ok (X := X) (d := d) hX (k := 300 + i) (by omega) (n := 14) (by omega)
  rw [hz, show ((340 + i : Nat) : Int) = 340 + i by omega] at p1
  rw [hy, show ((300 + i : Nat) : Int) = 300 + i by omega] at p2
  unfold F_L_acts
  rw [iI_a, show (400000 : Int32) = iI 400000 from rfl, p1, Option.bind_some, iI_a, p2, Option.bind_some]
  have B0 := B
  obtain ⟨ok, C, I, hf, M, E, F, R⟩ := B
  have h20 := ok.1.1.1.2.1
  have h44 := ok.1.1.1.2.2.2
  have h08 := ok.1.1.1.1
  have l0 : (0 : Nat) ≤ 8645 := Nat.zero_le _
  by_cases c0 : y = 0
  · rw [c0, if_pos (show iI 0 = (0 : Int32) from rfl)]
    exact (act0 B0 z1).le l0
  · rw [if_neg (by rw [xI_0, xI_eq (by omega) (by omega) (by omega) (by omega)]; exact c0)]
    by_cases c1 : y = 1
    · rw [c1, if_pos rfl]
      exact (act1 B0 z1).le l0
    · rw [if_neg (by rw [xI_eq (by omega) (by omega) (by omega) (by omega)]; exact c1)]
      by_cases c2 : y = 2
      · rw [c2, if_pos rfl]
        exact (act2 B0 z1).le l0
      · rw [if_neg (by rw [xI_eq (by omega) (by omega) (by omega) (by omega)]; exact c2)]
        by_cases c5 : 5 ≤ y
        · rw [if_pos (by rw [xI_le (by omega) (by omega) (by omega) (by omega)]; exact c5)]
          by_cases c7 : 7 ≤ y
          · rw [if_pos (by rw [xI_le (by omega) (by omega) (by omega) (by omega)]; exact c7)]
            rw [fr_at R.1 rfl, Option.bind_some, rk_at R.let.1, Option.bind_some, empty_at R.let, Option.bind_some]
            by_cases n0 : st.1.1 1 = 0
            · refine ⟨(iI 1, h, d), st, ?_, one_n0, B0, Hol.rf.le l0⟩
              rw [if_neg (by unfold bI; rw [if_pos n0]; decide)]
            · have hn0 : (0 : Int) < (st.1.1 1 : Int) := by omega
              have hm1 := Int.emod_nonneg z (show (st.1.1 1 : Int) ≠ 0 by omega)
              have hm2 := Int.emod_lt_of_pos z hn0
              obtain ⟨p, hp⟩ : ∃ p : Nat, z % (st.1.1 1 : Int) = p := ⟨(z % (st.1.1 1 : Int)).toNat, by omega⟩
              have hpn : p < st.1.1 1 := by omega
              obtain ⟨g, o, g0, g1, g2⟩ := R.2.2.2.2.1 p hpn
              rw [if_pos (by unfold bI; rw [if_neg n0]; decide), Option.bind_some, rk_at R.let.1, Option.bind_some, size_at R.let, Option.bind_some, if_neg (by rw [xI_0, xI_eq (by omega) (by omega) (by omega) (by omega)]; omega), Option.bind_some, xI_rn (by omega) (by omega) (by omega) (by omega), hp, rk_at R.let.1, Option.bind_some, get_at R.let hpn, Option.bind_some, ck_at o, Option.bind_some]
              by_cases e7 : y = 7
              · rw [e7, if_pos rfl]
                exact (act7 B0 R hpn (num10 hb).1).le (ble rfl)
              · rw [if_neg (by rw [xI_eq (by omega) (by omega) (by omega) (by omega)]; exact e7), fr_at R.1 rfl, Option.bind_some, rk_at R.arc.1, Option.bind_some, empty_at R.arc, Option.bind_some]
                by_cases a0 : st.1.1 0 = 0
                · refine ⟨(iI 1, h, d), st, ?_, one_n0, B0, Hol.rf.le l0⟩
                  rw [if_neg (by unfold bI; rw [if_pos a0]; decide)]
                · rw [if_pos (by unfold bI; rw [if_neg a0]; decide), fr_at R.1 rfl, Option.bind_some, rk_at R.scr.1, Option.bind_some, size_at R.scr, Option.bind_some]
                  by_cases s40 : st.1.1 3 ≤ 40
                  · rw [if_pos (by rw [xI_le (by omega) (by omega) (by omega) (by omega)]; omega)]
                    by_cases e8 : y = 8
                    · rw [e8, if_pos rfl]
                      exact act8 B0 (by omega) s40 hb
                    · rw [if_neg (by rw [xI_eq (by omega) (by omega) (by omega) (by omega)]; exact e8)]
                      exact (act9 B0 hpn o g1 (by omega) s40 (num10 hb).2).le (ble rfl)
                  · refine ⟨(iI 1, h, d), st, ?_, one_n0, B0, Hol.rf.le l0⟩
                    rw [if_neg (by rw [xI_le (by omega) (by omega) (by omega) (by omega)]; omega)]
          · rw [if_neg (by rw [xI_le (by omega) (by omega) (by omega) (by omega)]; exact c7)]
            exact (act5 B0 z1).le l0
        · rw [if_neg (by rw [xI_le (by omega) (by omega) (by omega) (by omega)]; exact c5)]
          exact (act3 B0 z1).le l0
end ADC
