section ACZ
variable {X : dm_X} {h : am_H} {w : Nat} {tx : am_v} {N : Nat → Nat} {v : pv_T}
/-- polish: the scratches of the letter l go, from the last down -/
theorem pol_lp (hv : pv_ok v) {l : Nat} (hl : l < 1000) {x8 : Int32} : ∀ (i : Nat) (d : dm_D) (M : Nat → Int32) (E : Nat → am_G × Nat) (F : Nat → Nat → Nat), i ≤ v.1 3 → WR d w (drI v l i) tx N M E F → ∃ d' M E F, F_L_acts_497 X (.inl 0, w) (iI l) x8 (iI ((i : Int) - 1)) h d = F_L_acts_497 X (.inl 0, w) (iI l) x8 (iI (-1)) h d' ∧ WR d' w (drI v l 0) tx N M E F ∧ Hol 0 d d' := by
  have h44 := hv.1.2.2.2
  have h20 := hv.1.2.1
  intro i
  induction i with
  | zero =>
    intro d M E F hi R
    exact ⟨d, M, E, F, rfl, R, Hol.rf⟩
  | succ i ih =>
    intro d M E F hi R
    have hs := hv.2.2.2.2.2.1 i (by omega)
    have hn : i < (drI v l (i + 1)).1 3 := by
      show i < i + 1 + (cN (oth v l) (v.1 3) - cN (oth v l) (i + 1))
      omega
    obtain ⟨u, o, u0, u1⟩ := R.2.2.2.2.2.1 i hn
    rw [drI_at (Or.inl rfl) (Nat.lt_succ_self i)] at u0
    have e0 : ((i + 1 : Nat) : Int) - 1 = i := by omega
    rw [e0, E_L_acts_497, xI_0, if_neg (by rw [xI_lt (by omega) (by omega) (by omega) (by omega)]; omega), fr_at R.1 rfl, Option.bind_some, rk_at R.scr.1, Option.bind_some, get_at R.scr hn, Option.bind_some, ck_at o, Option.bind_some, li0 o rfl rfl, Option.bind_some, u0]
    by_cases c : v.2 12 i = (l : Int)
    · have hf : oth v l i = false := decide_eq_false (fun z => z c)
      obtain ⟨d1, M1, E1, F1, q, p1, R1, H1⟩ := R.rem (X := X) (k := i) hn
      rw [drI_f (by omega) hf] at R1
      obtain ⟨d2, M2, E2, F2, p2, R2, H2⟩ := ih d1 M1 E1 F1 (by omega) R1
      refine ⟨d2, M2, E2, F2, ?_, R2, H1.tr H2⟩
      rw [c, if_pos rfl, Option.bind_some, rk_at R.scr.1, Option.bind_some, p1, Option.bind_some]
      dsimp only
      rw [iI_a]
      exact p2
    · have ht : oth v l i = true := decide_eq_true c
      rw [drI_t (by omega) ht] at R
      obtain ⟨d2, M2, E2, F2, p2, R2, H2⟩ := ih d M E F (by omega) R
      refine ⟨d2, M2, E2, F2, ?_, R2, H2⟩
      rw [if_neg (by rw [xI_eq (by omega) (by omega) (by omega) (by omega)]; exact c), iI_a]
      exact p2
end ACZ
