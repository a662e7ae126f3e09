/-! the law answers true -/
section LAE
variable {X : dm_X} {d : dm_D} {h : am_H} {w : Nat} {tx : am_v} {N : Nat → Nat}
theorem bt_ext : Ext 4311 d (dm_bt d) := ⟨Nat.le_add_right _ _, Nat.le_refl _, fun i hi => if_pos hi⟩
/-- between two of the sixteen -/
def LI (w : Nat) (tx : am_v) (N : Nat → Nat) (i : Nat) (h : am_H) (d : dm_D) : Prop := (∃ st, Both w tx N h d st) ∧ d.2.1 ≤ 210000 + 10400 * i
theorem nli {a b c e i p q r1 r2 : Nat} (h1 : a ≤ b + 8645) (h2 : c ≤ a + 21) (h3 : e ≤ c + 1730) (h4 : b ≤ p + q * i) (h5 : 10396 ≤ q) : e ≤ p + q * (i + 1) := by
  rw [Nat.mul_add, Nat.mul_one]
  generalize q * i = z at h4 ⊢
  omega
theorem nlb {i : Nat} (hi : i < 16) : 210000 + 10400 * i ≤ 400000 := by
  have h1 : 10400 * i ≤ 10400 * 16 := Nat.mul_le_mul_left _ (by omega)
  have h2 : 210000 + 10400 * 16 ≤ 400000 := Nat.le_of_ble_eq_true rfl
  exact Nat.le_trans (Nat.add_le_add_left h1 _) h2
theorem law_step (hX : X.1 < 2147483648) : ∀ i h d, i < 16 → LI w tx N i h d → ∃ a1 a2 a3, F_L_acts X (.inl 0, w) (.inl 4, 3) (iI i) h d = some a1 ∧ a1.1 ≠ 0 ∧ F_L_holds X a1.2.1 a1.2.2 = some a2 ∧ a2.1 ≠ 0 ∧ F_L_comes X (.inl 0, w) a2.2.1 a2.2.2 = some a3 ∧ a3.1 ≠ 0 ∧ LI w tx N (i + 1) a3.2.1 a3.2.2 := by
  intro i h d hi ⟨⟨st, B⟩, hd⟩
  have hL := dm_L6
  have hd4 := Nat.le_trans hd (nlb hi)
  obtain ⟨a1, st1, e1, n1, B1, H1⟩ := acts_ok (X := X) hX B hi (by omega)
  have c1 := H1.2.1
  obtain ⟨ok, C, I, hf, M, E, F, R⟩ := B1
  obtain ⟨a2, e2, p1, p2, p3⟩ := holds_ok (X := X) ok C I hf (by omega)
  have c2 := p3.2.1
  have B2 : Both w tx N a2.2.1 a2.2.2 st1 := ⟨ok, p2, I, p3.full hf, M, E, F, R.ext p3⟩
  obtain ⟨a3, e3, n3, B3, H3⟩ := comes_ok (X := X) B2 (by omega)
  have c3 := H3.2.1
  refine ⟨a1, a2, a3, e1, n1, e2, by rw [p1]; exact one_n0, e3, n3, B3, ?_⟩
  exact nli (r1 := 0) (r2 := 0) c1 c2 c3 hd (Nat.le_of_ble_eq_true rfl)
theorem law_ok (hX : X.1 < 2147483648) : LawOk X := by
  have hL := dm_L6
  obtain ⟨⟨q, d⟩, e, w, u, T, g, n, s, N, M, E, F, rfl, R, h3, S, hP, hn, hT, hc⟩ := grown_ok hX
  have hc : d.2.1 ≤ 200000 := hc
  have R : WR d w u (dm_o s) N M E F := R
  have S : SR d s T := S
  refine ⟨(.inl 0, w), d, e, by omega, ?_⟩
  have R1 := R.ext (bt_ext (d := d))
  have S1 := S.ext (bt_ext (d := d))
  have hb : (dm_bt d).2.1 ≤ 204311 := by
    show d.2.1 + 4311 ≤ _
    exact Nat.add_le_add_right hc 4311
  generalize hd1 : dm_bt d = d1 at R1 S1 hb
  have hf : dm_full d1 := by
    rw [← hd1]
    exact bt_full d
  have hb2 : d1.2.1 + 200 ≤ dm_L := by
    rw [hL]
    exact Nat.le_trans (Nat.add_le_add_right hb 200) (Nat.le_of_ble_eq_true rfl)
  obtain ⟨⟨x, h2, d2⟩, e2, p1, ⟨st, ⟨ok, fb0, fb1, fb2⟩, C⟩, E2⟩ := feeds_ok (X := X) hP.1 hT hb2 hf S1 ok00 cl00 rfl
  obtain rfl : x = iI 1 := p1
  have C : ClR h2 st := C
  have E2 : Ext 150 d1 d2 := E2
  obtain ⟨v, pe, ev⟩ := hP.rd hn (b := st.2.2.2.1) fb1 (fun i hi => by
    rw [fb2 i hi]
    exact if_pos hi)
  have er : rdT st = .inr v := ev
  have q := cl_readText ok C
  have ok2 := sRT_ok ok
  rw [er] at q ok2
  obtain ⟨h4, e4, C4, -⟩ := q
  have R2 := (R1.ext E2).pe pe h3
  have hv3 : v.1 3 = 0 := pe.1.2.2.2.trans h3
  have hc2 : d2.2.1 ≤ 210000 := Nat.le_trans E2.2.1 (Nat.le_trans (Nat.add_le_add_right hb 150) (Nat.le_of_ble_eq_true rfl))
  refine law_tail (I := LI w (dm_o s) N) (t := (.inl 0, s)) (q := (.inl 0, N 2)) (law_step hX) (fr_at R1.1 rfl) e2 one_n0 (E2.full hf) e4 (fr_at R2.1 rfl) (rk_at R2.let.1) (size_at R2.let) ?_
  refine ⟨⟨sRTf st (.inr v), ok2, C4, fun s' hs => ?_, E2.full hf, M, E, F, R2⟩, ?_⟩
  · have hs : s' < v.1 3 := hs
    omega
  · exact hc2
end LAE
