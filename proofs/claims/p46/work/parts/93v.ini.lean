/-! the beginning state -/
def st00 : St := (v0, (false, v0), (0, fun _ => v0), (0, fun _ => 0), (0, -1), (false, 0, fun _ => 0))
theorem w26 {i : Nat} (h : i < 26) : (if i < 26 then (4 : Int32) else 0) = iI 4 := by
  rw [if_pos h]
  rfl
theorem ok00 : Ok st00 := ⟨v0_Z.1, fun h => (by cases h), ⟨Nat.zero_le 6, fun i hi => absurd hi (Nat.not_lt_zero i)⟩, ⟨Nat.zero_le 500, fun i => (by show (0 : Int) ≤ 0 ∧ (0 : Int) ≤ 255; omega)⟩, ⟨Nat.zero_le 294, fun _ => rfl, fun i => (by show (0 : Int) ≤ 0 ∧ (0 : Int) ≤ 127; omega)⟩⟩
theorem cl00 : ClR h00 st00 := by
  refine ⟨?_, ⟨rfl, fun h => (by cases h)⟩, ⟨rfl, fun i hi => (by show 4 ≤ i + 4 ∧ i + 4 < 10; omega), fun i j hi hj e => (by have e : i + 4 = j + 4 := e; omega), fun i _ hi => absurd hi (Nat.not_lt_zero i)⟩, ⟨rfl, fun i hi => absurd hi (Nat.not_lt_zero i)⟩, ⟨rfl, rfl⟩, ⟨rfl, fun i hi => absurd hi (Nat.not_lt_zero i)⟩⟩
  exact ⟨⟨rfl, fun i hi => absurd hi (Nat.not_lt_zero i)⟩, ⟨rfl, fun i hi => absurd hi (Nat.not_lt_zero i), fun i hi => w26 hi⟩, ⟨rfl, fun i hi => absurd hi (Nat.not_lt_zero i), fun i hi => absurd hi (Nat.not_lt_zero i)⟩, ⟨rfl, rfl, rfl, rfl⟩, ⟨rfl, fun i hi => absurd hi (Nat.not_lt_zero i)⟩, rfl⟩
/-! the class's cells among the others -/
/-- which of the class's cells is the j-th -/
def dm_gO (j : Nat) : am_G × Nat := if j = 0 then (.inl 1, 0) else if j < 81 then (.inr ((j - 1) / 20), (j - 1) % 20) else if j < 98 then (.inl 1, j - 80) else (.inr ((j - 18) / 20), (j - 18) % 20)
theorem gO_ok {j : Nat} (h : j < 218) : am_ok (dm_gO j).1 (dm_gO j).2 ∧ offR (am_rk (dm_gO j).1 (dm_gO j).2) = j := by
  unfold dm_gO
  by_cases h1 : j = 0
  · subst h1
    exact ⟨show (0 : Nat) < 18 by omega, rfl⟩
  · rw [if_neg h1]
    by_cases h2 : j < 81
    · rw [if_pos h2]
      refine ⟨⟨show (j - 1) / 20 < 10 by omega, show (j - 1) % 20 < 20 by omega⟩, ?_⟩
      show offR (18 + (20 * ((j - 1) / 20) + (j - 1) % 20)) = j
      rw [off_p1 (by omega) (by omega)]
      omega
    · rw [if_neg h2]
      by_cases h3 : j < 98
      · rw [if_pos h3]
        refine ⟨show j - 80 < 18 by omega, ?_⟩
        show offR (j - 80) = j
        rw [off_b (by omega) (by omega)]
        omega
      · rw [if_neg h3]
        refine ⟨⟨show (j - 18) / 20 < 10 by omega, show (j - 18) % 20 < 20 by omega⟩, ?_⟩
        show offR (18 + (20 * ((j - 18) / 20) + (j - 18) % 20)) = j
        rw [off_p2 (by omega) (by omega)]
        omega
theorem gO_at {g : am_G} {o : Nat} (h : am_ok g o) : offR (am_rk g o) < 218 ∧ dm_gO (offR (am_rk g o)) = (g, o) := by
  match g, h with
  | .inl 0, h => exact h.elim
  | .inl 1, h =>
    have h : o < 18 := h
    show offR o < 218 ∧ dm_gO (offR o) = _
    by_cases h0 : o = 0
    · subst h0
      exact ⟨by decide, rfl⟩
    · rw [off_b (by omega) h]
      refine ⟨by omega, ?_⟩
      unfold dm_gO
      rw [if_neg (by omega), if_neg (by omega), if_pos (by omega)]
      rw [show 80 + o - 80 = o by omega]
  | .inl (n + 2), h => exact h.elim
  | .inr k, h =>
    obtain ⟨h1, h2⟩ : k < 10 ∧ o < 20 := h
    show offR (18 + (20 * k + o)) < 218 ∧ dm_gO (offR (18 + (20 * k + o))) = _
    by_cases h4 : k < 4
    · rw [off_p1 h4 h2]
      refine ⟨by omega, ?_⟩
      unfold dm_gO
      rw [if_neg (by omega), if_pos (by omega)]
      rw [show (1 + 20 * k + o - 1) / 20 = k by omega, show (1 + 20 * k + o - 1) % 20 = o by omega]
    · rw [off_p2 (by omega) h2]
      refine ⟨by omega, ?_⟩
      unfold dm_gO
      rw [if_neg (by omega), if_neg (by omega), if_neg (by omega)]
      rw [show (18 + 20 * k + o - 18) / 20 = k by omega, show (18 + 20 * k + o - 18) % 20 = o by omega]
/-- the cells when the class's object is made -/
def dm_bt (d : dm_D) : dm_D := (d.1 + 218, d.2.1 + 4311, fun j => if j < d.1 then d.2.2 j else .inr (.inr (.inr (dm_gO (j - d.1)))))
theorem bt_full (d : dm_D) : dm_full (dm_bt d) := fun g o h => by
  obtain ⟨h1, h2⟩ := gO_at h
  refine ⟨d.1 + offR (am_rk g o), show d.1 + offR (am_rk g o) < d.1 + 218 by omega, ?_⟩
  show (if d.1 + offR (am_rk g o) < d.1 then d.2.2 (d.1 + offR (am_rk g o)) else .inr (.inr (.inr (dm_gO (d.1 + offR (am_rk g o) - d.1))))) = _
  rw [if_neg (by omega), show d.1 + offR (am_rk g o) - d.1 = offR (am_rk g o) by omega, h2]
theorem bt_WH {ad : am_G → Nat → Nat} {D : va_G} {cA : Nat → ClassId} {h : am_H} {d : dm_D} {H H1 : Heap} (ha : dm_ad ad) (hd : ad_at ad (ad (.inl 0) d.1)) (h0 : va_P D vwCl (dm_ws ad cA h d) H) (hh : ∀ (i : Nat) (g : am_G × Nat), i < d.1 → d.2.2 i = .inr (.inr (.inr g)) → am_ok g.1 g.2 ∧ ad g.1 g.2 = ad (.inl 0) i) (hP : va_P D vwCl (bw (ad (.inl 0) d.1) (KX11 KX5 KX1 KX3 KX10 KX9 KX8 KX6 cA (ad (.inl 0) d.1))) H1) (hk : ∀ q : Nat, q < ad (.inl 0) d.1 → H1[q]? = H[q]?) (hz : H1.size = ad (.inl 0) d.1 + 218) (hc : d.2.1 + 4311 ≤ dm_L) : dm_WH ad D cA h00 (dm_bt d) H1 := by
  have hn : ∀ i g, i < d.1 → d.2.2 i ≠ .inr (.inr (.inr g)) := fun i g hi e => by
    obtain ⟨q1, q2⟩ := hh i g hi e
    have q3 := hd _ _ q1
    rw [q2, ha i, ha d.1] at q3
    omega
  refine ⟨fun k q hq => ?_, ?_, hc, fun i g hi e => ?_⟩
  · obtain ⟨hi, rfl⟩ := dm_ws_in hq
    have hi : k < d.1 + 218 := hi
    by_cases h1 : k < d.1
    · have he := dm_ws_at ad cA h d h1
      have hp := h0 k _ he
      have hp2 : va_at D vwCl (ad (.inl 0) k, dm_ce ad cA h (d.2.2 k)) H1 := hp.kept (hk _ (by show ad (.inl 0) k < ad (.inl 0) d.1; rw [ha k, ha d.1]; omega))
      show va_at D vwCl (ad (.inl 0) k, dm_ce ad cA h00 (if k < d.1 then d.2.2 k else _)) H1
      rw [if_pos h1]
      match hck : d.2.2 k with
      | .inl o => rw [hck] at hp2; exact hp2
      | .inr (.inl o) => rw [hck] at hp2; exact hp2
      | .inr (.inr (.inl o)) => rw [hck] at hp2; exact hp2
      | .inr (.inr (.inr g)) => exact absurd hck (hn k g h1)
    · obtain ⟨o1, o2⟩ := gO_ok (j := k - d.1) (by omega)
      have h3 := all_at hd hP _ _ o1
      rw [hd _ _ o1, o2] at h3
      have e5 : ad (.inl 0) d.1 + (k - d.1) = ad (.inl 0) k := by rw [ha k, ha d.1]; omega
      rw [e5] at h3
      show va_at D vwCl (ad (.inl 0) k, dm_ce ad cA h00 (if k < d.1 then d.2.2 k else _)) H1
      rw [if_neg h1]
      exact h3
  · rw [hz, ha d.1]
    show _ = ad (.inl 0) 0 + (d.1 + 218)
    omega
  · have hi : i < d.1 + 218 := hi
    have e : (if i < d.1 then d.2.2 i else .inr (.inr (.inr (dm_gO (i - d.1))))) = .inr (.inr (.inr g)) := e
    by_cases h1 : i < d.1
    · rw [if_pos h1] at e
      exact absurd e (hn i g h1)
    · rw [if_neg h1] at e
      obtain ⟨o1, o2⟩ := gO_ok (j := i - d.1) (by omega)
      have e6 : dm_gO (i - d.1) = g := by
        injection e with q1
        injection q1 with q2
        injection q2
      rw [← e6]
      refine ⟨o1, ?_⟩
      rw [hd _ _ o1, o2, ha i, ha d.1]
      omega
