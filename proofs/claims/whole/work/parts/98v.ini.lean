/-! the beginning state -/
def st00 : St := (v0, (false, v0), (0, fun _ => v0), (0, fun _ => 0), (0, -1), (false, 0, fun _ => 0))
theorem w26 {i : Nat} (h : i < 26) : (if i < 26 then (4 : Int32) else 0) = iI 4 := by
  rw [if_pos h]
  rfl
theorem r26 {i : Nat} (h : i < 26) : rw0 (104 + i) = iI 4 := by
  show upd (upd (upd (rwA 26) 3 50) 4 1) 5 1 (104 + i) = iI 4
  unfold upd
  rw [if_neg (by omega), if_neg (by omega), if_neg (by omega)]
  show (if 104 ≤ 104 + i ∧ 104 + i < 104 + 26 then (4 : Int32) else 0) = iI 4
  rw [if_pos (by omega)]
  rfl
theorem ok00 : Ok st00 := ⟨v0_Z.1, fun h => (by cases h), ⟨Nat.zero_le 6, fun i hi => absurd hi (Nat.not_lt_zero i)⟩, ⟨Nat.zero_le 500, fun i => (by show (0 : Int) ≤ 0 ∧ (0 : Int) ≤ 255; omega)⟩, ⟨Nat.zero_le 294, fun _ => rfl, fun i => (by show (0 : Int) ≤ 0 ∧ (0 : Int) ≤ 127; omega)⟩⟩
theorem cl00 : ClR h00 st00 := by
  refine ⟨?_, ⟨rfl, fun h => (by cases h)⟩, ⟨rfl, fun i hi => (by show 4 ≤ i + 4 ∧ i + 4 < 10; omega), fun i j hi hj e => (by have e : i + 4 = j + 4 := e; omega), fun i _ hi => absurd hi (Nat.not_lt_zero i)⟩, ⟨rfl, fun i hi => absurd hi (Nat.not_lt_zero i)⟩, ⟨rfl, rfl⟩, ⟨rfl, fun i hi => absurd hi (Nat.not_lt_zero i)⟩⟩
  exact ⟨⟨rfl, fun i hi => absurd hi (Nat.not_lt_zero i)⟩, ⟨rfl, fun i hi => absurd hi (Nat.not_lt_zero i), fun i hi => w26 hi⟩, ⟨rfl, fun i hi => absurd hi (Nat.not_lt_zero i), fun i hi => absurd hi (Nat.not_lt_zero i)⟩, ⟨rfl, rfl, rfl, rfl⟩, ⟨rfl, fun i hi => absurd hi (Nat.not_lt_zero i)⟩, rfl⟩
theorem mo00 : MoR h00 st00 := by
  refine ⟨⟨?_, fun q hq => absurd hq (Nat.not_lt_zero q)⟩, ⟨rfl, fun h => (by cases h)⟩, ⟨rfl, fun i hi => absurd hi (Nat.not_lt_zero i)⟩, ⟨rfl, fun i hi => absurd hi (Nat.not_lt_zero i)⟩, ⟨rfl, rfl⟩, ⟨rfl, fun h => (by cases h)⟩⟩
  refine ⟨⟨rfl, rfl, rfl, rfl, rfl, rfl, rfl, rfl, rfl⟩, fun i hi => absurd hi (Nat.not_lt_zero i), fun i hi => absurd hi (Nat.not_lt_zero i), fun i hi => r26 hi, fun i hi => absurd hi (Nat.not_lt_zero i), fun i hi => absurd hi (Nat.not_lt_zero i)⟩
theorem or00 : OkR h00 := ⟨st00, ok00, cl00, mo00⟩
