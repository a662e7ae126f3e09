/-! what is picked out of the script -/
def cellV (X : dm_X) (k : Nat) : Int32 := if X.1 ≤ k then (1664525 : Int32) * iI k + (40394 : Int32) else X.2 k
theorem cell_ok {X : dm_X} {d : dm_D} (hX : X.1 < 2147483648) {k : Nat} (hk : k < 2147483648) : F_L_cell X (.inl 4, 3) (iI k) d = some (cellV X k) := by
  unfold F_L_cell cellV
  have h1 : dm_ln X d (.inl 4, 3) = some (iI X.1) := by
    rw [← ofN]
    rfl
  rw [h1, Option.bind_some]
  by_cases h : X.1 ≤ k
  · rw [if_pos (by rw [xI_le (by omega) (by omega) (by omega) (by omega)]; omega), if_pos h]
  · have h2 : dm_li X d (.inl 4, 3) (iI k) = some (X.2 k) := by
      show (none : Option Int32).or (if ((.inl 4, 3) : am_G × Nat) = (.inl 4, 3) ∧ ib (iI k) X.1 then some (X.2 (iI k).toNatClampNeg) else none) = _
      rw [if_pos ⟨rfl, by rw [xI_ib (by omega) (by omega) hX]; trivial⟩, iI_cl hk]
      rfl
    rw [if_neg (by rw [xI_le (by omega) (by omega) (by omega) (by omega)]; omega), h2, if_neg h, Option.bind_some]
theorem and31 (x : Int32) : 0 ≤ (x &&& 2147483647).toInt := by
  show 0 ≤ (x.toBitVec &&& (2147483647 : Int32).toBitVec).toInt
  rw [BitVec.toInt_eq_toNat_of_msb (by rw [BitVec.msb_and, show ((2147483647 : Int32).toBitVec).msb = false from by decide, Bool.and_false])]
  omega
def pickV (X : dm_X) (k : Nat) (n : Int) : Int := (cellV X k &&& 2147483647).toInt % n
theorem pick_b {X : dm_X} {k : Nat} {n : Int} (hn : 0 < n) : 0 ≤ pickV X k n ∧ pickV X k n < n := ⟨Int.emod_nonneg _ (by omega), Int.emod_lt_of_pos _ hn⟩
theorem pick_ok {X : dm_X} {d : dm_D} (hX : X.1 < 2147483648) {k : Nat} (hk : k < 2147483648) {n : Int} (hn : 0 < n ∧ n < 2147483648) : F_L_pick X (.inl 4, 3) (iI k) (iI n) d = some (iI (pickV X k n)) := by
  unfold F_L_pick pickV
  have h1 := and31 (cellV X k)
  have h2 := Int32.toInt_lt (cellV X k &&& 2147483647)
  rw [cell_ok hX hk, Option.bind_some, xI_0, if_neg (by rw [xI_eq (by omega) (by omega) (by omega) (by omega)]; omega)]
  generalize cellV X k &&& 2147483647 = y at h1 h2 ⊢
  obtain ⟨z, rfl, z1, z2⟩ := iI_ex y
  rw [iI_toInt z1 z2] at h1 ⊢
  rw [xI_rn h1 z2 hn.1 hn.2]
