section WWR
variable {X : dm_X} {d d1 d2 d' : dm_D} {w li p n k c m q : Nat} {mc : Int32} {e : am_G × Nat} {f : Nat → Nat} {v v' : pv_T} {tx : am_v} {N : Nat → Nat} {M : Nat → Int32} {E : Nat → am_G × Nat} {F : Nat → Nat → Nat} {u u' : Nat → Int32}
/-- taking an element out -/
theorem remove_at (L : LiE d li mc e n f) (hk : k < n) (hel : ∀ i, i < n → ∃ m u, dAr d (f i) 0 m u) : ∃ d', F_Jx4a65c_remove_915e3 X (.inl 0, li) (iI k) d = some ((.inl 0, f k), d') ∧ LiE d' li (mc + iI 1) e (n - 1) (fun i => if i < k then f i else f (i + 1)) ∧ d'.1 = d.1 ∧ d'.2.1 = d.2.1 ∧ ∀ j, j ≠ li → (∀ r, e = (.inl 0, r) → j ≠ r) → d'.2.2 j = d.2.2 j := by
  have hn := L.2.1
  have hli := L.1.1
  rcases L.2.2 with ⟨r, cap, g, rfl, h2, h3, h4, h5⟩ | ⟨-, h⟩
  · have hne := li_ne L.1 h2
    have hin : ib (iI (k : Int)) cap := by rw [xI_ib (by omega) (by omega) (by omega)]; trivial
    have e0 : F_Jx4a65c_remove_915e3 X (.inl 0, li) (iI k) d = (F_Jx4a65c_fastRemove_b59b0 X (.inl 0, li) (.inl 0, r) (iI k) d).bind (fun a3 => some ((.inl 0, f k), a3)) := by
      unfold F_Jx4a65c_remove_915e3 F_J15_checkIndex_7cf53
      rw [fi_at L.1 rfl, Option.bind_some, xI_0, if_pos ⟨by rw [xI_lt (by omega) (by omega) (by omega) (by omega)]; omega, by rw [xI_lt (by omega) (by omega) (by omega) (by omega)]; omega⟩, Option.bind_some, fr_at L.1 rfl, Option.bind_some, lr_at h2 hin (by rw [iI_cl (by omega)]; exact h5 k hk), Option.bind_some, rk_at L.1, Option.bind_some]
    rw [e0]
    have o1 : dOb (dm_se d li (.inl (16, [am_i (mc + iI 1), dm_o r, am_i (iI n)]))) li 16 [am_i (mc + iI 1), dm_o r, am_i (iI n)] := dOb.se hli
    have r1 : dRr (dm_se d li (.inl (16, [am_i (mc + iI 1), dm_o r, am_i (iI n)]))) r cap g := ⟨h2.1, (se_ne hne).trans h2.2⟩
    have hel1 : ∀ i, i < n → ∃ m u, dAr (dm_se d li (.inl (16, [am_i (mc + iI 1), dm_o r, am_i (iI n)]))) (f i) 0 m u := fun i hi => by
      obtain ⟨m, u, h⟩ := hel i hi
      exact ⟨m, u, h.1, (se_ne (ar_ne L.1 h)).trans h.2⟩
    by_cases hl : k = n - 1
    · refine ⟨dm_se (dm_se d li (.inl (16, [am_i (mc + iI 1), dm_o r, am_i (iI ((n - 1 : Nat) : Int))]))) r (.inr (.inr (.inl (cap, va_up g (n - 1) none)))), ?_, ⟨⟨hli, (se_ne (Ne.symm hne)).trans se_eq⟩, by omega, Or.inl ⟨r, cap, va_up g (n - 1) none, rfl, ⟨h2.1, se_eq⟩, by omega, h4, fun i hi => ?_⟩⟩, rfl, rfl, fun j hj hr => by rw [se_ne (hr r rfl), se_ne hj]⟩
      · unfold F_Jx4a65c_fastRemove_b59b0
        rw [fi_at L.1 rfl, Option.bind_some, pu_at L.1 (ble rfl), Option.bind_some]
        simp only [List.set_cons_zero]
        rw [fi_at o1 rfl, Option.bind_some, iI_s, if_pos (by rw [xI_le (by omega) (by omega) (by omega) (by omega)]; omega), pu_at o1 (ble rfl), Option.bind_some, se_se]
        simp only [List.set_cons_zero, List.set_cons_succ]
        rw [show (n : Int) - 1 = ((n - 1 : Nat) : Int) by omega, wr_at (d := dm_se d li (.inl (16, [am_i (mc + iI 1), dm_o r, am_i (iI ((n - 1 : Nat) : Int))]))) (x := iI ((n - 1 : Nat) : Int)) (n := cap) (g := g) ⟨h2.1, (se_ne hne).trans h2.2⟩ (by rw [xI_ib (by omega) (by omega) (by omega)]; trivial), Option.bind_some, iI_cl (by omega)]
        rfl
      · show (if i = n - 1 then none else g i) = some (if i < k then f i else f (i + 1))
        rw [if_neg (by omega), if_pos (by omega)]
        exact h5 i (by omega)
    · refine ⟨dm_se (dm_se (dm_se d li (.inl (16, [am_i (mc + iI 1), dm_o r, am_i (iI n)]))) r (.inr (.inr (.inl (cap, va_up (va_cpy g g (k + 1) k (n - 1 - k)) (n - 1) none))))) li (.inl (16, [am_i (mc + iI 1), dm_o r, am_i (iI ((n - 1 : Nat) : Int))])), ?_, ⟨⟨hli, se_eq⟩, by omega, Or.inl ⟨r, cap, va_up (va_cpy g g (k + 1) k (n - 1 - k)) (n - 1) none, rfl, ⟨h2.1, (se_ne hne).trans se_eq⟩, by omega, h4, fun i hi => ?_⟩⟩, rfl, rfl, fun j hj hr => by rw [se_ne hj, se_ne (hr r rfl), se_ne hj]⟩
      · unfold F_Jx4a65c_fastRemove_b59b0
        rw [fi_at L.1 rfl, Option.bind_some, pu_at L.1 (ble rfl), Option.bind_some]
        simp only [List.set_cons_zero]
        rw [fi_at o1 rfl, Option.bind_some, iI_s, if_neg (by rw [xI_le (by omega) (by omega) (by omega) (by omega)]; omega), iI_a, iI_s, cr_at (a := (k : Int) + 1) (b := k) (z := (n : Int) - 1 - k) r1 r1 (by omega) (by omega) (by omega) (by omega) (by omega) (fun i hi j hj => by
          have e1 : ((k : Int) + 1).toNat + i = k + 1 + i := by omega
          rw [e1, h5 (k + 1 + i) (by omega)] at hj
          cases hj
          exact hel1 _ (by omega)), Option.bind_some]
        rw [show ((k : Int) + 1).toNat = k + 1 by omega, show ((k : Int)).toNat = k by omega, show ((n : Int) - 1 - k).toNat = n - 1 - k by omega, show (n : Int) - 1 = ((n - 1 : Nat) : Int) by omega]
        rw [pu_at (d := dm_se (dm_se d li (.inl (16, [am_i (mc + iI 1), dm_o r, am_i (iI n)]))) r (.inr (.inr (.inl (cap, va_cpy g g (k + 1) k (n - 1 - k)))))) (c := 16) (fs := [am_i (mc + iI 1), dm_o r, am_i (iI n)]) ⟨hli, (se_ne (Ne.symm hne)).trans se_eq⟩ (ble rfl), Option.bind_some]
        simp only [List.set_cons_zero, List.set_cons_succ]
        rw [wr_at (d := dm_se (dm_se (dm_se d li (.inl (16, [am_i (mc + iI 1), dm_o r, am_i (iI n)]))) r (.inr (.inr (.inl (cap, va_cpy g g (k + 1) k (n - 1 - k)))))) li (.inl (16, [am_i (mc + iI 1), dm_o r, am_i (iI ((n - 1 : Nat) : Int))]))) (x := iI ((n - 1 : Nat) : Int)) (n := cap) (g := va_cpy g g (k + 1) k (n - 1 - k)) ⟨h2.1, (se_ne hne).trans se_eq⟩ (by rw [xI_ib (by omega) (by omega) (by omega)]; trivial), Option.bind_some, iI_cl (by omega), Option.bind_some]
        congr 2
        unfold dm_se
        congr 2
        funext j
        by_cases hj1 : j = li
        · subst hj1
          simp [Ne.symm hne]
        · by_cases hj2 : j = r
          · subst hj2
            simp [hne]
          · simp [hj1, hj2]
      · show (if i = n - 1 then none else if k ≤ i ∧ i < k + (n - 1 - k) then g (k + 1 + (i - k)) else g i) = some (if i < k then f i else f (i + 1))
        rw [if_neg (by omega)]
        by_cases hi2 : i < k
        · rw [if_neg (by omega), if_pos hi2]
          exact h5 i (by omega)
        · rw [if_pos (by omega), if_neg hi2, show k + 1 + (i - k) = i + 1 by omega]
          exact h5 (i + 1) (by omega)
  · omega
end WWR
