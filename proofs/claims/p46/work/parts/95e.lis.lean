section LIX
variable {X : dm_X} {d d1 d2 d' : dm_D} {li p n k c m q : Nat} {mc : Int32} {e : am_G × Nat} {f : Nat → Nat}
/-- a list's cell, its row, are apart -/
theorem li_ne {r cap : Nat} {fs : List am_v} {g : Nat → Option Nat} (o : dOb d li c fs) (o2 : dRr d r cap g) : r ≠ li := fun z => by
  have a := o.2
  have b := o2.2
  rw [z, a] at b
  cases b
theorem ar_ne {r t m : Nat} {u : Nat → Int32} {fs : List am_v} (o : dOb d li c fs) (o2 : dAr d r t m u) : r ≠ li := fun z => by
  have a := o.2
  have b := o2.2
  rw [z, a] at b
  cases b
theorem ar_rr {r t m j cap : Nat} {u : Nat → Int32} {g : Nat → Option Nat} (o : dRr d j cap g) (o2 : dAr d r t m u) : r ≠ j := fun z => by
  have a := o.2
  have b := o2.2
  rw [z, a] at b
  cases b
theorem LiE.ne (L : LiE d li mc e n f) : ∀ r, e = (.inl 0, r) → r ≠ li := fun r hr => by
  rcases L.2.2 with ⟨r2, cap, g, h1, h2, -⟩ | ⟨h1, -⟩
  · rw [h1] at hr
    cases hr
    exact li_ne L.1 h2
  · rw [h1] at hr
    cases hr
/-- storing an element behind the others, in a row that is long enough -/
theorem add11 {r cap : Nat} {u : Nat → Int32} {g : Nat → Option Nat} (o : dOb d li 16 [am_i mc, dm_o r, am_i (iI n)]) (o2 : dRr d r cap g) (hn : n < cap) (hc : cap < 2147483648) (hn2 : n < 1000) (hg : ∀ i, i < n → g i = some (f i)) (hq : dAr d q 0 m u) : F_Jx4a65c_add_72be8_11 X (.inl 0, li) (.inl 0, q) (.inl 0, r) (iI n) d = some (dm_se (dm_se d r (.inr (.inr (.inl (cap, va_up g n (some q)))))) li (.inl (16, [am_i mc, dm_o r, am_i (iI (n + 1))]))) ∧ LiE (dm_se (dm_se d r (.inr (.inr (.inl (cap, va_up g n (some q)))))) li (.inl (16, [am_i mc, dm_o r, am_i (iI (n + 1))]))) li mc (.inl 0, r) (n + 1) (fun i => if i = n then q else f i) := by
  have hne := li_ne o o2
  refine ⟨?_, ⟨show li < d.1 from o.1, se_eq⟩, by omega, Or.inl ⟨r, cap, va_up g n (some q), rfl, ⟨show r < d.1 from o2.1, (se_ne hne).trans se_eq⟩, by omega, hc, fun i hi => ?_⟩⟩
  · unfold F_Jx4a65c_add_72be8_11
    rw [as_at o2 hq (by rw [xI_ib (by omega) (by omega) hc]; trivial), Option.bind_some, iI_cl (by omega), pu_at (d := dm_se d r (.inr (.inr (.inl (cap, va_up g n (some q)))))) (c := 16) (fs := [am_i mc, dm_o r, am_i (iI n)]) ⟨o.1, (se_ne (Ne.symm hne)).trans o.2⟩ (ble rfl), Option.bind_some, iI_a]
    rfl
  · show (if i = n then some q else g i) = some (if i = n then q else f i)
    by_cases h : i = n
    · rw [if_pos h, if_pos h]
    · rw [if_neg h, if_neg h]
      exact hg i (by omega)
theorem add_at {u : Nat → Int32} (L : LiE d li mc e n f) (hn : n < 999) (hq : dAr d q 0 m u) (hel : ∀ i, i < n → ∃ m u, dAr d (f i) 0 m u) (hb : d.2.1 + (2 * n + 12) ≤ dm_L) : ∃ (d' : dm_D) (e' : am_G × Nat), F_Jx4a65c_add_9ea2d X (.inl 0, li) (.inl 0, q) d = some (iI 1, d') ∧ LiE d' li (mc + iI 1) e' (n + 1) (fun i => if i = n then q else f i) ∧ (d.1 ≤ d'.1 ∧ d'.2.1 ≤ d.2.1 + (2 * n + 12) ∧ ∀ j, j < d.1 → j ≠ li → (∀ r, e = (.inl 0, r) → j ≠ r) → d'.2.2 j = d.2.2 j) ∧ ∀ r, e' = (.inl 0, r) → d.1 ≤ r ∨ e = (.inl 0, r) := by
  have hli := L.1.1
  have hne := L.ne
  -- the list with its count of changes raised
  have L1 : LiE (dm_se d li (.inl (16, [am_i (mc + iI 1), .inr e, am_i (iI n)]))) li (mc + iI 1) e n f := ⟨dOb.se hli, L.2.1, L.2.2.imp (fun ⟨r, cap, g, h1, h2, h3⟩ => ⟨r, cap, g, h1, ⟨h2.1, (se_ne (hne r h1)).trans h2.2⟩, h3⟩) id⟩
  have hq1 : dAr (dm_se d li (.inl (16, [am_i (mc + iI 1), .inr e, am_i (iI n)]))) q 0 m u := ⟨hq.1, (se_ne (ar_ne L.1 hq)).trans hq.2⟩
  have hel1 : ∀ i, i < n → ∃ m u, dAr (dm_se d li (.inl (16, [am_i (mc + iI 1), .inr e, am_i (iI n)]))) (f i) 0 m u := fun i hi => by
    obtain ⟨m, u, h⟩ := hel i hi
    exact ⟨m, u, h.1, (se_ne (ar_ne L.1 h)).trans h.2⟩
  have e0 : F_Jx4a65c_add_9ea2d X (.inl 0, li) (.inl 0, q) d = (F_Jx4a65c_add_72be8 X (.inl 0, li) (.inl 0, q) e (iI n) (dm_se d li (.inl (16, [am_i (mc + iI 1), .inr e, am_i (iI n)])))).bind (fun a3 => some (iI 1, a3)) := by
    unfold F_Jx4a65c_add_9ea2d
    rw [fi_at L.1 rfl, Option.bind_some, pu_at L.1 (ble rfl), Option.bind_some]
    simp only [List.set_cons_zero]
    rw [fr_at L1.1 rfl, Option.bind_some, fi_at L1.1 rfl, Option.bind_some, rk_at L1.1, Option.bind_some]
  rw [e0]
  -- it must grow
  have grow : (∀ r cap g, e = (.inl 0, r) → dRr (dm_se d li (.inl (16, [am_i (mc + iI 1), .inr e, am_i (iI n)]))) r cap g → cap = n) → dm_ln X (dm_se d li (.inl (16, [am_i (mc + iI 1), .inr e, am_i (iI n)]))) e = some (iI n) → ∃ (d' : dm_D) (e' : am_G × Nat), (F_Jx4a65c_add_72be8 X (.inl 0, li) (.inl 0, q) e (iI n) (dm_se d li (.inl (16, [am_i (mc + iI 1), .inr e, am_i (iI n)])))).bind (fun a3 => some (iI 1, a3)) = some (iI 1, d') ∧ LiE d' li (mc + iI 1) e' (n + 1) (fun i => if i = n then q else f i) ∧ (d.1 ≤ d'.1 ∧ d'.2.1 ≤ d.2.1 + (2 * n + 12) ∧ ∀ j, j < d.1 → j ≠ li → (∀ r, e = (.inl 0, r) → j ≠ r) → d'.2.2 j = d.2.2 j) ∧ ∀ r, e' = (.inl 0, r) → d.1 ≤ r ∨ e = (.inl 0, r) := by
    intro hfull hln
    obtain ⟨cap, g, g1, g2, g3, g4⟩ := grow_at (X := X) L1 (by omega) hfull hel1 hb
    have o1 : dOb (dm_se (dm_nw (dm_se d li (.inl (16, [am_i (mc + iI 1), .inr e, am_i (iI n)]))) cap (.inr (.inr (.inl (cap, g))))) li (.inl (16, [am_i (mc + iI 1), dm_o d.1, am_i (iI n)]))) li 16 [am_i (mc + iI 1), dm_o d.1, am_i (iI n)] := ⟨Nat.lt_succ_of_lt hli, se_eq⟩
    have o2 : dRr (dm_se (dm_nw (dm_se d li (.inl (16, [am_i (mc + iI 1), .inr e, am_i (iI n)]))) cap (.inr (.inr (.inl (cap, g))))) li (.inl (16, [am_i (mc + iI 1), dm_o d.1, am_i (iI n)]))) d.1 cap g := ⟨Nat.lt_succ_self _, (se_ne (by omega)).trans (if_pos rfl)⟩
    have o3 : dAr (dm_se (dm_nw (dm_se d li (.inl (16, [am_i (mc + iI 1), .inr e, am_i (iI n)]))) cap (.inr (.inr (.inl (cap, g))))) li (.inl (16, [am_i (mc + iI 1), dm_o d.1, am_i (iI n)]))) q 0 m u := ⟨Nat.lt_succ_of_lt hq.1, (se_ne (ar_ne L.1 hq)).trans ((nw_ne hq1.1).trans hq1.2)⟩
    obtain ⟨a1, a2⟩ := add11 (X := X) (f := f) o1 o2 g2 (by omega) (by omega) g4 o3
    refine ⟨_, (.inl 0, d.1), ?_, a2, ⟨Nat.le_succ _, by show d.2.1 + cap + 1 ≤ _; omega, fun j hj hj1 hj2 => ?_⟩, fun r hr => by cases hr; exact Or.inl (Nat.le_refl _)⟩
    · unfold F_Jx4a65c_add_72be8
      rw [hln, Option.bind_some, if_pos rfl, rk_at L1.1, Option.bind_some, g1, Option.bind_some]
      dsimp only
      have a1' := a1
      rw [show (dm_se d li (.inl (16, [am_i (mc + iI 1), .inr e, am_i (iI n)]))).1 = d.1 from rfl]
      rw [a1', Option.bind_some]
    · rw [se_ne hj1, se_ne (show j ≠ d.1 by omega), se_ne hj1, nw_ne (show j < (dm_se d li (.inl (16, [am_i (mc + iI 1), .inr e, am_i (iI n)]))).1 from hj), se_ne hj1]
  rcases L1.2.2 with ⟨r, cap, g, rfl, h2, h3, h4, h5⟩ | ⟨rfl, rfl⟩
  · by_cases hcap : cap = n
    · subst hcap
      exact grow (fun r' cap' g' h1 h6 => by cases h1; have h7 := h2.2.symm.trans h6.2; cases h7; rfl) (by rw [ln_rr h2, ofN])
    · obtain ⟨a1, a2⟩ := add11 (X := X) L1.1 h2 (by omega) h4 (by omega) h5 hq1
      refine ⟨_, (.inl 0, r), ?_, a2, ⟨Nat.le_refl _, Nat.le_add_right _ _, fun j hj hj1 hj2 => ?_⟩, fun r' hr => Or.inr hr⟩
      · unfold F_Jx4a65c_add_72be8
        rw [ln_rr h2, Option.bind_some, ofN, if_neg (by rw [xI_eq (by omega) (by omega) (by omega) (by omega)]; omega), a1, Option.bind_some]
      · rw [se_ne hj1, se_ne (hj2 r rfl), se_ne hj1]
  · exact grow (fun r' cap' g' h1 h6 => by cases h1) ln_z
end LIX
