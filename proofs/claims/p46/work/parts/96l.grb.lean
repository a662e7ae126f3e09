/-! growing: the beginning -/
section GRB
variable {X : dm_X} {d d0 d' : dm_D} {w b n k i c : Nat} {f : Nat → Int32} {fs : List am_v}
theorem puC {v : am_v} (h1 : i < d.1) (h2 : d.2.2 i = .inl (c, fs)) (hk : k < fs.length) : dm_pu d (.inl 0, i) c k v = some (dm_se d i (.inl (c, fs.set k v))) := pu_at ⟨h1, h2⟩ hk
theorem liC (h1 : i < d.1) (h2 : d.2.2 i = .inl (16, dm_f0 16)) : F_Jx4a65c_init_da8c8 X (.inl 0, i) d = some (dm_se d i (.inl (16, [am_i (iI 0), .inr (.inl 4, 0), am_i (iI 0)]))) := by
  unfold F_Jx4a65c_init_da8c8 F_Jxc12de_init_da8c8 F_Jxa1e45_init_da8c8
  rw [Option.bind_some, puC h1 h2 (ble rfl), Option.bind_some, Option.bind_some, pu_at (d := dm_se d i _) (dOb.se h1) (ble rfl), Option.bind_some, se_se]
  rfl
theorem fill_ok : ∀ (m k : Nat) (d : dm_D) (f : Nat → Int32), k + m = 26 → dAr d i 0 26 f → (∀ j, j < k → f j = iI 4) → ∃ d' f', F_J7_fill_53178_5 X (.inl 0, i) (iI 4) (iI k) (iI 26) d = some d' ∧ dAr d' i 0 26 f' ∧ (∀ j, j < 26 → f' j = iI 4) ∧ d'.1 = d.1 ∧ d'.2.1 = d.2.1 ∧ ∀ j, j ≠ i → d'.2.2 j = d.2.2 j := by
  intro m
  induction m with
  | zero =>
    intro k d f hk a hf
    refine ⟨d, f, ?_, a, fun j hj => hf j (by omega), rfl, rfl, fun _ _ => rfl⟩
    rw [E_J7_fill_53178_5, if_pos (by rw [xI_le (by omega) (by omega) (by omega) (by omega)]; omega)]
  | succ m ih =>
    intro k d f hk a hf
    obtain ⟨d', f', q1, q2, q3, q4, q5, q6⟩ := ih (k + 1) (dm_se d i (.inr (.inl (0, 26, upd f k (iI 4))))) (upd f k (iI 4)) (by omega) (dAr.se a.1) (fun j hj => by
      by_cases e : j = k
      · rw [e, up_s]
      · rw [up_n e]
        exact hf j (by omega))
    refine ⟨d', f', ?_, q2, q3, q4, q5, fun j hj => (q6 j hj).trans (se_ne hj)⟩
    rw [E_J7_fill_53178_5, if_neg (by rw [xI_le (by omega) (by omega) (by omega) (by omega)]; omega), wik a (by omega) (by omega), Option.bind_some, iS]
    exact q1
/-- the World as it is made -/
def IP (d : dm_D) : Prop := (d.1 = 6 ∧ d.2.1 ≤ 100) ∧ dOb d 0 12 (wF v0 (fun i => i + 1) (.inr (.inl 2, 9))) ∧ (∃ f, dAr d 1 0 26 f) ∧ ∀ k, k < 4 → dOb d (k + 2) 16 [am_i (iI 0), .inr (.inl 4, 0), am_i (iI 0)]
theorem init_ok : Aok IP (F_X12_init X (.inl 0, dm_0.1) (dm_nw dm_0 (dm_f0 12).length (.inl (12, dm_f0 12)))) := by
  unfold F_X12_init
  refine Aok.b (puC (by decide) rfl (ble rfl)) ?_
  refine Aok.b (puC (by decide) rfl (ble rfl)) ?_
  refine Aok.b (puC (by decide) rfl (ble rfl)) ?_
  refine Aok.b (na_at (by omega) (by omega) (ble rfl)) ?_
  refine Aok.b (puC (by decide) rfl (ble rfl)) ?_
  refine Aok.b (no_at (ble rfl)) ?_
  refine Aok.b (liC (by decide) rfl) ?_
  refine Aok.b (puC (by decide) rfl (ble rfl)) ?_
  refine Aok.b (no_at (ble rfl)) ?_
  refine Aok.b (liC (by decide) rfl) ?_
  refine Aok.b (puC (by decide) rfl (ble rfl)) ?_
  refine Aok.b (no_at (ble rfl)) ?_
  refine Aok.b (liC (by decide) rfl) ?_
  refine Aok.b (puC (by decide) rfl (ble rfl)) ?_
  refine Aok.b (no_at (ble rfl)) ?_
  refine Aok.b (liC (by decide) rfl) ?_
  refine Aok.b (puC (by decide) rfl (ble rfl)) ?_
  refine Aok.b (puC (by decide) rfl (ble rfl)) ?_
  refine Aok.fin ⟨⟨rfl, ble rfl⟩, ⟨ble rfl, rfl⟩, ⟨fun _ => 0, ble rfl, rfl⟩, fun k hk => ?_⟩
  rcases (show k = 0 ∨ k = 1 ∨ k = 2 ∨ k = 3 by omega) with rfl | rfl | rfl | rfl
  · exact ⟨ble rfl, rfl⟩
  · exact ⟨ble rfl, rfl⟩
  · exact ⟨ble rfl, rfl⟩
  · exact ⟨ble rfl, rfl⟩
theorem grown_ok (hX : X.1 < 2147483648) : Aok GP (F_X12_grown X (.inl 4, 3) dm_0) := by
  have hL := dm_L6
  obtain ⟨d1, e1, ⟨i1, i2⟩, i3, ⟨f1, i4⟩, i5⟩ := init_ok (X := X)
  unfold F_X12_grown
  refine Aok.b (no_at (c := 12) (ble rfl)) ?_
  refine Aok.b e1 ?_
  refine Aok.b (no_at (c := 14) (by show d1.2.1 + 4 + 1 ≤ _; omega)) ?_
  have E2 : Ext 5 d1 (dm_nw d1 4 (.inl (14, dm_f0 14))) := Ext.nw
  have o2 : dOb (dm_nw d1 4 (.inl (14, dm_f0 14))) d1.1 14 (dm_f0 14) := dOb.nw
  have hb2 : (dm_nw d1 4 (.inl (14, dm_f0 14))).2.1 ≤ 105 := by
    show d1.2.1 + 4 + 1 ≤ 105
    omega
  have hB : Aok (fun d5 => BuS d5 d1.1 [] ∧ Ext 22 d1 d5) (F_J4_init_da8c8 X (.inl 0, d1.1) (dm_nw d1 4 (.inl (14, dm_f0 14)))) := by
    generalize dm_nw d1 4 (.inl (14, dm_f0 14)) = d2 at E2 o2 hb2
    unfold F_J4_init_da8c8 F_J5_init_d00df
    have key : Aok (fun d5 => BuS d5 d1.1 [] ∧ Ext 22 d1 d5) (if (1 : Int32) = 0 then none else ((dm_na d2 1 (iI 16)).bind (fun d3 => (dm_pu d3 (.inl 0, d1.1) 14 0 (.inr (.inl 0, d2.1))).bind (fun d4 => (dm_pu d4 (.inl 0, d1.1) 14 1 (am_i (iI 0))).bind (fun d5 => some d5))))) := by
      refine Aok.f (by decide) ?_
      refine Aok.b (na_at (by omega) (by omega) (by show d2.2.1 + 16 + 1 ≤ _; omega)) ?_
      have a3 : dAr (dm_nw d2 (Int.toNat 16) (.inr (.inl (1, Int.toNat 16, fun _ => 0)))) d2.1 1 16 (fun _ => 0) := dAr.nw
      have E3 : Ext 22 d1 (dm_nw d2 (Int.toNat 16) (.inr (.inl (1, Int.toNat 16, fun _ => 0)))) := E2.tr Ext.nw
      have o3 : dOb (dm_nw d2 (Int.toNat 16) (.inr (.inl (1, Int.toNat 16, fun _ => 0)))) d1.1 14 (dm_f0 14) := Ext.nw.ob o2
      generalize dm_nw d2 (Int.toNat 16) (.inr (.inl (1, Int.toNat 16, fun _ => 0))) = d3 at a3 E3 o3
      refine Aok.b (pu_at o3 (ble rfl)) ?_
      have o4 := dOb.se (d := d3) (c := 14) (fs := (dm_f0 14).set 0 (.inr (.inl 0, d2.1))) o3.1
      refine Aok.b (pu_at o4 (ble rfl)) ?_
      rw [se_se]
      have o5 : dOb (dm_se d3 d1.1 (.inl (14, ((dm_f0 14).set 0 (.inr (.inl 0, d2.1))).set 1 (am_i (iI 0))))) d1.1 14 [dm_o d2.1, am_i (iI 0), am_i (iI 0), am_i (iI ([] : List Int).length)] := dOb.se o3.1
      refine Aok.fin ⟨⟨d2.1, 16, fun _ => 0, o5, a3.sg (ar_ne o3 a3), ⟨Nat.zero_le _, by omega⟩, fun i hi => (by decide : (0 : Int32) ≤ 0 ∧ (0 : Int32) ≤ 127), fun i hi => absurd hi (Nat.not_lt_zero i)⟩, E3.se (Nat.le_refl _)⟩
    obtain ⟨d5, e5, p5⟩ := key
    refine Aok.b e5 ?_
    exact Aok.fin p5
  obtain ⟨d5, e5, B5, E5⟩ := hB
  refine Aok.b e5 ?_
  have o5 := E5.ob i3
  have a5 := E5.ar i4
  refine Aok.b (fr_at o5 rfl) ?_
  obtain ⟨d6, f6, q1, q2, q3, q4, q5, q6⟩ := fill_ok (X := X) (i := 1) 26 0 d5 f1 rfl a5 (fun j hj => absurd hj (Nat.not_lt_zero j))
  have eF : F_J7_fill_53178 X (.inl 0, 1) (iI 4) d5 = some d6 := by
    unfold F_J7_fill_53178
    rw [ln_at a5 (by omega), Option.bind_some]
    exact q1
  refine Aok.b eF ?_
  refine Aok.b (pkE hX (k := 1) (n := 5) (by omega) (by omega) rfl rfl) ?_
  have ho : ∀ {j ci fs}, dOb d5 j ci fs → dOb d6 j ci fs := fun {j} {ci} {fs} o => ⟨by rw [q4]; exact o.1, (q6 j (Ne.symm (ar_ne o a5))).trans o.2⟩
  have R6 : PW d6 0 v0 (.inr (.inl 2, 9)) (fun i => i + 1) (fun _ => iI 0) (fun _ => (.inl 4, 0)) (fun _ _ => 0) := by
    refine ⟨ho o5, ⟨f6, q2, q3⟩, fun k hk => ⟨ho (E5.ob (i5 k hk)), by show 0 < 1000000; omega, Or.inr ⟨rfl, rfl⟩⟩, fun i j _ _ h => by
      have h : i + 1 + 1 = j + 1 + 1 := h
      omega, fun i j r _ _ h _ => (by cases h), fun i hi => absurd hi (Nat.not_lt_zero i), fun i hi => absurd hi (Nat.not_lt_zero i), fun i hi => absurd hi (Nat.not_lt_zero i), ⟨fun i j hi => absurd hi (Nat.not_lt_zero i), fun i j hi => absurd hi (Nat.not_lt_zero i)⟩, rfl⟩
  have B6 : BuS d6 d1.1 [] := by
    obtain ⟨r, cap, f, o, a, B2⟩ := B5
    refine ⟨r, cap, f, ho o, ⟨by rw [q4]; exact a.1, (q6 r (fun t => ?_)).trans a.2⟩, B2⟩
    have y1 := a.2
    have y2 := a5.2
    rw [t, y2] at y1
    cases y1
  have c5 := E5.2.1
  exact g34 hX (pkV X 1 5) 0 d6 v0 [] 0 (Nat.zero_add _) ⟨⟨_, _, _, _, R6⟩, B6, Par.nil⟩ rfl rfl rfl (Nat.zero_le _) (by show d6.2.1 ≤ _; omega) (Nat.le_refl _) rfl
end GRB
