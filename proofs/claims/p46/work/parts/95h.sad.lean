section SAD
variable {X : dm_X} {d d1 d2 d' : dm_D} {w li p n k c m q : Nat} {mc : Int32} {e e' : am_G × Nat} {f : Nat → Nat} {v v' : pv_T} {tx : am_v} {N : Nat → Nat} {M : Nat → Int32} {E : Nat → am_G × Nat} {F : Nat → Nat → Nat} {u u' : Nat → Int32}
theorem LiE.row_lt (L : LiE d li mc e n f) : ∀ r, e = (.inl 0, r) → r < d.1 := fun r hr => by
  rcases L.2.2 with ⟨r2, cap, g, h1, h2, -⟩ | ⟨h1, -⟩
  · rw [h1] at hr
    cases hr
    exact h2.1
  · rw [h1] at hr
    cases hr
theorem LiE.r_ho {i : Nat} {g : am_G × Nat} (L : LiE d li mc e n f) (o : d.2.2 i = .inr (.inr (.inr g))) : ∀ r, e = (.inl 0, r) → i ≠ r := fun r hr z => by
  rcases L.2.2 with ⟨r2, cap, g2, h1, h2, -⟩ | ⟨h1, -⟩
  · rw [h1] at hr
    cases hr
    rw [z, h2.2] at o
    cases o
  · rw [h1] at hr
    cases hr
/-- the list of scratches is written, all else stays -/
theorem WR.sc (R : WR d w v tx N M E F) {mc' : Int32} {n' : Nat} {f' : Nat → Nat} (h1 : d.1 ≤ d'.1) (hfr : ∀ j, j < d.1 → j ≠ N 4 → (∀ r, E 4 = (.inl 0, r) → j ≠ r) → d'.2.2 j = d.2.2 j) (L : LiE d' (N 4) mc' e' n' f') (he : ∀ r, e' = (.inl 0, r) → d.1 ≤ r ∨ E 4 = (.inl 0, r)) (g1 : v'.1 3 = n') (g2 : ∀ i, i ≠ 3 → v'.1 i = v.1 i) (g3 : ∀ c, c ≠ 12 → c ≠ 13 → v'.2 c = v.2 c) (g4 : ∀ i, i < n' → ∃ f, dAr d (f' i) 0 2 f ∧ f 0 = iI (v'.2 12 i) ∧ f 1 = iI (v'.2 13 i)) : WR d' w v' tx N (fun i => if i = 4 then mc' else M i) (fun i => if i = 4 then e' else E i) (fun i => if i = 4 then f' else F i) := by
  have R0 := R
  obtain ⟨r1, ⟨f, r2, r3⟩, ⟨r4, r5, r6, r7⟩, r8, r9, r10, ⟨s1, s2, s3⟩, s4, s5, s6⟩ := R
  have ha : ∀ {i t m u}, dAr d i t m u → dAr d' i t m u := fun {i} {t} {m} {u} o => ⟨Nat.lt_of_lt_of_le o.1 h1, (hfr i o.1 (ar_ne r7.1 o) (fun r hr => Ne.symm (r7.r_ar o r hr))).trans o.2⟩
  have hl : ∀ {li mc e n f}, LiE d li mc e n f → N 4 ≠ li → (∀ r, E 4 = (.inl 0, r) → e ≠ (.inl 0, r)) → LiE d' li mc e n f := fun {li} {mc} {e} {n} {f} L z1 z2 => L.ag h1 (hfr li L.1.1 (Ne.symm z1) (fun r hr => Ne.symm (r7.r_ob L.1 r hr))) (fun r hr => hfr r (L.row_lt r hr) (L.r_ob r7.1 r hr) (fun r' hr' z => z2 r' hr' (by rw [hr, z])))
  have hsep : ∀ {li mc e n f}, LiE d li mc e n f → (∀ r, E 4 = (.inl 0, r) → e ≠ (.inl 0, r)) → ∀ r, e' = (.inl 0, r) → e ≠ (.inl 0, r) := fun L z r hr z2 => by
    rcases he r hr with h | h
    · have := L.row_lt r z2
      omega
    · exact z r h z2
  unfold WR
  rw [g1, g2 0 (by omega), g2 1 (by omega), g2 2 (by omega), g3 0 (by omega) (by omega), g3 1 (by omega) (by omega), g3 2 (by omega) (by omega), g3 3 (by omega) (by omega), g3 4 (by omega) (by omega), g3 5 (by omega) (by omega), g3 6 (by omega) (by omega), g3 7 (by omega) (by omega), g3 8 (by omega) (by omega)]
  refine ⟨⟨Nat.lt_of_lt_of_le r1.1 h1, (hfr w r1.1 (ob_ne r1 r7.1 (by omega)) (fun r hr => Ne.symm (r7.r_ob r1 r hr))).trans r1.2⟩, ⟨f, ha r2, r3⟩, ⟨hl r4 s1 (fun r hr => (s4 r hr).1), hl r5 s2 (fun r hr => (s4 r hr).2.1), hl r6 s3 (fun r hr => (s4 r hr).2.2), L⟩, fun i hi => ?_, fun i hi => ?_, fun i hi => ?_, ⟨s1, s2, s3⟩, fun r hr => ⟨hsep r4 (fun r hr => (s4 r hr).1) r hr, hsep r5 (fun r hr => (s4 r hr).2.1) r hr, hsep r6 (fun r hr => (s4 r hr).2.2) r hr⟩, s5, s6⟩
  · obtain ⟨f, a, b⟩ := r8 i hi
    exact ⟨f, ha a, b⟩
  · obtain ⟨f, a, b⟩ := r9 i hi
    exact ⟨f, ha a, b⟩
  · obtain ⟨f, a, b⟩ := g4 i hi
    exact ⟨f, ha a, b⟩
theorem WR.hel (R : WR d w v tx N M E F) : ∀ i, i < v.1 3 → ∃ m u, dAr d (F 4 i) 0 m u := fun i hi => by
  obtain ⟨f, a, -⟩ := R.2.2.2.2.2.1 i hi
  exact ⟨_, _, a⟩
theorem WR.hfr (R : WR d w v tx N M E F) (h1 : d.1 ≤ d'.1) (h2 : d'.2.1 ≤ d.2.1 + c) (hfr : ∀ j, j < d.1 → j ≠ N 4 → (∀ r, E 4 = (.inl 0, r) → j ≠ r) → d'.2.2 j = d.2.2 j) : Hol c d d' := ⟨h1, h2, fun i g hi e => (hfr i hi (fun z => by have := R.scr.1.2; rw [← z, e] at this; cases this) (R.scr.r_ho e)).trans e⟩
/-- a scratch more -/
theorem WR.add (R : WR d w v tx N M E F) (hn : v.1 3 < 900) {l : Nat} {x : Int} (hq : dAr d q 0 2 u) (hu : u 0 = iI l ∧ u 1 = iI x) (hb : d.2.1 + (2 * v.1 3 + 12) ≤ dm_L) : ∃ d' M E F, F_Jx4a65c_add_9ea2d X (.inl 0, N 4) (.inl 0, q) d = some (iI 1, d') ∧ WR d' w (addS v l x) tx N M E F ∧ Hol (2 * v.1 3 + 12) d d' := by
  obtain ⟨d', e', a1, a2, ⟨a3, a4, a5⟩, a6⟩ := add_at (X := X) R.scr (by omega) hq R.hel hb
  refine ⟨d', _, _, _, a1, R.sc a3 a5 a2 a6 (v' := addS v l x) rfl (fun i hi => if_neg hi) (fun c h12 h13 => ?_) (fun i hi => ?_), R.hfr a3 a4 a5⟩
  · funext i
    show (pu (pu v 12 (v.1 3) l) 13 (v.1 3) x).2 c i = _
    rw [pu_o h13, pu_o h12]
  · show ∃ f : Nat → Int32, _ ∧ f 0 = iI ((pu (pu v 12 (v.1 3) l) 13 (v.1 3) x).2 12 i) ∧ f 1 = iI ((pu (pu v 12 (v.1 3) l) 13 (v.1 3) x).2 13 i)
    rw [pu_o (by omega)]
    by_cases h : i = v.1 3
    · subst h
      refine ⟨u, by rw [if_pos rfl]; exact hq, ?_, ?_⟩
      · rw [pu_s]
        exact hu.1
      · rw [pu_s]
        exact hu.2
    · obtain ⟨f, b1, b2⟩ := R.2.2.2.2.2.1 i (by omega)
      refine ⟨f, by rw [if_neg h]; exact b1, ?_⟩
      rw [pu_i h, pu_i h, pu_o (by omega)]
      exact b2
/-- a scratch less -/
theorem WR.rem (R : WR d w v tx N M E F) (hk : k < v.1 3) : ∃ d' M E F q, F_Jx4a65c_remove_915e3 X (.inl 0, N 4) (iI k) d = some (q, d') ∧ WR d' w (dropS v k) tx N M E F ∧ Hol 0 d d' := by
  obtain ⟨d', a1, a2, a3, a4, a5⟩ := remove_at (X := X) R.scr hk R.hel
  have h1 : d.1 ≤ d'.1 := by omega
  have a6 : ∀ j, j < d.1 → j ≠ N 4 → (∀ r, E 4 = (.inl 0, r) → j ≠ r) → d'.2.2 j = d.2.2 j := fun j _ b c => a5 j b c
  refine ⟨d', _, _, _, _, a1, R.sc h1 a6 a2 (fun r hr => Or.inr hr) (v' := dropS v k) rfl (fun i hi => if_neg hi) (fun c h12 h13 => dropS_c h12 h13) (fun i hi => ?_), R.hfr h1 (by omega) a6⟩
  have hi : i < v.1 3 - 1 := hi
  rw [dropS_s (Or.inl rfl), dropS_s (Or.inr rfl)]
  by_cases h : i < k
  · rw [if_pos h, if_pos h, if_pos h]
    exact R.2.2.2.2.2.1 i (by omega)
  · rw [if_neg h, if_neg h, if_neg h]
    exact R.2.2.2.2.2.1 (i + 1) (by omega)
end SAD
