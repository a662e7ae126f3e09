section ADA
variable {d : dm_D} {w : Nat} {tx : am_v} {N : Nat → Nat} {M : Nat → Int32} {E : Nat → am_G × Nat} {F : Nat → Nat → Nat} {v v' : pv_T}
theorem WR.cg (R : WR d w v tx N M E F) (e1 : v'.1 = v.1) (e2 : ∀ c, c ≠ 12 → c ≠ 13 → v'.2 c = v.2 c) (e3 : ∀ i, i < v.1 3 → v'.2 12 i = v.2 12 i ∧ v'.2 13 i = v.2 13 i) : WR d w v' tx N M E F := by
  obtain ⟨r1, r2, r3, r4, r5, r6, r7⟩ := R
  unfold WR
  rw [e1, e2 0 (by omega) (by omega), e2 1 (by omega) (by omega), e2 2 (by omega) (by omega), e2 3 (by omega) (by omega), e2 4 (by omega) (by omega), e2 5 (by omega) (by omega), e2 6 (by omega) (by omega), e2 7 (by omega) (by omega), e2 8 (by omega) (by omega)]
  refine ⟨r1, r2, r3, r4, r5, fun i hi => ?_, r7⟩
  obtain ⟨f, a, b⟩ := r6 i hi
  obtain ⟨c1, c2⟩ := e3 i hi
  refine ⟨f, a, ?_⟩
  rw [c1, c2]
  exact b
theorem WR.drn (R : WR d w v tx N M E F) (l : Nat) : WR d w (drI v l (v.1 3)) tx N M E F := by
  refine R.cg ?_ (fun c h1 h2 => ?_) (fun i hi => ⟨drI_at (Or.inl rfl) hi, drI_at (Or.inr rfl) hi⟩)
  · funext k
    show (if k = 3 then v.1 3 + (cN (oth v l) (v.1 3) - cN (oth v l) (v.1 3)) else v.1 k) = v.1 k
    by_cases c : k = 3
    · rw [if_pos c, c, Nat.sub_self, Nat.add_zero]
    · rw [if_neg c]
  · funext i
    exact if_neg (fun z => z.elim h1 h2)
theorem poV_I (hv : pv_ok v) (I : Inv v) {l : Nat} : Inv (poV v l) := by
  intro s hs
  have hs : s < cN (oth v l) (v.1 3) := hs
  obtain ⟨i, hi, hp, hf⟩ := fl_ex hs
  have hne : v.2 12 i ≠ (l : Int) := of_decide_eq_true hp
  have hb := hv.2.2.2.2.2.1 i hi
  have e12 : (poV v l).2 12 s = v.2 12 i := hf (v.2 12)
  have e13 : (poV v l).2 13 s = v.2 13 i := hf (v.2 13)
  rw [e12, e13]
  refine ⟨?_, (I i hi).2⟩
  show (pu (pu v 6 l 0) 7 l (v.2 7 l + 1)).2 6 (v.2 12 i).toNat = 1
  rw [pu_o (by omega), pu_i (by omega)]
  exact (I i hi).1
end ADA
