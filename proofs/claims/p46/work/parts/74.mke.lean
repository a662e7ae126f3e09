/-! the reference keeps for undo -/
section MKE
variable {h : am_H} {st : St}
/-- a change of the plate on each side -/
theorem ClR.pl0 {h' : am_H} {v : pv_T} {L : List (am_G × Nat)} (w : Wr L h h') (n : ∀ x ∈ L, x.1 = .inr 0) (P : cl_pl h' 0 v) (R : ClR h st) : ClR h' (setPl st v) := by
  have e1 : ∀ o, h'.1 (.inl 1) o = h.1 (.inl 1) o := fun o => w.1 _ _ (fun z => by have := n _ z; cases this)
  have ek : ∀ k, k ≠ 0 → ∀ o, h'.1 (.inr k) o = h.1 (.inr k) o := fun k hk o => w.1 _ _ (fun z => by have := n _ z; cases this; exact hk rfl)
  obtain ⟨r1, ⟨r2, r3⟩, ⟨r4, r5, r6, r7⟩, ⟨r8, r9⟩, ⟨r10, r11⟩, r12, r13⟩ := R
  exact ⟨P, ⟨by rw [e1]; exact r2, fun z => (r3 z).eq (ek 3 (by omega))⟩, ⟨by rw [e1]; exact r4, by rw [w.2.2]; exact r5, by rw [w.2.2]; exact r6, fun i c hi => by rw [w.2.2]; exact (r7 i c hi).eq (ek _ (by have := (r5 i c).1; omega))⟩, ⟨by rw [e1]; exact r8, by rw [e1]; exact r9⟩, ⟨by rw [e1]; exact r10, by rw [e1]; exact r11⟩, by rw [e1]; exact r12, by rw [e1]; exact r13⟩
theorem clC_ch {call : am_H → Option ((Int32 ⊕ Nat) × am_H)} {h1 h2 : am_H} {v : pv_T} {x : Int32} {L : List (am_G × Nat)} (C1 : ClR h1 (stK st)) (M1 : MFr h h1) (w : Wr L h1 h2) (n : ∀ x ∈ L, x.1 = .inr 0) (P : cl_pl h2 0 v) (e : call h = some (.inl x, h2)) : clC call h (setPl (stK st) v) (.inl x) := ⟨h2, e, ClR.pl0 w n P C1, M1.tr ⟨fun o => w.1 _ _ (fun z => by have := n _ z; cases this), fun o => w.2.1 _ _ (fun z => by have := n _ z; cases this)⟩⟩
end MKE
