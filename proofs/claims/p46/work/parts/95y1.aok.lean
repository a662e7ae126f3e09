/-! step by step: a function answers, and what is asked of the answer holds -/
def Aok {α : Type} (P : α → Prop) (r : Option α) : Prop := ∃ a, r = some a ∧ P a
theorem iS (k : Nat) : iI (k : Int) + 1 = iI ((k + 1 : Nat) : Int) := iI_1 _
section AOK
variable {α β : Type} {P : β → Prop} {d : dm_D} {h : am_H} {st' : St} {o : Int32 ⊕ Nat} {x : Int32}
theorem Aok.b {r : Option α} {a : α} {K : α → Option β} (e : r = some a) (k : Aok P (K a)) : Aok P (r.bind K) := by
  rw [e]
  exact k
theorem Aok.t {c : Prop} [Decidable c] {a b : Option β} (hc : c) (k : Aok P a) : Aok P (if c then a else b) := by
  rw [if_pos hc]
  exact k
theorem Aok.f {c : Prop} [Decidable c] {a b : Option β} (hc : ¬ c) (k : Aok P b) : Aok P (if c then a else b) := by
  rw [if_neg hc]
  exact k
theorem Aok.fin {a : β} (h : P a) : Aok P (some a) := ⟨a, rfl, h⟩
theorem Aok.e {r r' : Option β} (e : r = r') (k : Aok P r') : Aok P r := by
  rw [e]
  exact k
theorem Aok.cv {call : am_H → Option ((Int32 ⊕ Nat) × am_H)} {K : (Int32 ⊕ Nat) × am_H → Int32 → Option β} (q : clC call h st' o) (e : o = .inl x) (hf : dm_full d) (k : ∀ h1, ClR h1 st' → Aok P (K (.inl x, h1) x)) : Aok P ((dm_cl d (call h)).bind (fun a => (dm_v a.1).bind (fun b => K a b))) := by
  obtain ⟨h1, e1, C1, -⟩ := q
  subst e
  rw [e1, dm_cl_of hf]
  exact k h1 C1
theorem Aok.cr {f : am_H → Option (Int32 ⊕ Nat)} {K : (Int32 ⊕ Nat) → Int32 → Option β} (q : clC (fun h => (f h).map (fun a => (a, h))) h st' o) (e : o = .inl x) (hf : dm_full d) (k : Aok P (K (.inl x) x)) : Aok P ((dm_cl d (f h)).bind (fun a => (dm_v a).bind (fun b => K a b))) := by
  obtain ⟨h1, e1, C1, -⟩ := q
  subst e
  have e1 : (f h).map (fun a => (a, h)) = some (.inl x, h1) := e1
  have e2 : f h = some (.inl x) := by
    cases hh : f h with
    | none => rw [hh] at e1; cases e1
    | some a =>
      rw [hh] at e1
      have := congrArg Prod.fst (Option.some.inj e1)
      exact congrArg some this
  rw [e2, dm_cl_of hf]
  exact k
theorem Aok.ci {call : Option (Int32 × am_H)} {K : Int32 × am_H → Option β} (q : ∃ h1, call = some (x, h1) ∧ ClR h1 st' ∧ MFr h h1) (hf : dm_full d) (k : ∀ h1, ClR h1 st' → Aok P (K (x, h1))) : Aok P ((dm_cl d call).bind K) := by
  obtain ⟨h1, e1, C1, -⟩ := q
  rw [e1, dm_cl_of hf]
  exact k h1 C1
end AOK
