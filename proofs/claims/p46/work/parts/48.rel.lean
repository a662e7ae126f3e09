/-! what the two sides hold: one state, seen in the memory of each -/
/-- the plate; saved, or not; what can be undone; the buffer; the error; the report -/
abbrev St : Type := pv_T × (Bool × pv_T) × (Nat × (Nat → pv_T)) × (Nat × (Nat → Int)) × (Int × Int) × (Bool × Nat × (Nat → Int))
def pkN (f : Nat → Int) : Nat → Nat
  | 0 => 0
  | i + 1 => if f i = 0 then pkN f i else pkN f i * 32 + (f i - 96).toNat
/-- a name: letters, then zeros -/
def nm_ok (f : Nat → Int) : Prop := ∃ n, 1 ≤ n ∧ n ≤ 8 ∧ (∀ i, i < n → 97 ≤ f i ∧ f i ≤ 122) ∧ ∀ i, n ≤ i → i < 8 → f i = 0
abbrev nmf (v : pv_T) (q : Nat) : Nat → Int := fun i => v.2 14 (8 * q + i)
def pvA (v : pv_T) : Prop := pv_ok v ∧ (∀ i, i < v.1 0 → v.2 1 i ≤ 99) ∧ (∀ q, q < v.1 2 → nm_ok (nmf v q))
def sameK (v w : pv_T) : Prop := w.1 2 = v.1 2 ∧ ∀ q, q < v.1 2 → nmf w q = nmf v q
def Ok (st : St) : Prop := pvA st.1 ∧ (st.2.1.1 = true → pvA st.2.1.2) ∧ (st.2.2.1.1 ≤ 6 ∧ ∀ i, i < st.2.2.1.1 → pvA (st.2.2.1.2 i) ∧ sameK st.1 (st.2.2.1.2 i)) ∧
  (st.2.2.2.1.1 ≤ 500 ∧ ∀ i, 0 ≤ st.2.2.2.1.2 i ∧ st.2.2.2.1.2 i ≤ 255) ∧ (st.2.2.2.2.2.2.1 ≤ 294 ∧ (st.2.2.2.2.2.1 = false → st.2.2.2.2.2.2.1 = 0) ∧ ∀ i, 0 ≤ st.2.2.2.2.2.2.2 i ∧ st.2.2.2.2.2.2.2 i ≤ 127)
def sby (b : Int) : Int := if b < 128 then b else b - 256
def ClR (h : am_H) (st : St) : Prop := cl_pl h 0 st.1 ∧
  (h.1 (.inl 1) 0 4 = iI (bI (st.2.1.1 = true)) ∧ (st.2.1.1 = true → cl_pl h 3 st.2.1.2)) ∧
  (h.1 (.inl 1) 0 6 = iI st.2.2.1.1 ∧ (∀ i, i < 6 → 4 ≤ h.2.2 i ∧ h.2.2 i < 10) ∧ (∀ i j, i < 6 → j < 6 → h.2.2 i = h.2.2 j → i = j) ∧ ∀ i, i < 6 → i < st.2.2.1.1 → cl_pl h (h.2.2 i) (st.2.2.1.2 i)) ∧
  (h.1 (.inl 1) 8 1 = iI st.2.2.2.1.1 ∧ ∀ i, i < st.2.2.2.1.1 → h.1 (.inl 1) 9 i = iI (sby (st.2.2.2.1.2 i))) ∧
  (h.1 (.inl 1) 8 6 = iI st.2.2.2.2.1.1 ∧ h.1 (.inl 1) 8 7 = iI st.2.2.2.2.1.2) ∧
  (h.1 (.inl 1) 16 1 = iI st.2.2.2.2.2.2.1 ∧ ∀ i, i < st.2.2.2.2.2.2.1 → h.1 (.inl 1) 17 i = iI (st.2.2.2.2.2.2.2 i))
/-- the reference's cells stay; the program's cells stay -/
def MFr (h h' : am_H) : Prop := (∀ o, h'.1 (.inl 0) o = h.1 (.inl 0) o) ∧ ∀ o, h'.2.1 (.inl 0) o = h.2.1 (.inl 0) o
def CFr (h h' : am_H) : Prop := (∀ o, h'.1 (.inl 1) o = h.1 (.inl 1) o) ∧ (∀ k o, h'.1 (.inr k) o = h.1 (.inr k) o) ∧ (∀ o, h'.2.1 (.inl 1) o = h.2.1 (.inl 1) o) ∧ h'.2.2 = h.2.2
theorem MFr.rf {h : am_H} : MFr h h := ⟨fun _ => rfl, fun _ => rfl⟩
theorem MFr.tr {h h1 h2 : am_H} (a : MFr h h1) (b : MFr h1 h2) : MFr h h2 := ⟨fun o => (b.1 o).trans (a.1 o), fun o => (b.2 o).trans (a.2 o)⟩
theorem CFr.rf {h : am_H} : CFr h h := ⟨fun _ => rfl, fun _ _ => rfl, fun _ => rfl, rfl⟩
theorem CFr.tr {h h1 h2 : am_H} (a : CFr h h1) (b : CFr h1 h2) : CFr h h2 := ⟨fun o => (b.1 o).trans (a.1 o), fun k o => (b.2.1 k o).trans (a.2.1 k o), fun o => (b.2.2.1 o).trans (a.2.2.1 o), b.2.2.2.trans a.2.2.2⟩
def notM : am_G × Nat → Bool
  | (.inl 0, _) => false
  | _ => true
theorem Wr.MF {L : List (am_G × Nat)} {h h' : am_H} (w : Wr L h h') (n : L.all notM = true) : MFr h h' :=
  ⟨fun o => w.1 _ _ (fun z => by have := List.all_eq_true.mp n _ z; cases this), fun o => w.2.1 _ _ (fun z => by have := List.all_eq_true.mp n _ z; cases this)⟩
/-- what may change while the program's, the reference's state stays -/
def scrC : am_G × Nat → Bool
  | (.inl 1, o) => o == 2 || o == 3 || o == 4 || o == 5 || o == 6 || o == 7 || (decide (10 ≤ o) && decide (o ≤ 15)) || o == 18
  | (.inr k, _) => k == 1 || k == 2
  | (.inl 0, _) => true
  | _ => false
theorem ClR.wr {L : List (am_G × Nat)} {h h' : am_H} {st : St} (w : Wr L h h') (n : L.all scrC = true) (R : ClR h st) : ClR h' st := by
  have key : ∀ g o, scrC (g, o) = false → h'.1 g o = h.1 g o := fun g o e => w.1 g o (fun z => by have := List.all_eq_true.mp n _ z; rw [e] at this; cases this)
  have kp : ∀ k, k = 0 ∨ k = 3 ∨ (4 ≤ k ∧ k < 10) → ∀ o, h'.1 (.inr k) o = h.1 (.inr k) o := fun k hk o => key _ _ (by
    have h1 : (k == 1) = false := by rw [beq_eq_false_iff_ne]; omega
    have h2 : (k == 2) = false := by rw [beq_eq_false_iff_ne]; omega
    show (k == 1 || k == 2) = false
    rw [h1, h2]; rfl)
  obtain ⟨r1, ⟨r2, r3⟩, ⟨r4, r5, r6, r7⟩, ⟨r8, r9⟩, ⟨r10, r11⟩, r12, r13⟩ := R
  refine ⟨r1.eq (kp 0 (by omega)), ⟨by rw [key _ _ rfl]; exact r2, fun e => (r3 e).eq (kp 3 (by omega))⟩, ⟨by rw [key _ _ rfl]; exact r4, by rw [w.2.2]; exact r5, by rw [w.2.2]; exact r6, fun i c hi => by rw [w.2.2]; exact (r7 i c hi).eq (kp _ (Or.inr (Or.inr (r5 i c))))⟩, ⟨by rw [key _ _ rfl]; exact r8, by rw [key _ _ rfl]; exact r9⟩, ⟨by rw [key _ _ rfl]; exact r10, by rw [key _ _ rfl]; exact r11⟩, by rw [key _ _ rfl]; exact r12, by rw [key _ _ rfl]; exact r13⟩
theorem CFr.cl {h h' : am_H} {st : St} (e : CFr h h') (R : ClR h st) : ClR h' st := by
  obtain ⟨r1, ⟨r2, r3⟩, ⟨r4, r5, r6, r7⟩, ⟨r8, r9⟩, ⟨r10, r11⟩, r12, r13⟩ := R
  exact ⟨r1.eq (e.2.1 0), ⟨by rw [e.1]; exact r2, fun z => (r3 z).eq (e.2.1 3)⟩, ⟨by rw [e.1]; exact r4, by rw [e.2.2.2]; exact r5, by rw [e.2.2.2]; exact r6, fun i c hi => by rw [e.2.2.2]; exact (r7 i c hi).eq (e.2.1 _)⟩, ⟨by rw [e.1]; exact r8, by rw [e.1]; exact r9⟩, ⟨by rw [e.1]; exact r10, by rw [e.1]; exact r11⟩, by rw [e.1]; exact r12, by rw [e.1]; exact r13⟩
/-- how the reference tells what the program answers or throws -/
def agr (o : Int32 ⊕ Nat) (f : Nat → Option Int32) (b c : Int32) : Prop := match o with
  | .inl x => b = x ∧ c = 0
  | .inr e => f e = some c ∧ c ≠ 0
/-- a call of the program's, of the reference's: it answers o, the state is st' then -/
def clC (call : am_H → Option ((Int32 ⊕ Nat) × am_H)) (h : am_H) (st' : St) (o : Int32 ⊕ Nat) : Prop := ∃ h1, call h = some (o, h1) ∧ ClR h1 st' ∧ MFr h h1