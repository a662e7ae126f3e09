/-! what the two sides hold: one state, seen in the memory of each -/
/-- the plate; saved, or not; what can be undone; the buffer; the error; the report -/
abbrev St : Type := pv_T × (Bool × pv_T) × (Nat × (Nat → pv_T)) × (Nat × (Nat → Int)) × (Int × Int) × (Bool × Nat × (Nat → Int))
def pkN (f : Nat → Int) : Nat → Nat
  | 0 => 0
  | i + 1 => if f i = 0 then pkN f i else pkN f i * 32 + (f i - 96).toNat
/-- a name: letters, then zeros -/
def nm_ok (f : Nat → Int) : Prop := ∃ n, 1 ≤ n ∧ n ≤ 8 ∧ (∀ i, i < n → 97 ≤ f i ∧ f i ≤ 122) ∧ ∀ i, n ≤ i → i < 8 → f i = 0
abbrev nmf (v : pv_T) (q : Nat) : Nat → Int := fun i => v.2 14 (8 * q + i)
def pvA (v : pv_T) : Prop := pv_ok v ∧ (∀ i, i < v.1 0 → v.2 1 i ≤ 99) ∧ (∀ q, q < v.1 2 → nm_ok (nmf v q))
def sameK (v w : pv_T) : Prop := w.1 2 = v.1 2 ∧ ∀ q, q < v.1 2 → nmf w q = nmf v q
def Ok (st : St) : Prop := pvA st.1 ∧ (st.2.1.1 = true → pvA st.2.1.2) ∧ (st.2.2.1.1 ≤ 6 ∧ ∀ i, i < st.2.2.1.1 → pvA (st.2.2.1.2 i) ∧ sameK st.1 (st.2.2.1.2 i)) ∧
  (st.2.2.2.1.1 ≤ 500 ∧ ∀ i, 0 ≤ st.2.2.2.1.2 i ∧ st.2.2.2.1.2 i ≤ 255) ∧ (st.2.2.2.2.2.2.1 ≤ 294 ∧ (st.2.2.2.2.2.1 = false → st.2.2.2.2.2.2.1 = 0) ∧ ∀ i, 0 ≤ st.2.2.2.2.2.2.2 i ∧ st.2.2.2.2.2.2.2 i ≤ 127)
def sby (b : Int) : Int := if b < 128 then b else b - 256
def ClR (h : am_H) (st : St) : Prop := cl_pl h 0 st.1 ∧
  (h.1 (.inl 1) 0 4 = iI (bI (st.2.1.1 = true)) ∧ (st.2.1.1 = true → cl_pl h 3 st.2.1.2)) ∧
  (h.1 (.inl 1) 0 6 = iI st.2.2.1.1 ∧ (∀ i, i < 6 → 4 ≤ h.2.2 i ∧ h.2.2 i < 10) ∧ (∀ i j, i < 6 → j < 6 → h.2.2 i = h.2.2 j → i = j) ∧ ∀ i, i < 6 → i < st.2.2.1.1 → cl_pl h (h.2.2 i) (st.2.2.1.2 i)) ∧
  (h.1 (.inl 1) 8 1 = iI st.2.2.2.1.1 ∧ ∀ i, i < st.2.2.2.1.1 → h.1 (.inl 1) 9 i = iI (sby (st.2.2.2.1.2 i))) ∧
  (h.1 (.inl 1) 8 6 = iI st.2.2.2.2.1.1 ∧ h.1 (.inl 1) 8 7 = iI st.2.2.2.2.1.2) ∧
  (h.1 (.inl 1) 16 1 = iI st.2.2.2.2.2.2.1 ∧ ∀ i, i < st.2.2.2.2.2.2.1 → h.1 (.inl 1) 17 i = iI (st.2.2.2.2.2.2.2 i))
def mo_nm (h : am_H) (o : Nat) (v : pv_T) : Prop := ∀ q, q < v.1 2 → h.2.1 (.inl 0) o q = lN (pkN (nmf v q) 8)
def MoR (h : am_H) (st : St) : Prop := (mo_pl h st.1 ∧ mo_nm h 7 st.1) ∧
  (h.1 (.inl 0) 0 22 = iI (bI (st.2.1.1 = true)) ∧ (st.2.1.1 = true → mo_rw (h.1 (.inl 0) 3) st.2.1.2 ∧ mo_nm h 8 st.2.1.2)) ∧
  (h.1 (.inl 0) 0 21 = iI st.2.2.1.1 ∧ ∀ i, i < st.2.2.1.1 → mo_rw (fun j => h.1 (.inl 0) 6 (408 * i + j)) (st.2.2.1.2 i)) ∧
  (h.1 (.inl 0) 0 2 = iI st.2.2.2.1.1 ∧ ∀ i, i < st.2.2.2.1.1 → h.1 (.inl 0) 1 i = iI (st.2.2.2.1.2 i)) ∧
  (h.1 (.inl 0) 0 10 = iI st.2.2.2.2.1.1 ∧ h.1 (.inl 0) 0 11 = iI st.2.2.2.2.1.2) ∧
  (h.1 (.inl 0) 0 36 = iI (bI (st.2.2.2.2.2.1 = true)) ∧ (st.2.2.2.2.2.1 = true → h.1 (.inl 0) 0 35 = iI st.2.2.2.2.2.2.1 ∧ ∀ i, i < st.2.2.2.2.2.2.1 → h.1 (.inl 0) 17 i = iI (st.2.2.2.2.2.2.2 i)))
/-- the reference's cells stay; the program's cells stay -/
def MFr (h h' : am_H) : Prop := (∀ o, h'.1 (.inl 0) o = h.1 (.inl 0) o) ∧ ∀ o, h'.2.1 (.inl 0) o = h.2.1 (.inl 0) o
def CFr (h h' : am_H) : Prop := (∀ o, h'.1 (.inl 1) o = h.1 (.inl 1) o) ∧ (∀ k o, h'.1 (.inr k) o = h.1 (.inr k) o) ∧ (∀ o, h'.2.1 (.inl 1) o = h.2.1 (.inl 1) o) ∧ h'.2.2 = h.2.2
theorem MFr.rf {h : am_H} : MFr h h := ⟨fun _ => rfl, fun _ => rfl⟩
theorem MFr.tr {h h1 h2 : am_H} (a : MFr h h1) (b : MFr h1 h2) : MFr h h2 := ⟨fun o => (b.1 o).trans (a.1 o), fun o => (b.2 o).trans (a.2 o)⟩
theorem CFr.rf {h : am_H} : CFr h h := ⟨fun _ => rfl, fun _ _ => rfl, fun _ => rfl, rfl⟩
theorem CFr.tr {h h1 h2 : am_H} (a : CFr h h1) (b : CFr h1 h2) : CFr h h2 := ⟨fun o => (b.1 o).trans (a.1 o), fun k o => (b.2.1 k o).trans (a.2.1 k o), fun o => (b.2.2.1 o).trans (a.2.2.1 o), b.2.2.2.trans a.2.2.2⟩
def notM : am_G × Nat → Bool
  | (.inl 0, _) => false
  | _ => true
def onM : am_G × Nat → Bool
  | (.inl 0, _) => true
  | _ => false
theorem Wr.MF {L : List (am_G × Nat)} {h h' : am_H} (w : Wr L h h') (n : L.all notM = true) : MFr h h' :=
  ⟨fun o => w.1 _ _ (fun z => by have := List.all_eq_true.mp n _ z; cases this), fun o => w.2.1 _ _ (fun z => by have := List.all_eq_true.mp n _ z; cases this)⟩
theorem Wr.CF {L : List (am_G × Nat)} {h h' : am_H} (w : Wr L h h') (n : L.all onM = true) : CFr h h' :=
  ⟨fun o => w.1 _ _ (fun z => by have := List.all_eq_true.mp n _ z; cases this), fun k o => w.1 _ _ (fun z => by have := List.all_eq_true.mp n _ z; cases this), fun o => w.2.1 _ _ (fun z => by have := List.all_eq_true.mp n _ z; cases this), w.2.2⟩
/-- what may change while the program's, the reference's state stays -/
def scrC : am_G × Nat → Bool
  | (.inl 1, o) => o == 2 || o == 3 || o == 4 || o == 5 || o == 6 || o == 7 || (decide (10 ≤ o) && decide (o ≤ 15)) || o == 18
  | (.inr k, _) => k == 1 || k == 2
  | (.inl 0, _) => true
  | _ => false
def scrM : am_G × Nat → Bool
  | (.inl 0, o) => o == 4 || o == 5 || (decide (10 ≤ o) && decide (o ≤ 16))
  | _ => true
theorem ClR.wr {L : List (am_G × Nat)} {h h' : am_H} {st : St} (w : Wr L h h') (n : L.all scrC = true) (R : ClR h st) : ClR h' st := by
  have key : ∀ g o, scrC (g, o) = false → h'.1 g o = h.1 g o := fun g o e => w.1 g o (fun z => by have := List.all_eq_true.mp n _ z; rw [e] at this; cases this)
  have kp : ∀ k, k = 0 ∨ k = 3 ∨ (4 ≤ k ∧ k < 10) → ∀ o, h'.1 (.inr k) o = h.1 (.inr k) o := fun k hk o => key _ _ (by
    have h1 : (k == 1) = false := by rw [beq_eq_false_iff_ne]; omega
    have h2 : (k == 2) = false := by rw [beq_eq_false_iff_ne]; omega
    show (k == 1 || k == 2) = false
    rw [h1, h2]; rfl)
  obtain ⟨r1, ⟨r2, r3⟩, ⟨r4, r5, r6, r7⟩, ⟨r8, r9⟩, ⟨r10, r11⟩, r12, r13⟩ := R
  refine ⟨r1.eq (kp 0 (by omega)), ⟨by rw [key _ _ rfl]; exact r2, fun e => (r3 e).eq (kp 3 (by omega))⟩, ⟨by rw [key _ _ rfl]; exact r4, by rw [w.2.2]; exact r5, by rw [w.2.2]; exact r6, fun i c hi => by rw [w.2.2]; exact (r7 i c hi).eq (kp _ (Or.inr (Or.inr (r5 i c))))⟩, ⟨by rw [key _ _ rfl]; exact r8, by rw [key _ _ rfl]; exact r9⟩, ⟨by rw [key _ _ rfl]; exact r10, by rw [key _ _ rfl]; exact r11⟩, by rw [key _ _ rfl]; exact r12, by rw [key _ _ rfl]; exact r13⟩
theorem MoR.wr {L : List (am_G × Nat)} {h h' : am_H} {st : St} (w : Wr L h h') (n : L.all scrM = true) (R : MoR h st) : MoR h' st := by
  have key : ∀ g o, scrM (g, o) = false → h'.1 g o = h.1 g o := fun g o e => w.1 g o (fun z => by have := List.all_eq_true.mp n _ z; rw [e] at this; cases this)
  have keyl : ∀ g o, scrM (g, o) = false → h'.2.1 g o = h.2.1 g o := fun g o e => w.2.1 g o (fun z => by have := List.all_eq_true.mp n _ z; rw [e] at this; cases this)
  unfold MoR mo_pl mo_nm at *
  rw [key _ 0 rfl, key _ 1 rfl, key _ 2 rfl, key _ 3 rfl, key _ 6 rfl, key _ 17 rfl, keyl _ 7 rfl, keyl _ 8 rfl]
  exact R
/-- the code is the reference's own -/
theorem MoR.code {h : am_H} {st : St} {x : Int32} (R : MoR h st) : MoR (am_u h (.inl 0) 0 0 x) st := by
  have k0 : ∀ j, j ≠ 0 → (am_u h (.inl 0) 0 0 x).1 (.inl 0) 0 j = h.1 (.inl 0) 0 j := fun j hj => by rw [au_s, if_neg hj]
  have ko : ∀ o, o ≠ 0 → (am_u h (.inl 0) 0 0 x).1 (.inl 0) o = h.1 (.inl 0) o := fun o ho => am_u_row (fun e => ho (by cases e; rfl))
  unfold MoR mo_pl mo_nm at *
  rw [k0 22 (by omega), k0 21 (by omega), k0 2 (by omega), k0 10 (by omega), k0 11 (by omega), k0 36 (by omega), k0 35 (by omega), ko 1 (by omega), ko 2 (by omega), ko 3 (by omega), ko 6 (by omega), ko 17 (by omega)]
  exact R
theorem CFr.code {h : am_H} {x : Int32} : CFr h (am_u h (.inl 0) 0 0 x) := (Wr.u (L := [(.inl 0, 0)]) (by simp)).CF rfl
theorem MFr.mo {h h' : am_H} {st : St} (e : MFr h h') (R : MoR h st) : MoR h' st := by
  unfold MoR mo_pl mo_nm at *
  simp only [e.1, e.2]
  exact R
theorem CFr.cl {h h' : am_H} {st : St} (e : CFr h h') (R : ClR h st) : ClR h' st := by
  obtain ⟨r1, ⟨r2, r3⟩, ⟨r4, r5, r6, r7⟩, ⟨r8, r9⟩, ⟨r10, r11⟩, r12, r13⟩ := R
  exact ⟨r1.eq (e.2.1 0), ⟨by rw [e.1]; exact r2, fun z => (r3 z).eq (e.2.1 3)⟩, ⟨by rw [e.1]; exact r4, by rw [e.2.2.2]; exact r5, by rw [e.2.2.2]; exact r6, fun i c hi => by rw [e.2.2.2]; exact (r7 i c hi).eq (e.2.1 _)⟩, ⟨by rw [e.1]; exact r8, by rw [e.1]; exact r9⟩, ⟨by rw [e.1]; exact r10, by rw [e.1]; exact r11⟩, by rw [e.1]; exact r12, by rw [e.1]; exact r13⟩
/-- a case of the law that catches -/
noncomputable def tyA (r1 : Option (Int32 × am_H)) (m : am_H → Option (Int32 × am_H)) : Option am_H := r1.bind (fun a1 => (m a1.2).bind (fun a2 => (f_X12_thrown a2.2).bind (fun a3 => if a3 = a1.1 then (if a1.1 = 0 then (if ib (iI (0)) 1 then (if (lg_cmp (a2.2.2.1 (.inl 1) 18 ((iI (0))).toNatClampNeg) a2.1.toInt64) = 0 then (some a2.2) else (none)) else none) else (some a2.2)) else (none))))
/-- how the reference tells what the program answers or throws -/
def agr (o : Int32 ⊕ Nat) (f : Nat → Option Int32) (b c : Int32) : Prop := match o with
  | .inl x => b = x ∧ c = 0
  | .inr e => f e = some c ∧ c ≠ 0
/-- a call of the program's, of the reference's: it answers o, the state is st' then -/
def clC (call : am_H → Option ((Int32 ⊕ Nat) × am_H)) (h : am_H) (st' : St) (o : Int32 ⊕ Nat) : Prop := ∃ h1, call h = some (o, h1) ∧ ClR h1 st' ∧ MFr h h1
def moC (m : am_H → Option (Int32 × am_H)) (h : am_H) (st' : St) (o : Int32 ⊕ Nat) (f : Nat → Option Int32) : Prop := ∃ b h3, m h = some (b, h3) ∧ MoR h3 st' ∧ CFr h h3 ∧ agr o f b (h3.1 (.inl 0) 0 0)
theorem tyA_ok {call : am_H → Option ((Int32 ⊕ Nat) × am_H)} {m : am_H → Option (Int32 × am_H)} {f : Nat → Option Int32} {h : am_H} {st st' : St} {o : Int32 ⊕ Nat} (hM : MoR h st) (C : clC call h st' o) (M : ∀ h2, MoR h2 st → moC m h2 st' o f) : ∃ h', tyA (lw_ret (call h) f) m = some h' ∧ ClR h' st' ∧ MoR h' st' := by
  obtain ⟨h1, e1, c1, f1⟩ := C
  cases o with
  | inl x =>
    have w2 : Wr [(.inl 1, 18)] h1 (am_ul h1 (.inl 1) 18 0 x.toInt64) := Wr.ul (by simp)
    obtain ⟨b, h3, e3, m3, f3, ⟨rfl, a2⟩⟩ := M (am_ul h1 (.inl 1) 18 0 x.toInt64) (MoR.wr w2 rfl (f1.mo hM))
    refine ⟨h3, ?_, f3.cl (ClR.wr w2 rfl c1), m3⟩
    have hl : lw_ret (call h) f = some (iI 0, am_ul h1 (.inl 1) 18 0 b.toInt64) := by unfold lw_ret; rw [e1]; rfl
    have ht : f_X12_thrown h3 = some (iI 0) := by unfold f_X12_thrown; rw [a2]; rfl
    have ho : h3.2.1 (.inl 1) 18 ((iI 0).toNatClampNeg) = b.toInt64 := by
      rw [f3.2.2.1, am_ul_self]
      exact if_pos rfl
    unfold tyA
    rw [hl, Option.bind_some, e3, Option.bind_some, ht, Option.bind_some]
    exact (if_pos rfl).trans ((if_pos (show (iI 0 : Int32) = 0 from rfl)).trans ((if_pos (by decide)).trans (if_pos (by rw [lg_eq]; exact ho))))
  | inr e =>
    obtain ⟨b, h3, e3, m3, f3, ⟨a1, a2⟩⟩ := M h1 (f1.mo hM)
    refine ⟨h3, ?_, f3.cl c1, m3⟩
    have hl : lw_ret (call h) f = some (h3.1 (.inl 0) 0 0, h1) := by unfold lw_ret; rw [e1]; show (f e).bind _ = _; rw [a1]; rfl
    unfold tyA
    rw [hl, Option.bind_some, e3, Option.bind_some]
    show (some (h3.1 (.inl 0) 0 0)).bind _ = _
    rw [Option.bind_some, if_pos rfl, if_neg a2]
/-- a case that compares two answers -/
theorem tyB_ok {h : am_H} {st st' : St} {x : Int32} (hM : MoR h st) {call m : am_H → Option (Int32 × am_H)} (C : ∃ h1, call h = some (x, h1) ∧ ClR h1 st' ∧ MFr h h1) (M : ∀ h2, MoR h2 st → ∃ h3, m h2 = some (x, h3) ∧ MoR h3 st' ∧ CFr h2 h3) : ∃ h', ((call h).bind (fun a1 => (m a1.2).bind (fun a2 => if a1.1 = a2.1 then (some a2.2) else (none))) : Option am_H) = some h' ∧ ClR h' st' ∧ MoR h' st' := by
  obtain ⟨h1, e1, c1, f1⟩ := C
  obtain ⟨h3, e3, m3, f3⟩ := M h1 (f1.mo hM)
  exact ⟨h3, by rw [e1, Option.bind_some, e3, Option.bind_some, if_pos rfl], f3.cl c1, m3⟩
theorem tyB_ok' {h : am_H} {st st' : St} {x : Int32} (hM : MoR h st) (hC : ClR h st') {call : am_H → Option Int32} {m : am_H → Option (Int32 × am_H)} (C : call h = some x) (M : ∀ h2, MoR h2 st → ∃ h3, m h2 = some (x, h3) ∧ MoR h3 st' ∧ CFr h2 h3) : ∃ h', ((call h).bind (fun a1 => (m h).bind (fun a2 => if a1 = a2.1 then (some a2.2) else (none))) : Option am_H) = some h' ∧ ClR h' st' ∧ MoR h' st' := by
  obtain ⟨h3, e3, m3, f3⟩ := M h hM
  exact ⟨h3, by rw [C, Option.bind_some, e3, Option.bind_some, if_pos rfl], f3.cl hC, m3⟩
/-- goes(is), goesBoth: the code told -/
theorem m_goes {c : Prop} [Decidable c] {h : am_H} : f_X12_goes (iI (bI c)) h = some (iI (bI c), am_u h (.inl 0) 0 0 (if c then iI 0 else iI 1)) := by
  unfold f_X12_goes
  by_cases hc : c
  · rw [show bI c = 1 from if_pos hc, if_pos hc]
    rfl
  · rw [show bI c = 0 from if_neg hc, if_neg hc]
    rfl
theorem m_goesBoth {c d : Prop} [Decidable c] [Decidable d] {h : am_H} : f_X12_goesBoth (iI (bI c)) (iI (bI d)) h = some (iI (bI (c ∧ d)), am_u h (.inl 0) 0 0 (if c then (if d then iI 0 else iI 2) else iI 1)) := by
  have key : ∀ y : Int32, f_X12_goesBoth_18 y h = some (if y = 0 then iI 1 else iI 0, am_u h (.inl 0) 0 0 y) := by
    intro y
    show (if (am_u h (.inl 0) 0 0 y).1 (.inl 0) 0 0 = 0 then some (iI 1, am_u h (.inl 0) 0 0 y) else some (iI 0, am_u h (.inl 0) 0 0 y)) = _
    rw [au_s, if_pos rfl]
    split <;> rfl
  unfold f_X12_goesBoth
  by_cases hc : c
  · by_cases hd : d
    · rw [show bI c = 1 from if_pos hc, show bI d = 1 from if_pos hd, show bI (c ∧ d) = 1 from if_pos ⟨hc, hd⟩, if_pos hc, if_pos hd, if_neg (by decide), if_neg (by decide), key]
      rfl
    · rw [show bI c = 1 from if_pos hc, show bI d = 0 from if_neg hd, show bI (c ∧ d) = 0 from if_neg (fun z => hd z.2), if_pos hc, if_neg hd, if_neg (by decide), if_pos (by decide), key]
      rfl
  · rw [show bI c = 0 from if_neg hc, show bI (c ∧ d) = 0 from if_neg (fun z => hc z.1), if_neg hc, if_pos (by decide), key]
    rfl
