/-! FUNCTIONS OUT OF BYTECODE: what a method answers, over the memory (none: it does not answer); loops as the runs of a step. dc.py writes the functions and their proofs over the machine; what is proved of the program is proved of these functions. -/
/-- a place within a row -/
abbrev ib (i : Int32) (n : Nat) : Prop := 0 ≤ i.toInt ∧ i.toInt < n
theorem ib_in {i : Int32} {n : Nat} (h : ib i n) : vp_in i n := vp_in_iff.mpr h
/-- it answers, and the answer is of K -/
def wp {α : Type} (o : Option α) (K : α → Prop) : Prop := ∃ a, o = some a ∧ K a
theorem wp_s {α : Type} {a : α} {K : α → Prop} (h : wp (some a) K) : K a := by obtain ⟨b, e, k⟩ := h; cases e; exact k
theorem wp_n {α : Type} {K : α → Prop} (h : wp none K) : False := by obtain ⟨b, e, k⟩ := h; cases e
theorem wp_g {α : Type} {c : Prop} [Decidable c] {o : Option α} {K : α → Prop} (h : wp (if c then o else none) K) : c ∧ wp o K := by
  by_cases hc : c
  · rw [if_pos hc] at h; exact ⟨hc, h⟩
  · rw [if_neg hc] at h; exact (wp_n h).elim
theorem wp_d {α : Type} {c : Prop} [Decidable c] {o : Option α} {K : α → Prop} (h : wp (if c then none else o) K) : ¬ c ∧ wp o K := by
  by_cases hc : c
  · rw [if_pos hc] at h; exact (wp_n h).elim
  · rw [if_neg hc] at h; exact ⟨hc, h⟩
theorem wp_t {α : Type} {c : Prop} [Decidable c] {a b : Option α} {K : α → Prop} (hc : c) (h : wp (if c then a else b) K) : wp a K := by rw [if_pos hc] at h; exact h
theorem wp_f {α : Type} {c : Prop} [Decidable c] {a b : Option α} {K : α → Prop} (hc : ¬ c) (h : wp (if c then a else b) K) : wp b K := by rw [if_neg hc] at h; exact h
theorem wp_b {α β : Type} {o : Option α} {f : α → Option β} {K : β → Prop} (h : wp (o.bind f) K) : ∃ a, o = some a ∧ wp (f a) K := by
  cases o with
  | none => exact (wp_n h).elim
  | some a => exact ⟨a, rfl, h⟩
def am_lt {α : Type} (a : am_H) (f : am_H → α) : α := f a
theorem wp_l {α : Type} {a : am_H} {f : am_H → Option α} {K : α → Prop} (h : wp (am_lt a f) K) : wp (f a) K := h
/-- the runs of a step -/
def lpn {σ ρ : Type} (st : σ → Option (σ ⊕ ρ)) : Nat → σ → Option ρ
  | 0, _ => none
  | n + 1, s => match st s with
    | none => none
    | some (.inl s') => lpn st n s'
    | some (.inr r) => some r
theorem lpn_s {σ ρ : Type} {st : σ → Option (σ ⊕ ρ)} : ∀ {n : Nat} {s : σ} {r : ρ}, lpn st n s = some r → lpn st (n + 1) s = some r
  | 0, _, _, h => by cases h
  | n + 1, s, r, h => by
    unfold lpn at h ⊢
    cases hs : st s with
    | none => rw [hs] at h; cases h
    | some q =>
      rw [hs] at h
      cases q with
      | inl s' => exact lpn_s (n := n) h
      | inr r' => exact h
theorem lpn_le {σ ρ : Type} {st : σ → Option (σ ⊕ ρ)} {n m : Nat} {s : σ} {r : ρ} (hm : n ≤ m) (h : lpn st n s = some r) : lpn st m s = some r := by
  induction m with
  | zero => have : n = 0 := by omega
            subst this; exact h
  | succ m ih =>
    by_cases e : n = m + 1
    · subst e; exact h
    · exact lpn_s (ih (by omega))
noncomputable def lp {σ ρ : Type} (st : σ → Option (σ ⊕ ρ)) (s : σ) : Option ρ := @dite _ (∃ r n, lpn st n s = some r) (Classical.propDecidable _) (fun h => some h.choose) (fun _ => none)
theorem lp_some {σ ρ : Type} {st : σ → Option (σ ⊕ ρ)} {s : σ} {r : ρ} : lp st s = some r ↔ ∃ n, lpn st n s = some r := by
  unfold lp
  constructor
  · intro h
    split at h
    · next hx =>
      obtain ⟨n, hn⟩ := hx.choose_spec
      injection h with e
      exact ⟨n, by rw [hn, e]⟩
    · cases h
  · rintro ⟨n, hn⟩
    have hx : ∃ r n, lpn st n s = some r := ⟨r, n, hn⟩
    rw [dif_pos hx]
    obtain ⟨m, hm⟩ := hx.choose_spec
    have h1 := lpn_le (Nat.le_max_left n m) hn
    have h2 := lpn_le (Nat.le_max_right n m) hm
    rw [h1] at h2
    exact h2.symm
noncomputable def lpk {σ ρ : Type} (st : σ → Option (σ ⊕ ρ)) : Option (σ ⊕ ρ) → Option ρ
  | none => none
  | some (.inl s') => lp st s'
  | some (.inr r) => some r
theorem lp_eq {σ ρ : Type} (st : σ → Option (σ ⊕ ρ)) (s : σ) : lp st s = lpk st (st s) := by
  apply Option.ext
  intro r
  rw [lp_some]
  constructor
  · rintro ⟨n, hn⟩
    cases n with
    | zero => cases hn
    | succ n =>
      unfold lpn at hn
      cases hs : st s with
      | none => rw [hs] at hn; cases hn
      | some q =>
        rw [hs] at hn
        cases q with
        | inl s' => exact lp_some.mpr ⟨n, hn⟩
        | inr r' => exact hn
  · intro h
    cases hs : st s with
    | none => rw [hs] at h; cases h
    | some q =>
      rw [hs] at h
      cases q with
      | inl s' =>
        obtain ⟨n, hn⟩ := lp_some.mp h
        exact ⟨n + 1, by unfold lpn; rw [hs]; exact hn⟩
      | inr r' => exact ⟨1, by unfold lpn; rw [hs]; exact h⟩
theorem lpk_i {σ ρ : Type} {st : σ → Option (σ ⊕ ρ)} {c : Prop} [Decidable c] {a b : Option (σ ⊕ ρ)} : lpk st (if c then a else b) = if c then lpk st a else lpk st b := by split <;> rfl
theorem lpk_b {σ ρ α : Type} {st : σ → Option (σ ⊕ ρ)} {o : Option α} {f : α → Option (σ ⊕ ρ)} : lpk st (o.bind f) = o.bind (fun a => lpk st (f a)) := by cases o <;> rfl
theorem lpk_l {σ ρ : Type} {st : σ → Option (σ ⊕ ρ)} {a : am_H} {f : am_H → Option (σ ⊕ ρ)} : lpk st (am_lt a f) = am_lt a (fun h => lpk st (f h)) := rfl
theorem lpk_n {σ ρ : Type} {st : σ → Option (σ ⊕ ρ)} : lpk st none = none := rfl
theorem lpk_j {σ ρ : Type} {st : σ → Option (σ ⊕ ρ)} {s : σ} : lpk st (some (.inl s)) = lp st s := rfl
theorem lpk_r {σ ρ : Type} {st : σ → Option (σ ⊕ ρ)} {r : ρ} : lpk st (some (.inr r)) = some r := rfl
def lpQ {σ ρ : Type} (V : σ → Prop) (K : ρ → Prop) : σ ⊕ ρ → Prop
  | .inl s => V s
  | .inr r => K r
theorem lp_ind {σ ρ : Type} {st : σ → Option (σ ⊕ ρ)} (V : σ → Prop) (K : ρ → Prop) (step : ∀ s, wp (st s) (lpQ V K) → V s) : ∀ s, wp (lp st s) K → V s := by
  have key : ∀ (n : Nat) (s : σ) (r : ρ), lpn st n s = some r → K r → V s := by
    intro n
    induction n with
    | zero => intro s r h; cases h
    | succ n ih =>
      intro s r h k
      unfold lpn at h
      refine step s ?_
      cases hs : st s with
      | none => rw [hs] at h; cases h
      | some q =>
        rw [hs] at h
        cases q with
        | inl s' => exact ⟨_, rfl, ih s' r h k⟩
        | inr r' => cases h; exact ⟨_, rfl, k⟩
  rintro s ⟨r, h, k⟩
  obtain ⟨n, hn⟩ := lp_some.mp h
  exact key n s r hn k
theorem lp_in {σ ρ : Type} {V : σ → Prop} {K : ρ → Prop} {s : σ} (h : wp (some (.inl s)) (lpQ V K)) : V s := (wp_s (K := lpQ V K) h : lpQ V K (.inl s))
theorem lp_re {σ ρ : Type} {V : σ → Prop} {K : ρ → Prop} {r : ρ} (h : wp (some (.inr r)) (lpQ V K)) : K r := (wp_s (K := lpQ V K) h : lpQ V K (.inr r))
/-- the states of a step: the place, ints, longs, plates, memory -/
abbrev am_S (μ : Type) : Type := Nat × List Int32 × List Int64 × List Nat × μ
/-- less is known of the locals -/
def am_sub (A' A : List (Option am_v)) : Prop := ∀ (i : Nat) (v : am_v), A'[i]? = some (some v) → A[i]? = some (some v)
theorem am_0 {A : List (Option am_v)} : am_sub [] A := fun i v h => by cases h
theorem am_n {a : Option am_v} {A' A : List (Option am_v)} (h : am_sub A' A) : am_sub (none :: A') (a :: A) := fun i v hi => by
  match i, hi with
  | 0, hi => cases hi
  | i + 1, hi => exact h i v hi
theorem am_s {a : Option am_v} {A' A : List (Option am_v)} (h : am_sub A' A) : am_sub (a :: A') (a :: A) := fun i v hi => by
  match i, hi with
  | 0, hi => exact hi
  | i + 1, hi => exact h i v hi
theorem am_V.wk {own : String} {cc : ByteArray} {nL : Nat} {ret : Option FieldType} {fr lc mc ms : Nat} {tb : am_tb} {Tm : Nat → List am_v → am_H → Prop} {cs ss pc : Nat} {A A' : List (Option am_v)} {st : List am_v} {h : am_H} (hs : am_sub A' A) (k : am_V own cc nL ret fr lc mc ms tb Tm cs ss pc A' st h) : am_V own cc nL ret fr lc mc ms tb Tm cs ss pc A st h := by
  intro p l e R s m args below meth c lo ad D cA Z F K hc hcs H locs ls hW hS hL
  exact k p l e R s m args below meth c lo ad D cA Z F K hc hcs H locs ls hW hS ⟨hL.1, hL.2.1, fun i v hi => hL.2.2 i v (hs i v hi)⟩
/-- a boolean that a method returns -/
abbrev zb (x : Int32) : Prop := x = 0 ∨ x = 1
theorem zb_n {x : Int32} (h : zb x) : narrow .boolean (.int x) = .int x := by rcases h with rfl | rfl <;> rfl
theorem am_L.st2 {ad : am_G → Nat → Nat} {nL : Nat} {A : List (Option am_v)} {ls' : Array Slot} {i : Nat} {x : Int64} {lv : List (Nat × Value)} (hm : ∀ (i : Nat) (v : am_v), A[i]? = some (some v) → (i, am_enc ad v) ∈ lv)
    (h : lv_has ls' nL ((i, Value.long x) :: lv.filter (fun q => !(q.1 == i) && (!(q.1 == i + 1) && !(q.1 + 1 == i && q.2.category == 2))))) (hi : i + 1 < A.length) (hb : am_b4 A i) : am_L ad nL ((A.set i (some (am_l x))).set (i + 1) none) ls' := by
  refine ⟨h.1, h.2.1, fun j w hj => ?_⟩
  by_cases e9 : j = i + 1
  · subst e9
    rw [List.getElem?_set_self (by simpa using hi)] at hj
    cases hj
  rw [List.getElem?_set_ne (Ne.symm e9)] at hj
  by_cases e : j = i
  · subst e
    rw [List.getElem?_set_self (by omega)] at hj
    cases hj
    exact h.2.2 _ List.mem_cons_self
  · rw [List.getElem?_set_ne (Ne.symm e)] at hj
    refine h.2.2 (j, am_enc ad w) (List.mem_cons_of_mem _ (List.mem_filter.mpr ⟨hm j w hj, ?_⟩))
    have e1 : (j == i) = false := beq_eq_false_iff_ne.mpr e
    have e4 : (j == i + 1) = false := beq_eq_false_iff_ne.mpr e9
    by_cases e2 : j + 1 = i
    · subst e2
      have hc : am_c1 (some w) := by
        have hb : (match A[j]? with | some v => am_c1 v | none => True) := hb
        rw [hj] at hb
        exact hb
      have h1 := am_enc_c1 (ad := ad) hc
      simp [e1, e4, h1]
    · have e3 : (j + 1 == i) = false := beq_eq_false_iff_ne.mpr e2
      simp [e1, e3, e4]
section AMU
variable {own : String} {cc : ByteArray} {nL : Nat} {ret : Option FieldType} {fr lc mc ms : Nat} {tb : am_tb} {Tm : Nat → List am_v → am_H → Prop} {cs ss pc : Nat} {A : List (Option am_v)} {st : List am_v} {h : am_H}
theorem ar_lstore_n {i : Nat} {f : Fin 4} {x : Int64} {Aq : List (Option am_v)} (hd : decode cc pc = .ok (.lstore_n f, 1)) (hf : (f : Nat) = i) (hi : i + 1 < A.length) (hn : i + 1 < nL) (hb : am_b4 A i) (hA : (A.set i (some (am_l x))).set (i + 1) none = Aq) (k : am_V own cc nL ret fr lc mc ms tb Tm cs ss (pc + 1) (Aq) (st) h) : am_V own cc nL ret fr lc mc ms tb Tm cs ss (pc) (A) (am_l x :: st) h := by
  intro p l e R s m args below meth c lo ad D cA Z F K hc hcs H locs ls hW hS hL
  subst hA
  obtain ⟨lv, h1, h2⟩ := hL.list
  exact lv_lstore_n F.1 F.2.1 hd hf h1 hn rfl (fun ls' hl => k p l e R s m args below meth c lo ad D cA Z F K hc hcs H locs ls' hW hS (am_L.st2 h2 hl hi hb))
theorem rs_l1 {a0 b b' : Option am_v} {x : Int64} (hd : decode cc pc = .ok (.lstore_n 1, 1)) (hn : Nat.blt 2 nL = true) (hb : am_c1 a0) (k : am_V own cc nL ret fr lc mc ms tb Tm cs ss (pc + 1) (a0 :: some (am_l x) :: none :: A) st h) : am_V own cc nL ret fr lc mc ms tb Tm cs ss pc (a0 :: b :: b' :: A) (am_l x :: st) h := ar_lstore_n (i := 1) hd rfl (by simp) (Nat.blt_eq.mp hn) hb rfl k
theorem rs_l2 {a0 a1 b b' : Option am_v} {x : Int64} (hd : decode cc pc = .ok (.lstore_n 2, 1)) (hn : Nat.blt 3 nL = true) (hb : am_c1 a1) (k : am_V own cc nL ret fr lc mc ms tb Tm cs ss (pc + 1) (a0 :: a1 :: some (am_l x) :: none :: A) st h) : am_V own cc nL ret fr lc mc ms tb Tm cs ss pc (a0 :: a1 :: b :: b' :: A) (am_l x :: st) h := ar_lstore_n (i := 2) hd rfl (by simp) (Nat.blt_eq.mp hn) hb rfl k
theorem rs_l3 {a0 a1 a2 b b' : Option am_v} {x : Int64} (hd : decode cc pc = .ok (.lstore_n 3, 1)) (hn : Nat.blt 4 nL = true) (hb : am_c1 a2) (k : am_V own cc nL ret fr lc mc ms tb Tm cs ss (pc + 1) (a0 :: a1 :: a2 :: some (am_l x) :: none :: A) st h) : am_V own cc nL ret fr lc mc ms tb Tm cs ss pc (a0 :: a1 :: a2 :: b :: b' :: A) (am_l x :: st) h := ar_lstore_n (i := 3) hd rfl (by simp) (Nat.blt_eq.mp hn) hb rfl k
theorem ar_ldc_w {idx : Nat} (v : Int32) (hd : decode cc pc = .ok (.ldc_w idx, 3)) (hw : Cond.constant own idx v ∈ am_gT) (k : am_V own cc nL ret fr lc mc ms tb Tm cs ss (pc + 3) (A) (am_i v :: st) h) : am_V own cc nL ret fr lc mc ms tb Tm cs ss (pc) (A) (st) h := by
  intro p l e R s m args below meth c lo ad D cA Z F K hc hcs H locs ls hW hS hL
  exact lv_ldcw F.1 F.2.1 F.2.2.2.1 (F.2.2.2.2.1 _ hw) hd (k p l e R s m args below meth c lo ad D cA Z F K hc hcs H locs ls hW hS hL)
end AMU
abbrev nf64 (r : UInt64) : Prop := r &&& 0x7fffffffffffffff ≤ 0x7ff0000000000000
abbrev nf32 (r : UInt32) : Prop := r &&& 0x7fffffff ≤ 0x7f800000
abbrev am_dv (x : UInt64) : am_v := .inl (.double x)
abbrev am_fv9 (x : UInt32) : am_v := .inl (.float x)
