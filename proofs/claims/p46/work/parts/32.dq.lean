/-! what is read of cells, and written; the rules of it -/
/-- the i-th cell, if there is one -/
def dm_at (d : dm_D) : am_G × Nat → Option (Nat × dm_C)
  | (.inl 0, i) => if i < d.1 then some (i, d.2.2 i) else none
  | _ => none
theorem dm_at_some {d : dm_D} {q : am_G × Nat} {i : Nat} {c : dm_C} (h : dm_at d q = some (i, c)) : q = (.inl 0, i) ∧ i < d.1 ∧ d.2.2 i = c := by
  match q, h with
  | (.inl 0, j), h =>
    have h : (if j < d.1 then some (j, d.2.2 j) else none) = some (i, c) := h
    by_cases hj : j < d.1
    · rw [if_pos hj] at h
      cases h
      exact ⟨rfl, hj, rfl⟩
    · rw [if_neg hj] at h
      cases h
theorem dm_at_of {d : dm_D} {i : Nat} (h : i < d.1) : dm_at d (.inl 0, i) = some (i, d.2.2 i) := if_pos h
/-- an object's class and fields; a row of numbers; a row of references -/
def dm_ob (d : dm_D) (q : am_G × Nat) : Option (Nat × Nat × List am_v) := (dm_at d q).bind (fun a => match a.2 with | .inl o => some (a.1, o) | _ => none)
def dm_ar (d : dm_D) (q : am_G × Nat) : Option (Nat × Nat × Nat × (Nat → Int32)) := (dm_at d q).bind (fun a => match a.2 with | .inr (.inl o) => some (a.1, o) | _ => none)
def dm_rr (d : dm_D) (q : am_G × Nat) : Option (Nat × Nat × (Nat → Option Nat)) := (dm_at d q).bind (fun a => match a.2 with | .inr (.inr (.inl o)) => some (a.1, o) | _ => none)
theorem dm_ob_some {d : dm_D} {q : am_G × Nat} {i : Nat} {o : Nat × List am_v} (h : dm_ob d q = some (i, o)) : q = (.inl 0, i) ∧ i < d.1 ∧ d.2.2 i = .inl o := by
  unfold dm_ob at h
  cases ha : dm_at d q with
  | none => rw [ha] at h; cases h
  | some a =>
    obtain ⟨j, c⟩ := a
    rw [ha] at h
    obtain ⟨h1, h2, h3⟩ := dm_at_some ha
    match c, h with
    | .inl o', h => cases h; exact ⟨h1, h2, h3⟩
theorem dm_ar_some {d : dm_D} {q : am_G × Nat} {i : Nat} {o : Nat × Nat × (Nat → Int32)} (h : dm_ar d q = some (i, o)) : q = (.inl 0, i) ∧ i < d.1 ∧ d.2.2 i = .inr (.inl o) := by
  unfold dm_ar at h
  cases ha : dm_at d q with
  | none => rw [ha] at h; cases h
  | some a =>
    obtain ⟨j, c⟩ := a
    rw [ha] at h
    obtain ⟨h1, h2, h3⟩ := dm_at_some ha
    match c, h with
    | .inr (.inl o'), h => cases h; exact ⟨h1, h2, h3⟩
theorem dm_rr_some {d : dm_D} {q : am_G × Nat} {i : Nat} {o : Nat × (Nat → Option Nat)} (h : dm_rr d q = some (i, o)) : q = (.inl 0, i) ∧ i < d.1 ∧ d.2.2 i = .inr (.inr (.inl o)) := by
  unfold dm_rr at h
  cases ha : dm_at d q with
  | none => rw [ha] at h; cases h
  | some a =>
    obtain ⟨j, c⟩ := a
    rw [ha] at h
    obtain ⟨h1, h2, h3⟩ := dm_at_some ha
    match c, h with
    | .inr (.inr (.inl o')), h => cases h; exact ⟨h1, h2, h3⟩
theorem dm_ob_of {d : dm_D} {i : Nat} {o : Nat × List am_v} (h : i < d.1) (e : d.2.2 i = .inl o) : dm_ob d (.inl 0, i) = some (i, o) := by
  unfold dm_ob
  rw [dm_at_of h, Option.bind_some, e]
theorem dm_ar_of {d : dm_D} {i : Nat} {o : Nat × Nat × (Nat → Int32)} (h : i < d.1) (e : d.2.2 i = .inr (.inl o)) : dm_ar d (.inl 0, i) = some (i, o) := by
  unfold dm_ar
  rw [dm_at_of h, Option.bind_some, e]
theorem dm_rr_of {d : dm_D} {i : Nat} {o : Nat × (Nat → Option Nat)} (h : i < d.1) (e : d.2.2 i = .inr (.inr (.inl o))) : dm_rr d (.inl 0, i) = some (i, o) := by
  unfold dm_rr
  rw [dm_at_of h, Option.bind_some, e]
/-- what a bind answers -/
theorem bd_some {α β : Type} {o : Option α} {f : α → Option β} {b : β} (h : o.bind f = some b) : ∃ a, o = some a ∧ f a = some b := by
  cases o with
  | none => cases h
  | some a => exact ⟨a, rfl, h⟩
theorem if_some {α : Type} {c : Prop} [Decidable c] {o : Option α} {a : α} (h : (if c then o else none) = some a) : c ∧ o = some a := by
  by_cases hc : c
  · rw [if_pos hc] at h; exact ⟨hc, h⟩
  · rw [if_neg hc] at h; cases h
/-- fields -/
def dm_fl (d : dm_D) (q : am_G × Nat) (ci k : Nat) : Option am_v := (dm_ob d q).bind (fun o => if o.2.1 = ci then o.2.2[k]? else none)
/-- .. of a text constant: its bytes, its coder -/
def dm_ft : am_G × Nat → Nat → Option am_v
  | (.inl 2, t), 0 => if t < 22 then some (.inr (.inl 3, t)) else none
  | (.inl 2, t), 1 => if t < 22 then some (am_i 0) else none
  | _, _ => none
def dm_vi : am_v → Option Int32
  | .inl (.int x) => some x
  | _ => none
def dm_vr : am_v → Option (am_G × Nat)
  | .inr q => some q
  | _ => none
def dm_fi (d : dm_D) (q : am_G × Nat) (ci k : Nat) : Option Int32 := (dm_fl d q ci k).bind dm_vi
def dm_fr (d : dm_D) (q : am_G × Nat) (ci k : Nat) : Option (am_G × Nat) := (dm_fl d q ci k).bind dm_vr
/-- a String's -/
def dm_si (d : dm_D) (q : am_G × Nat) (k : Nat) : Option Int32 := ((dm_fl d q 13 k).or (dm_ft q k)).bind dm_vi
def dm_sr (d : dm_D) (q : am_G × Nat) (k : Nat) : Option (am_G × Nat) := ((dm_fl d q 13 k).or (dm_ft q k)).bind dm_vr
theorem dm_vi_some {v : am_v} {x : Int32} (h : dm_vi v = some x) : v = am_i x := by
  match v, h with
  | .inl (.int y), h => cases h; rfl
theorem dm_vr_some {v : am_v} {x : am_G × Nat} (h : dm_vr v = some x) : v = .inr x := by
  match v, h with
  | .inr y, h => cases h; rfl
theorem dm_fl_some {d : dm_D} {q : am_G × Nat} {ci k : Nat} {v : am_v} (h : dm_fl d q ci k = some v) : ∃ i fs, q = (.inl 0, i) ∧ i < d.1 ∧ d.2.2 i = .inl (ci, fs) ∧ fs[k]? = some v := by
  obtain ⟨o, h1, h2⟩ := bd_some h
  obtain ⟨h3, h4⟩ := if_some h2
  obtain ⟨i, cj, fs⟩ := o
  have h3 : cj = ci := h3
  subst h3
  obtain ⟨a, b, c⟩ := dm_ob_some h1
  exact ⟨i, fs, a, b, c, h4⟩
/-- a field is written -/
def dm_pu (d : dm_D) (q : am_G × Nat) (ci k : Nat) (w : am_v) : Option dm_D := (dm_ob d q).bind (fun o => if o.2.1 = ci ∧ k < o.2.2.length then some (dm_se d o.1 (.inl (ci, o.2.2.set k w))) else none)
theorem dm_pu_some {d d' : dm_D} {q : am_G × Nat} {ci k : Nat} {w : am_v} (h : dm_pu d q ci k w = some d') : ∃ i fs, q = (.inl 0, i) ∧ i < d.1 ∧ d.2.2 i = .inl (ci, fs) ∧ k < fs.length ∧ d' = dm_se d i (.inl (ci, fs.set k w)) := by
  obtain ⟨o, h1, h2⟩ := bd_some h
  obtain ⟨h3, h4⟩ := if_some h2
  obtain ⟨i, cj, fs⟩ := o
  obtain ⟨h3, h5⟩ : cj = ci ∧ k < fs.length := h3
  subst h3
  obtain ⟨a, b, c⟩ := dm_ob_some h1
  cases h4
  exact ⟨i, fs, a, b, c, h5, rfl⟩
/-- how long a row is -/
def dm_tl : am_G × Nat → Option Nat
  | (.inl 3, t) => if t < 22 then some (am_tx t).length else none
  | (.inl 4, 0) => some 0
  | _ => none
def dm_ln (X : dm_X) (d : dm_D) (q : am_G × Nat) : Option Int32 :=
  ((((dm_ar d q).bind (fun o => if o.2.1 < 5 then some o.2.2.1 else none)).or ((dm_rr d q).map (fun o => o.2.1))).or (if q = (.inl 4, 3) then some X.1 else dm_tl q)).map Int32.ofNat
/-- a number of a row -/
def dm_ai (d : dm_D) (q : am_G × Nat) (t : Nat) (i : Int32) : Option Int32 := (dm_ar d q).bind (fun o => if o.2.1 = t ∧ ib i o.2.2.1 then some (o.2.2.2 i.toNatClampNeg) else none)
def dm_li (X : dm_X) (d : dm_D) (q : am_G × Nat) (i : Int32) : Option Int32 := (dm_ai d q 0 i).or (if q = (.inl 4, 3) ∧ ib i X.1 then some (X.2 i.toNatClampNeg) else none)
def dm_tb : am_G × Nat → Int32 → Option Int32
  | (.inl 3, t), i => if t < 22 ∧ ib i (am_tx t).length then some ((am_tx t).getD i.toNatClampNeg 0) else none
  | (.inl 4, 1), i => if ib i 100 then some (dm_d1 i.toNatClampNeg) else none
  | (.inl 4, 2), i => if ib i 100 then some (dm_d10 i.toNatClampNeg) else none
  | _, _ => none
def dm_lb (d : dm_D) (q : am_G × Nat) (i : Int32) : Option Int32 := (dm_ai d q 1 i).or (dm_tb q i)
/-- a reference of a row -/
def dm_lr (d : dm_D) (q : am_G × Nat) (i : Int32) : Option (am_G × Nat) := (dm_rr d q).bind (fun o => if ib i o.2.1 then (o.2.2 i.toNatClampNeg).map (fun j => (.inl 0, j)) else none)
/-- a row is written -/
def dm_wi (d : dm_D) (q : am_G × Nat) (t : Nat) (i x : Int32) : Option dm_D := (dm_ar d q).bind (fun o => if o.2.1 = t ∧ ib i o.2.2.1 then some (dm_se d o.1 (.inr (.inl (t, o.2.2.1, upd o.2.2.2 i.toNatClampNeg x)))) else none)
def dm_wr (d : dm_D) (q : am_G × Nat) (i : Int32) (v : Option Nat) : Option dm_D := (dm_rr d q).bind (fun o => if ib i o.2.1 then some (dm_se d o.1 (.inr (.inr (.inl (o.2.1, va_up o.2.2 i.toNatClampNeg v))))) else none)
def dm_as (d : dm_D) (q : am_G × Nat) (i : Int32) (w : am_G × Nat) : Option dm_D := (dm_ar d w).bind (fun o => if o.2.1 = 0 then dm_wr d q i (some o.1) else none)
/-- a cell is made -/
def dm_mk (d : dm_D) (n : Nat) (c : dm_C) : Option dm_D := if d.2.1 + n + 1 ≤ dm_L then some (dm_nw d n c) else none
theorem dm_ai_some {d : dm_D} {q : am_G × Nat} {t : Nat} {i x : Int32} (h : dm_ai d q t i = some x) : ∃ j n f, q = (.inl 0, j) ∧ j < d.1 ∧ d.2.2 j = .inr (.inl (t, n, f)) ∧ ib i n ∧ x = f i.toNatClampNeg := by
  obtain ⟨o, h1, h2⟩ := bd_some h
  obtain ⟨h3, h4⟩ := if_some h2
  obtain ⟨j, u, n, f⟩ := o
  obtain ⟨h3, h5⟩ : u = t ∧ ib i n := h3
  subst h3
  obtain ⟨a, b, c⟩ := dm_ar_some h1
  cases h4
  exact ⟨j, n, f, a, b, c, h5, rfl⟩
theorem dm_lr_some {d : dm_D} {q : am_G × Nat} {i : Int32} {w : am_G × Nat} (h : dm_lr d q i = some w) : ∃ j n f k, q = (.inl 0, j) ∧ j < d.1 ∧ d.2.2 j = .inr (.inr (.inl (n, f))) ∧ ib i n ∧ f i.toNatClampNeg = some k ∧ w = (.inl 0, k) := by
  obtain ⟨o, h1, h2⟩ := bd_some h
  obtain ⟨h3, h4⟩ := if_some h2
  obtain ⟨j, n, f⟩ := o
  obtain ⟨a, b, c⟩ := dm_rr_some h1
  have h4 : (f i.toNatClampNeg).map (fun j => ((.inl 0, j) : am_G × Nat)) = some w := h4
  cases hk : f i.toNatClampNeg with
  | none => rw [hk] at h4; cases h4
  | some k => rw [hk] at h4; cases h4; exact ⟨j, n, f, k, a, b, c, h3, hk, rfl⟩
theorem dm_wi_some {d d' : dm_D} {q : am_G × Nat} {t : Nat} {i x : Int32} (h : dm_wi d q t i x = some d') : ∃ j n f, q = (.inl 0, j) ∧ j < d.1 ∧ d.2.2 j = .inr (.inl (t, n, f)) ∧ ib i n ∧ d' = dm_se d j (.inr (.inl (t, n, upd f i.toNatClampNeg x))) := by
  obtain ⟨o, h1, h2⟩ := bd_some h
  obtain ⟨h3, h4⟩ := if_some h2
  obtain ⟨j, u, n, f⟩ := o
  obtain ⟨h3, h5⟩ : u = t ∧ ib i n := h3
  subst h3
  obtain ⟨a, b, c⟩ := dm_ar_some h1
  cases h4
  exact ⟨j, n, f, a, b, c, h5, rfl⟩
theorem dm_wr_some {d d' : dm_D} {q : am_G × Nat} {i : Int32} {v : Option Nat} (h : dm_wr d q i v = some d') : ∃ j n f, q = (.inl 0, j) ∧ j < d.1 ∧ d.2.2 j = .inr (.inr (.inl (n, f))) ∧ ib i n ∧ d' = dm_se d j (.inr (.inr (.inl (n, va_up f i.toNatClampNeg v)))) := by
  obtain ⟨o, h1, h2⟩ := bd_some h
  obtain ⟨h3, h4⟩ := if_some h2
  obtain ⟨j, n, f⟩ := o
  obtain ⟨a, b, c⟩ := dm_rr_some h1
  cases h4
  exact ⟨j, n, f, a, b, c, h3, rfl⟩
theorem dm_or_some {α : Type} {a b : Option α} {x : α} (h : a.or b = some x) : a = some x ∨ (a = none ∧ b = some x) := by
  cases a with
  | none => exact Or.inr ⟨rfl, h⟩
  | some y => exact Or.inl h
theorem am_enc_o (ad : am_G → Nat → Nat) (i : Nat) : am_enc ad (dm_o i) = .ref (ad (.inl 0) i) := rfl
theorem dm_hole {ad : am_G → Nat → Nat} {D : va_G} {cA : Nat → ClassId} {h : am_H} {d : dm_D} {H : Heap} (hW : dm_WH ad D cA h d H) {i : Nat} {c : dm_C} (hc : ∀ g, c ≠ .inr (.inr (.inr g))) : ∀ (j : Nat) (g : am_G × Nat), j < (dm_se d i c).1 → (dm_se d i c).2.2 j = .inr (.inr (.inr g)) → am_ok g.1 g.2 ∧ ad g.1 g.2 = ad (.inl 0) j := by
  intro j g hj e
  have e : (if j = i then c else d.2.2 j) = .inr (.inr (.inr g)) := e
  by_cases hji : j = i
  · rw [if_pos hji] at e
    exact absurd e (hc g)
  · rw [if_neg hji] at e
    exact hW.2.2.2 j g hj e
theorem dm_holn {ad : am_G → Nat → Nat} {D : va_G} {cA : Nat → ClassId} {h : am_H} {d : dm_D} {H : Heap} (hW : dm_WH ad D cA h d H) {n : Nat} {c : dm_C} (hc : ∀ g, c ≠ .inr (.inr (.inr g))) : ∀ (j : Nat) (g : am_G × Nat), j < (dm_nw d n c).1 → (dm_nw d n c).2.2 j = .inr (.inr (.inr g)) → am_ok g.1 g.2 ∧ ad g.1 g.2 = ad (.inl 0) j := by
  intro j g hj e
  have hj : j < d.1 + 1 := hj
  have e : (if j = d.1 then c else d.2.2 j) = .inr (.inr (.inr g)) := e
  by_cases hji : j = d.1
  · rw [if_pos hji] at e
    exact absurd e (hc g)
  · rw [if_neg hji] at e
    exact hW.2.2.2 j g (by omega) e
/-- what a write leaves, or a new cell -/
theorem hsz_le {p : Program} {l : Launch} {e : Env} {R : Room} {s : State} {m : MethodId} {args : Array Value} {below : List Frame} {meth : Method} {c : Code} {H : Heap} {locs : List Loc} {cs ss : Nat} {Q : State → Prop} {g : JFrame} (kk : hsz H ≤ hsz s.heap + cs + ss → H.size ≤ s.heap.size + cs → W p l e R s m args below meth c H locs cs ss Q g) : W p l e R s m args below meth c H locs cs ss Q g := by
  intro T hT X
  have := W_exact (p := p) (l := l) (e := e) (R := R) (s := s) (m := m) (args := args) (below := below) (meth := meth) (c := c) (H := H) (locs := locs) (cs := cs) (ss := ss) (Q := fun _ => True) (g := g)
  have hb : T.slotsTrue = true := X.book
  have h0 : s.slotsTrue = true := by
    have h := X.room
    simp only [State.hasRoom, Bool.and_eq_true] at h
    exact h.2
  have b1 : T.slotsUsed = T.heap.foldl (fun n c => n + c.slots.size) 0 := by simpa [State.slotsTrue] using hb
  have b2 : s.slotsUsed = s.heap.foldl (fun n c => n + c.slots.size) 0 := by simpa [State.slotsTrue] using h0
  have e3 := X.heapSize
  have e4 := X.used
  subst hT
  exact kk (by unfold hsz; omega) e3 T rfl X
