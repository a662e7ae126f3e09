/-! AN ABSTRACT MACHINE over the whole world of this claim: cells have names (a group and a number), memory is a function; the rows of the kit are hidden behind one judgement am_V. -/
abbrev am_G : Type := Nat ⊕ Nat
/-- values: the machine's own, or a cell by its name -/
abbrev am_v : Type := Value ⊕ (am_G × Nat)
abbrev am_i (x : Int32) : am_v := .inl (.int x)
abbrev am_l (x : Int64) : am_v := .inl (.long x)
abbrev am_r (g : am_G) (o : Nat) : am_v := .inr (g, o)
/-- memory: numbers, longs, the plates that the row 'past' holds -/
abbrev am_H : Type := (am_G → Nat → Nat → Int32) × (am_G → Nat → Nat → Int64) × (Nat → Nat)
/-- more that a body may know: of its start, its code, where the world begins -/
abbrev am_tb : Type := Option (State → Code → (Nat → Prop) → Prop)
abbrev am_gM : am_G := .inl 0
abbrev am_gX : am_G := .inl 1
abbrev am_gP (k : Nat) : am_G := .inr k
/-- what a cell is: an object of a class (its number in vwCl), or a row: its type (0 int, 1 byte, 2 boolean, 3 long, 4 plates) and length -/
def am_shp : am_G → Nat → Nat ⊕ (Nat × Nat)
  | .inl 0, _ => .inl 0
  | .inl _, 0 => .inl 11
  | .inl _, 1 => .inr (4, 6)
  | .inl _, 2 => .inl 1
  | .inl _, 3 => .inl 3
  | .inl _, 4 => .inr (0, 21)
  | .inl _, 5 => .inr (0, 21)
  | .inl _, 6 => .inr (2, 21)
  | .inl _, 7 => .inr (0, 6)
  | .inl _, 8 => .inl 10
  | .inl _, 9 => .inr (1, 500)
  | .inl _, 10 => .inl 9
  | .inl _, 11 => .inl 8
  | .inl _, 12 => .inr (0, 60)
  | .inl _, 13 => .inr (0, 60)
  | .inl _, 14 => .inr (0, 60)
  | .inl _, 15 => .inr (0, 2)
  | .inl _, 16 => .inl 6
  | .inl _, _ => .inr (1, 294)
  | .inr _, 0 => .inl 5
  | .inr _, 1 => .inl 0
  | .inr _, 2 => .inr (0, 8)
  | .inr _, 3 => .inr (0, 8)
  | .inr _, 4 => .inr (0, 8)
  | .inr _, 5 => .inr (2, 8)
  | .inr _, 6 => .inl 4
  | .inr _, 7 => .inr (0, 20)
  | .inr _, 8 => .inr (2, 20)
  | .inr _, 9 => .inr (0, 20)
  | .inr _, 10 => .inr (0, 26)
  | .inr _, 11 => .inl 2
  | .inr _, 12 => .inr (0, 48)
  | .inr _, 13 => .inr (0, 6)
  | .inr _, 14 => .inr (0, 6)
  | .inr _, 15 => .inr (0, 6)
  | .inr _, 16 => .inl 1
  | .inr _, 17 => .inl 7
  | .inr _, 18 => .inr (0, 44)
  | .inr _, _ => .inr (0, 44)
/-- which cells there are -/
def am_ok : am_G → Nat → Prop
  | .inl 1, o => o < 18
  | .inl _, _ => False
  | .inr k, o => k < 10 ∧ o < 20
/-- their places in the world's list, and back -/
def am_rk : am_G → Nat → Nat
  | .inl _, o => o
  | .inr k, o => 18 + (20 * k + o)
def am_un (r : Nat) : am_G × Nat := if r < 18 then (.inl 1, r) else (.inr ((r - 18) / 20), (r - 18) % 20)
theorem am_rk_lt {g : am_G} {o : Nat} (h : am_ok g o) : am_rk g o < 218 := by
  match g, h with
  | .inl 0, h => exact h.elim
  | .inl 1, h => exact Nat.lt_trans (show o < 18 from h) (by decide)
  | .inl (n + 2), h => exact h.elim
  | .inr k, h => obtain ⟨h1, h2⟩ : k < 10 ∧ o < 20 := h; show 18 + (20 * k + o) < 218; omega
theorem am_un_rk {g : am_G} {o : Nat} (h : am_ok g o) : am_un (am_rk g o) = (g, o) := by
  match g, h with
  | .inl 0, h => exact h.elim
  | .inl 1, h => have h : o < 18 := h; show am_un o = _; unfold am_un; rw [if_pos h]
  | .inl (n + 2), h => exact h.elim
  | .inr k, h =>
    obtain ⟨h1, h2⟩ : k < 10 ∧ o < 20 := h
    show am_un (18 + (20 * k + o)) = _
    unfold am_un
    rw [if_neg (by omega), show 18 + (20 * k + o) - 18 = 20 * k + o by omega, show (20 * k + o) / 20 = k by omega, show (20 * k + o) % 20 = o by omega]
/-- the kinds of a class's fields: 0 a number, 1 a cell, 2 a long -/
def am_fk : Nat → List Nat
  | 0 => [1, 1, 1, 1, 0]
  | 1 => [0, 0, 0, 0]
  | 2 => [1, 1, 1, 1, 0]
  | 3 => [1, 1, 1, 1, 0]
  | 4 => [1, 1, 1, 1, 0]
  | 5 => [1, 1, 1, 1, 1, 0]
  | 6 => [1, 0]
  | 7 => [1, 1, 0]
  | 8 => [1, 1, 1, 1, 0, 0, 0]
  | 9 => [0, 0, 0]
  | 10 => [1, 0, 0, 0, 0, 0, 0, 0]
  | 11 => [1, 1, 1, 1, 0, 1, 0, 1, 1, 1, 1, 1, 1]
  | _ => []
/-- where the fields that hold cells point to: it never changes -/
def am_tg : am_G → Nat → Nat → am_G × Nat
  | .inl _, 0, 0 => (.inr 0, 0)
  | .inl _, 0, 1 => (.inr 1, 0)
  | .inl _, 0, 2 => (.inr 2, 0)
  | .inl _, 0, 3 => (.inr 3, 0)
  | .inl _, 0, 5 => (.inl 1, 1)
  | .inl _, 0, 7 => (.inl 1, 2)
  | .inl _, 0, 8 => (.inl 1, 3)
  | .inl _, 0, 9 => (.inl 1, 8)
  | .inl _, 0, 10 => (.inl 1, 10)
  | .inl _, 0, 11 => (.inl 1, 11)
  | .inl _, 0, _ => (.inl 1, 16)
  | .inl _, 3, j => (.inl 1, 4 + j)
  | .inl _, 8, _ => (.inl 1, 9)
  | .inl _, 11, j => (.inl 1, 12 + j)
  | .inl _, _, _ => (.inl 1, 17)
  | .inr k, 0, 0 => (.inr k, 1)
  | .inr k, 0, 1 => (.inr k, 6)
  | .inr k, 0, 2 => (.inr k, 11)
  | .inr k, 0, 3 => (.inr k, 16)
  | .inr k, 0, _ => (.inr k, 17)
  | .inr k, 1, j => (.inr k, 2 + j)
  | .inr k, 6, j => (.inr k, 7 + j)
  | .inr k, 11, j => (.inr k, 12 + j)
  | .inr k, _, j => (.inr k, 18 + j)
section AMW
variable (ad : am_G → Nat → Nat) (cA : Nat → ClassId) (h : am_H)
def am_enc : am_v → Value
  | .inl v => v
  | .inr q => .ref (ad q.1 q.2)
def am_fv (g : am_G) (o k : Nat) : Nat → Value
  | 0 => .int (h.1 g o k)
  | 1 => .ref (ad (am_tg g o k).1 (am_tg g o k).2)
  | _ => .long (h.2.1 g o k)
def am_fl (g : am_G) (o ci : Nat) : List Value := (am_fk ci).mapIdx (fun k t => am_fv ad h g o k t)
def am_ar (g : am_G) (o : Nat) : Nat → ((Nat → Int32) ⊕ (Nat → Int64) ⊕ (Nat → UInt32) ⊕ (Nat → UInt64) ⊕ (Nat → Option Nat))
  | 3 => .inr (.inl (h.2.1 g o))
  | 4 => .inr (.inr (.inr (.inr (fun i => some (ad (.inr (h.2.2 i)) 0)))))
  | _ => .inl (h.1 g o)
def am_ce (g : am_G) (o : Nat) : va_E := match am_shp g o with
  | .inl ci => .inr (ci, am_fl ad h g o ci)
  | .inr q => .inl (cA q.1, q.2, am_ar ad h g o q.1)
def am_cr (r : Nat) : Nat × va_E := (ad (am_un r).1 (am_un r).2, am_ce ad cA h (am_un r).1 (am_un r).2)
def am_ws : va_W := (List.range 218).map (am_cr ad cA h)
end AMW
theorem am_ws_at (ad : am_G → Nat → Nat) (cA : Nat → ClassId) (h : am_H) {g : am_G} {o : Nat} (hv : am_ok g o) : (am_ws ad cA h)[am_rk g o]? = some (ad g o, am_ce ad cA h g o) := by
  have h1 := am_rk_lt hv
  rw [am_ws, List.getElem?_map, List.getElem?_range h1]
  show some (am_cr ad cA h (am_rk g o)) = _
  rw [am_cr, am_un_rk hv]
theorem am_ce_ne (ad : am_G → Nat → Nat) (cA : Nat → ClassId) (h h' : am_H) {g : am_G} {o : Nat} (h1 : h'.1 g o = h.1 g o) (h2 : h'.2.1 g o = h.2.1 g o) (h3 : h'.2.2 = h.2.2 ∨ ∀ n, am_shp g o ≠ .inr (4, n)) : am_ce ad cA h' g o = am_ce ad cA h g o := by
  unfold am_ce
  cases hs : am_shp g o with
  | inl ci =>
    show (Sum.inr _ : va_E) = Sum.inr _
    have e : am_fl ad h' g o ci = am_fl ad h g o ci := by
      unfold am_fl
      congr 1
      funext k t
      match t with
      | 0 => show Value.int (h'.1 g o k) = Value.int (h.1 g o k); rw [h1]
      | 1 => rfl
      | n + 2 => show Value.long (h'.2.1 g o k) = Value.long (h.2.1 g o k); rw [h2]
    rw [e]
  | inr q =>
    obtain ⟨t, n⟩ := q
    have e : am_ar ad h' g o t = am_ar ad h g o t := by
      match t with
      | 0 => show Sum.inl (h'.1 g o) = Sum.inl (h.1 g o); rw [h1]
      | 1 => show Sum.inl (h'.1 g o) = Sum.inl (h.1 g o); rw [h1]
      | 2 => show Sum.inl (h'.1 g o) = Sum.inl (h.1 g o); rw [h1]
      | 3 => show Sum.inr (Sum.inl (h'.2.1 g o)) = Sum.inr (Sum.inl (h.2.1 g o)); rw [h2]
      | 4 =>
        rcases h3 with h3 | h3
        · show (Sum.inr (Sum.inr (Sum.inr (Sum.inr (fun i => some (ad (.inr (h'.2.2 i)) 0))))) : ((Nat → Int32) ⊕ (Nat → Int64) ⊕ (Nat → UInt32) ⊕ (Nat → UInt64) ⊕ (Nat → Option Nat))) = Sum.inr (Sum.inr (Sum.inr (Sum.inr (fun i => some (ad (.inr (h.2.2 i)) 0)))))
          rw [h3]
        · exact absurd hs (h3 n)
      | n + 5 => show Sum.inl (h'.1 g o) = Sum.inl (h.1 g o); rw [h1]
    show (Sum.inl _ : va_E) = Sum.inl _
    rw [e]

theorem am_rk_un {r : Nat} (h : r < 218) : am_ok (am_un r).1 (am_un r).2 ∧ am_rk (am_un r).1 (am_un r).2 = r := by
  unfold am_un
  by_cases h1 : r < 18
  · rw [if_pos h1]; exact ⟨h1, rfl⟩
  · rw [if_neg h1]
    refine ⟨?_, ?_⟩
    · show (r - 18) / 20 < 10 ∧ (r - 18) % 20 < 20; omega
    · show 18 + (20 * ((r - 18) / 20) + (r - 18) % 20) = r; omega
theorem am_ws_set (ad : am_G → Nat → Nat) (cA : Nat → ClassId) (h h' : am_H) {g : am_G} {o : Nat} (hv : am_ok g o) (hx : ∀ g' o', am_ok g' o' → (g', o') ≠ (g, o) → am_ce ad cA h' g' o' = am_ce ad cA h g' o') :
    (am_ws ad cA h).set (am_rk g o) (ad g o, am_ce ad cA h' g o) = am_ws ad cA h' := by
  have hlt := am_rk_lt hv
  apply List.ext_getElem?
  intro i
  by_cases hi : i = am_rk g o
  · subst hi
    rw [List.getElem?_set_self (by simp [am_ws]; exact hlt), am_ws_at ad cA h' hv]
  · rw [List.getElem?_set_ne (Ne.symm hi)]
    by_cases hl : i < 218
    · obtain ⟨h1, h2⟩ := am_rk_un hl
      have e1 := am_ws_at ad cA h h1
      have e2 := am_ws_at ad cA h' h1
      rw [h2] at e1 e2
      rw [e1, e2, hx _ _ h1 (fun e => hi (by rw [← h2, congrArg (fun q => am_rk q.1 q.2) e]))]
    · rw [am_ws, am_ws, List.getElem?_eq_none (by simp; omega), List.getElem?_eq_none (by simp; omega)]
/-- a number is written: a field's or a row's -/
def am_u (h : am_H) (g : am_G) (o i : Nat) (v : Int32) : am_H := (fun g' o' i' => if g' = g ∧ o' = o ∧ i' = i then v else h.1 g' o' i', h.2)
def am_ul (h : am_H) (g : am_G) (o i : Nat) (v : Int64) : am_H := (h.1, fun g' o' i' => if g' = g ∧ o' = o ∧ i' = i then v else h.2.1 g' o' i', h.2.2)
def am_up (h : am_H) (i k : Nat) : am_H := (h.1, h.2.1, fun j => if j = i then k else h.2.2 j)
theorem am_u_row {h : am_H} {g g' : am_G} {o o' i : Nat} {v : Int32} (n : (g', o') ≠ (g, o)) : (am_u h g o i v).1 g' o' = h.1 g' o' := by
  funext i'
  show (if g' = g ∧ o' = o ∧ i' = i then v else h.1 g' o' i') = _
  rw [if_neg (fun q => n (by rw [q.1, q.2.1]))]
theorem am_ul_row {h : am_H} {g g' : am_G} {o o' i : Nat} {v : Int64} (n : (g', o') ≠ (g, o)) : (am_ul h g o i v).2.1 g' o' = h.2.1 g' o' := by
  funext i'
  show (if g' = g ∧ o' = o ∧ i' = i then v else h.2.1 g' o' i') = _
  rw [if_neg (fun q => n (by rw [q.1, q.2.1]))]
theorem am_u_self {h : am_H} {g : am_G} {o i : Nat} {v : Int32} : (am_u h g o i v).1 g o = upd (h.1 g o) i v := by
  funext i'
  show (if g = g ∧ o = o ∧ i' = i then v else h.1 g o i') = if i' = i then v else h.1 g o i'
  by_cases e : i' = i
  · rw [if_pos ⟨rfl, rfl, e⟩, if_pos e]
  · rw [if_neg (fun q => e q.2.2), if_neg e]
theorem am_ul_self {h : am_H} {g : am_G} {o i : Nat} {v : Int64} : (am_ul h g o i v).2.1 g o = vp_updL (h.2.1 g o) i v := by
  funext i'
  show (if g = g ∧ o = o ∧ i' = i then v else h.2.1 g o i') = if i' = i then v else h.2.1 g o i'
  by_cases e : i' = i
  · rw [if_pos ⟨rfl, rfl, e⟩, if_pos e]
  · rw [if_neg (fun q => e q.2.2), if_neg e]
theorem am_fl_at (ad : am_G → Nat → Nat) (h : am_H) (g : am_G) (o ci : Nat) {k t : Nat} (hk : (am_fk ci)[k]? = some t) : (am_fl ad h g o ci)[k]? = some (am_fv ad h g o k t) := by
  unfold am_fl
  rw [List.getElem?_mapIdx, hk]
  rfl
theorem am_fl_len (ad : am_G → Nat → Nat) (h : am_H) (g : am_G) (o ci : Nat) : (am_fl ad h g o ci).length = (am_fk ci).length := by unfold am_fl; simp
theorem am_fl_u (ad : am_G → Nat → Nat) (h : am_H) (g : am_G) (o ci : Nat) {k : Nat} (hk : (am_fk ci)[k]? = some 0) (v : Int32) : am_fl ad (am_u h g o k v) g o ci = (am_fl ad h g o ci).set k (.int v) := by
  have hl : k < (am_fk ci).length := (List.getElem?_eq_some_iff.mp hk).1
  apply List.ext_getElem?
  intro j
  by_cases hj : j = k
  · subst hj
    rw [List.getElem?_set_self (by rw [am_fl_len]; exact hl), am_fl_at ad _ g o ci hk]
    show some (Value.int ((am_u h g o j v).1 g o j)) = _
    rw [am_u_self]
    simp [upd]
  · rw [List.getElem?_set_ne (Ne.symm hj)]
    cases ht : (am_fk ci)[j]? with
    | none =>
      have : (am_fk ci).length ≤ j := by simpa using ht
      rw [List.getElem?_eq_none (by rw [am_fl_len]; exact this), List.getElem?_eq_none (by rw [am_fl_len]; exact this)]
    | some t =>
      rw [am_fl_at ad _ g o ci ht, am_fl_at ad _ g o ci ht]
      match t with
      | 0 => show some (Value.int ((am_u h g o k v).1 g o j)) = some (Value.int (h.1 g o j)); rw [am_u_self]; simp [upd, hj]
      | 1 => rfl
      | n + 2 => rfl
theorem am_fl_ul (ad : am_G → Nat → Nat) (h : am_H) (g : am_G) (o ci : Nat) {k : Nat} (hk : (am_fk ci)[k]? = some 2) (v : Int64) : am_fl ad (am_ul h g o k v) g o ci = (am_fl ad h g o ci).set k (.long v) := by
  have hl : k < (am_fk ci).length := (List.getElem?_eq_some_iff.mp hk).1
  apply List.ext_getElem?
  intro j
  by_cases hj : j = k
  · subst hj
    rw [List.getElem?_set_self (by rw [am_fl_len]; exact hl), am_fl_at ad _ g o ci hk]
    show some (Value.long ((am_ul h g o j v).2.1 g o j)) = _
    rw [am_ul_self]
    simp [vp_updL]
  · rw [List.getElem?_set_ne (Ne.symm hj)]
    cases ht : (am_fk ci)[j]? with
    | none =>
      have : (am_fk ci).length ≤ j := by simpa using ht
      rw [List.getElem?_eq_none (by rw [am_fl_len]; exact this), List.getElem?_eq_none (by rw [am_fl_len]; exact this)]
    | some t =>
      rw [am_fl_at ad _ g o ci ht, am_fl_at ad _ g o ci ht]
      match t with
      | 0 => rfl
      | 1 => rfl
      | n + 2 => show some (Value.long ((am_ul h g o k v).2.1 g o j)) = some (Value.long (h.2.1 g o j)); rw [am_ul_self]; simp [vp_updL, hj]
/-- the world in a heap -/
def am_WH (lo : Nat → Prop) (ad : am_G → Nat → Nat) (D : va_G) (cA : Nat → ClassId) (h : am_H) (H : Heap) : Prop := va_P D vwCl (am_ws ad cA h) H ∧ va_D lo (am_ws ad cA h)
abbrev am_ty (cA : Nat → ClassId) : List (ClassId × FieldType) := [(cA 0, .int), (cA 1, .byte), (cA 2, .boolean), (cA 3, .object "java/lang/Object"), (cA 4, .object RX5)]
theorem am_nest_warm {s U : State} (hW : s.WarmedH U.vm) (hN : ∀ w ∈ am_nT, va_Nw w s) : ∀ w ∈ am_nT, va_Nw w U := by
  intro w hw
  have h1 := hN w hw
  have h2 : am_nest w = true := (List.mem_filter.mp hw).2
  cases w with
  | fieldLinkNest a i b n d h => exact va_Nw.warmF hW h1
  | methodLinkNest a i x h => exact va_Nw.warmM hW h1
  | _ => exact absurd h2 (by simp [am_nest])
theorem am_good {y : MethodName} {b : ByteArray} {n : Nat} {r : Option FieldType} {x : MethodName} {b' : ByteArray} {n' : Nat} {r' : Option FieldType} (hc : Cond.code y b n r ∈ am_gT) : GoodIn (.code x b' n' r' :: am_gT) (.code y b n r :: am_gT) := by
  intro w hw
  have hm : w ∈ am_gT := by
    rcases List.mem_cons.mp hw with e | e
    · rw [e]; exact hc
    · exact e
  exact ⟨List.mem_cons_of_mem _ hm, good_of_word (List.mem_filter.mp hm).2⟩
theorem am_good0 {y : MethodName} {b : ByteArray} {n : Nat} {r : Option FieldType} (hc : Cond.code y b n r ∈ am_gT) : GoodIn am_gT (.code y b n r :: am_gT) := by
  intro w hw
  have hm : w ∈ am_gT := by
    rcases List.mem_cons.mp hw with e | e
    · rw [e]; exact hc
    · exact e
  exact ⟨hm, good_of_word (List.mem_filter.mp hm).2⟩
/-- the texts that isWord is asked for: by the class and entry, which text (of 15) -/
def am_sT : List (String × Nat × String × Nat) := [("CurvedNames$TextReader", 43, "arc", 0), ("CurvedNames$TextReader", 57, "name", 1), ("CurvedNames$TextReader", 66, "wide", 2), ("CurvedNames$TextReader", 71, "flourish", 3), ("CurvedNames$TextReader", 81, "seed", 4), ("CurvedNames$TextReader", 91, "sharp", 5), ("CurvedNames$TextReader", 96, "margin", 6), ("CurvedNames$TextReader", 121, "right", 7), ("CurvedNames$TextReader", 126, "hard", 8), ("CurvedNamesLaw$World", 39, "", 9), ("CurvedNamesLaw$World", 61, "arc ", 10), ("CurvedNamesLaw$World", 70, " ", 11), ("CurvedNamesLaw$World", 72, " right", 12), ("CurvedNamesLaw$World", 74, " hard", 13), ("CurvedNamesLaw$World", 76, " ;\n", 14), ("CurvedNamesLaw$World", 84, "name ", 15), ("CurvedNamesLaw$World", 89, ";", 16), ("CurvedNamesLaw$World", 91, "wide ", 17), ("CurvedNamesLaw$World", 93, "flourish ", 18), ("CurvedNamesLaw$World", 95, "seed ", 19), ("CurvedNamesLaw$World", 97, "sharp ", 20), ("CurvedNamesLaw$World", 99, "margin ", 21)]
def am_tx : Nat → List Int32
  | 0 => [97, 114, 99]
  | 1 => [110, 97, 109, 101]
  | 2 => [119, 105, 100, 101]
  | 3 => [102, 108, 111, 117, 114, 105, 115, 104]
  | 4 => [115, 101, 101, 100]
  | 5 => [115, 104, 97, 114, 112]
  | 6 => [109, 97, 114, 103, 105, 110]
  | 7 => [114, 105, 103, 104, 116]
  | 8 => [104, 97, 114, 100]
  | 9 => []
  | 10 => [97, 114, 99, 32]
  | 11 => [32]
  | 12 => [32, 114, 105, 103, 104, 116]
  | 13 => [32, 104, 97, 114, 100]
  | 14 => [32, 59, 10]
  | 15 => [110, 97, 109, 101, 32]
  | 16 => [59]
  | 17 => [119, 105, 100, 101, 32]
  | 18 => [102, 108, 111, 117, 114, 105, 115, 104, 32]
  | 19 => [115, 101, 101, 100, 32]
  | 20 => [115, 104, 97, 114, 112, 32]
  | _ => [109, 97, 114, 103, 105, 110, 32]
def am_sl : List Nat := (List.range 22).map (fun i => (am_tx i).length)
def am_sb : List (List Int32) := (List.range 22).map am_tx
/-- what stays of the start, whatever runs: the tables, texts, two statics -/
def am_E (lo : Nat → Prop) (ad : am_G → Nat → Nat) (D : va_G) (cA : Nat → ClassId) (s : State) : Prop :=
  va_K D vwCl (am_ty cA) s ∧ (∀ w ∈ am_nT, va_Nw w s) ∧ (∀ q, s.heap.size ≤ q → lo q) ∧
  vk_S 22 am_sl am_sb (ad (.inl 2)) (ad (.inl 3)) lo s s.heap ∧ va_Z "java/lang/String" "COMPACT_STRINGS" "Z" (.int 1) lo s s.heap ∧
  (∀ q ∈ am_sT, vk_R q.1 q.2.1 q.2.2.1 (ad (.inl 2) q.2.2.2) s) ∧ va_Zq "jdk/internal/util/Preconditions" "SIOOBE_FORMATTER" "Ljava/util/function/BiFunction;" lo s s.heap
theorem am_E_call {lo : Nat → Prop} {ad : am_G → Nat → Nat} {D : va_G} {cA : Nat → ClassId} {s U : State} {H : Heap} {locs : List Loc} (hE : am_E lo ad D cA s) (hS : va_S lo s.heap H locs) (hU : U.heap = H) (hW : s.WarmedH U.vm) : am_E lo ad D cA U := by
  obtain ⟨e1, e2, e3, e6, e7, e8, e12⟩ := hE
  have ha := hW.alike
  subst hU
  exact ⟨va_K.moved ha e1, am_nest_warm hW e2, fun q hq => e3 q (Nat.le_trans hS.1 hq), (e6.kept hS.2.1).moved ha, (e7.kept hS.2.1).moved ha, fun q hq => (e8 q hq).warm hW, (e12.kept hS.2.1).moved ha⟩
theorem am_E_blind {lo : Nat → Prop} {ad : am_G → Nat → Nat} {D : va_G} {cA : Nat → ClassId} {U : State} (hE : am_E lo ad D cA U) (g : JFrame) (mk : MethodId) (a : Array Value) : am_E lo ad D cA (U.calling g mk a) := by
  obtain ⟨e1, e2, e3, e6, e7, e8, e12⟩ := hE
  have hr : U.vm.Alike (U.calling g mk a).vm := Vm.Alike.refl U.vm
  exact ⟨va_K.moved hr e1, fun w hw => va_Nw.same (u := U) (U := U.calling g mk a) (by
      have h2 : am_nest w = true := (List.mem_filter.mp hw).2
      cases w <;> first | rfl | exact absurd h2 (by simp [am_nest])) rfl (e2 w hw), e3, e6.moved hr, e7.moved hr, fun q hq => (e8 q hq).same rfl, e12.moved hr⟩
/-- .. seen with a smaller set of own cells -/
theorem am_E_narrow {lo lo' : Nat → Prop} {ad : am_G → Nat → Nat} {D : va_G} {cA : Nat → ClassId} {s : State} (hE : am_E lo ad D cA s) (h : ∀ q, lo' q → lo q) (h2 : ∀ q, s.heap.size ≤ q → lo' q) : am_E lo' ad D cA s := by
  obtain ⟨e1, e2, e3, e6, e7, e8, e12⟩ := hE
  exact ⟨e1, e2, h2, e6.narrow h, e7.narrow h, e8, e12.narrow h⟩
/-- locals: what is known of them -/
def am_L (ad : am_G → Nat → Nat) (nL : Nat) (A : List (Option am_v)) (ls : Array Slot) : Prop := ls.size = nL ∧ lv_wf ls ∧ ∀ (i : Nat) (v : am_v), A[i]? = some (some v) → ls[i]? = some (.val (am_enc ad v))
/-- what a method's body stands on -/
def am_F (own : String) (cc : ByteArray) (nL : Nat) (ret : Option FieldType) (fr lc mc ms : Nat) (tb : am_tb) (p : Program) (l : Launch) (R : Room) (s : State) (m : MethodId) (args : Array Value) (meth : Method) (c : Code) (lo : Nat → Prop) (ad : am_G → Nat → Nat) (D : va_G) (cA : Nat → ClassId) : Prop :=
  p.tables.exec = Jvm.exec ∧ c.code = cc ∧ c.maxLocals = nL ∧ s.vm.findClass own = some m.cls ∧ (∀ w ∈ am_gT, w.before args s = true) ∧ am_E lo ad D cA s ∧ meth.sig.returnType = ret ∧ meth.locks = false ∧ l.flags = flags0 ∧
  fr ≤ R.frames ∧ lc ≤ R.locals ∧ mc ≤ R.cells ∧ ms ≤ R.slots ∧ ∀ t, tb = some t → t s c lo
/-- THE JUDGEMENT: wherever the machine stands at pc with locals A, stack st and memory h, it comes to its goal Z, if Z is reached from all ends Tm -/
def am_V (own : String) (cc : ByteArray) (nL : Nat) (ret : Option FieldType) (fr lc mc ms : Nat) (tb : am_tb) (Tm : Nat → List am_v → am_H → Prop) (cs ss pc : Nat) (A : List (Option am_v)) (st : List am_v) (h : am_H) : Prop :=
  ∀ (p : Program) (l : Launch) (e : Env) (R : Room) (s : State) (m : MethodId) (args : Array Value) (below : List Frame) (meth : Method) (c : Code) (lo : Nat → Prop) (ad : am_G → Nat → Nat) (D : va_G) (cA : Nat → ClassId) (Z : State → Prop),
    am_F own cc nL ret fr lc mc ms tb p l R s m args meth c lo ad D cA →
    (∀ (pc' : Nat) (st' : List am_v) (h' : am_H) (cs' ss' : Nat) (H' : Heap) (locs' : List Loc) (ls' : Array Slot), Tm pc' st' h' → am_WH lo ad D cA h' H' → va_S lo s.heap H' locs' → cs' ≤ mc → ss' ≤ ms → ls'.size = nL → W p l e R s m args below meth c H' locs' cs' ss' Z (F0 m pc' ls' (st'.map (am_enc ad)))) →
    cs ≤ mc → ss ≤ ms →
    ∀ (H : Heap) (locs : List Loc) (ls : Array Slot), am_WH lo ad D cA h H → va_S lo s.heap H locs → am_L ad nL A ls → W p l e R s m args below meth c H locs cs ss Z (F0 m pc ls (st.map (am_enc ad)))
theorem am_done {own : String} {cc : ByteArray} {nL : Nat} {ret : Option FieldType} {fr lc mc ms : Nat} {tb : am_tb} {Tm : Nat → List am_v → am_H → Prop} {cs ss pc : Nat} {A : List (Option am_v)} {st : List am_v} {h : am_H} (ht : Tm pc st h) : am_V own cc nL ret fr lc mc ms tb Tm cs ss pc A st h :=
  fun _ _ _ _ _ _ _ _ _ _ _ _ _ _ _ _ hT h1 h2 _ _ _ hP hS hL => hT _ _ _ _ _ _ _ _ ht hP hS h1 h2 hL.1
/-- the ends of a method that returns -/
def am_RK (cc : ByteArray) (ret : Option FieldType) (pc : Nat) (v : Option am_v) : Prop :=
  (∃ x ty, v = some (am_i x) ∧ ret = some ty ∧ narrow ty (.int x) = .int x ∧ decode cc pc = .ok (.ireturn, 1)) ∨
  (v = none ∧ ret = none ∧ decode cc pc = .ok (.return_, 1)) ∨
  (∃ x, v = some (.inl (.double x)) ∧ ret = some .double ∧ decode cc pc = .ok (.dreturn, 1)) ∨
  (∃ x, v = some (.inl (.float x)) ∧ ret = some .float ∧ decode cc pc = .ok (.freturn, 1))
def am_Tm (cc : ByteArray) (ret : Option FieldType) (Q : Option am_v → am_H → Prop) : Nat → List am_v → am_H → Prop := fun pc st h => ∃ v : Option am_v, am_RK cc ret pc v ∧ st = v.toList ∧ Q v h
/-- a method's start, and its end -/
def am_Pc (as : List am_v) (h : am_H) (lo : Nat → Prop) (ad : am_G → Nat → Nat) (D : va_G) (cA : Nat → ClassId) : Array Value → State → Prop := va_Pc (as.map (am_enc ad)) (fun U => am_WH lo ad D cA h U.heap ∧ am_E lo ad D cA U)
def am_Qc (Q : Option am_v → am_H → Prop) (lo : Nat → Prop) (ad : am_G → Nat → Nat) (D : va_G) (cA : Nat → ClassId) : Array Value → State → Outcome → State → Prop := fun _ st oc t => (∃ (v : Option am_v) (h' : am_H), oc = .returned (v.map (am_enc ad)) ∧ Q v h' ∧ am_WH lo ad D cA h' t.heap) ∧ va_F lo st t
/-- A CONTRACT: called with as over the memory h, y returns v over h' with Q v h' -/
def am_M (y : MethodName) (bs : ByteArray) (nL : Nat) (ret : Option FieldType) (fr lc mc ms : Nat) (as : List am_v) (h : am_H) (Q : Option am_v → am_H → Prop) : Prop :=
  ∀ (l : Launch) (lo : Nat → Prop) (ad : am_G → Nat → Nat) (D : va_G) (cA : Nat → ClassId), l.flags = flags0 → Met l y (.code y bs nL ret :: am_gT) { frames := fr, cells := mc, slots := ms, locals := lc } (am_Pc as h lo ad D cA) (am_Qc Q lo ad D cA) mc ms lo
theorem am_blind (as : List am_v) (h : am_H) (lo : Nat → Prop) (ad : am_G → Nat → Nat) (D : va_G) (cA : Nat → ClassId) : FrameBlind (am_Pc as h lo ad D cA) := fun a U g mk q => ⟨q.1, q.2.1, am_E_blind q.2.2 g mk a⟩
/-- the locals at the entry -/
def am_A0 : List am_v → List (Option am_v)
  | [] => []
  | .inl (.long x) :: t => some (.inl (.long x)) :: none :: am_A0 t
  | .inl (.double x) :: t => some (.inl (.double x)) :: none :: am_A0 t
  | v :: t => some v :: am_A0 t

theorem am_A0_args (ad : am_G → Nat → Nat) : ∀ (as : List am_v) (k i : Nat) (v : am_v), (am_A0 as)[i]? = some (some v) → (k + i, am_enc ad v) ∈ lv_args k (as.map (am_enc ad))
  | [], k, i, v, h => by simp [am_A0] at h
  | .inl (.long x) :: t, k, i, v, h => by
    match i, h with
    | 0, h => cases h; exact List.mem_cons_self
    | 1, h => cases h
    | i + 2, h => have := am_A0_args ad t (k + 2) i v h; rw [show k + (i + 2) = k + 2 + i by omega]; exact List.mem_cons_of_mem _ this
  | .inl (.double x) :: t, k, i, v, h => by
    match i, h with
    | 0, h => cases h; exact List.mem_cons_self
    | 1, h => cases h
    | i + 2, h => have := am_A0_args ad t (k + 2) i v h; rw [show k + (i + 2) = k + 2 + i by omega]; exact List.mem_cons_of_mem _ this
  | .inl (.int x) :: t, k, i, v, h => by
    match i, h with
    | 0, h => cases h; exact List.mem_cons_self
    | i + 1, h => have := am_A0_args ad t (k + 1) i v h; rw [show k + (i + 1) = k + 1 + i by omega]; exact List.mem_cons_of_mem _ this
  | .inl (.float x) :: t, k, i, v, h => by
    match i, h with
    | 0, h => cases h; exact List.mem_cons_self
    | i + 1, h => have := am_A0_args ad t (k + 1) i v h; rw [show k + (i + 1) = k + 1 + i by omega]; exact List.mem_cons_of_mem _ this
  | .inl .null :: t, k, i, v, h => by
    match i, h with
    | 0, h => cases h; exact List.mem_cons_self
    | i + 1, h => have := am_A0_args ad t (k + 1) i v h; rw [show k + (i + 1) = k + 1 + i by omega]; exact List.mem_cons_of_mem _ this
  | .inl (.ref x) :: t, k, i, v, h => by
    match i, h with
    | 0, h => cases h; exact List.mem_cons_self
    | i + 1, h => have := am_A0_args ad t (k + 1) i v h; rw [show k + (i + 1) = k + 1 + i by omega]; exact List.mem_cons_of_mem _ this
  | .inl (.retAddr x) :: t, k, i, v, h => by
    match i, h with
    | 0, h => cases h; exact List.mem_cons_self
    | i + 1, h => have := am_A0_args ad t (k + 1) i v h; rw [show k + (i + 1) = k + 1 + i by omega]; exact List.mem_cons_of_mem _ this
  | .inr q :: t, k, i, v, h => by
    match i, h with
    | 0, h => cases h; exact List.mem_cons_self
    | i + 1, h => have := am_A0_args ad t (k + 1) i v h; rw [show k + (i + 1) = k + 1 + i by omega]; exact List.mem_cons_of_mem _ this
theorem am_A0_len (ad : am_G → Nat → Nat) : ∀ (as : List am_v), (lg_sl (as.map (am_enc ad))).length = (am_A0 as).length
  | [] => rfl
  | .inl (.long x) :: t => by show (lg_sl (t.map (am_enc ad))).length + 2 = _; rw [am_A0_len ad t]; rfl
  | .inl (.double x) :: t => by show (lg_sl (t.map (am_enc ad))).length + 2 = _; rw [am_A0_len ad t]; rfl
  | .inl (.int x) :: t => by show (lg_sl (t.map (am_enc ad))).length + 1 = _; rw [am_A0_len ad t]; rfl
  | .inl (.float x) :: t => by show (lg_sl (t.map (am_enc ad))).length + 1 = _; rw [am_A0_len ad t]; rfl
  | .inl .null :: t => by show (lg_sl (t.map (am_enc ad))).length + 1 = _; rw [am_A0_len ad t]; rfl
  | .inl (.ref x) :: t => by show (lg_sl (t.map (am_enc ad))).length + 1 = _; rw [am_A0_len ad t]; rfl
  | .inl (.retAddr x) :: t => by show (lg_sl (t.map (am_enc ad))).length + 1 = _; rw [am_A0_len ad t]; rfl
  | .inr q :: t => by show (lg_sl (t.map (am_enc ad))).length + 1 = _; rw [am_A0_len ad t]; rfl
theorem am_L0 (ad : am_G → Nat → Nat) (as : List am_v) {nL : Nat} (hl : (am_A0 as).length ≤ nL) : am_L ad nL (am_A0 as ++ List.replicate (nL - (am_A0 as).length) none) ((lg_sl (as.map (am_enc ad)) ++ List.replicate (nL - (lg_sl (as.map (am_enc ad))).length) Slot.unset).toArray) := by
  have h0 : (lg_sl (as.map (am_enc ad))).length ≤ nL := by rw [am_A0_len]; exact hl
  obtain ⟨h1, h2, h3⟩ := lv_entry (as.map (am_enc ad)) h0
  refine ⟨h1, h2, fun i v hi => ?_⟩
  by_cases hlt : i < (am_A0 as).length
  · rw [List.getElem?_append_left hlt] at hi
    have := am_A0_args ad as 0 i v hi
    rw [Nat.zero_add] at this
    exact h3 _ this
  · rw [List.getElem?_append_right (by omega), List.getElem?_replicate] at hi
    split at hi <;> cases hi
/-- a contract out of a walk, also for a class of which some methods are run otherwise -/
theorem am_ofW {l : Launch} {y : MethodName} {ws ws' : List Cond} {rm : Room} {Pc : Array Value → State → Prop} {Qc : Array Value → State → Outcome → State → Prop} {mc ms : Nat} {free : Addr → Prop} {cc : ByteArray} {maxL : Nat} {ret : Option FieldType}
    (hy : plainFor y = true) (hw : ws = Cond.code y cc maxL ret :: ws')
    (walk : ∀ p e s m args below meth c s₁, BodyLoose p l y (headSpec ws rm) cc maxL ret e s m args below meth c s₁ → c.maxLocals = maxL → Pc args s →
      W p l e (headSpec ws rm).room s m args below meth c s.heap [] 0 0 (MQ below Qc args s mc ms free) (entryFrame m args maxL)) : Met l y ws rm Pc Qc mc ms free := by
  have hc : ∀ (args : Array Value) (s : State) (m : MethodId), (headSpec ws rm).pre.before args s = true → s.methodNamed? y = some m → ∃ meth c, s.vm.method? m = some meth ∧ meth.code = some c ∧ c.code = cc ∧ c.maxLocals = maxL ∧ meth.sig.returnType = ret ∧ meth.locks = false := by
    intro args s m h hn
    have h1 := atoms_spec (ws := ws) h (Cond.code y cc maxL ret) (by rw [hw]; exact List.mem_cons_self)
    obtain ⟨meth, c, e1, e2, e3, e4, e5, e6, -⟩ := Cond.code_spec hn h1
    exact ⟨meth, c, e1, e2, e3, e4, e5, e6⟩
  refine MetFree.of_bodySF hy hc (fun p e s m args below meth c s₁ B hml hP _ => ?_)
  have hh : s₁.heap = s.heap := by rw [B.state]; rfl
  obtain ⟨t, a1, o, b1, b2, b3, b4⟩ := walk p e s m args below meth c s₁ B hml hP s₁ hh (Stand.of_body B)
  exact ⟨t, o, a1, b1, b2, b3, b4⟩
/-- a method's contract out of the walk of its body -/
theorem am_M.of {y : MethodName} {bs : ByteArray} {nL : Nat} {ret : Option FieldType} {fr lc mc ms : Nat} {as : List am_v} {h : am_H} {Q : Option am_v → am_H → Prop} {A : List (Option am_v)} (hy : plainFor y = true) (hA : am_A0 as ++ List.replicate (nL - (am_A0 as).length) none = A) (hl : (am_A0 as).length ≤ nL)
    (body : am_V y.cls bs nL ret fr lc mc ms none (am_Tm bs ret Q) 0 0 0 A [] h) : am_M y bs nL ret fr lc mc ms as h Q := by
  subst hA
  intro l lo ad D cA hf
  refine am_ofW (cc := bs) (maxL := nL) (ret := ret) hy rfl ?_
  intro p e s m args below meth c s₁ B hml hv
  obtain ⟨rfl, hW, hE⟩ := hv
  have hts := atoms_spec (ws := .code y bs nL ret :: am_gT) B.pre
  rw [lg_entry_eq]
  refine body p l e _ s m _ below meth c lo ad D cA _ ⟨B.exec, B.bytes, hml, findClass_of_methodNamed B.named, fun w hw => hts w (List.mem_cons_of_mem _ hw), hE, B.returns, B.notSynchronized, hf, Nat.le_refl _, Nat.le_refl _, Nat.le_refl _, Nat.le_refl _, fun t h => by cases h⟩ ?_ (Nat.zero_le _) (Nat.zero_le _) s.heap [] _ hW va_S.rf (am_L0 ad as hl)
  rintro pc' st' h' cs' ss' H' locs' ls' ⟨v, hk, rfl, hQ⟩ hW' hS' h1 h2 hsz
  have hlocks := B.notSynchronized
  refine W.widen h1 h2 ?_
  rcases hk with ⟨x, ty, rfl, hr, hn, hd⟩ | ⟨rfl, hr, hd⟩ | ⟨x, rfl, hr, hd⟩ | ⟨x, rfl, hr, hd⟩
  · exact W.zret B.exec B.bytes (B.returns.trans hr) hn (fun t ht hw => ⟨⟨some (am_i x), h', rfl, hQ, by rw [ht]; exact hW'⟩, hS'.F ht⟩) hS'.2.2 hd
  · exact W.vret B.exec B.bytes (B.returns.trans hr) (fun t ht hw => ⟨⟨none, h', rfl, hQ, by rw [ht]; exact hW'⟩, hS'.F ht⟩) hS'.2.2 hd
  · exact W.dret B.exec B.bytes (B.returns.trans hr) (fun t ht hw => ⟨⟨some (.inl (.double x)), h', rfl, hQ, by rw [ht]; exact hW'⟩, hS'.F ht⟩) hS'.2.2 hd
  · exact W.fret B.exec B.bytes (B.returns.trans hr) (fun t ht hw => ⟨⟨some (.inl (.float x)), h', rfl, hQ, by rw [ht]; exact hW'⟩, hS'.F ht⟩) hS'.2.2 hd
