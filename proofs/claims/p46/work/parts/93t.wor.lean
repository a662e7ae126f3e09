/-! the world when all is built -/
def h00 : am_H := (fun g o => match g, o with
  | .inl 1, 2 => fun j => if j = 1 then 1 else if j = 0 then 50 else 0
  | .inl 1, 3 => fun j => if j = 4 then 1 else 0
  | .inl 1, 8 => fun j => if j = 7 then -1 else 0
  | .inr _, 0 => fun j => if j = 5 then 1 else 0
  | .inr _, 16 => fun j => if j = 1 then 1 else if j = 0 then 50 else 0
  | .inr _, 10 => fun j => if j < 26 then 4 else 0
  | _, _ => fun _ => 0, fun _ _ _ => 0, fun i => i + 4)
def offR (r : Nat) : Nat := if r = 0 then 0 else if r < 18 then 80 + r else if r < 98 then r - 17 else r
theorem bat {D : va_G} {q j : Nat} {E E2 : va_E} {es : List va_E} {H : Heap} (h : va_P D vwCl (bw q es) H) (e : es[j]? = some E) (e2 : E2 = E) : va_at D vwCl (q + j, E2) H := by
  rw [e2]
  exact h j _ (by rw [bw_at, e]; rfl)
theorem bsp {D : va_G} {q n : Nat} {A B : List va_E} {H : Heap} (h : va_P D vwCl (bw q (A ++ B)) H) (hA : A.length = n) : va_P D vwCl (bw q A) H ∧ va_P D vwCl (bw (q + n) B) H := by
  rw [bw_app, hA] at h
  exact ⟨h.left, h.right⟩
theorem at_5 {D : va_G} {cA : Nat → ClassId} {ad : am_G → Nat → Nat} {q : Nat} {H : Heap} {k : Nat} (h : va_P D vwCl (bw q (KX5 cA q)) H) (hq : ∀ j, j < 20 → ad (.inr k) (0 + j) = q + j) : ∀ j, j < 20 → va_at D vwCl (ad (.inr k) (0 + j), am_ce ad cA h00 (.inr k) (0 + j)) H := by
  intro j hj
  rw [hq j hj]
  match j, hj with
  | 0, _ =>
    refine bat h rfl ?_
    have r1 : ad (.inr k) 1 = q + 1 := hq 1 (by omega)
    have r6 : ad (.inr k) 6 = q + 6 := hq 6 (by omega)
    have r11 : ad (.inr k) 11 = q + 11 := hq 11 (by omega)
    have r16 : ad (.inr k) 16 = q + 16 := hq 16 (by omega)
    have r17 : ad (.inr k) 17 = q + 17 := hq 17 (by omega)
    show (.inr (5, [.ref (ad (.inr k) 1), .ref (ad (.inr k) 6), .ref (ad (.inr k) 11), .ref (ad (.inr k) 16), .ref (ad (.inr k) 17), .int 1]) : va_E) = _
    rw [r1, r6, r11, r16, r17]
  | 1, _ =>
    refine bat h rfl ?_
    have r2 : ad (.inr k) 2 = q + 2 := hq 2 (by omega)
    have r3 : ad (.inr k) 3 = q + 3 := hq 3 (by omega)
    have r4 : ad (.inr k) 4 = q + 4 := hq 4 (by omega)
    have r5 : ad (.inr k) 5 = q + 5 := hq 5 (by omega)
    show (.inr (0, [.ref (ad (.inr k) 2), .ref (ad (.inr k) 3), .ref (ad (.inr k) 4), .ref (ad (.inr k) 5), .int 0]) : va_E) = _
    rw [r2, r3, r4, r5]
  | 2, _ => exact bat h rfl rfl
  | 3, _ => exact bat h rfl rfl
  | 4, _ => exact bat h rfl rfl
  | 5, _ => exact bat h rfl rfl
  | 6, _ =>
    refine bat h rfl ?_
    have r7 : ad (.inr k) 7 = q + 7 := hq 7 (by omega)
    have r8 : ad (.inr k) 8 = q + 8 := hq 8 (by omega)
    have r9 : ad (.inr k) 9 = q + 9 := hq 9 (by omega)
    have r10 : ad (.inr k) 10 = q + 10 := hq 10 (by omega)
    show (.inr (4, [.ref (ad (.inr k) 7), .ref (ad (.inr k) 8), .ref (ad (.inr k) 9), .ref (ad (.inr k) 10), .int 0]) : va_E) = _
    rw [r7, r8, r9, r10]
  | 7, _ => exact bat h rfl rfl
  | 8, _ => exact bat h rfl rfl
  | 9, _ => exact bat h rfl rfl
  | 10, _ => exact bat h rfl rfl
  | 11, _ =>
    refine bat h rfl ?_
    have r12 : ad (.inr k) 12 = q + 12 := hq 12 (by omega)
    have r13 : ad (.inr k) 13 = q + 13 := hq 13 (by omega)
    have r14 : ad (.inr k) 14 = q + 14 := hq 14 (by omega)
    have r15 : ad (.inr k) 15 = q + 15 := hq 15 (by omega)
    show (.inr (2, [.ref (ad (.inr k) 12), .ref (ad (.inr k) 13), .ref (ad (.inr k) 14), .ref (ad (.inr k) 15), .int 0]) : va_E) = _
    rw [r12, r13, r14, r15]
  | 12, _ => exact bat h rfl rfl
  | 13, _ => exact bat h rfl rfl
  | 14, _ => exact bat h rfl rfl
  | 15, _ => exact bat h rfl rfl
  | 16, _ =>
    refine bat h rfl ?_
    show (.inr (1, [.int 50, .int 1, .int 0, .int 0]) : va_E) = _
    rfl
  | 17, _ =>
    refine bat h rfl ?_
    have r18 : ad (.inr k) 18 = q + 18 := hq 18 (by omega)
    have r19 : ad (.inr k) 19 = q + 19 := hq 19 (by omega)
    show (.inr (7, [.ref (ad (.inr k) 18), .ref (ad (.inr k) 19), .int 0]) : va_E) = _
    rw [r18, r19]
  | 18, _ => exact bat h rfl rfl
  | 19, _ => exact bat h rfl rfl
  | n + 20, h => exact absurd h (by omega)
theorem at_1 {D : va_G} {cA : Nat → ClassId} {ad : am_G → Nat → Nat} {q : Nat} {H : Heap} (h : va_P D vwCl (bw q (KX1 cA q)) H) (hq : ∀ j, j < 1 → ad (.inl 1) (2 + j) = q + j) : ∀ j, j < 1 → va_at D vwCl (ad (.inl 1) (2 + j), am_ce ad cA h00 (.inl 1) (2 + j)) H := by
  intro j hj
  rw [hq j hj]
  match j, hj with
  | 0, _ =>
    refine bat h rfl ?_
    show (.inr (1, [.int 50, .int 1, .int 0, .int 0]) : va_E) = _
    rfl
  | n + 1, h => exact absurd h (by omega)
theorem at_3 {D : va_G} {cA : Nat → ClassId} {ad : am_G → Nat → Nat} {q : Nat} {H : Heap} (h : va_P D vwCl (bw q (KX3 cA q)) H) (hq : ∀ j, j < 5 → ad (.inl 1) (3 + j) = q + j) : ∀ j, j < 5 → va_at D vwCl (ad (.inl 1) (3 + j), am_ce ad cA h00 (.inl 1) (3 + j)) H := by
  intro j hj
  rw [hq j hj]
  match j, hj with
  | 0, _ =>
    refine bat h rfl ?_
    have r1 : ad (.inl 1) 4 = q + 1 := hq 1 (by omega)
    have r2 : ad (.inl 1) 5 = q + 2 := hq 2 (by omega)
    have r3 : ad (.inl 1) 6 = q + 3 := hq 3 (by omega)
    have r4 : ad (.inl 1) 7 = q + 4 := hq 4 (by omega)
    show (.inr (3, [.ref (ad (.inl 1) 4), .ref (ad (.inl 1) 5), .ref (ad (.inl 1) 6), .ref (ad (.inl 1) 7), .int 1]) : va_E) = _
    rw [r1, r2, r3, r4]
  | 1, _ => exact bat h rfl rfl
  | 2, _ => exact bat h rfl rfl
  | 3, _ => exact bat h rfl rfl
  | 4, _ => exact bat h rfl rfl
  | n + 5, h => exact absurd h (by omega)
theorem at_10 {D : va_G} {cA : Nat → ClassId} {ad : am_G → Nat → Nat} {q : Nat} {H : Heap} (h : va_P D vwCl (bw q (KX10 cA q)) H) (hq : ∀ j, j < 2 → ad (.inl 1) (8 + j) = q + j) : ∀ j, j < 2 → va_at D vwCl (ad (.inl 1) (8 + j), am_ce ad cA h00 (.inl 1) (8 + j)) H := by
  intro j hj
  rw [hq j hj]
  match j, hj with
  | 0, _ =>
    refine bat h rfl ?_
    have r1 : ad (.inl 1) 9 = q + 1 := hq 1 (by omega)
    show (.inr (10, [.ref (ad (.inl 1) 9), .int 0, .int 0, .int 0, .int 0, .int 0, .int 0, .int (-1)]) : va_E) = _
    rw [r1]
  | 1, _ => exact bat h rfl rfl
  | n + 2, h => exact absurd h (by omega)
theorem at_9 {D : va_G} {cA : Nat → ClassId} {ad : am_G → Nat → Nat} {q : Nat} {H : Heap} (h : va_P D vwCl (bw q (KX9 cA q)) H) (hq : ∀ j, j < 1 → ad (.inl 1) (10 + j) = q + j) : ∀ j, j < 1 → va_at D vwCl (ad (.inl 1) (10 + j), am_ce ad cA h00 (.inl 1) (10 + j)) H := by
  intro j hj
  rw [hq j hj]
  match j, hj with
  | 0, _ =>
    refine bat h rfl ?_
    show (.inr (9, [.int 0, .int 0, .int 0]) : va_E) = _
    rfl
  | n + 1, h => exact absurd h (by omega)
theorem at_8 {D : va_G} {cA : Nat → ClassId} {ad : am_G → Nat → Nat} {q : Nat} {H : Heap} (h : va_P D vwCl (bw q (KX8 cA q)) H) (hq : ∀ j, j < 5 → ad (.inl 1) (11 + j) = q + j) : ∀ j, j < 5 → va_at D vwCl (ad (.inl 1) (11 + j), am_ce ad cA h00 (.inl 1) (11 + j)) H := by
  intro j hj
  rw [hq j hj]
  match j, hj with
  | 0, _ =>
    refine bat h rfl ?_
    have r1 : ad (.inl 1) 12 = q + 1 := hq 1 (by omega)
    have r2 : ad (.inl 1) 13 = q + 2 := hq 2 (by omega)
    have r3 : ad (.inl 1) 14 = q + 3 := hq 3 (by omega)
    have r4 : ad (.inl 1) 15 = q + 4 := hq 4 (by omega)
    show (.inr (8, [.ref (ad (.inl 1) 12), .ref (ad (.inl 1) 13), .ref (ad (.inl 1) 14), .ref (ad (.inl 1) 15), .int 0, .int 0, .int 0]) : va_E) = _
    rw [r1, r2, r3, r4]
  | 1, _ => exact bat h rfl rfl
  | 2, _ => exact bat h rfl rfl
  | 3, _ => exact bat h rfl rfl
  | 4, _ => exact bat h rfl rfl
  | n + 5, h => exact absurd h (by omega)
theorem at_6 {D : va_G} {cA : Nat → ClassId} {ad : am_G → Nat → Nat} {q : Nat} {H : Heap} (h : va_P D vwCl (bw q (KX6 cA q)) H) (hq : ∀ j, j < 2 → ad (.inl 1) (16 + j) = q + j) : ∀ j, j < 2 → va_at D vwCl (ad (.inl 1) (16 + j), am_ce ad cA h00 (.inl 1) (16 + j)) H := by
  intro j hj
  rw [hq j hj]
  match j, hj with
  | 0, _ =>
    refine bat h rfl ?_
    have r1 : ad (.inl 1) 17 = q + 1 := hq 1 (by omega)
    show (.inr (6, [.ref (ad (.inl 1) 17), .int 0]) : va_E) = _
    rw [r1]
  | 1, _ => exact bat h rfl rfl
  | n + 2, h => exact absurd h (by omega)
