/-! the world, whole -/
theorem kl5 (cA : Nat → ClassId) (b : Nat) : (KX5 cA b).length = 20 := rfl
theorem kl1 (cA : Nat → ClassId) (b : Nat) : (KX1 cA b).length = 1 := rfl
theorem kl3 (cA : Nat → ClassId) (b : Nat) : (KX3 cA b).length = 5 := rfl
theorem kl10 (cA : Nat → ClassId) (b : Nat) : (KX10 cA b).length = 2 := rfl
theorem kl9 (cA : Nat → ClassId) (b : Nat) : (KX9 cA b).length = 1 := rfl
theorem kl8 (cA : Nat → ClassId) (b : Nat) : (KX8 cA b).length = 5 := rfl
theorem kl6 (cA : Nat → ClassId) (b : Nat) : (KX6 cA b).length = 2 := rfl
theorem kl12 (cA : Nat → ClassId) (b : Nat) : (KX12 cA b).length = 18 := rfl
theorem kl11 (cA : Nat → ClassId) (b : Nat) : (KX11 KX5 KX1 KX3 KX10 KX9 KX8 KX6 cA b).length = 218 := by
  unfold KX11
  simp only [List.length_cons, List.length_append, List.length_nil, kl5, kl1, kl3, kl10, kl9, kl8, kl6]
def es00 (cA : Nat → ClassId) (b : Nat) : List va_E := (KX11 KX5 KX1 KX3 KX10 KX9 KX8 KX6 cA b ++ KX12 cA (b + 218)) ++ [.inl (cA 3, 1, .inr (.inl (fun _ => 0)))]
section WOA
variable {D : va_G} {cA : Nat → ClassId} {b o k : Nat} {sa sb : Nat → Nat} {H : Heap}
theorem ad0_p : ad0 b sa sb (.inr k) o = b + offR (37 + (20 * k + o)) := rfl
theorem ad0_m : ad0 b sa sb (.inl 0) o = b + offR o := rfl
theorem ad0_x : ad0 b sa sb (.inl 1) o = b + offR (18 + o) := rfl
theorem off_a (h : o < 18) : offR o = 218 + o := if_pos h
theorem off_b (h1 : 1 ≤ o) (h2 : o < 18) : offR (18 + o) = 80 + o := by
  unfold offR
  rw [if_neg (by omega), if_neg (by omega), if_neg (by omega), if_pos (by omega)]
  omega
theorem off_p1 (h1 : k < 4) (h2 : o < 20) : offR (37 + (20 * k + o)) = 1 + 20 * k + o := by
  unfold offR
  rw [if_neg (by omega), if_neg (by omega), if_neg (by omega), if_neg (by omega), if_pos (by omega)]
  omega
theorem off_p2 (h1 : 4 ≤ k) (h2 : o < 20) : offR (37 + (20 * k + o)) = 18 + 20 * k + o := by
  unfold offR
  rw [if_neg (by omega), if_neg (by omega), if_neg (by omega), if_neg (by omega), if_neg (by omega)]
  omega
theorem off_i {i j : Nat} (hi : i < 237) (hj : j < 237) (e : offR i = offR j) : i = j := by
  unfold offR at e
  (repeat' split at e) <;> omega
theorem fl_11 : am_fl (ad0 b sa sb) h00 (.inl 1) 0 11 = [.ref (b + 1), .ref (b + 21), .ref (b + 41), .ref (b + 61), .int 0, .ref (b + 81), .int 0, .ref (b + 82), .ref (b + 83), .ref (b + 88), .ref (b + 90), .ref (b + 91), .ref (b + 96)] := by
  refine List.ext_getElem? (fun k => ?_)
  match k with
  | 0 => exact am_fl_at (ad0 b sa sb) h00 (.inl 1) 0 11 (k := 0) rfl
  | 1 => exact am_fl_at (ad0 b sa sb) h00 (.inl 1) 0 11 (k := 1) rfl
  | 2 => exact am_fl_at (ad0 b sa sb) h00 (.inl 1) 0 11 (k := 2) rfl
  | 3 => exact am_fl_at (ad0 b sa sb) h00 (.inl 1) 0 11 (k := 3) rfl
  | 4 => exact am_fl_at (ad0 b sa sb) h00 (.inl 1) 0 11 (k := 4) rfl
  | 5 => exact am_fl_at (ad0 b sa sb) h00 (.inl 1) 0 11 (k := 5) rfl
  | 6 => exact am_fl_at (ad0 b sa sb) h00 (.inl 1) 0 11 (k := 6) rfl
  | 7 => exact am_fl_at (ad0 b sa sb) h00 (.inl 1) 0 11 (k := 7) rfl
  | 8 => exact am_fl_at (ad0 b sa sb) h00 (.inl 1) 0 11 (k := 8) rfl
  | 9 => exact am_fl_at (ad0 b sa sb) h00 (.inl 1) 0 11 (k := 9) rfl
  | 10 => exact am_fl_at (ad0 b sa sb) h00 (.inl 1) 0 11 (k := 10) rfl
  | 11 => exact am_fl_at (ad0 b sa sb) h00 (.inl 1) 0 11 (k := 11) rfl
  | 12 => exact am_fl_at (ad0 b sa sb) h00 (.inl 1) 0 11 (k := 12) rfl
  | k + 13 => rw [List.getElem?_eq_none (by rw [am_fl_len]; show 13 ≤ k + 13; omega)]; rfl
theorem past_6 {f f' : Nat → Option Nat} (h : ∀ i, i < 6 → f i = f' i) : vp_cell (cA 4) (6, .inr (.inr (.inr (.inr f)))) = vp_cell (cA 4) (6, .inr (.inr (.inr (.inr f')))) := by
  rw [vp_cell_q, vp_cell_q]
  unfold arrV
  congr 2
  funext j
  show va_rf (f j.val) = va_rf (f' j.val)
  rw [h j.val j.isLt]
theorem all_at (hP : va_P D vwCl (bw b (es00 cA b)) H) : ∀ (g : am_G) (o : Nat), am_ok g o → va_at D vwCl (ad0 b sa sb g o, am_ce (ad0 b sa sb) cA h00 g o) H := by
  unfold es00 at hP
  obtain ⟨a1, a2⟩ := bsp (n := 236) hP (by rw [List.length_append, kl11, kl12])
  obtain ⟨a3, a4⟩ := bsp (n := 218) a1 (kl11 cA b)
  unfold KX11 at a3
  obtain ⟨c1, c2⟩ := bsp (n := 98) a3 (by simp only [List.length_cons, List.length_append, List.length_nil, kl5, kl1, kl3, kl10, kl9, kl8, kl6])
  obtain ⟨d1, d2⟩ := bsp (n := 81) c1 (by simp only [List.length_cons, List.length_append, List.length_nil, kl5, kl1, kl3, kl10, kl9, kl8, kl6])
  have d0 := d1 0 _ rfl
  have d3 : va_P D vwCl (bw (b + 1) (KX5 cA (b + 1) ++ KX5 cA (b + 21) ++ KX5 cA (b + 41) ++ KX5 cA (b + 61))) H := fun k q hk => d1 (k + 1) q hk
  have e0 := d2 0 _ rfl
  have e1 : va_P D vwCl (bw (b + 82) (KX1 cA (b + 82) ++ KX3 cA (b + 83) ++ KX10 cA (b + 88) ++ KX9 cA (b + 90) ++ KX8 cA (b + 91) ++ KX6 cA (b + 96))) H := fun k q hk => d2 (k + 1) q hk
  clear hP a1 a3 c1 d1 d2
  obtain ⟨d3, p3⟩ := bsp (n := 60) d3 (by simp only [List.length_cons, List.length_append, List.length_nil, kl5, kl1, kl3, kl10, kl9, kl8, kl6])
  obtain ⟨d3, p2⟩ := bsp (n := 40) d3 (by simp only [List.length_cons, List.length_append, List.length_nil, kl5, kl1, kl3, kl10, kl9, kl8, kl6])
  obtain ⟨p0, p1⟩ := bsp (n := 20) d3 (by simp only [List.length_cons, List.length_append, List.length_nil, kl5, kl1, kl3, kl10, kl9, kl8, kl6])
  obtain ⟨c2, p9⟩ := bsp (n := 100) c2 (by simp only [List.length_cons, List.length_append, List.length_nil, kl5, kl1, kl3, kl10, kl9, kl8, kl6])
  obtain ⟨c2, p8⟩ := bsp (n := 80) c2 (by simp only [List.length_cons, List.length_append, List.length_nil, kl5, kl1, kl3, kl10, kl9, kl8, kl6])
  obtain ⟨c2, p7⟩ := bsp (n := 60) c2 (by simp only [List.length_cons, List.length_append, List.length_nil, kl5, kl1, kl3, kl10, kl9, kl8, kl6])
  obtain ⟨c2, p6⟩ := bsp (n := 40) c2 (by simp only [List.length_cons, List.length_append, List.length_nil, kl5, kl1, kl3, kl10, kl9, kl8, kl6])
  obtain ⟨p4, p5⟩ := bsp (n := 20) c2 (by simp only [List.length_cons, List.length_append, List.length_nil, kl5, kl1, kl3, kl10, kl9, kl8, kl6])
  obtain ⟨e1, r6⟩ := bsp (n := 14) e1 (by simp only [List.length_cons, List.length_append, List.length_nil, kl5, kl1, kl3, kl10, kl9, kl8, kl6])
  obtain ⟨e1, r8⟩ := bsp (n := 9) e1 (by simp only [List.length_cons, List.length_append, List.length_nil, kl5, kl1, kl3, kl10, kl9, kl8, kl6])
  obtain ⟨e1, r9⟩ := bsp (n := 8) e1 (by simp only [List.length_cons, List.length_append, List.length_nil, kl5, kl1, kl3, kl10, kl9, kl8, kl6])
  obtain ⟨e1, r10⟩ := bsp (n := 6) e1 (by simp only [List.length_cons, List.length_append, List.length_nil, kl5, kl1, kl3, kl10, kl9, kl8, kl6])
  obtain ⟨r1, r3⟩ := bsp (n := 1) e1 (by simp only [List.length_cons, List.length_append, List.length_nil, kl5, kl1, kl3, kl10, kl9, kl8, kl6])
  have X : ∀ {q o0 n : Nat}, 1 ≤ o0 → o0 + n ≤ 18 → q = 80 + o0 → ∀ j, j < n → ad0 b sa sb (.inl 1) (o0 + j) = b + q + j := fun h1 h2 h3 j hj => by
    rw [ad0_x, off_b (by omega) (by omega)]
    omega
  have P1 : ∀ k, k < 4 → ∀ j, j < 20 → ad0 b sa sb (.inr k) (0 + j) = b + (1 + 20 * k) + j := fun k hk j hj => by
    rw [ad0_p, Nat.zero_add, off_p1 hk hj]
    omega
  have P2 : ∀ k, 4 ≤ k → ∀ j, j < 20 → ad0 b sa sb (.inr k) (0 + j) = b + (18 + 20 * k) + j := fun k hk j hj => by
    rw [ad0_p, Nat.zero_add, off_p2 hk hj]
    omega
  intro g o hok
  match g, hok with
  | .inl 0, ho =>
    have ho : o < 18 := ho
    have := at_12 (ad := ad0 b sa sb) (q := b + 218) a4 (fun j hj => by rw [ad0_m, Nat.zero_add, off_a hj]; omega) o ho
    rw [Nat.zero_add] at this
    exact this
  | .inl 1, ho =>
    have ho : o < 19 := ho
    match o, ho with
    | 0, _ =>
      show va_at D vwCl (b, .inr (11, am_fl (ad0 b sa sb) h00 (.inl 1) 0 11)) H
      rw [fl_11]
      exact d0
    | 1, _ =>
      refine Eq.trans e0 (congrArg some (past_6 (fun i hi => ?_)))
      match i, hi with
      | 0, _ => rfl
      | 1, _ => rfl
      | 2, _ => rfl
      | 3, _ => rfl
      | 4, _ => rfl
      | 5, _ => rfl
      | i + 6, h => exact absurd h (by omega)
    | 2, _ => exact at_1 (ad := ad0 b sa sb) (q := b + 82) r1 (X (by omega) (by omega) (by omega)) 0 (by omega)
    | 3, _ => exact at_3 (ad := ad0 b sa sb) (q := b + 83) r3 (X (by omega) (by omega) (by omega)) 0 (by omega)
    | 4, _ => exact at_3 (ad := ad0 b sa sb) (q := b + 83) r3 (X (by omega) (by omega) (by omega)) 1 (by omega)
    | 5, _ => exact at_3 (ad := ad0 b sa sb) (q := b + 83) r3 (X (by omega) (by omega) (by omega)) 2 (by omega)
    | 6, _ => exact at_3 (ad := ad0 b sa sb) (q := b + 83) r3 (X (by omega) (by omega) (by omega)) 3 (by omega)
    | 7, _ => exact at_3 (ad := ad0 b sa sb) (q := b + 83) r3 (X (by omega) (by omega) (by omega)) 4 (by omega)
    | 8, _ => exact at_10 (ad := ad0 b sa sb) (q := b + 88) r10 (X (by omega) (by omega) (by omega)) 0 (by omega)
    | 9, _ => exact at_10 (ad := ad0 b sa sb) (q := b + 88) r10 (X (by omega) (by omega) (by omega)) 1 (by omega)
    | 10, _ => exact at_9 (ad := ad0 b sa sb) (q := b + 90) r9 (X (by omega) (by omega) (by omega)) 0 (by omega)
    | 11, _ => exact at_8 (ad := ad0 b sa sb) (q := b + 91) r8 (X (by omega) (by omega) (by omega)) 0 (by omega)
    | 12, _ => exact at_8 (ad := ad0 b sa sb) (q := b + 91) r8 (X (by omega) (by omega) (by omega)) 1 (by omega)
    | 13, _ => exact at_8 (ad := ad0 b sa sb) (q := b + 91) r8 (X (by omega) (by omega) (by omega)) 2 (by omega)
    | 14, _ => exact at_8 (ad := ad0 b sa sb) (q := b + 91) r8 (X (by omega) (by omega) (by omega)) 3 (by omega)
    | 15, _ => exact at_8 (ad := ad0 b sa sb) (q := b + 91) r8 (X (by omega) (by omega) (by omega)) 4 (by omega)
    | 16, _ => exact at_6 (ad := ad0 b sa sb) (q := b + 96) r6 (X (by omega) (by omega) (by omega)) 0 (by omega)
    | 17, _ => exact at_6 (ad := ad0 b sa sb) (q := b + 96) r6 (X (by omega) (by omega) (by omega)) 1 (by omega)
    | 18, _ => exact a2 0 _ rfl
    | o + 19, h => exact absurd h (by omega)
  | .inl (n + 2), h => exact h.elim
  | .inr k, hk =>
    obtain ⟨hk, ho⟩ : k < 10 ∧ o < 20 := hk
    have fin : ∀ {x : Nat}, va_at D vwCl (ad0 b sa sb (.inr x) (0 + o), am_ce (ad0 b sa sb) cA h00 (.inr x) (0 + o)) H → va_at D vwCl (ad0 b sa sb (.inr x) o, am_ce (ad0 b sa sb) cA h00 (.inr x) o) H := fun {x} h => by rw [Nat.zero_add] at h; exact h
    match k, hk with
    | 0, _ => exact fin (at_5 (ad := ad0 b sa sb) (q := b + 1) p0 (P1 0 (by omega)) o ho)
    | 1, _ => exact fin (at_5 (ad := ad0 b sa sb) (q := b + 21) p1 (P1 1 (by omega)) o ho)
    | 2, _ => exact fin (at_5 (ad := ad0 b sa sb) (q := b + 41) p2 (P1 2 (by omega)) o ho)
    | 3, _ => exact fin (at_5 (ad := ad0 b sa sb) (q := b + 61) p3 (P1 3 (by omega)) o ho)
    | 4, _ => exact fin (at_5 (ad := ad0 b sa sb) (q := b + 98) p4 (P2 4 (by omega)) o ho)
    | 5, _ => exact fin (at_5 (ad := ad0 b sa sb) (q := b + 118) p5 (P2 5 (by omega)) o ho)
    | 6, _ => exact fin (at_5 (ad := ad0 b sa sb) (q := b + 138) p6 (P2 6 (by omega)) o ho)
    | 7, _ => exact fin (at_5 (ad := ad0 b sa sb) (q := b + 158) p7 (P2 7 (by omega)) o ho)
    | 8, _ => exact fin (at_5 (ad := ad0 b sa sb) (q := b + 178) p8 (P2 8 (by omega)) o ho)
    | 9, _ => exact fin (at_5 (ad := ad0 b sa sb) (q := b + 198) p9 (P2 9 (by omega)) o ho)
    | k + 10, h => exact absurd h (by omega)
theorem un_ok {r : Nat} (h : r < 237) : am_ok (am_un r).1 (am_un r).2 := by
  unfold am_un
  split
  · assumption
  · split
    · show r - 18 < 19
      omega
    · show (r - 37) / 20 < 10 ∧ (r - 37) % 20 < 20
      omega
theorem un_ad {r : Nat} (h : r < 237) : ad0 b sa sb (am_un r).1 (am_un r).2 = b + offR r := by
  unfold am_un
  split
  · rfl
  · split
    · show b + offR (18 + (r - 18)) = b + offR r
      rw [show 18 + (r - 18) = r from by omega]
    · show b + offR (37 + (20 * ((r - 37) / 20) + (r - 37) % 20)) = b + offR r
      rw [show 37 + (20 * ((r - 37) / 20) + (r - 37) % 20) = r from by omega]
theorem wor_all (hP : va_P D vwCl (bw b (es00 cA b)) H) : am_WH b (ad0 b sa sb) D cA h00 H := by
  have key : ∀ (i : Nat) (p : Nat × va_E), (am_ws (ad0 b sa sb) cA h00)[i]? = some p → i < 237 ∧ p = am_cr (ad0 b sa sb) cA h00 i := fun i p h => by
    unfold am_ws at h
    rw [List.getElem?_map] at h
    by_cases hi : i < 237
    · rw [List.getElem?_range hi] at h
      cases h
      exact ⟨hi, rfl⟩
    · rw [List.getElem?_eq_none (by rw [List.length_range]; omega)] at h
      cases h
  refine ⟨fun r q hq => ?_, fun i j p q hi hj e => ?_, fun k q hq => ?_⟩
  · obtain ⟨hr, rfl⟩ := key r q hq
    exact all_at hP _ _ (un_ok hr)
  · obtain ⟨h1, rfl⟩ := key i p hi
    obtain ⟨h2, rfl⟩ := key j q hj
    have e : ad0 b sa sb (am_un i).1 (am_un i).2 = ad0 b sa sb (am_un j).1 (am_un j).2 := e
    rw [un_ad h1, un_ad h2] at e
    exact off_i h1 h2 (by omega)
  · obtain ⟨h1, rfl⟩ := key k q hq
    show b ≤ ad0 b sa sb (am_un k).1 (am_un k).2
    rw [un_ad h1]
    omega
end WOA
