/-! the world, whole -/
theorem kl5 (cA : Nat → ClassId) (b : Nat) : (KX5 cA b).length = 20 := rfl
theorem kl1 (cA : Nat → ClassId) (b : Nat) : (KX1 cA b).length = 1 := rfl
theorem kl3 (cA : Nat → ClassId) (b : Nat) : (KX3 cA b).length = 5 := rfl
theorem kl10 (cA : Nat → ClassId) (b : Nat) : (KX10 cA b).length = 2 := rfl
theorem kl9 (cA : Nat → ClassId) (b : Nat) : (KX9 cA b).length = 1 := rfl
theorem kl8 (cA : Nat → ClassId) (b : Nat) : (KX8 cA b).length = 5 := rfl
theorem kl6 (cA : Nat → ClassId) (b : Nat) : (KX6 cA b).length = 2 := rfl
theorem kl11 (cA : Nat → ClassId) (b : Nat) : (KX11 KX5 KX1 KX3 KX10 KX9 KX8 KX6 cA b).length = 218 := by
  unfold KX11
  simp only [List.length_cons, List.length_append, List.length_nil, kl5, kl1, kl3, kl10, kl9, kl8, kl6]
section WOA
variable {D : va_G} {cA : Nat → ClassId} {b o k : Nat} {ad : am_G → Nat → Nat} {H : Heap}
theorem off_b (h1 : 1 ≤ o) (h2 : o < 18) : offR o = 80 + o := by
  unfold offR
  rw [if_neg (by omega), if_pos (by omega)]
theorem off_p1 (h1 : k < 4) (h2 : o < 20) : offR (18 + (20 * k + o)) = 1 + 20 * k + o := by
  unfold offR
  rw [if_neg (by omega), if_neg (by omega), if_pos (by omega)]
  omega
theorem off_p2 (h1 : 4 ≤ k) (h2 : o < 20) : offR (18 + (20 * k + o)) = 18 + 20 * k + o := by
  unfold offR
  rw [if_neg (by omega), if_neg (by omega), if_neg (by omega)]
  omega
/-- the class's cells lie from b on -/
def ad_at (ad : am_G → Nat → Nat) (b : Nat) : Prop := ∀ g o, am_ok g o → ad g o = b + offR (am_rk g o)
theorem ad_x (h : ad_at ad b) (ho : o < 18) : ad (.inl 1) o = b + offR o := h (.inl 1) o ho
theorem ad_p (h : ad_at ad b) (hk : k < 10) (ho : o < 20) : ad (.inr k) o = b + offR (18 + (20 * k + o)) := h (.inr k) o ⟨hk, ho⟩
theorem fl_11 (h : ad_at ad b) : am_fl ad h00 (.inl 1) 0 11 = [.ref (b + 1), .ref (b + 21), .ref (b + 41), .ref (b + 61), .int 0, .ref (b + 81), .int 0, .ref (b + 82), .ref (b + 83), .ref (b + 88), .ref (b + 90), .ref (b + 91), .ref (b + 96)] := by
  show ([.ref (ad (.inr 0) 0), .ref (ad (.inr 1) 0), .ref (ad (.inr 2) 0), .ref (ad (.inr 3) 0), .int 0, .ref (ad (.inl 1) 1), .int 0, .ref (ad (.inl 1) 2), .ref (ad (.inl 1) 3), .ref (ad (.inl 1) 8), .ref (ad (.inl 1) 10), .ref (ad (.inl 1) 11), .ref (ad (.inl 1) 16)] : List Value) = _
  rw [ad_p h (show 0 < 10 by omega) (show 0 < 20 by omega), ad_p h (show 1 < 10 by omega) (show 0 < 20 by omega), ad_p h (show 2 < 10 by omega) (show 0 < 20 by omega), ad_p h (show 3 < 10 by omega) (show 0 < 20 by omega), ad_x h (show 1 < 18 by omega), ad_x h (show 2 < 18 by omega), ad_x h (show 3 < 18 by omega), ad_x h (show 8 < 18 by omega), ad_x h (show 10 < 18 by omega), ad_x h (show 11 < 18 by omega), ad_x h (show 16 < 18 by omega)]
  rfl
theorem past_6 {f f' : Nat → Option Nat} (h : ∀ i, i < 6 → f i = f' i) : vp_cell (cA 4) (6, .inr (.inr (.inr (.inr f)))) = vp_cell (cA 4) (6, .inr (.inr (.inr (.inr f')))) := by
  rw [vp_cell_q, vp_cell_q]
  unfold arrV
  congr 2
  funext j
  show va_rf (f j.val) = va_rf (f' j.val)
  rw [h j.val j.isLt]
theorem all_at (hd : ad_at ad b) (a3 : va_P D vwCl (bw b (KX11 KX5 KX1 KX3 KX10 KX9 KX8 KX6 cA b)) H) : ∀ (g : am_G) (o : Nat), am_ok g o → va_at D vwCl (ad g o, am_ce ad cA h00 g o) H := by
  unfold KX11 at a3
  obtain ⟨c1, c2⟩ := bsp (n := 98) a3 (by simp only [List.length_cons, List.length_append, List.length_nil, kl5, kl1, kl3, kl10, kl9, kl8, kl6])
  obtain ⟨d1, d2⟩ := bsp (n := 81) c1 (by simp only [List.length_cons, List.length_append, List.length_nil, kl5, kl1, kl3, kl10, kl9, kl8, kl6])
  have d0 := d1 0 _ rfl
  have d3 : va_P D vwCl (bw (b + 1) (KX5 cA (b + 1) ++ KX5 cA (b + 21) ++ KX5 cA (b + 41) ++ KX5 cA (b + 61))) H := fun k q hk => d1 (k + 1) q hk
  have e0 := d2 0 _ rfl
  have e1 : va_P D vwCl (bw (b + 82) (KX1 cA (b + 82) ++ KX3 cA (b + 83) ++ KX10 cA (b + 88) ++ KX9 cA (b + 90) ++ KX8 cA (b + 91) ++ KX6 cA (b + 96))) H := fun k q hk => d2 (k + 1) q hk
  clear a3 c1 d1 d2
  obtain ⟨d3, p3⟩ := bsp (n := 60) d3 (by simp only [List.length_cons, List.length_append, List.length_nil, kl5, kl1, kl3, kl10, kl9, kl8, kl6])
  obtain ⟨d3, p2⟩ := bsp (n := 40) d3 (by simp only [List.length_cons, List.length_append, List.length_nil, kl5, kl1, kl3, kl10, kl9, kl8, kl6])
  obtain ⟨p0, p1⟩ := bsp (n := 20) d3 (by simp only [List.length_cons, List.length_append, List.length_nil, kl5, kl1, kl3, kl10, kl9, kl8, kl6])
  obtain ⟨c2, p9⟩ := bsp (n := 100) c2 (by simp only [List.length_cons, List.length_append, List.length_nil, kl5, kl1, kl3, kl10, kl9, kl8, kl6])
  obtain ⟨c2, p8⟩ := bsp (n := 80) c2 (by simp only [List.length_cons, List.length_append, List.length_nil, kl5, kl1, kl3, kl10, kl9, kl8, kl6])
  obtain ⟨c2, p7⟩ := bsp (n := 60) c2 (by simp only [List.length_cons, List.length_append, List.length_nil, kl5, kl1, kl3, kl10, kl9, kl8, kl6])
  obtain ⟨c2, p6⟩ := bsp (n := 40) c2 (by simp only [List.length_cons, List.length_append, List.length_nil, kl5, kl1, kl3, kl10, kl9, kl8, kl6])
  obtain ⟨p4, p5⟩ := bsp (n := 20) c2 (by simp only [List.length_cons, List.length_append, List.length_nil, kl5, kl1, kl3, kl10, kl9, kl8, kl6])
  obtain ⟨e1, r6⟩ := bsp (n := 14) e1 (by simp only [List.length_cons, List.length_append, List.length_nil, kl5, kl1, kl3, kl10, kl9, kl8, kl6])
  obtain ⟨e1, r8⟩ := bsp (n := 9) e1 (by simp only [List.length_cons, List.length_append, List.length_nil, kl5, kl1, kl3, kl10, kl9, kl8, kl6])
  obtain ⟨e1, r9⟩ := bsp (n := 8) e1 (by simp only [List.length_cons, List.length_append, List.length_nil, kl5, kl1, kl3, kl10, kl9, kl8, kl6])
  obtain ⟨e1, r10⟩ := bsp (n := 6) e1 (by simp only [List.length_cons, List.length_append, List.length_nil, kl5, kl1, kl3, kl10, kl9, kl8, kl6])
  obtain ⟨r1, r3⟩ := bsp (n := 1) e1 (by simp only [List.length_cons, List.length_append, List.length_nil, kl5, kl1, kl3, kl10, kl9, kl8, kl6])
  have X : ∀ {q o0 n : Nat}, 1 ≤ o0 → o0 + n ≤ 18 → q = 80 + o0 → ∀ j, j < n → ad (.inl 1) (o0 + j) = b + q + j := fun h1 h2 h3 j hj => by
    rw [ad_x hd (by omega), off_b (by omega) (by omega)]
    omega
  have P1 : ∀ k, k < 4 → ∀ j, j < 20 → ad (.inr k) (0 + j) = b + (1 + 20 * k) + j := fun k hk j hj => by
    rw [Nat.zero_add, ad_p hd (by omega) hj, off_p1 hk hj]
    omega
  have P2 : ∀ k, 4 ≤ k → k < 10 → ∀ j, j < 20 → ad (.inr k) (0 + j) = b + (18 + 20 * k) + j := fun k hk hk9 j hj => by
    rw [Nat.zero_add, ad_p hd hk9 hj, off_p2 hk hj]
    omega
  intro g o hok
  match g, hok with
  | .inl 0, h => exact h.elim
  | .inl 1, ho =>
    have ho : o < 18 := ho
    match o, ho with
    | 0, _ =>
      show va_at D vwCl (ad (.inl 1) 0, .inr (11, am_fl ad h00 (.inl 1) 0 11)) H
      rw [fl_11 hd, ad_x hd (show 0 < 18 by omega)]
      exact d0
    | 1, _ =>
      have q1 : ad (.inl 1) 1 = b + 81 := ad_x hd (by omega)
      show H[ad (.inl 1) 1]? = _
      rw [q1]
      refine Eq.trans e0 (congrArg some (past_6 (fun i hi => ?_)))
      match i, hi with
      | 0, _ => exact (congrArg some (ad_p hd (k := 4) (o := 0) (by omega) (by omega))).symm
      | 1, _ => exact (congrArg some (ad_p hd (k := 5) (o := 0) (by omega) (by omega))).symm
      | 2, _ => exact (congrArg some (ad_p hd (k := 6) (o := 0) (by omega) (by omega))).symm
      | 3, _ => exact (congrArg some (ad_p hd (k := 7) (o := 0) (by omega) (by omega))).symm
      | 4, _ => exact (congrArg some (ad_p hd (k := 8) (o := 0) (by omega) (by omega))).symm
      | 5, _ => exact (congrArg some (ad_p hd (k := 9) (o := 0) (by omega) (by omega))).symm
      | i + 6, h => exact absurd h (by omega)
    | 2, _ => exact at_1 (ad := ad) (q := b + 82) r1 (X (by omega) (by omega) (by omega)) 0 (by omega)
    | 3, _ => exact at_3 (ad := ad) (q := b + 83) r3 (X (by omega) (by omega) (by omega)) 0 (by omega)
    | 4, _ => exact at_3 (ad := ad) (q := b + 83) r3 (X (by omega) (by omega) (by omega)) 1 (by omega)
    | 5, _ => exact at_3 (ad := ad) (q := b + 83) r3 (X (by omega) (by omega) (by omega)) 2 (by omega)
    | 6, _ => exact at_3 (ad := ad) (q := b + 83) r3 (X (by omega) (by omega) (by omega)) 3 (by omega)
    | 7, _ => exact at_3 (ad := ad) (q := b + 83) r3 (X (by omega) (by omega) (by omega)) 4 (by omega)
    | 8, _ => exact at_10 (ad := ad) (q := b + 88) r10 (X (by omega) (by omega) (by omega)) 0 (by omega)
    | 9, _ => exact at_10 (ad := ad) (q := b + 88) r10 (X (by omega) (by omega) (by omega)) 1 (by omega)
    | 10, _ => exact at_9 (ad := ad) (q := b + 90) r9 (X (by omega) (by omega) (by omega)) 0 (by omega)
    | 11, _ => exact at_8 (ad := ad) (q := b + 91) r8 (X (by omega) (by omega) (by omega)) 0 (by omega)
    | 12, _ => exact at_8 (ad := ad) (q := b + 91) r8 (X (by omega) (by omega) (by omega)) 1 (by omega)
    | 13, _ => exact at_8 (ad := ad) (q := b + 91) r8 (X (by omega) (by omega) (by omega)) 2 (by omega)
    | 14, _ => exact at_8 (ad := ad) (q := b + 91) r8 (X (by omega) (by omega) (by omega)) 3 (by omega)
    | 15, _ => exact at_8 (ad := ad) (q := b + 91) r8 (X (by omega) (by omega) (by omega)) 4 (by omega)
    | 16, _ => exact at_6 (ad := ad) (q := b + 96) r6 (X (by omega) (by omega) (by omega)) 0 (by omega)
    | 17, _ => exact at_6 (ad := ad) (q := b + 96) r6 (X (by omega) (by omega) (by omega)) 1 (by omega)
    | o + 18, h => exact absurd h (by omega)
  | .inl (n + 2), h => exact h.elim
  | .inr k, hk =>
    obtain ⟨hk, ho⟩ : k < 10 ∧ o < 20 := hk
    have fin : ∀ {x : Nat}, va_at D vwCl (ad (.inr x) (0 + o), am_ce ad cA h00 (.inr x) (0 + o)) H → va_at D vwCl (ad (.inr x) o, am_ce ad cA h00 (.inr x) o) H := fun {x} h => by rw [Nat.zero_add] at h; exact h
    match k, hk with
    | 0, _ => exact fin (at_5 (ad := ad) (q := b + 1) p0 (P1 0 (by omega)) o ho)
    | 1, _ => exact fin (at_5 (ad := ad) (q := b + 21) p1 (P1 1 (by omega)) o ho)
    | 2, _ => exact fin (at_5 (ad := ad) (q := b + 41) p2 (P1 2 (by omega)) o ho)
    | 3, _ => exact fin (at_5 (ad := ad) (q := b + 61) p3 (P1 3 (by omega)) o ho)
    | 4, _ => exact fin (at_5 (ad := ad) (q := b + 98) p4 (P2 4 (by omega) (by omega)) o ho)
    | 5, _ => exact fin (at_5 (ad := ad) (q := b + 118) p5 (P2 5 (by omega) (by omega)) o ho)
    | 6, _ => exact fin (at_5 (ad := ad) (q := b + 138) p6 (P2 6 (by omega) (by omega)) o ho)
    | 7, _ => exact fin (at_5 (ad := ad) (q := b + 158) p7 (P2 7 (by omega) (by omega)) o ho)
    | 8, _ => exact fin (at_5 (ad := ad) (q := b + 178) p8 (P2 8 (by omega) (by omega)) o ho)
    | 9, _ => exact fin (at_5 (ad := ad) (q := b + 198) p9 (P2 9 (by omega) (by omega)) o ho)
    | k + 10, h => exact absurd h (by omega)
end WOA
