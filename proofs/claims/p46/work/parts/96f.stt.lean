/-! .. its statements -/
theorem bd_rr {Y Z : Type} {x : Y} {s : Y → Rs Z} : Rs.bd (.inr x : Rs Y) s = s x := rfl
def arcT (r d rt hd : Nat) : List Int := txI 10 ++ (dg r ++ (txI 11 ++ (dg d ++ ((if rt = 1 then txI 12 else []) ++ ((if hd = 30 then [] else txI 13 ++ dg hd) ++ txI 14)))))
section STT
variable {b : bfT} {p q n m t : Nat} {l l1 l2 L : List Int} {v : pv_T} {g : G3} {c : Int}
theorem At.one (h : At b p [c]) : p < b.1 ∧ b.2 p = c := ⟨by have : p + 1 ≤ b.1 := h.1; omega, by have := h.2 0 (by show 0 < 1; omega); exact this⟩
theorem At.t1 (ht : t < 9) (h : At b p (txI t ++ [32])) : At b p (txI t) ∧ tkA b p = (1, p, p + (am_tx t).length) ∧ isW b (tkA b p) t = true ∧ (∀ t', t' < 9 → t ≠ t' → isW b (tkA b p) t' = false) ∧ tkA b (p + (am_tx t).length) = tkA b (p + (am_tx t).length + 1) := by
  obtain ⟨h1, h2⟩ := h.app
  rw [txI_len] at h2
  obtain ⟨h3, h4⟩ := h2.one
  obtain ⟨e1, e2, e3⟩ := tk_t ht h1 h3 (by omega)
  exact ⟨h1, e1, e2, e3, tk_sp h3 (Or.inl h4)⟩
/-- " ;" and a new line; ";" -/
theorem At.e14 (h : At b p (txI 14)) : p < b.1 ∧ b.2 p = 32 ∧ tkA b p = (3, p + 1, p + 2) ∧ sSign b (tkA b p) 59 = .inr (tkA b (p + 3)) := by
  have h2 := h.2
  have e0 : b.2 (p + 0) = 32 := h2 0 (by show 0 < 3; omega)
  have e1 : b.2 (p + 1) = 59 := h2 1 (by show 1 < 3; omega)
  have e2 : b.2 (p + 2) = 10 := h2 2 (by show 2 < 3; omega)
  have hl : p + 3 ≤ b.1 := h.1
  have e3 : tkA b p = (3, p + 1, p + 2) := (tk_sp (by omega) (Or.inl e0)).trans (tk_s (by omega) e1)
  refine ⟨by omega, e0, e3, ?_⟩
  unfold sSign
  rw [e3, if_pos ⟨rfl, e1⟩]
  exact congrArg _ (tk_sp (p := p + 2) (show p + 2 < b.1 by omega) (Or.inr e2))
theorem At.e16 (h : At b p (txI 16)) : p < b.1 ∧ b.2 p = 59 ∧ tkA b p = (3, p, p + 1) ∧ sSign b (tkA b p) 59 = .inr (tkA b (p + 1)) := by
  obtain ⟨h1, h2⟩ := At.one (c := 59) h
  have e3 := tk_s h1 h2
  refine ⟨h1, h2, e3, ?_⟩
  unfold sSign
  rw [e3, if_pos ⟨rfl, h2⟩]
theorem st_arc {r d rt hd : Nat} (hr : 1 ≤ r ∧ r ≤ 99) (hd1 : 1 ≤ d ∧ d ≤ 180) (hrt : rt ≤ 1) (hh : hd ≤ 99) (hv : v.1 0 < 8) (h : At b p (arcT r d rt hd)) : sStt b v g (tkA b p) = .inr (arcV v r d rt hd, g, tkA b (p + (arcT r d rt hd).length)) ∧ (tkA b p).1 ≠ 0 := by
  have hlen : (arcT r d rt hd).length = 4 + ((dg r).length + (1 + ((dg d).length + ((if rt = 1 then txI 12 else []).length + ((if hd = 30 then [] else txI 13 ++ dg hd).length + 3))))) := by
    unfold arcT
    simp only [List.length_append]
    rfl
  rw [hlen]
  unfold arcT at h
  obtain ⟨a1, h⟩ := h.app
  rw [show (txI 10).length = 4 from rfl] at h
  obtain ⟨a2, h⟩ := h.app
  obtain ⟨a3, h⟩ := h.app
  rw [show (txI 11).length = 1 from rfl] at h
  obtain ⟨a4, h⟩ := h.app
  obtain ⟨a5, h⟩ := h.app
  obtain ⟨a6, a7⟩ := h.app
  obtain ⟨-, t1, t2, t3, t4⟩ := At.t1 (t := 0) (by omega) (show At b p (txI 0 ++ [32]) from a1)
  obtain ⟨s1, s2⟩ := At.one (c := 32) a3
  obtain ⟨q, hq⟩ : ∃ q, q = p + 4 + (dg r).length + 1 + (dg d).length := ⟨_, rfl⟩
  rw [← hq] at a5 a6 a7
  -- behind the degrees
  have key1 : q < b.1 ∧ b.2 q = 32 ∧ isW b (tkA b q) 7 = decide (rt = 1) ∧ adW b (tkA b q) 7 = tkA b (q + (if rt = 1 then txI 12 else []).length) := by
    have key0 : ∀ q', At b q' (if hd = 30 then [] else txI 13 ++ dg hd) → At b (q' + (if hd = 30 then [] else txI 13 ++ dg hd).length) (txI 14) → q' < b.1 ∧ b.2 q' = 32 ∧ isW b (tkA b q') 7 = false := by
      intro q' b1 b2
      by_cases c : hd = 30
      · rw [if_pos c] at b2
        rw [show ([] : List Int).length = 0 from rfl, Nat.add_zero] at b2
        obtain ⟨e1, e2, e3, -⟩ := b2.e14
        exact ⟨e1, e2, isW_3 (by rw [e3]; show (3 : Nat) ≠ 1; omega)⟩
      · rw [if_neg c] at b1
        obtain ⟨b3, b4⟩ := b1.app
        have hd0 := dg_len (n := hd)
        have b5 := b4.2 0 (by omega)
        have b6 := dg_r (n := hd) (i := 0) (by omega) (by omega)
        rw [show (txI 13).length = 5 from rfl, Nat.add_zero] at b5
        have b7 : q' + (txI 13).length + (dg hd).length ≤ b.1 := b4.1
        rw [show (txI 13).length = 5 from rfl] at b7
        obtain ⟨c1, c2⟩ := At.app (l1 := [32]) (l2 := txI 8) b3
        obtain ⟨c3, c4⟩ := c1.one
        have c2 : At b (q' + 1) (txI 8) := c2
        obtain ⟨c5, c6, c7⟩ := tk_t (t := 8) (by omega) c2 (by show q' + 1 + 4 < b.1; omega) (by show ¬ (97 ≤ b.2 (q' + 1 + 4) ∧ b.2 (q' + 1 + 4) ≤ 122); rw [show q' + 1 + 4 = q' + 5 by omega, b5]; omega)
        exact ⟨c3, c4, by rw [tk_sp c3 (Or.inl c4)]; exact c7 7 (by omega) (by omega)⟩
    by_cases c : rt = 1
    · rw [if_pos c] at a5 a6 a7 ⊢
      rw [show (txI 12).length = 6 from rfl] at a6 a7 ⊢
      obtain ⟨k1, k2, -⟩ := key0 _ a6 a7
      obtain ⟨c1, c2⟩ := At.app (l1 := [32]) (l2 := txI 7) a5
      obtain ⟨c3, c4⟩ := c1.one
      have c2 : At b (q + 1) (txI 7) := c2
      obtain ⟨c5, c6, -⟩ := tk_t (t := 7) (by omega) c2 (by show q + 1 + 5 < b.1; omega) (by show ¬ (97 ≤ b.2 (q + 1 + 5) ∧ b.2 (q + 1 + 5) ≤ 122); rw [show q + 1 + 5 = q + 6 by omega, k2]; omega)
      rw [tk_sp c3 (Or.inl c4)]
      refine ⟨c3, c4, by rw [c6, decide_eq_true c], ?_⟩
      unfold adW
      rw [if_pos c6, c5]
      rfl
    · rw [if_neg c] at a6 a7 ⊢
      rw [show ([] : List Int).length = 0 from rfl, Nat.add_zero] at a6 a7 ⊢
      obtain ⟨k1, k2, k3⟩ := key0 _ a6 a7
      refine ⟨k1, k2, by rw [k3, decide_eq_false c], ?_⟩
      unfold adW
      rw [if_neg (by rw [k3]; decide)]
  obtain ⟨k1, k2, k3, k4⟩ := key1
  generalize hq1 : q + (if rt = 1 then txI 12 else []).length = q1 at a6 a7 k4
  have n1 := sNum_dg (lo := 1) (hi := 99) (by omega) a2 s1 (by omega) (by omega) (by omega)
  have n2 := sNum_dg (lo := 1) (hi := 180) (by omega) a4 (by omega) (by rw [← hq]; omega) (by omega) (by omega)
  rw [← hq] at n2
  have t4 : tkA b (p + 3) = tkA b (p + 4) := t4
  have eA : sArc b v (tkA b p) = .inr (arcV v r d rt hd, tkA b (q1 + (if hd = 30 then [] else txI 13 ++ dg hd).length)) := by
    unfold sArc
    rw [if_neg (by omega), t1]
    show (sNum b (tkA b (p + 3)) 1 99).bd _ = _
    rw [t4, n1, bd_rr]
    dsimp only
    rw [tk_sp s1 (Or.inl s2), n2, bd_rr]
    dsimp only
    rw [k4, k3]
    have hb : bI (decide (rt = 1) = true) = (rt : Int) := by
      by_cases c : rt = 1
      · rw [c]
        rfl
      · obtain rfl : rt = 0 := by omega
        rfl
    rw [hb]
    by_cases c : hd = 30
    · rw [if_pos c] at a7 ⊢
      rw [show ([] : List Int).length = 0 from rfl, Nat.add_zero] at a7 ⊢
      obtain ⟨e1, e2, e3, -⟩ := a7.e14
      rw [if_neg (by rw [isW_3 (by rw [e3]; show (3 : Nat) ≠ 1; omega)]; decide), c]
      rfl
    · rw [if_neg c] at a6 a7 ⊢
      obtain ⟨b3, b4⟩ := a6.app
      have hd0 := dg_len (n := hd)
      have b5 := b4.2 0 (by omega)
      have b6 := dg_r (n := hd) (i := 0) (by omega) (by omega)
      rw [show (txI 13).length = 5 from rfl] at b4 b5
      rw [Nat.add_zero] at b5
      have b7 : q1 + 5 + (dg hd).length ≤ b.1 := b4.1
      obtain ⟨c1, c2⟩ := At.app (l1 := [32]) (l2 := txI 8) b3
      obtain ⟨c3, c4⟩ := c1.one
      have c2 : At b (q1 + 1) (txI 8) := c2
      obtain ⟨c5, c6, -⟩ := tk_t (t := 8) (by omega) c2 (by show q1 + 1 + 4 < b.1; omega) (by show ¬ (97 ≤ b.2 (q1 + 1 + 4) ∧ b.2 (q1 + 1 + 4) ≤ 122); rw [show q1 + 1 + 4 = q1 + 5 by omega, b5]; omega)
      rw [List.length_append, show (txI 13).length = 5 from rfl] at a7 ⊢
      obtain ⟨e1, e2, e3, -⟩ := a7.e14
      have n3 := sNum_dg (lo := 0) (hi := 99) (by omega) b4 (by omega) (by rw [show q1 + 5 + (dg hd).length = q1 + (5 + (dg hd).length) by omega, e2]; omega) (by omega) (by omega)
      rw [tk_sp c3 (Or.inl c4), if_pos c6, c5]
      show (sNum b (tkA b (q1 + 1 + 4)) 0 99).bd _ = _
      rw [show q1 + 1 + 4 = q1 + 5 by omega, n3, bd_rr]
      dsimp only
      rw [show q1 + 5 + (dg hd).length = q1 + (5 + (dg hd).length) by omega]
  obtain ⟨e1, e2, e3, e4⟩ := a7.e14
  refine ⟨?_, by rw [t1]; show (1 : Nat) ≠ 0; omega⟩
  unfold sStt sStm
  rw [if_pos t2, eA, bd_rr]
  dsimp only
  rw [bd_rr]
  dsimp only
  rw [e4, bd_rr]
  rw [show q1 + (if hd = 30 then [] else txI 13 ++ dg hd).length + 3 = p + (4 + ((dg r).length + (1 + ((dg d).length + ((if rt = 1 then txI 12 else []).length + ((if hd = 30 then [] else txI 13 ++ dg hd).length + 3)))))) by omega]
def namT (L : List Int) : List Int := txI 15 ++ (L ++ txI 16)
theorem st_nam (hL : 1 ≤ L.length ∧ L.length ≤ 8) (hc : ∀ i, i < L.length → 97 ≤ L.getD i 0 ∧ L.getD i 0 ≤ 122) (hv : v.1 1 + L.length ≤ 20) (h : At b p (namT L)) : sStt b v g (tkA b p) = .inr (namV v (fun i => b.2 (p + 5 + i)) L.length, g, tkA b (p + (namT L).length)) ∧ (tkA b p).1 ≠ 0 := by
  have hlen : (namT L).length = 5 + (L.length + 1) := by
    unfold namT
    simp only [List.length_append]
    rfl
  rw [hlen]
  unfold namT at h
  obtain ⟨a1, h⟩ := h.app
  rw [show (txI 15).length = 5 from rfl] at h
  obtain ⟨a2, a3⟩ := h.app
  obtain ⟨-, t1, t2, t3, t4⟩ := At.t1 (t := 1) (by omega) (show At b p (txI 1 ++ [32]) from a1)
  have t4 : tkA b (p + 4) = tkA b (p + 5) := t4
  obtain ⟨e1, e2, e3, e4⟩ := a3.e16
  have e5 := tk_w (b := b) (p := p + 5) (n := L.length) (by omega) hL.2 e1 (fun i hi => by rw [a2.2 i hi]; exact hc i hi) (by omega)
  have eA : sName b v (tkA b p) = .inr (namV v (fun i => b.2 (p + 5 + i)) L.length, tkA b (p + 5 + L.length)) := by
    have e6 : tkA b (tkA b p).2.2 = (1, p + 5, p + 5 + L.length) := by
      rw [t1]
      exact t4.trans e5
    unfold sName wdF
    rw [e6, if_pos rfl]
    show (if v.1 1 + (p + 5 + L.length - (p + 5)) ≤ 20 then Sum.inr (namV v (fun i => b.2 (p + 5 + i)) (p + 5 + L.length - (p + 5)), tkA b (p + 5 + L.length)) else _) = _
    rw [show p + 5 + L.length - (p + 5) = L.length by omega, if_pos hv]
  refine ⟨?_, by rw [t1]; show (1 : Nat) ≠ 0; omega⟩
  unfold sStt sStm
  rw [if_neg (by rw [t3 0 (by omega) (by omega)]; decide), if_pos t2, eA, bd_rr]
  dsimp only
  rw [bd_rr]
  dsimp only
  rw [e4, bd_rr]
  rw [show p + 5 + L.length + 1 = p + (5 + (L.length + 1)) by omega]
def widT (c : Int) (n : Nat) : List Int := txI 17 ++ ([c] ++ (txI 11 ++ (dg n ++ txI 16)))
theorem tk_c (hc : 97 ≤ c ∧ c ≤ 122) (h : At b p [c]) (hl : p + 1 < b.1) (hx : ¬ (97 ≤ b.2 (p + 1) ∧ b.2 (p + 1) ≤ 122)) : tkA b p = (1, p, p + 1) := tk_w (n := 1) (by omega) (by omega) hl (fun i hi => by
  obtain rfl : i = 0 := by omega
  rw [Nat.add_zero, h.one.2]
  exact hc) hx
theorem st_wid (hc : 97 ≤ c ∧ c ≤ 122) (hn : 1 ≤ n ∧ n ≤ 99) (h : At b p (widT c n)) : sStt b v g (tkA b p) = .inr (pu v 8 (c - 97).toNat n, g, tkA b (p + (widT c n).length)) ∧ (tkA b p).1 ≠ 0 := by
  have hlen : (widT c n).length = 5 + (1 + (1 + ((dg n).length + 1))) := by
    unfold widT
    simp only [List.length_append]
    rfl
  rw [hlen]
  unfold widT at h
  obtain ⟨a1, h⟩ := h.app
  rw [show (txI 17).length = 5 from rfl] at h
  obtain ⟨a2, h⟩ := h.app
  rw [show [c].length = 1 from rfl] at h
  obtain ⟨a3, h⟩ := h.app
  rw [show (txI 11).length = 1 from rfl] at h
  obtain ⟨a4, a5⟩ := h.app
  obtain ⟨-, t1, t2, t3, t4⟩ := At.t1 (t := 2) (by omega) (show At b p (txI 2 ++ [32]) from a1)
  have t4 : tkA b (p + 4) = tkA b (p + 5) := t4
  obtain ⟨s1, s2⟩ := At.one (c := 32) a3
  obtain ⟨e1, e2, e3, e4⟩ := a5.e16
  have e5 := tk_c hc a2 s1 (by omega)
  have n1 := sNum_dg (lo := 1) (hi := 99) (by omega) a4 e1 (by omega) (by omega) (by omega)
  have eA : sWide b v (tkA b p) = .inr (pu v 8 (c - 97).toNat n, tkA b (p + 5 + 1 + 1 + (dg n).length)) := by
    have e6 : tkA b (tkA b p).2.2 = (1, p + 5, p + 5 + 1) := by
      rw [t1]
      exact t4.trans e5
    unfold sWide wdF
    rw [e6, if_pos rfl]
    show (sNum b (tkA b (p + 5 + 1)) 1 99).bd _ = _
    rw [tk_sp s1 (Or.inl s2), n1, bd_rr]
    show (Sum.inr (widV v (fun i => b.2 (p + 5 + i)) (n : Int) (p + 5 + 1 - (p + 5)), _) : Rs (pv_T × Tk)) = _
    rw [show p + 5 + 1 - (p + 5) = 1 by omega]
    show (Sum.inr (pu v 8 (b.2 (p + 5 + 0) - 97).toNat (n : Int), _) : Rs (pv_T × Tk)) = _
    rw [Nat.add_zero, a2.one.2]
  refine ⟨?_, by rw [t1]; show (1 : Nat) ≠ 0; omega⟩
  unfold sStt sStm
  rw [if_neg (by rw [t3 0 (by omega) (by omega)]; decide), if_neg (by rw [t3 1 (by omega) (by omega)]; decide), if_pos t2, eA, bd_rr]
  dsimp only
  rw [bd_rr]
  dsimp only
  rw [e4, bd_rr]
  rw [show p + 5 + 1 + 1 + (dg n).length + 1 = p + (5 + (1 + (1 + ((dg n).length + 1)))) by omega]
def floT (c : Int) (x y z : Nat) : List Int := txI 18 ++ ([c] ++ (dg x ++ (txI 11 ++ (dg y ++ (txI 11 ++ (dg z ++ txI 16))))))
theorem st_flo {x y z : Nat} (hc : 97 ≤ c ∧ c ≤ 122) (hx : 1 ≤ x ∧ x ≤ 99) (hy : 1 ≤ y ∧ y ≤ 99) (hz : 1 ≤ z ∧ z ≤ 9) (hv : v.1 2 < 6) (hk : ∀ q, q < v.1 2 → v.2 14 (8 * q) ≠ c) (h : At b p (floT c x y z)) : ∃ f, f 0 = c ∧ sStt b v g (tkA b p) = .inr (kinV v f x y z, g, tkA b (p + (floT c x y z).length)) ∧ (tkA b p).1 ≠ 0 := by
  have hlen : (floT c x y z).length = 9 + (1 + ((dg x).length + (1 + ((dg y).length + (1 + ((dg z).length + 1)))))) := by
    unfold floT
    simp only [List.length_append]
    rfl
  rw [hlen]
  unfold floT at h
  obtain ⟨a1, h⟩ := h.app
  rw [show (txI 18).length = 9 from rfl] at h
  obtain ⟨a2, h⟩ := h.app
  rw [show [c].length = 1 from rfl] at h
  obtain ⟨a3, h⟩ := h.app
  obtain ⟨a4, h⟩ := h.app
  rw [show (txI 11).length = 1 from rfl] at h
  obtain ⟨a5, h⟩ := h.app
  obtain ⟨a6, h⟩ := h.app
  rw [show (txI 11).length = 1 from rfl] at h
  obtain ⟨a7, a8⟩ := h.app
  obtain ⟨-, t1, t2, t3, t4⟩ := At.t1 (t := 3) (by omega) (show At b p (txI 3 ++ [32]) from a1)
  have t4 : tkA b (p + 8) = tkA b (p + 9) := t4
  obtain ⟨s1, s2⟩ := At.one (c := 32) a4
  obtain ⟨s3, s4⟩ := At.one (c := 32) a6
  obtain ⟨e1, e2, e3, e4⟩ := a8.e16
  have hd0 := dg_len (n := x)
  have b5 := a3.2 0 (by omega)
  have b6 := dg_r (n := x) (i := 0) (by omega) (by omega)
  rw [Nat.add_zero] at b5
  have e5 := tk_c hc a2 (by omega) (by rw [b5]; omega)
  have n1 := sNum_dg (lo := 1) (hi := 99) (by omega) a3 s1 (by omega) (by omega) (by omega)
  have n2 := sNum_dg (lo := 1) (hi := 99) (by omega) a5 s3 (by omega) (by omega) (by omega)
  have n3 := sNum_dg (lo := 1) (hi := 9) (by omega) a7 e1 (by omega) (by omega) (by omega)
  have ef : wdZ b (1, p + 9, p + 9 + 1) 0 = c := by
    show (if 0 < p + 9 + 1 - (p + 9) then b.2 (p + 9 + 0) else 0) = c
    rw [if_pos (by omega), Nat.add_zero]
    exact a2.one.2
  refine ⟨wdZ b (1, p + 9, p + 9 + 1), ef, ?_, by rw [t1]; show (1 : Nat) ≠ 0; omega⟩
  have eA : sFlo b v (tkA b p) = .inr (kinV v (wdZ b (1, p + 9, p + 9 + 1)) x y z, tkA b (p + 9 + 1 + (dg x).length + 1 + (dg y).length + 1 + (dg z).length)) := by
    have e6 : tkA b (tkA b p).2.2 = (1, p + 9, p + 9 + 1) := by
      rw [t1]
      exact t4.trans e5
    have e7 : takN v (wdZ b (1, p + 9, p + 9 + 1)) = false := by
      cases hh : takN v (wdZ b (1, p + 9, p + 9 + 1)) with
      | false => rfl
      | true =>
        obtain ⟨q, hq, t⟩ := takN_i.mp hh
        have := t 0 (by omega)
        rw [ef, Nat.add_zero] at this
        exact absurd this (hk q hq)
    unfold sFlo
    rw [if_neg (by omega), e6, if_pos rfl, if_neg (by rw [e7]; decide)]
    show (sNum b (tkA b (p + 9 + 1)) 1 99).bd _ = _
    rw [n1, bd_rr]
    dsimp only
    rw [tk_sp s1 (Or.inl s2), n2, bd_rr]
    dsimp only
    rw [tk_sp s3 (Or.inl s4), n3, bd_rr]
  unfold sStt sStm
  rw [if_neg (by rw [t3 0 (by omega) (by omega)]; decide), if_neg (by rw [t3 1 (by omega) (by omega)]; decide), if_neg (by rw [t3 2 (by omega) (by omega)]; decide), if_pos t2, eA, bd_rr]
  dsimp only
  rw [bd_rr]
  dsimp only
  rw [e4, bd_rr]
  rw [show p + 9 + 1 + (dg x).length + 1 + (dg y).length + 1 + (dg z).length + 1 = p + (9 + (1 + ((dg x).length + (1 + ((dg y).length + (1 + ((dg z).length + 1))))))) by omega]
/-- the seed, the sharpness, the margin -/
theorem st_onc {told : Bool} {c : Nat} {lo hi : Int} (hn : n < 1000) (h1 : lo ≤ n) (h2 : (n : Int) ≤ hi) (htold : told = false) (ht : t < 9) (h : At b p ((txI t ++ [32]) ++ (dg n ++ txI 16))) : sOnc b v told c lo hi (tkA b p) = .inr (pu v 0 c n, tkA b (p + (txI t ++ [32]).length + (dg n).length)) ∧ sSign b (tkA b (p + (txI t ++ [32]).length + (dg n).length)) 59 = .inr (tkA b (p + ((txI t ++ [32]) ++ (dg n ++ txI 16)).length)) ∧ isW b (tkA b p) t = true ∧ (∀ t', t' < 9 → t ≠ t' → isW b (tkA b p) t' = false) ∧ (tkA b p).1 ≠ 0 := by
  obtain ⟨a1, h⟩ := h.app
  obtain ⟨a2, a3⟩ := h.app
  obtain ⟨-, t1, t2, t3, t4⟩ := At.t1 ht a1
  obtain ⟨e1, e2, e3, e4⟩ := a3.e16
  have n1 := sNum_dg (lo := lo) (hi := hi) hn a2 e1 (by omega) h1 h2
  have hl : (txI t ++ [32]).length = (am_tx t).length + 1 := by rw [List.length_append, txI_len]; rfl
  refine ⟨?_, ?_, t2, t3, by rw [t1]; show (1 : Nat) ≠ 0; omega⟩
  · unfold sOnc
    rw [if_neg (by rw [htold]; decide), t1]
    show (sNum b (tkA b (p + (am_tx t).length)) lo hi).bd _ = _
    rw [t4, show p + (am_tx t).length + 1 = p + (txI t ++ [32]).length by omega, n1, bd_rr]
  · rw [e4]
    congr 2
    have hz : (dg n ++ txI 16).length = (dg n).length + 1 := by rw [List.length_append]; rfl
    have hz2 : ((txI t ++ [32]) ++ (dg n ++ txI 16)).length = (txI t ++ [32]).length + (dg n ++ txI 16).length := List.length_append
    rw [hz2, hz]
    omega
theorem st_see (hn : n ≤ 999) (hg : g.1 = false) (h : At b p (txI 19 ++ (dg n ++ txI 16))) : sStt b v g (tkA b p) = .inr (pu v 0 2 n, (true, g.2), tkA b (p + (txI 19 ++ (dg n ++ txI 16)).length)) ∧ (tkA b p).1 ≠ 0 := by
  obtain ⟨z1, z2, z3, z4, z5⟩ := st_onc (v := v) (t := 4) (told := g.1) (c := 2) (lo := 0) (hi := 999) (by omega) (by omega) (by omega) hg (by omega) (show At b p ((txI 4 ++ [32]) ++ (dg n ++ txI 16)) from h)
  refine ⟨?_, z5⟩
  unfold sStt sStm
  rw [if_neg (by rw [z4 0 (by omega) (by omega)]; decide), if_neg (by rw [z4 1 (by omega) (by omega)]; decide), if_neg (by rw [z4 2 (by omega) (by omega)]; decide), if_neg (by rw [z4 3 (by omega) (by omega)]; decide), if_pos z3, z1, bd_rr]
  dsimp only
  rw [bd_rr]
  dsimp only
  rw [z2, bd_rr]
  rfl
theorem st_sha (hn : 1 ≤ n ∧ n ≤ 99) (hg : g.2.1 = false) (h : At b p (txI 20 ++ (dg n ++ txI 16))) : sStt b v g (tkA b p) = .inr (pu v 0 0 n, (g.1, true, g.2.2), tkA b (p + (txI 20 ++ (dg n ++ txI 16)).length)) ∧ (tkA b p).1 ≠ 0 := by
  obtain ⟨z1, z2, z3, z4, z5⟩ := st_onc (v := v) (t := 5) (told := g.2.1) (c := 0) (lo := 1) (hi := 99) (by omega) (by omega) (by omega) hg (by omega) (show At b p ((txI 5 ++ [32]) ++ (dg n ++ txI 16)) from h)
  refine ⟨?_, z5⟩
  unfold sStt sStm
  rw [if_neg (by rw [z4 0 (by omega) (by omega)]; decide), if_neg (by rw [z4 1 (by omega) (by omega)]; decide), if_neg (by rw [z4 2 (by omega) (by omega)]; decide), if_neg (by rw [z4 3 (by omega) (by omega)]; decide), if_neg (by rw [z4 4 (by omega) (by omega)]; decide), if_pos z3, z1, bd_rr]
  dsimp only
  rw [bd_rr]
  dsimp only
  rw [z2, bd_rr]
  rfl
theorem st_mar (hn : n ≤ 99) (hg : g.2.2 = false) (h : At b p (txI 21 ++ (dg n ++ txI 16))) : sStt b v g (tkA b p) = .inr (pu v 0 1 n, (g.1, g.2.1, true), tkA b (p + (txI 21 ++ (dg n ++ txI 16)).length)) ∧ (tkA b p).1 ≠ 0 := by
  obtain ⟨z1, z2, z3, z4, z5⟩ := st_onc (v := v) (t := 6) (told := g.2.2) (c := 1) (lo := 0) (hi := 99) (by omega) (by omega) (by omega) hg (by omega) (show At b p ((txI 6 ++ [32]) ++ (dg n ++ txI 16)) from h)
  refine ⟨?_, z5⟩
  unfold sStt sStm
  rw [if_neg (by rw [z4 0 (by omega) (by omega)]; decide), if_neg (by rw [z4 1 (by omega) (by omega)]; decide), if_neg (by rw [z4 2 (by omega) (by omega)]; decide), if_neg (by rw [z4 3 (by omega) (by omega)]; decide), if_neg (by rw [z4 4 (by omega) (by omega)]; decide), if_neg (by rw [z4 5 (by omega) (by omega)]; decide), if_pos z3, z1, bd_rr]
  dsimp only
  rw [bd_rr]
  dsimp only
  rw [z2, bd_rr]
  rfl
end STT
