/-! strokes: the state that they change, both sides -/
def pu (v : pv_T) (c i : Nat) (x : Int) : pv_T := (v.1, fun c' i' => if c' = c then (if i' = i then x else v.2 c' i') else v.2 c' i')
def pn (v : pv_T) (k n : Nat) : pv_T := (fun k' => if k' = k then n else v.1 k', v.2)
theorem pu_o {v : pv_T} {c i c' i' : Nat} {x : Int} (h : c' ≠ c) : (pu v c i x).2 c' i' = v.2 c' i' := if_neg h
theorem pu_i {v : pv_T} {c i i' : Nat} {x : Int} (h : i' ≠ i) : (pu v c i x).2 c i' = v.2 c i' := (if_pos rfl).trans (if_neg h)
theorem pu_s {v : pv_T} {c i : Nat} {x : Int} : (pu v c i x).2 c i = x := (if_pos rfl).trans (if_pos rfl)
abbrev G4 : Type := Int × Int × Int × Int
def lcg (x : Int) : Int := (iI x * 1103515245 + iI 12345).toInt
def rnd (x : Int) : Int := (((iI x).toUInt32 >>> ((iI (16)).toUInt32 &&& Int32.toUInt32 31)).toInt32).toInt
theorem lcg_e (x : Int) : iI x * 1103515245 + iI 12345 = iI (lcg x) := iI_of _
theorem rnd_e (x : Int) : ((iI x).toUInt32 >>> ((iI (16)).toUInt32 &&& Int32.toUInt32 31)).toInt32 = iI (rnd x) := iI_of _
theorem rnd_b (x : Int) : 0 ≤ rnd x ∧ rnd x ≤ 65535 := by
  unfold rnd
  have e : ((iI x).toUInt32 >>> ((iI (16)).toUInt32 &&& Int32.toUInt32 31)).toInt32.toBitVec.toNat = (iI x).toBitVec.toNat / 2 ^ 16 := by
    show ((iI x).toBitVec >>> (((iI 16).toUInt32 &&& Int32.toUInt32 31).toBitVec % 32)).toNat = _
    rw [BitVec.ushiftRight_eq', show (((iI 16).toUInt32 &&& Int32.toUInt32 31).toBitVec % 32).toNat = 16 from s_u 16 (by decide), BitVec.toNat_ushiftRight, Nat.shiftRight_eq_div_pow]
  have hb := (iI x).toBitVec.isLt
  show 0 ≤ BitVec.toInt _ ∧ BitVec.toInt _ ≤ 65535
  rw [BitVec.toInt_eq_toNat_cond, e, if_pos (by omega)]
  omega
def shp (s : Int) : Int := if 0 < s - 1 then s - 1 else 0
theorem shp_b {s : Int} (h : 0 ≤ s ∧ s ≤ 99) : 0 ≤ shp s ∧ shp s ≤ 99 := by unfold shp; split <;> omega
def stk0 (G : G4) (hd x1 x2 d1 d2 : Int) : Int × G4 := if hd ≤ G.1 then (0, shp G.1, G.2.1, G.2.2.1, G.2.2.2 + 1) else if 2 * (hd - G.1) ≤ d1 % 100 then (0, shp G.1, x1, G.2.2.1, G.2.2.2 + 1) else (100 * (1 + d2 % 20), shp G.1, x2, G.2.2.1 + 1, G.2.2.2 + 1)
def stk (G : G4) (hd : Int) : Int × G4 := stk0 G hd (lcg G.2.1) (lcg (lcg G.2.1)) (rnd (lcg G.2.1)) (rnd (lcg (lcg G.2.1)))
theorem stk0_b {G : G4} {hd x1 x2 d1 d2 : Int} (hG : 0 ≤ G.1 ∧ G.1 ≤ 99) : (0 ≤ (stk0 G hd x1 x2 d1 d2).2.1 ∧ (stk0 G hd x1 x2 d1 d2).2.1 ≤ 99) ∧ ((stk0 G hd x1 x2 d1 d2).1 = 0 ∧ (stk0 G hd x1 x2 d1 d2).2.2.2.1 = G.2.2.1 ∨ (100 ≤ (stk0 G hd x1 x2 d1 d2).1 ∧ (stk0 G hd x1 x2 d1 d2).1 ≤ 2000) ∧ (stk0 G hd x1 x2 d1 d2).2.2.2.1 = G.2.2.1 + 1) := by
  have hs := shp_b hG
  unfold stk0
  split
  · exact ⟨hs, Or.inl ⟨rfl, rfl⟩⟩
  · split
    · exact ⟨hs, Or.inl ⟨rfl, rfl⟩⟩
    · refine ⟨hs, Or.inr ⟨⟨?_, ?_⟩, rfl⟩⟩
      · show 100 ≤ 100 * (1 + d2 % 20); omega
      · show 100 * (1 + d2 % 20) ≤ 2000; omega
theorem stk_b {G : G4} {hd : Int} (hG : 0 ≤ G.1 ∧ G.1 ≤ 99) : (0 ≤ (stk G hd).2.1 ∧ (stk G hd).2.1 ≤ 99) ∧ ((stk G hd).1 = 0 ∧ (stk G hd).2.2.2.1 = G.2.2.1 ∨ (100 ≤ (stk G hd).1 ∧ (stk G hd).1 ≤ 2000) ∧ (stk G hd).2.2.2.1 = G.2.2.1 + 1) := stk0_b hG
def cl_g (h : am_H) (g : am_G) (o : Nat) (G : G4) : Prop := h.1 g o 0 = iI G.1 ∧ h.1 g o 1 = iI G.2.1 ∧ h.1 g o 2 = iI G.2.2.1 ∧ h.1 g o 3 = iI G.2.2.2
theorem k_reach1 {h : am_H} {g : am_G} {o : Nat} {G : G4} {hd : Int} (hG : 0 ≤ G.1 ∧ G.1 ≤ 99) (hh : 0 ≤ hd ∧ hd ≤ 99) (R : cl_g h g o G) (c : hd ≤ G.1) : ∃ h', f_X1_reachOfStroke g o (iI hd) h = some (iI 0, h') ∧ cl_g h' g o (shp G.1, G.2.1, G.2.2.1, G.2.2.2 + 1) := by
  obtain ⟨r0, r1, r2, r3⟩ := R
  refine ⟨am_u (am_u h g o 0 (iI (shp G.1))) g o 3 (iI (G.2.2.2 + 1)), ?_, ?_, ?_, ?_, ?_⟩
  · unfold f_X1_reachOfStroke f_X1_reachOfStroke_51 shp
    simp (disch := omega) only [xI_le, xI_lt, xI_eq, xI_0, xI_ib, if_pos, if_neg, if_true, if_false, xI_cl, Int.toNat_natCast, iI_m, iI_a, iI_s, iI_1, xI_n, Option.bind_some, Int.natCast_add, Int.natCast_one, xI_zb, if_bI0, if_bI1, xI_rn, xI_ti, r0, k_max (a := 0) (b := G.1 - 1) (by omega) (by omega), am_lt, au_s, r3]
  · simp (disch := omega) only [xI_le, xI_lt, xI_eq, xI_0, xI_ib, if_pos, if_neg, if_true, if_false, xI_cl, Int.toNat_natCast, iI_m, iI_a, iI_s, iI_1, xI_n, Option.bind_some, Int.natCast_add, Int.natCast_one, xI_zb, if_bI0, if_bI1, xI_rn, xI_ti, au_s]
  · simp (disch := omega) only [xI_le, xI_lt, xI_eq, xI_0, xI_ib, if_pos, if_neg, if_true, if_false, xI_cl, Int.toNat_natCast, iI_m, iI_a, iI_s, iI_1, xI_n, Option.bind_some, Int.natCast_add, Int.natCast_one, xI_zb, if_bI0, if_bI1, xI_rn, xI_ti, au_s, r1]
  · simp (disch := omega) only [xI_le, xI_lt, xI_eq, xI_0, xI_ib, if_pos, if_neg, if_true, if_false, xI_cl, Int.toNat_natCast, iI_m, iI_a, iI_s, iI_1, xI_n, Option.bind_some, Int.natCast_add, Int.natCast_one, xI_zb, if_bI0, if_bI1, xI_rn, xI_ti, au_s, r2]
  · simp (disch := omega) only [xI_le, xI_lt, xI_eq, xI_0, xI_ib, if_pos, if_neg, if_true, if_false, xI_cl, Int.toNat_natCast, iI_m, iI_a, iI_s, iI_1, xI_n, Option.bind_some, Int.natCast_add, Int.natCast_one, xI_zb, if_bI0, if_bI1, xI_rn, xI_ti, au_s]
theorem k_nextBits {h : am_H} {g : am_G} {o : Nat} {x : Int} (r1 : h.1 g o 1 = iI x) : f_X1_nextBits g o h = some (iI (rnd (lcg x)), am_u h g o 1 (iI (lcg x))) := by
  unfold f_X1_nextBits
  rw [r1, lcg_e]
  show some ((((am_u h g o 1 (iI (lcg x))).1 g o 1).toUInt32 >>> ((iI (16)).toUInt32 &&& Int32.toUInt32 31)).toInt32, am_u h g o 1 (iI (lcg x))) = _
  rw [au_s, if_pos rfl, rnd_e]
theorem k_reach2 {h : am_H} {g : am_G} {o : Nat} {G : G4} {hd x1 d1 : Int} (hG : 0 ≤ G.1 ∧ G.1 ≤ 99) (hh : 0 ≤ hd ∧ hd ≤ 99) (R : cl_g h g o G) (c : ¬ hd ≤ G.1) (e1 : f_X1_nextBits g o h = some (iI d1, am_u h g o 1 (iI x1))) (b1 : 0 ≤ d1 ∧ d1 ≤ 65535) (d : 2 * (hd - G.1) ≤ d1 % 100) : ∃ h', f_X1_reachOfStroke g o (iI hd) h = some (iI 0, h') ∧ cl_g h' g o (shp G.1, x1, G.2.2.1, G.2.2.2 + 1) := by
  obtain ⟨r0, r1, r2, r3⟩ := R
  refine ⟨am_u (am_u (am_u h g o 1 (iI x1)) g o 0 (iI (shp G.1))) g o 3 (iI (G.2.2.2 + 1)), ?_, ?_, ?_, ?_, ?_⟩
  · unfold f_X1_reachOfStroke f_X1_reachOfStroke_51 shp
    simp (disch := omega) only [xI_le, xI_lt, xI_eq, xI_0, xI_ib, if_pos, if_neg, if_true, if_false, xI_cl, Int.toNat_natCast, iI_m, iI_a, iI_s, iI_1, xI_n, Option.bind_some, Int.natCast_add, Int.natCast_one, xI_zb, if_bI0, if_bI1, xI_rn, xI_ti, r0, e1, k_max (a := 0) (b := G.1 - 1) (by omega) (by omega), am_lt, au_s, r3]
  · simp (disch := omega) only [xI_le, xI_lt, xI_eq, xI_0, xI_ib, if_pos, if_neg, if_true, if_false, xI_cl, Int.toNat_natCast, iI_m, iI_a, iI_s, iI_1, xI_n, Option.bind_some, Int.natCast_add, Int.natCast_one, xI_zb, if_bI0, if_bI1, xI_rn, xI_ti, au_s]
  · simp (disch := omega) only [xI_le, xI_lt, xI_eq, xI_0, xI_ib, if_pos, if_neg, if_true, if_false, xI_cl, Int.toNat_natCast, iI_m, iI_a, iI_s, iI_1, xI_n, Option.bind_some, Int.natCast_add, Int.natCast_one, xI_zb, if_bI0, if_bI1, xI_rn, xI_ti, au_s]
  · simp (disch := omega) only [xI_le, xI_lt, xI_eq, xI_0, xI_ib, if_pos, if_neg, if_true, if_false, xI_cl, Int.toNat_natCast, iI_m, iI_a, iI_s, iI_1, xI_n, Option.bind_some, Int.natCast_add, Int.natCast_one, xI_zb, if_bI0, if_bI1, xI_rn, xI_ti, au_s, r2]
  · simp (disch := omega) only [xI_le, xI_lt, xI_eq, xI_0, xI_ib, if_pos, if_neg, if_true, if_false, xI_cl, Int.toNat_natCast, iI_m, iI_a, iI_s, iI_1, xI_n, Option.bind_some, Int.natCast_add, Int.natCast_one, xI_zb, if_bI0, if_bI1, xI_rn, xI_ti, au_s]
theorem k_reach3 {h : am_H} {g : am_G} {o : Nat} {G : G4} {hd x1 d1 x2 d2 : Int} (hG : 0 ≤ G.1 ∧ G.1 ≤ 99) (hh : 0 ≤ hd ∧ hd ≤ 99) (R : cl_g h g o G) (c : ¬ hd ≤ G.1) (e1 : f_X1_nextBits g o h = some (iI d1, am_u h g o 1 (iI x1))) (b1 : 0 ≤ d1 ∧ d1 ≤ 65535) (d : ¬ 2 * (hd - G.1) ≤ d1 % 100) (e2 : f_X1_nextBits g o (am_u h g o 1 (iI x1)) = some (iI d2, am_u (am_u h g o 1 (iI x1)) g o 1 (iI x2))) (b2 : 0 ≤ d2 ∧ d2 ≤ 65535) : ∃ h', f_X1_reachOfStroke g o (iI hd) h = some (iI (100 * (1 + d2 % 20)), h') ∧ cl_g h' g o (shp G.1, x2, G.2.2.1 + 1, G.2.2.2 + 1) := by
  obtain ⟨r0, r1, r2, r3⟩ := R
  refine ⟨am_u (am_u (am_u (am_u (am_u h g o 1 (iI x1)) g o 1 (iI x2)) g o 2 (iI (G.2.2.1 + 1))) g o 0 (iI (shp G.1))) g o 3 (iI (G.2.2.2 + 1)), ?_, ?_, ?_, ?_, ?_⟩
  · unfold f_X1_reachOfStroke f_X1_reachOfStroke_51 shp
    simp (disch := omega) only [xI_le, xI_lt, xI_eq, xI_0, xI_ib, if_pos, if_neg, if_true, if_false, xI_cl, Int.toNat_natCast, iI_m, iI_a, iI_s, iI_1, xI_n, Option.bind_some, Int.natCast_add, Int.natCast_one, xI_zb, if_bI0, if_bI1, xI_rn, xI_ti, r0, e1, e2, k_max (a := 0) (b := G.1 - 1) (by omega) (by omega), am_lt, au_s, r2, r3]
  · simp (disch := omega) only [xI_le, xI_lt, xI_eq, xI_0, xI_ib, if_pos, if_neg, if_true, if_false, xI_cl, Int.toNat_natCast, iI_m, iI_a, iI_s, iI_1, xI_n, Option.bind_some, Int.natCast_add, Int.natCast_one, xI_zb, if_bI0, if_bI1, xI_rn, xI_ti, au_s]
  · simp (disch := omega) only [xI_le, xI_lt, xI_eq, xI_0, xI_ib, if_pos, if_neg, if_true, if_false, xI_cl, Int.toNat_natCast, iI_m, iI_a, iI_s, iI_1, xI_n, Option.bind_some, Int.natCast_add, Int.natCast_one, xI_zb, if_bI0, if_bI1, xI_rn, xI_ti, au_s]
  · simp (disch := omega) only [xI_le, xI_lt, xI_eq, xI_0, xI_ib, if_pos, if_neg, if_true, if_false, xI_cl, Int.toNat_natCast, iI_m, iI_a, iI_s, iI_1, xI_n, Option.bind_some, Int.natCast_add, Int.natCast_one, xI_zb, if_bI0, if_bI1, xI_rn, xI_ti, au_s]
  · simp (disch := omega) only [xI_le, xI_lt, xI_eq, xI_0, xI_ib, if_pos, if_neg, if_true, if_false, xI_cl, Int.toNat_natCast, iI_m, iI_a, iI_s, iI_1, xI_n, Option.bind_some, Int.natCast_add, Int.natCast_one, xI_zb, if_bI0, if_bI1, xI_rn, xI_ti, au_s]
theorem k_reach {h : am_H} {g : am_G} {o : Nat} {G : G4} {hd : Int} (hG : 0 ≤ G.1 ∧ G.1 ≤ 99) (hh : 0 ≤ hd ∧ hd ≤ 99) (R : cl_g h g o G) : ∃ h', f_X1_reachOfStroke g o (iI hd) h = some (iI (stk G hd).1, h') ∧ cl_g h' g o (stk G hd).2 := by
  have b1 := rnd_b (lcg G.2.1)
  have b2 := rnd_b (lcg (lcg G.2.1))
  have e1 := k_nextBits R.2.1
  have e2 := k_nextBits (h := am_u h g o 1 (iI (lcg G.2.1))) (g := g) (o := o) (x := lcg G.2.1) (by rw [au_s, if_pos rfl])
  unfold stk stk0
  by_cases c : hd ≤ G.1
  · rw [if_pos c]
    exact k_reach1 hG hh R c
  · rw [if_neg c]
    by_cases d : 2 * (hd - G.1) ≤ rnd (lcg G.2.1) % 100
    · rw [if_pos d]
      exact k_reach2 hG hh R c e1 b1 d
    · rw [if_neg d]
      exact k_reach3 hG hh R c e1 b1 d e2 b2
/-! on a plate -/
def gvO (v : pv_T) : G4 := (v.2 0 0, v.2 0 2, v.2 0 3, v.2 0 4)
def setG (v : pv_T) (G : G4) : pv_T := pu (pu (pu (pu v 0 0 G.1) 0 2 G.2.1) 0 3 G.2.2.1) 0 4 G.2.2.2
def addS (v : pv_T) (l : Nat) (r : Int) : pv_T := pn (pu (pu v 12 (v.1 3) l) 13 (v.1 3) r) 3 (v.1 3 + 1)
def hdL (v : pv_T) (j : Nat) : Int := pv_hd v (pv_ct v j)
def stP (v : pv_T) (j : Nat) : pv_T := if 0 < (stk (gvO v) (hdL v j)).1 then addS (setG v (stk (gvO v) (hdL v j)).2) j (stk (gvO v) (hdL v j)).1 else setG v (stk (gvO v) (hdL v j)).2
/-- what a change leaves alone: all but the graver's numbers, the scratches, what is engraved -/
def sameC (v w : pv_T) : Prop := w.1 0 = v.1 0 ∧ w.1 1 = v.1 1 ∧ w.1 2 = v.1 2 ∧ (∀ c, c ≠ 0 → c ≠ 6 → c ≠ 12 → c ≠ 13 → w.2 c = v.2 c) ∧ w.2 0 1 = v.2 0 1
theorem sameC.rf {v : pv_T} : sameC v v := ⟨rfl, rfl, rfl, fun _ _ _ _ _ => rfl, rfl⟩
theorem sameC.tr {u v w : pv_T} (a : sameC u v) (b : sameC v w) : sameC u w := ⟨b.1.trans a.1, b.2.1.trans a.2.1, b.2.2.1.trans a.2.2.1, fun c h1 h2 h3 h4 => (b.2.2.2.1 c h1 h2 h3 h4).trans (a.2.2.2.1 c h1 h2 h3 h4), b.2.2.2.2.trans a.2.2.2.2⟩
theorem setG_c {v : pv_T} {G : G4} {c : Nat} (h : c ≠ 0) : (setG v G).2 c = v.2 c := by
  funext i
  unfold setG
  rw [pu_o h, pu_o h, pu_o h, pu_o h]
theorem addS_c {v : pv_T} {l : Nat} {r : Int} {c : Nat} (h : c ≠ 12) (h' : c ≠ 13) : (addS v l r).2 c = v.2 c := by
  funext i
  show (pu (pu v 12 (v.1 3) l) 13 (v.1 3) r).2 c i = _
  rw [pu_o h', pu_o h]
theorem setG_S {v : pv_T} {G : G4} : sameC v (setG v G) := ⟨rfl, rfl, rfl, fun c h _ _ _ => setG_c h, rfl⟩
theorem addS_S {v : pv_T} {l : Nat} {r : Int} : sameC v (addS v l r) := ⟨rfl, rfl, rfl, fun c _ _ h h' => addS_c h h', rfl⟩
theorem stP_S {v : pv_T} {j : Nat} : sameC v (stP v j) := by
  unfold stP
  split
  · exact setG_S.tr addS_S
  · exact setG_S
theorem hdL_S {v w : pv_T} (s : sameC v w) (j : Nat) : hdL w j = hdL v j := by
  have e2 : w.2 2 = v.2 2 := s.2.2.2.1 2 (by omega) (by omega) (by omega) (by omega)
  have e4 : w.2 4 = v.2 4 := s.2.2.2.1 4 (by omega) (by omega) (by omega) (by omega)
  unfold hdL pv_hd pv_ct pv_ar pv_wT pv_tA
  rw [e2, e4, s.1, s.2.1]
theorem gvO_st {v : pv_T} {j : Nat} : gvO (stP v j) = (stk (gvO v) (hdL v j)).2 := by
  unfold stP
  split <;> rfl
theorem hd_b {v : pv_T} (hv : pv_ok v) (j : Nat) : 0 ≤ hdL v j ∧ hdL v j ≤ 99 := pv_hd_b hv _
/-- a plate whose scratches may be many -/
def pvW (v : pv_T) : Prop := pv_ok (pn v 3 0) ∧ ∀ i, i < v.1 3 → 0 ≤ v.2 12 i ∧ v.2 12 i < v.1 1 ∧ 100 ≤ v.2 13 i ∧ v.2 13 i ≤ 2000
theorem pvW_of {v : pv_T} (hv : pv_ok v) : pvW v := ⟨⟨⟨hv.1.1, hv.1.2.1, hv.1.2.2.1, Nat.zero_le 44⟩, hv.2.1, hv.2.2.1, hv.2.2.2.1, hv.2.2.2.2.1, fun i hi => absurd hi (Nat.not_lt_zero i), hv.2.2.2.2.2.2⟩, hv.2.2.2.2.2.1⟩
theorem pvW.ok {v : pv_T} (hv : pvW v) (h : v.1 3 ≤ 44) : pv_ok v := ⟨⟨hv.1.1.1, hv.1.1.2.1, hv.1.1.2.2.1, h⟩, hv.1.2.1, hv.1.2.2.1, hv.1.2.2.2.1, hv.1.2.2.2.2.1, hv.2, hv.1.2.2.2.2.2.2⟩
theorem pvW_S {v w : pv_T} (s : sameC v w) (hv : pvW v) (h6 : ∀ i, i < v.1 1 → 0 ≤ w.2 6 i ∧ w.2 6 i ≤ 1) (h0 : 0 ≤ w.2 0 0 ∧ w.2 0 0 ≤ 99) (h3 : ∀ i, i < w.1 3 → 0 ≤ w.2 12 i ∧ w.2 12 i < v.1 1 ∧ 100 ≤ w.2 13 i ∧ w.2 13 i ≤ 2000) : pvW w := by
  obtain ⟨s0, s1, s2, sc, sm⟩ := s
  have e : ∀ c, c ≠ 0 → c ≠ 6 → c ≠ 12 → c ≠ 13 → w.2 c = v.2 c := sc
  have h8 := hv.1.1
  refine ⟨⟨⟨?_, ?_, ?_, Nat.zero_le 44⟩, ?_, ?_, ?_, ?_, fun i hi => absurd hi (Nat.not_lt_zero i), ?_⟩, ?_⟩
  · show w.1 0 ≤ 8; rw [s0]; exact h8.1
  · show w.1 1 ≤ 20; rw [s1]; exact h8.2.1
  · show w.1 2 ≤ 6; rw [s2]; exact h8.2.2.1
  · show ∀ i, i < w.1 0 → 1 ≤ w.2 1 i ∧ w.2 1 i ≤ 199 ∧ 1 ≤ w.2 2 i ∧ w.2 2 i ≤ 180 ∧ 0 ≤ w.2 3 i ∧ w.2 3 i ≤ 1 ∧ 0 ≤ w.2 4 i ∧ w.2 4 i ≤ 99
    rw [s0, e 1 (by omega) (by omega) (by omega) (by omega), e 2 (by omega) (by omega) (by omega) (by omega), e 3 (by omega) (by omega) (by omega) (by omega), e 4 (by omega) (by omega) (by omega) (by omega)]
    exact hv.1.2.1
  · show ∀ i, i < w.1 1 → 0 ≤ w.2 5 i ∧ w.2 5 i ≤ 25 ∧ 0 ≤ w.2 6 i ∧ w.2 6 i ≤ 1 ∧ 0 ≤ w.2 7 i ∧ w.2 7 i ≤ 3
    rw [s1, e 5 (by omega) (by omega) (by omega) (by omega), e 7 (by omega) (by omega) (by omega) (by omega)]
    intro i hi
    have := hv.1.2.2.1 i hi
    exact ⟨this.1, this.2.1, (h6 i hi).1, (h6 i hi).2, this.2.2.2.2⟩
  · show ∀ i, i < 26 → 1 ≤ w.2 8 i ∧ w.2 8 i ≤ 99
    rw [e 8 (by omega) (by omega) (by omega) (by omega)]
    exact hv.1.2.2.2.1
  · show ∀ i, i < w.1 2 → 1 ≤ w.2 9 i ∧ w.2 9 i ≤ 99 ∧ 1 ≤ w.2 10 i ∧ w.2 10 i ≤ 99 ∧ 1 ≤ w.2 11 i ∧ w.2 11 i ≤ 9
    rw [s2, e 9 (by omega) (by omega) (by omega) (by omega), e 10 (by omega) (by omega) (by omega) (by omega), e 11 (by omega) (by omega) (by omega) (by omega)]
    exact hv.1.2.2.2.2.1
  · show 0 ≤ w.2 0 0 ∧ w.2 0 0 ≤ 99 ∧ 0 ≤ w.2 0 1 ∧ w.2 0 1 ≤ 99
    rw [sm]
    exact ⟨h0.1, h0.2, hv.1.2.2.2.2.2.2.2.2⟩
  · rw [s1]; exact h3
theorem stP_3 (v : pv_T) (j : Nat) : (stP v j).1 3 = v.1 3 + (if 0 < (stk (gvO v) (hdL v j)).1 then 1 else 0) := by
  unfold stP
  split <;> rfl
theorem pvW.g {v : pv_T} (hv : pvW v) : 0 ≤ (gvO v).1 ∧ (gvO v).1 ≤ 99 := ⟨hv.1.2.2.2.2.2.2.1, hv.1.2.2.2.2.2.2.2.1⟩
theorem pvW.h {v : pv_T} (hv : pvW v) (j : Nat) : 0 ≤ hdL v j ∧ hdL v j ≤ 99 := hd_b hv.1 j
theorem stP_W {v : pv_T} {j : Nat} (hv : pvW v) (hj : j < v.1 1) : pvW (stP v j) := by
  have hb := stk_b (G := gvO v) (hd := hdL v j) hv.g
  have e6 : (stP v j).2 6 = v.2 6 := by
    unfold stP
    split
    · rw [addS_c (by omega) (by omega), setG_c (by omega)]
    · rw [setG_c (by omega)]
  have e0 : (stP v j).2 0 0 = (stk (gvO v) (hdL v j)).2.1 := congrArg (fun g : G4 => g.1) (gvO_st (v := v) (j := j))
  refine pvW_S stP_S hv (fun i hi => ?_) (by rw [e0]; exact hb.1) (fun i hi => ?_)
  · rw [e6]; have := hv.1.2.2.1 i hi; exact ⟨this.2.2.1, this.2.2.2.1⟩
  · have hs := stP_3 v j
    unfold stP at hi hs ⊢
    by_cases c : 0 < (stk (gvO v) (hdL v j)).1
    · rw [if_pos c] at hi hs ⊢
      rw [if_pos c] at hs
      by_cases d : i = v.1 3
      · subst d
        refine ⟨?_, ?_, ?_, ?_⟩
        · show 0 ≤ (if v.1 3 = v.1 3 then (j : Int) else _); rw [if_pos rfl]; omega
        · show (if v.1 3 = v.1 3 then (j : Int) else _) < _; rw [if_pos rfl]; omega
        · show 100 ≤ (if v.1 3 = v.1 3 then (stk (gvO v) (hdL v j)).1 else _); rw [if_pos rfl]; omega
        · show (if v.1 3 = v.1 3 then (stk (gvO v) (hdL v j)).1 else _) ≤ 2000; rw [if_pos rfl]; omega
      · have := hv.2 i (by omega)
        refine ⟨?_, ?_, ?_, ?_⟩
        · show 0 ≤ (if i = v.1 3 then (j : Int) else v.2 12 i); rw [if_neg d]; omega
        · show (if i = v.1 3 then (j : Int) else v.2 12 i) < _; rw [if_neg d]; omega
        · show 100 ≤ (if i = v.1 3 then (stk (gvO v) (hdL v j)).1 else v.2 13 i); rw [if_neg d]; omega
        · show (if i = v.1 3 then (stk (gvO v) (hdL v j)).1 else v.2 13 i) ≤ 2000; rw [if_neg d]; omega
    · rw [if_neg c] at hi hs ⊢
      rw [if_neg c] at hs
      rw [setG_c (by omega), setG_c (by omega)]
      exact hv.2 i (by omega)
/-! the program's plate -/
theorem cl_pl.setG {h h' : am_H} {k : Nat} {v : pv_T} {G : G4} (w : Wr [(.inr k, 16)] h h') (g : cl_g h' (.inr k) 16 G) (R : cl_pl h k v) : cl_pl h' k (setG v G) := by
  have e : ∀ o, o ≠ 16 → h'.1 (.inr k) o = h.1 (.inr k) o := fun o ho => w.1 _ _ (by simp; exact ho)
  unfold cl_pl cl_cu cl_na cl_ki cl_sc at *
  rw [e 0 (by omega), e 1 (by omega), e 2 (by omega), e 3 (by omega), e 4 (by omega), e 5 (by omega), e 6 (by omega), e 7 (by omega), e 8 (by omega), e 9 (by omega), e 10 (by omega), e 11 (by omega), e 12 (by omega), e 13 (by omega), e 14 (by omega), e 15 (by omega), e 17 (by omega), e 18 (by omega), e 19 (by omega)]
  exact ⟨R.1, R.2.1, R.2.2.1, g, R.2.2.2.2⟩
theorem k_addS {h : am_H} {k : Nat} {v : pv_T} {l : Nat} {r : Int} (hn : v.1 3 < 44) (R : cl_pl h k v) : ∃ h', f_X7_add k (iI l) (iI r) h = some h' ∧ cl_pl h' k (addS v l r) := by
  obtain ⟨r1, r2, r3, r4, ⟨r5, r6⟩, r7⟩ := R
  refine ⟨am_u (am_u (am_u h (.inr k) 18 (v.1 3) (iI l)) (.inr k) 19 (v.1 3) (iI r)) (.inr k) 17 2 (iI ((v.1 3 : Int) + 1)), ?_, ?_⟩
  · unfold f_X7_add
    simp (disch := omega) only [xI_le, xI_lt, xI_eq, xI_0, xI_ib, if_pos, if_neg, if_true, if_false, xI_cl, Int.toNat_natCast, iI_m, iI_a, iI_s, iI_1, xI_n, Option.bind_some, Int.natCast_add, Int.natCast_one, xI_zb, if_bI0, if_bI1, xI_rn, xI_ti, r5, am_lt, am_u_row (show ((.inr k : am_G), 17) ≠ (.inr k, 18) by simp), am_u_row (show ((.inr k : am_G), 17) ≠ (.inr k, 19) by simp)]
  · have e : ∀ o, o ≠ 17 → o ≠ 18 → o ≠ 19 → (am_u (am_u (am_u h (.inr k) 18 (v.1 3) (iI l)) (.inr k) 19 (v.1 3) (iI r)) (.inr k) 17 2 (iI ((v.1 3 : Int) + 1))).1 (.inr k) o = h.1 (.inr k) o := fun o h1 h2 h3 => by
      rw [am_u_row (by simp; exact h1), am_u_row (by simp; exact h3), am_u_row (by simp; exact h2)]
    unfold cl_pl cl_cu cl_na cl_ki cl_gr cl_sc at *
    rw [e 0 (by omega) (by omega) (by omega), e 1 (by omega) (by omega) (by omega), e 2 (by omega) (by omega) (by omega), e 3 (by omega) (by omega) (by omega), e 4 (by omega) (by omega) (by omega), e 5 (by omega) (by omega) (by omega), e 6 (by omega) (by omega) (by omega), e 7 (by omega) (by omega) (by omega), e 8 (by omega) (by omega) (by omega), e 9 (by omega) (by omega) (by omega), e 10 (by omega) (by omega) (by omega), e 11 (by omega) (by omega) (by omega), e 12 (by omega) (by omega) (by omega), e 13 (by omega) (by omega) (by omega), e 14 (by omega) (by omega) (by omega), e 15 (by omega) (by omega) (by omega), e 16 (by omega) (by omega) (by omega)]
    refine ⟨r1, r2, r3, r4, ⟨?_, fun i hi => ⟨?_, ?_⟩⟩, r7⟩
    · rw [au_s, if_pos rfl]; rfl
    · rw [am_u_row (by simp), am_u_row (by simp), au_s]
      show _ = iI (if i = v.1 3 then (l : Int) else v.2 12 i)
      by_cases d : i = v.1 3
      · rw [if_pos d, if_pos d]
      · rw [if_neg d, if_neg d]
        have hi' : i < v.1 3 + 1 := hi
        exact (r6 i (by omega)).1
    · rw [am_u_row (by simp), au_s, am_u_row (by simp)]
      show _ = iI (if i = v.1 3 then r else v.2 13 i)
      by_cases d : i = v.1 3
      · rw [if_pos d, if_pos d]
      · rw [if_neg d, if_neg d]
        have hi' : i < v.1 3 + 1 := hi
        exact (r6 i (by omega)).2
/-- a stroke of the program's -/
theorem k_stroke {h : am_H} {k : Nat} {v : pv_T} {j : Nat} (hv : pvW v) (hn : v.1 3 < 44) (R : cl_pl h k v) : ∃ h1 h2, f_X1_reachOfStroke (.inr k) 16 (iI (hdL v j)) h = some (iI (stk (gvO v) (hdL v j)).1, h1) ∧ (if (stk (gvO v) (hdL v j)).1 ≤ 0 then h2 = h1 else f_X7_add k (iI j) (iI (stk (gvO v) (hdL v j)).1) h1 = some h2) ∧ cl_pl h2 k (stP v j) := by
  obtain ⟨h1, e1, g1⟩ := k_reach (hd := hdL v j) hv.g (hv.h j) (show cl_g h (.inr k) 16 (gvO v) from R.2.2.2.1)
  have R1 := R.setG (wr_X1_reachOfStroke e1) g1
  unfold stP
  by_cases c : 0 < (stk (gvO v) (hdL v j)).1
  · obtain ⟨h2, e2, R2⟩ := k_addS (l := j) (r := (stk (gvO v) (hdL v j)).1) (show (setG v (stk (gvO v) (hdL v j)).2).1 3 < 44 from hn) R1
    refine ⟨h1, h2, e1, ?_, ?_⟩
    · rw [if_neg (by omega)]; exact e2
    · rw [if_pos c]; exact R2
  · refine ⟨h1, h1, e1, ?_, ?_⟩
    · rw [if_pos (by omega)]
    · rw [if_neg c]; exact R1
