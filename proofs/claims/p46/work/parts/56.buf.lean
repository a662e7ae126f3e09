/-! the buffer, the error: both sides -/
def stB (st : St) (buf : Nat × (Nat → Int)) (er : Int × Int) : St := (st.1, st.2.1, st.2.2.1, buf, er, st.2.2.2.2.2)
theorem ClR.at8 {h h' : am_H} {st : St} {buf : Nat × (Nat → Int)} {er : Int × Int} (w : Wr [(.inl 1, 8), (.inl 1, 9)] h h') (R : ClR h st) (hb : h'.1 (.inl 1) 8 1 = iI buf.1 ∧ ∀ i, i < buf.1 → h'.1 (.inl 1) 9 i = iI (sby (buf.2 i))) (he : h'.1 (.inl 1) 8 6 = iI er.1 ∧ h'.1 (.inl 1) 8 7 = iI er.2) : ClR h' (stB st buf er) := by
  have kp : ∀ k o, h'.1 (.inr k) o = h.1 (.inr k) o := fun k o => w.1 _ _ (by simp)
  obtain ⟨r1, ⟨r2, r3⟩, ⟨r4, r5, r6, r7⟩, -, -, r12, r13⟩ := R
  exact ⟨r1.eq (kp 0), ⟨by rw [w.1 _ _ (by simp)]; exact r2, fun z => (r3 z).eq (kp 3)⟩, ⟨by rw [w.1 _ _ (by simp)]; exact r4, by rw [w.2.2]; exact r5, by rw [w.2.2]; exact r6, fun i c hi => by rw [w.2.2]; exact (r7 i c hi).eq (kp _)⟩, hb, he, by rw [w.1 _ _ (by simp)]; exact r12, by rw [w.1 _ _ (by simp)]; exact r13⟩
/-- the fields of the reference that stay when it reads or feeds -/
def fld0 (h h' : am_H) : Prop := h'.1 (.inl 0) 0 21 = h.1 (.inl 0) 0 21 ∧ h'.1 (.inl 0) 0 22 = h.1 (.inl 0) 0 22 ∧ h'.1 (.inl 0) 0 35 = h.1 (.inl 0) 0 35 ∧ h'.1 (.inl 0) 0 36 = h.1 (.inl 0) 0 36
theorem fld0.tr {h h1 h2 : am_H} (a : fld0 h h1) (b : fld0 h1 h2) : fld0 h h2 := ⟨b.1.trans a.1, b.2.1.trans a.2.1, b.2.2.1.trans a.2.2.1, b.2.2.2.trans a.2.2.2⟩
theorem fld0.u {h : am_H} {j : Nat} {x : Int32} (hj : j < 21 ∨ (22 < j ∧ j < 35)) : fld0 h (am_u h (.inl 0) 0 j x) := ⟨by rw [au_s, if_neg (by omega)], by rw [au_s, if_neg (by omega)], by rw [au_s, if_neg (by omega)], by rw [au_s, if_neg (by omega)]⟩
theorem fld0.o {h : am_H} {o j : Nat} {x : Int32} (ho : o ≠ 0) : fld0 h (am_u h (.inl 0) o j x) := by
  have e : (am_u h (.inl 0) o j x).1 (.inl 0) 0 = h.1 (.inl 0) 0 := am_u_row (fun e => ho (by cases e; rfl))
  exact ⟨by rw [e], by rw [e], by rw [e], by rw [e]⟩
section BUF
variable {h : am_H} {st : St}
/-! truncate -/
def sTr (st : St) (n : Int) : St := if 0 ≤ n ∧ n ≤ (st.2.2.2.1.1 : Int) then stB st (n.toNat, st.2.2.2.1.2) st.2.2.2.2.1 else st
def oTr (st : St) (n : Int) : Int32 ⊕ Nat := if 0 ≤ n ∧ n ≤ (st.2.2.2.1.1 : Int) then .inl (iI n) else .inr 1
theorem cl_truncate (ok : Ok st) (R : ClR h st) {n : Int} (hn : -2147483648 ≤ n ∧ n < 2147483648) : clC (f_X11_truncate (iI n)) h (sTr st n) (oTr st n) := by
  have hb := ok.2.2.2.1
  unfold sTr oTr
  by_cases c : 0 ≤ n ∧ n ≤ (st.2.2.2.1.1 : Int)
  · rw [if_pos c, if_pos c]
    have w : Wr [(.inl 1, 8), (.inl 1, 9)] h (am_u h (.inl 1) 8 1 (iI n)) := Wr.u (by simp)
    refine ⟨_, ?_, ClR.at8 w R ⟨?_, fun i hi => ?_⟩ ⟨?_, ?_⟩, w.MF rfl⟩
    · unfold f_X11_truncate
      simp (disch := omega) only [xI_le, xI_lt, xI_eq, xI_0, xI_ib, if_pos, if_neg, if_true, if_false, xI_cl, Int.toNat_natCast, iI_m, iI_a, iI_s, iI_1, xI_n, Option.bind_some, Int.natCast_add, Int.natCast_one, xI_zb, if_bI0, if_bI1, xI_rn, xI_ti, R.2.2.2.1.1, k_isWithin (n := n) (a := 0) (b := (st.2.2.2.1.1 : Int)) (by omega) (by omega) (by omega), am_lt]
    · rw [au_s, if_pos rfl]
      show iI n = iI (n.toNat : Int)
      rw [show (n.toNat : Int) = n by omega]
    · rw [am_u_row (by simp)]
      exact R.2.2.2.1.2 i (by have : i < n.toNat := hi; omega)
    · rw [au_s, if_neg (by omega)]; exact R.2.2.2.2.1.1
    · rw [au_s, if_neg (by omega)]; exact R.2.2.2.2.1.2
  · rw [if_neg c, if_neg c]
    refine clC_w (h1 := h) ?_ (Wr.rf (L := [])) rfl rfl R
    unfold f_X11_truncate
    simp (disch := omega) only [xI_le, xI_lt, xI_eq, xI_0, xI_ib, if_pos, if_neg, if_true, if_false, xI_cl, Int.toNat_natCast, iI_m, iI_a, iI_s, iI_1, xI_n, Option.bind_some, Int.natCast_add, Int.natCast_one, xI_zb, if_bI0, if_bI1, xI_rn, xI_ti, R.2.2.2.1.1, k_isWithin (n := n) (a := 0) (b := (st.2.2.2.1.1 : Int)) (by omega) (by omega) (by omega)]
/-! feed -/
/-- the byte at a shift -/
def fby (x : Int32) (s : Nat) : Int := ((x.toUInt32 >>> ((nI s).toUInt32 &&& Int32.toUInt32 31)).toInt32).toInt % 256
theorem fby_b (x : Int32) (s : Nat) : 0 ≤ fby x s ∧ fby x s ≤ 255 := by unfold fby; omega
theorem and255 (y : Int32) : y &&& iI 255 = iI (y.toInt % 256) := by
  apply Int32.toBitVec_inj.mp
  apply BitVec.eq_of_toNat_eq
  rw [Int32.toBitVec_and, BitVec.toNat_and]
  show y.toBitVec.toNat &&& (2 ^ 8 - 1) = _
  rw [Nat.and_two_pow_sub_one_eq_mod]
  have h1 : y.toInt = if 2 * y.toBitVec.toNat < 2 ^ 32 then (y.toBitVec.toNat : Int) else y.toBitVec.toNat - 2 ^ 32 := BitVec.toInt_eq_toNat_cond _
  have h2 : y.toInt % 256 = ((y.toBitVec.toNat % 256 : Nat) : Int) := by rw [h1]; split <;> omega
  rw [h2, ← iI_nI]
  show y.toBitVec.toNat % 256 = (BitVec.ofNat 32 (y.toBitVec.toNat % 256)).toNat
  rw [BitVec.toNat_ofNat]
  exact (Nat.mod_eq_of_lt (by omega)).symm
theorem fby_m (x : Int32) {s : Nat} (hs : s ≤ 24) : (x >>> (nI s &&& 31)) &&& iI 255 = iI (fby x s) := by
  unfold fby
  rw [← and255]
  refine b_ext (fun i hi => ?_)
  rw [b_and, b_and, show iI 255 = 255 from rfl, b_255, b_sshr s (by omega) x hi, b_ushr s (by omega) x i]
  by_cases c : i < 8
  · rw [if_pos (by omega)]
  · rw [decide_eq_false c, Bool.and_false, Bool.and_false]
theorem fby_c (x : Int32) (s : Nat) : vp_nar .byte (((x.toUInt32 >>> ((nI s).toUInt32 &&& Int32.toUInt32 31)).toInt32).toInt8.toInt32) = iI (sby (fby x s)) := by
  unfold fby
  generalize (x.toUInt32 >>> ((nI s).toUInt32 &&& Int32.toUInt32 31)).toInt32 = y
  have e : y.toInt8.toInt32 = iI (sby (y.toInt % 256)) := by
    apply Int32.toInt_inj.mp
    have hb : -128 ≤ sby (y.toInt % 256) ∧ sby (y.toInt % 256) ≤ 127 := by unfold sby; split <;> omega
    rw [iI_toInt (by omega) (by omega), Int8.toInt_toInt32, Int32.toInt_toInt8, Int.bmod_def]
    unfold sby
    show (if y.toInt % 256 < (256 + 1) / 2 then y.toInt % 256 else y.toInt % 256 - 256) = _
    split <;> split <;> omega
  rw [e]
  have hb : -128 ≤ sby (y.toInt % 256) ∧ sby (y.toInt % 256) ≤ 127 := by unfold sby; split <;> omega
  generalize sby (y.toInt % 256) = z at hb
  have : ∀ z : Int, -128 ≤ z → z ≤ 127 → vp_nar .byte (iI z) = iI z := by
    intro z h1 h2
    have hz : ∀ n : Fin 256, vp_nar .byte (iI ((n.val : Int) - 128)) = iI ((n.val : Int) - 128) := by decide +kernel
    have := hz ⟨(z + 128).toNat, by omega⟩
    rw [show (((⟨(z + 128).toNat, by omega⟩ : Fin 256).val : Nat) : Int) - 128 = z by show ((z + 128).toNat : Int) - 128 = z; omega] at this
    exact this
  exact this z hb.1 hb.2
/-- four bytes more -/
def app4 (b : Nat × (Nat → Int)) (x : Int32) : Nat × (Nat → Int) := (b.1 + 4, fun i => if i < b.1 then b.2 i else fby x (24 - 8 * (i - b.1)))
theorem app4_ok {b : Nat × (Nat → Int)} {x : Int32} (h : ∀ i, 0 ≤ b.2 i ∧ b.2 i ≤ 255) : ∀ i, 0 ≤ (app4 b x).2 i ∧ (app4 b x).2 i ≤ 255 := by
  intro i
  show 0 ≤ (if i < b.1 then b.2 i else fby x (24 - 8 * (i - b.1))) ∧ (if i < b.1 then b.2 i else fby x (24 - 8 * (i - b.1))) ≤ 255
  split
  · exact h i
  · exact fby_b _ _
/-- the class's buffer -/
def cl_bf (h : am_H) (b : Nat × (Nat → Int)) : Prop := h.1 (.inl 1) 8 1 = iI b.1 ∧ ∀ i, i < b.1 → h.1 (.inl 1) 9 i = iI (sby (b.2 i))
theorem k_append {b : Nat × (Nat → Int)} (hb : b.1 + 4 ≤ 500) (R : cl_bf h b) (x : Int32) : ∃ h', f_X10_append x h = some h' ∧ cl_bf h' (app4 b x) ∧ (∀ j, j ≠ 1 → h'.1 (.inl 1) 8 j = h.1 (.inl 1) 8 j) := by
  obtain ⟨s, e1, r1, r2, r3⟩ := ch_rel (fun i s => f_X10_append_3 x (iI (24 - 8 * (i : Int))) s) (fun i s => s.1 (.inl 1) 8 1 = iI (b.1 + i) ∧ (∀ j, j < b.1 + i → s.1 (.inl 1) 9 j = iI (sby ((app4 b x).2 j))) ∧ ∀ j, j ≠ 1 → s.1 (.inl 1) 8 j = h.1 (.inl 1) 8 j) (n := 4) (fun i s hi hp => by
    obtain ⟨p1, p2, p3⟩ := hp
    refine ⟨am_u (am_u s (.inl 1) 9 (b.1 + i) (iI (sby (fby x (24 - 8 * i))))) (.inl 1) 8 1 (iI (b.1 + i + 1)), ?_, ?_, fun j hj => ?_, fun j hj => ?_⟩
    · show f_X10_append_3 _ _ _ = f_X10_append_3 _ _ _
      have es : iI (24 - 8 * (i : Int)) = nI (24 - 8 * i) := by rw [iI_nI]; congr 1; omega
      have ec := fby_c x (24 - 8 * i)
      rw [← es] at ec
      rw [e_X10_append_3]
      simp (disch := omega) only [xI_le, xI_lt, xI_eq, xI_0, xI_ib, if_pos, if_neg, if_true, if_false, xI_cl, Int.toNat_natCast, iI_m, iI_a, iI_s, iI_1, xI_n, Option.bind_some, Int.natCast_add, Int.natCast_one, xI_zb, if_bI0, if_bI1, xI_rn, xI_ti, p1, ec, am_lt, am_u_row (show ((.inl 1 : am_G), 8) ≠ (.inl 1, 9) by simp), show ((b.1 : Int) + (i : Int)).toNat = b.1 + i from by omega]
      rw [show (24 - 8 * (i : Int) + -8) = 24 - 8 * ((i : Int) + 1) by omega]
    · rw [au_s, if_pos rfl, Int.natCast_add, Int.natCast_one, Int.add_assoc]
    · rw [am_u_row (by simp), au_s]
      by_cases c : j = b.1 + i
      · rw [if_pos c, c]
        show _ = iI (sby (if b.1 + i < b.1 then b.2 (b.1 + i) else fby x (24 - 8 * (b.1 + i - b.1))))
        rw [if_neg (by omega), Nat.add_sub_cancel_left]
      · rw [if_neg c]
        exact p2 j (by omega)
    · rw [au_s, if_neg hj, am_u_row (by simp)]
      exact p3 j hj) (s0 := h) ⟨by rw [R.1]; show iI _ = iI (_ + ((0 : Nat) : Int)); rw [Int.natCast_zero, Int.add_zero], fun j hj => by
        show _ = iI (sby (if j < b.1 then b.2 j else _))
        rw [if_pos (by omega)]
        exact R.2 j (by omega), fun j hj => rfl⟩
  refine ⟨s, ?_, ⟨by rw [r1]; rfl, r2⟩, r3⟩
  show f_X10_append_3 x (iI (24 - 8 * ((0 : Nat) : Int))) h = _
  refine Eq.trans e1 ?_
  show f_X10_append_3 x (iI (24 - 8 * ((4 : Nat) : Int))) s = _
  rw [e_X10_append_3]
  exact if_pos (by decide)
end BUF
