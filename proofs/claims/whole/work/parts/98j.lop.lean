/-! the law's loop -/
section LOP
theorem and63 (x : Int32) : ∃ z : Nat, (x &&& iI 63).toInt = z := by
  refine ⟨(x &&& iI 63).toInt.toNat, ?_⟩
  have h : 0 ≤ (x &&& iI 63).toInt := by
    show 0 ≤ (x.toBitVec &&& (iI 63).toBitVec).toInt
    refine BitVec.toInt_nonneg_of_msb_false ?_
    rw [BitVec.msb_and]
    have : (iI 63).toBitVec.msb = false := by decide
    rw [this, Bool.and_false]
  omega
def lawT : Nat → List am_v → am_H → Prop := fun pc st _ => pc = 2116 ∧ st = [am_i 1]
abbrev lawA (b : Nat) (x4 : Int32) : List (Option am_v) := [some (.inl (.ref b)), some (am_r (.inl 1) 0), some (am_r (.inl 0) 0), some (am_r (.inl 1) 18), some (am_i x4), none, none, none, none]
theorem law_loop {b L : Nat} {xs : Nat → Int32} (hL : L ≤ 3072) : ∀ (n : Nat) {i cs ss : Nat} {h : am_H}, i ≤ L → L < i + n → cs + n ≤ 601024 → ss + 6 * n ≤ 7293034 → OkR h → am_V RL cL_law 9 (some .boolean) 14 532 601024 7293034 (am_scr b L xs) lawT cs ss 23 (lawA b (iI i)) [] h
  | 0, i, cs, ss, h, hi, hn, hc, hs, R => absurd hn (by omega)
  | n + 1, i, cs, ss, h, hi, hn, hc, hs, R => by
    have eL : Int32.ofNat L - iI 6 = iI ((L : Int) - 6) := by
      show iI (L : Int) - iI 6 = _
      exact iI_s _ _
    by_cases c : L < i + 6
    · have hlt : Int32.ofNat L - iI 6 < iI i := by
        rw [eL, xI_lt (by omega) (by omega) (by omega) (by omega)]
        omega
      refine rl_i4 dL_law_23 ?_
      refine ar_aloadS dL_law_25 ?_
      refine ar_slen dL_law_26 ?_
      refine ar_bipush (iI (6)) dL_law_27 rfl ?_
      refine ar_isub dL_law_29 ?_
      refine ar_ic_gt 2115 dL_law_30 (by decide) (fun _ => ?_) (fun c1 => absurd hlt c1)
      refine ar_iconst (iI 1) dL_law_2115 rfl ?_
      exact am_done ⟨rfl, rfl⟩
    · have hle : ¬ Int32.ofNat L - iI 6 < iI i := by
        rw [eL, xI_lt (by omega) (by omega) (by omega) (by omega)]
        omega
      have hb : ∀ j : Nat, j < 6 → ib (iI i + iI j) L := fun j hj => by
        rw [iI_a, xI_ib (by omega) (by omega) (by omega)]
        trivial
      have hi0 : ib (iI i) L := by
        rw [xI_ib (by omega) (by omega) (by omega)]
        trivial
      obtain ⟨z, hz⟩ := and63 (xs (iI (i : Int)).toNatClampNeg)
      obtain ⟨h', e, R'⟩ := u_st (L := L) (xs := xs) (x4 := iI i) R ⟨hb 1 (by omega), hb 2 (by omega), hb 3 (by omega), hb 4 (by omega), hb 5 (by omega)⟩ z
      refine c_law_st (by omega) (by omega) hle hi0 z hz ⟨h', e, ?_⟩
      have := law_loop (b := b) (xs := xs) hL n (i := i + 6) (cs := cs + 1) (ss := ss + 6) (by omega) (by omega) (by omega) (by omega) R'
      rw [iI_a]
      exact this
end LOP
