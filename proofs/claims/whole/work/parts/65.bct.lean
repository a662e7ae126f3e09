/-! the members of a set counted -/
theorem ub_shr {n k : Nat} (hn : n < 2 ^ 32) (hk : k < 32) : ((nI n).toUInt32 >>> ((nI k).toUInt32 &&& Int32.toUInt32 31)).toInt32 = nI (n / 2 ^ k) := by
  apply Int32.toBitVec_inj.mp
  apply BitVec.eq_of_toNat_eq
  show ((nI n).toBitVec >>> (((nI k).toUInt32 &&& Int32.toUInt32 31).toBitVec % 32)).toNat = (BitVec.ofNat 32 (n / 2 ^ k)).toNat
  rw [BitVec.ushiftRight_eq', s_u k hk, BitVec.toNat_ushiftRight, Nat.shiftRight_eq_div_pow]
  show (BitVec.ofNat 32 n).toNat / 2 ^ k = _
  have hd : n / 2 ^ k ≤ n := Nat.div_le_self _ _
  rw [BitVec.toNat_ofNat, BitVec.toNat_ofNat, Nat.mod_eq_of_lt hn, Nat.mod_eq_of_lt (Nat.lt_of_le_of_lt hd hn)]
theorem ub_and {a b : Nat} (ha : a < 2 ^ 32) (hb : b < 2 ^ 32) : nI a &&& nI b = nI (a &&& b) := by
  apply Int32.toBitVec_inj.mp
  apply BitVec.eq_of_toNat_eq
  rw [Int32.toBitVec_and, BitVec.toNat_and]
  show (BitVec.ofNat 32 a).toNat &&& (BitVec.ofNat 32 b).toNat = (BitVec.ofNat 32 (a &&& b)).toNat
  rw [BitVec.toNat_ofNat, BitVec.toNat_ofNat, BitVec.toNat_ofNat, Nat.mod_eq_of_lt ha, Nat.mod_eq_of_lt hb, Nat.mod_eq_of_lt (Nat.lt_of_le_of_lt Nat.and_le_left ha)]
theorem ub_add (a b : Nat) : nI a + nI b = nI (a + b) := by rw [iI_nI, iI_nI, iI_nI, iI_a, Int.natCast_add]
theorem ub_sub {a b : Nat} (h : b ≤ a) : nI a - nI b = nI (a - b) := by rw [iI_nI, iI_nI, iI_nI, iI_s, Int.ofNat_sub h]
theorem and_rec (k a b : Nat) : a &&& b = 2 ^ k * ((a / 2 ^ k) &&& (b / 2 ^ k)) + ((a % 2 ^ k) &&& (b % 2 ^ k)) := by
  rw [← Nat.and_div_two_pow, ← Nat.and_mod_two_pow, Nat.div_add_mod]
theorem a5 (y M : Nat) : y &&& (4 * M + 1) = 4 * ((y / 4) &&& M) + y % 2 := by
  have e := and_rec 2 y (4 * M + 1)
  have e2 : y % 4 &&& 1 = y % 2 := by
    rw [show (1 : Nat) = 2 ^ 1 - 1 from rfl, Nat.and_two_pow_sub_one_eq_mod]; omega
  rw [e, show (2 : Nat) ^ 2 = 4 from rfl, show (4 * M + 1) / 4 = M by omega, show (4 * M + 1) % 4 = 1 by omega, e2]
theorem a3 (y M : Nat) : y &&& (16 * M + 3) = 16 * ((y / 16) &&& M) + y % 4 := by
  have e := and_rec 4 y (16 * M + 3)
  have e2 : y % 16 &&& 3 = y % 4 := by
    rw [show (3 : Nat) = 2 ^ 2 - 1 from rfl, Nat.and_two_pow_sub_one_eq_mod]; omega
  rw [e, show (2 : Nat) ^ 4 = 16 from rfl, show (16 * M + 3) / 16 = M by omega, show (16 * M + 3) % 16 = 3 by omega, e2]
theorem aF (y M : Nat) : y &&& (256 * M + 15) = 256 * ((y / 256) &&& M) + y % 16 := by
  have e := and_rec 8 y (256 * M + 15)
  have e2 : y % 256 &&& 15 = y % 16 := by
    rw [show (15 : Nat) = 2 ^ 4 - 1 from rfl, Nat.and_two_pow_sub_one_eq_mod]; omega
  rw [e, show (2 : Nat) ^ 8 = 256 from rfl, show (256 * M + 15) / 256 = M by omega, show (256 * M + 15) % 256 = 15 by omega, e2]
def T1 (M K : Nat) : Nat := M - (M / 2 &&& K)
theorem T1_0 (K : Nat) : T1 0 K = 0 := Nat.zero_sub _
theorem T1_s {a b M K : Nat} (ha : a ≤ 1) (hb : b ≤ 1) : T1 (a + 2 * b + 4 * M) (4 * K + 1) = a + b + 4 * T1 M K := by
  unfold T1
  rw [a5, show (a + 2 * b + 4 * M) / 2 / 4 = M / 2 by omega, show (a + 2 * b + 4 * M) / 2 % 2 = b by omega]
  have : M / 2 &&& K ≤ M / 2 := Nat.and_le_left
  omega
def T2 (x J : Nat) : Nat := (x &&& J) + (x / 4 &&& J)
theorem T2_0 (J : Nat) : T2 0 J = 0 := by unfold T2; rw [Nat.zero_div, Nat.zero_and]
theorem T2_s {p q X J : Nat} (hp : p ≤ 2) (hq : q ≤ 2) : T2 (p + 4 * q + 16 * X) (16 * J + 3) = p + q + 16 * T2 X J := by
  unfold T2
  rw [a3, a3, show (p + 4 * q + 16 * X) / 16 = X by omega, show (p + 4 * q + 16 * X) % 4 = p by omega, show (p + 4 * q + 16 * X) / 4 / 16 = X / 4 by omega, show (p + 4 * q + 16 * X) / 4 % 4 = q by omega]
  omega
def T3 (x L : Nat) : Nat := x + x / 16 &&& L
theorem T3_0 (L : Nat) : T3 0 L = 0 := by unfold T3; rw [Nat.zero_div, Nat.zero_and]
theorem T3_s {q r X L : Nat} (hq : q ≤ 4) (hr : r ≤ 4) (hX : X % 16 ≤ 4) : T3 (q + 16 * r + 256 * X) (256 * L + 15) = q + r + 256 * T3 X L := by
  unfold T3
  rw [aF, show (q + 16 * r + 256 * X + (q + 16 * r + 256 * X) / 16) / 256 = X + X / 16 by omega, show (q + 16 * r + 256 * X + (q + 16 * r + 256 * X) / 16) % 16 = q + r by omega]
  omega
def bM (c : Nat → Nat) : Nat := c 0 + 2 * c 1 + 4 * (c 2 + 2 * c 3 + 4 * (c 4 + 2 * c 5 + 4 * (c 6 + 2 * c 7 + 4 * (c 8 + 2 * c 9 + 4 * (c 10 + 2 * c 11 + 4 * (c 12 + 2 * c 13 + 4 * (c 14 + 2 * c 15 + 4 * (c 16 + 2 * c 17 + 4 * (c 18 + 2 * c 19 + 4 * (c 20 + 2 * c 21 + 4 * (c 22 + 2 * c 23 + 4 * (0))))))))))))
def bP (c : Nat → Nat) : Nat := (c 0 + c 1) + 4 * ((c 2 + c 3) + 4 * ((c 4 + c 5) + 4 * ((c 6 + c 7) + 4 * ((c 8 + c 9) + 4 * ((c 10 + c 11) + 4 * ((c 12 + c 13) + 4 * ((c 14 + c 15) + 4 * ((c 16 + c 17) + 4 * ((c 18 + c 19) + 4 * ((c 20 + c 21) + 4 * ((c 22 + c 23) + 4 * (0))))))))))))
def bQ (c : Nat → Nat) : Nat := ((c 0 + c 1) + (c 2 + c 3)) + 16 * (((c 4 + c 5) + (c 6 + c 7)) + 16 * (((c 8 + c 9) + (c 10 + c 11)) + 16 * (((c 12 + c 13) + (c 14 + c 15)) + 16 * (((c 16 + c 17) + (c 18 + c 19)) + 16 * (((c 20 + c 21) + (c 22 + c 23)) + 16 * (0))))))
def bT (c : Nat → Nat) : Nat := (((c 0 + c 1) + (c 2 + c 3)) + ((c 4 + c 5) + (c 6 + c 7))) + 256 * ((((c 8 + c 9) + (c 10 + c 11)) + ((c 12 + c 13) + (c 14 + c 15))) + 256 * ((((c 16 + c 17) + (c 18 + c 19)) + ((c 20 + c 21) + (c 22 + c 23))) + 256 * (0)))
def bS (c : Nat → Nat) : Nat := c 0 + c 1 + c 2 + c 3 + c 4 + c 5 + c 6 + c 7 + c 8 + c 9 + c 10 + c 11 + c 12 + c 13 + c 14 + c 15 + c 16 + c 17 + c 18 + c 19 + c 20 + c 21 + c 22 + c 23
theorem bM_1 {c : Nat → Nat} (hc : ∀ i, c i ≤ 1) : T1 (bM c) 1431655765 = bP c := by
  unfold bM bP
  rw [show (1431655765 : Nat) = 4 * 357913941 + 1 from rfl, T1_s (hc 0) (hc 1), show (357913941 : Nat) = 4 * 89478485 + 1 from rfl, T1_s (hc 2) (hc 3), show (89478485 : Nat) = 4 * 22369621 + 1 from rfl, T1_s (hc 4) (hc 5), show (22369621 : Nat) = 4 * 5592405 + 1 from rfl, T1_s (hc 6) (hc 7), show (5592405 : Nat) = 4 * 1398101 + 1 from rfl, T1_s (hc 8) (hc 9), show (1398101 : Nat) = 4 * 349525 + 1 from rfl, T1_s (hc 10) (hc 11), show (349525 : Nat) = 4 * 87381 + 1 from rfl, T1_s (hc 12) (hc 13), show (87381 : Nat) = 4 * 21845 + 1 from rfl, T1_s (hc 14) (hc 15), show (21845 : Nat) = 4 * 5461 + 1 from rfl, T1_s (hc 16) (hc 17), show (5461 : Nat) = 4 * 1365 + 1 from rfl, T1_s (hc 18) (hc 19), show (1365 : Nat) = 4 * 341 + 1 from rfl, T1_s (hc 20) (hc 21), show (341 : Nat) = 4 * 85 + 1 from rfl, T1_s (hc 22) (hc 23), T1_0]
theorem bP_2 {c : Nat → Nat} (hc : ∀ i, c i ≤ 1) : T2 (bP c) 858993459 = bQ c := by
  have h2 : ∀ i j, c i + c j ≤ 2 := fun i j => by have := hc i; have := hc j; omega
  have e : bP c = (c 0 + c 1) + 4 * (c 2 + c 3) + 16 * ((c 4 + c 5) + 4 * (c 6 + c 7) + 16 * ((c 8 + c 9) + 4 * (c 10 + c 11) + 16 * ((c 12 + c 13) + 4 * (c 14 + c 15) + 16 * ((c 16 + c 17) + 4 * (c 18 + c 19) + 16 * ((c 20 + c 21) + 4 * (c 22 + c 23) + 16 * (0)))))) := by unfold bP; omega
  rw [e]
  unfold bQ
  rw [show (858993459 : Nat) = 16 * 53687091 + 3 from rfl, T2_s (h2 0 1) (h2 2 3), show (53687091 : Nat) = 16 * 3355443 + 3 from rfl, T2_s (h2 4 5) (h2 6 7), show (3355443 : Nat) = 16 * 209715 + 3 from rfl, T2_s (h2 8 9) (h2 10 11), show (209715 : Nat) = 16 * 13107 + 3 from rfl, T2_s (h2 12 13) (h2 14 15), show (13107 : Nat) = 16 * 819 + 3 from rfl, T2_s (h2 16 17) (h2 18 19), show (819 : Nat) = 16 * 51 + 3 from rfl, T2_s (h2 20 21) (h2 22 23), T2_0]
theorem bQ_3 {c : Nat → Nat} (hc : ∀ i, c i ≤ 1) : T3 (bQ c) 252645135 = bT c := by
  have h4 : ∀ i j k l, c i + c j + (c k + c l) ≤ 4 := fun i j k l => by have := hc i; have := hc j; have := hc k; have := hc l; omega
  have e : bQ c = ((c 0 + c 1) + (c 2 + c 3)) + 16 * ((c 4 + c 5) + (c 6 + c 7)) + 256 * (((c 8 + c 9) + (c 10 + c 11)) + 16 * ((c 12 + c 13) + (c 14 + c 15)) + 256 * (((c 16 + c 17) + (c 18 + c 19)) + 16 * ((c 20 + c 21) + (c 22 + c 23)) + 256 * (0))) := by unfold bQ; omega
  rw [e]
  unfold bT
  rw [show (252645135 : Nat) = 256 * 986895 + 15 from rfl, T3_s (h4 0 1 2 3) (h4 4 5 6 7) (by have h0 := hc 0; have h1 := hc 1; have h2 := hc 2; have h3 := hc 3; have h4 := hc 4; have h5 := hc 5; have h6 := hc 6; have h7 := hc 7; have h8 := hc 8; have h9 := hc 9; have h10 := hc 10; have h11 := hc 11; have h12 := hc 12; have h13 := hc 13; have h14 := hc 14; have h15 := hc 15; have h16 := hc 16; have h17 := hc 17; have h18 := hc 18; have h19 := hc 19; have h20 := hc 20; have h21 := hc 21; have h22 := hc 22; have h23 := hc 23; omega), show (986895 : Nat) = 256 * 3855 + 15 from rfl, T3_s (h4 8 9 10 11) (h4 12 13 14 15) (by have h0 := hc 0; have h1 := hc 1; have h2 := hc 2; have h3 := hc 3; have h4 := hc 4; have h5 := hc 5; have h6 := hc 6; have h7 := hc 7; have h8 := hc 8; have h9 := hc 9; have h10 := hc 10; have h11 := hc 11; have h12 := hc 12; have h13 := hc 13; have h14 := hc 14; have h15 := hc 15; have h16 := hc 16; have h17 := hc 17; have h18 := hc 18; have h19 := hc 19; have h20 := hc 20; have h21 := hc 21; have h22 := hc 22; have h23 := hc 23; omega), show (3855 : Nat) = 256 * 15 + 15 from rfl, T3_s (h4 16 17 18 19) (h4 20 21 22 23) (by have h0 := hc 0; have h1 := hc 1; have h2 := hc 2; have h3 := hc 3; have h4 := hc 4; have h5 := hc 5; have h6 := hc 6; have h7 := hc 7; have h8 := hc 8; have h9 := hc 9; have h10 := hc 10; have h11 := hc 11; have h12 := hc 12; have h13 := hc 13; have h14 := hc 14; have h15 := hc 15; have h16 := hc 16; have h17 := hc 17; have h18 := hc 18; have h19 := hc 19; have h20 := hc 20; have h21 := hc 21; have h22 := hc 22; have h23 := hc 23; omega), T3_0]
theorem bM_lt {c : Nat → Nat} (hc : ∀ i, c i ≤ 1) : bM c < 2 ^ 24 := by
  have h0 := hc 0; have h1 := hc 1; have h2 := hc 2; have h3 := hc 3; have h4 := hc 4; have h5 := hc 5; have h6 := hc 6; have h7 := hc 7; have h8 := hc 8; have h9 := hc 9; have h10 := hc 10; have h11 := hc 11; have h12 := hc 12; have h13 := hc 13; have h14 := hc 14; have h15 := hc 15; have h16 := hc 16; have h17 := hc 17; have h18 := hc 18; have h19 := hc 19; have h20 := hc 20; have h21 := hc 21; have h22 := hc 22; have h23 := hc 23
  unfold bM; omega
theorem bP_lt {c : Nat → Nat} (hc : ∀ i, c i ≤ 1) : bP c < 2 ^ 25 := by
  have h0 := hc 0; have h1 := hc 1; have h2 := hc 2; have h3 := hc 3; have h4 := hc 4; have h5 := hc 5; have h6 := hc 6; have h7 := hc 7; have h8 := hc 8; have h9 := hc 9; have h10 := hc 10; have h11 := hc 11; have h12 := hc 12; have h13 := hc 13; have h14 := hc 14; have h15 := hc 15; have h16 := hc 16; have h17 := hc 17; have h18 := hc 18; have h19 := hc 19; have h20 := hc 20; have h21 := hc 21; have h22 := hc 22; have h23 := hc 23
  unfold bP; omega
theorem bQ_lt {c : Nat → Nat} (hc : ∀ i, c i ≤ 1) : bQ c < 2 ^ 25 := by
  have h0 := hc 0; have h1 := hc 1; have h2 := hc 2; have h3 := hc 3; have h4 := hc 4; have h5 := hc 5; have h6 := hc 6; have h7 := hc 7; have h8 := hc 8; have h9 := hc 9; have h10 := hc 10; have h11 := hc 11; have h12 := hc 12; have h13 := hc 13; have h14 := hc 14; have h15 := hc 15; have h16 := hc 16; have h17 := hc 17; have h18 := hc 18; have h19 := hc 19; have h20 := hc 20; have h21 := hc 21; have h22 := hc 22; have h23 := hc 23
  unfold bQ; omega
theorem bT_lt {c : Nat → Nat} (hc : ∀ i, c i ≤ 1) : bT c < 2 ^ 25 := by
  have h0 := hc 0; have h1 := hc 1; have h2 := hc 2; have h3 := hc 3; have h4 := hc 4; have h5 := hc 5; have h6 := hc 6; have h7 := hc 7; have h8 := hc 8; have h9 := hc 9; have h10 := hc 10; have h11 := hc 11; have h12 := hc 12; have h13 := hc 13; have h14 := hc 14; have h15 := hc 15; have h16 := hc 16; have h17 := hc 17; have h18 := hc 18; have h19 := hc 19; have h20 := hc 20; have h21 := hc 21; have h22 := hc 22; have h23 := hc 23
  unfold bT; omega
theorem bT_k {a b d : Nat} (ha : a ≤ 8) (hb : b ≤ 8) (hd : d ≤ 8) : (a + 256 * (b + 256 * (d + 256 * 0)) + (a + 256 * (b + 256 * (d + 256 * 0))) / 256 + (a + 256 * (b + 256 * (d + 256 * 0)) + (a + 256 * (b + 256 * (d + 256 * 0))) / 256) / 65536) % 64 = a + b + d := by
  have e1 : (a + 256 * (b + 256 * (d + 256 * 0))) / 256 = b + 256 * d := by omega
  rw [e1]
  have e2 : (a + 256 * (b + 256 * (d + 256 * 0)) + (b + 256 * d)) / 65536 = d := by omega
  rw [e2]
  omega
theorem bT_s {c : Nat → Nat} (hc : ∀ i, c i ≤ 1) : (bT c + bT c / 256 + (bT c + bT c / 256) / 65536) % 64 = bS c := by
  have h0 := hc 0; have h1 := hc 1; have h2 := hc 2; have h3 := hc 3; have h4 := hc 4; have h5 := hc 5; have h6 := hc 6; have h7 := hc 7; have h8 := hc 8; have h9 := hc 9; have h10 := hc 10; have h11 := hc 11; have h12 := hc 12; have h13 := hc 13; have h14 := hc 14; have h15 := hc 15; have h16 := hc 16; have h17 := hc 17; have h18 := hc 18; have h19 := hc 19; have h20 := hc 20; have h21 := hc 21; have h22 := hc 22; have h23 := hc 23
  refine (bT_k (by omega) (by omega) (by omega)).trans ?_
  unfold bS; omega
theorem bitCount_e {c : Nat → Nat} (hc : ∀ i, c i ≤ 1) : f_J6_bitCount_0f7a4 (nI (bM c)) = some (nI (bS c)) := by
  have l1 := bM_lt hc
  have l2 := bP_lt hc
  have l3 := bQ_lt hc
  have l4 := bT_lt hc
  have a1 : nI (bM c) - (((nI (bM c)).toUInt32 >>> ((iI (1)).toUInt32 &&& Int32.toUInt32 31)).toInt32 &&& (1431655765 : Int32)) = nI (bP c) := by
    rw [show iI (1) = nI 1 from rfl, ub_shr (by omega) (by omega), show (1431655765 : Int32) = nI 1431655765 from rfl, ub_and (by omega) (by omega), ub_sub (Nat.le_trans Nat.and_le_left (by omega)), ← bM_1 hc]
    rfl
  have a2 : (nI (bP c) &&& (858993459 : Int32)) + (((nI (bP c)).toUInt32 >>> ((iI (2)).toUInt32 &&& Int32.toUInt32 31)).toInt32 &&& (858993459 : Int32)) = nI (bQ c) := by
    rw [show iI (2) = nI 2 from rfl, ub_shr (by omega) (by omega), show (858993459 : Int32) = nI 858993459 from rfl, ub_and (by omega) (by omega), ub_and (by omega) (by omega), ub_add, ← bP_2 hc]
    rfl
  have a3 : (nI (bQ c) + ((nI (bQ c)).toUInt32 >>> ((iI (4)).toUInt32 &&& Int32.toUInt32 31)).toInt32) &&& (252645135 : Int32) = nI (bT c) := by
    rw [show iI (4) = nI 4 from rfl, ub_shr (by omega) (by omega), show (252645135 : Int32) = nI 252645135 from rfl, ub_add, ub_and (by omega) (by omega), ← bQ_3 hc]
    rfl
  have a4 : nI (bT c) + ((nI (bT c)).toUInt32 >>> ((iI (8)).toUInt32 &&& Int32.toUInt32 31)).toInt32 = nI (bT c + bT c / 256) := by
    rw [show iI (8) = nI 8 from rfl, ub_shr (by omega) (by omega), ub_add]
  have a5 : (nI (bT c + bT c / 256) + ((nI (bT c + bT c / 256)).toUInt32 >>> ((iI (16)).toUInt32 &&& Int32.toUInt32 31)).toInt32) &&& iI (63) = nI (bS c) := by
    rw [show iI (16) = nI 16 from rfl, ub_shr (by omega) (by omega), ub_add, show iI (63) = nI 63 from rfl, ub_and (by omega) (by omega), show (63 : Nat) = 2 ^ 6 - 1 from rfl, Nat.and_two_pow_sub_one_eq_mod, ← bT_s hc]
  unfold f_J6_bitCount_0f7a4
  rw [a1, a2, a3, a4, a5]
