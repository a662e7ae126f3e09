/-! growing: steps -/
def TB (d0 : dm_D) (b c m : Nat) (T : List Int) (d : dm_D) : Prop := BuS d b T ∧ Bf c b d0 d ∧ T.length ≤ m
def pkV (X : dm_X) (k n : Nat) : Nat := (pickV X k n).toNat
section GRS
variable {X : dm_X} {d d0 d' : dm_D} {w b c m t k n z : Nat} {T : List Int} {u u' : pv_T} {tx tx' : am_v} {N : Nat → Nat} {M : Nat → Int32} {E : Nat → am_G × Nat} {F : Nat → Nat → Nat} {β : Type} {P : β → Prop} {e e2 : Int32}
theorem pq_lt (hn : 0 < n) : pkV X k n < n := by
  have := pick_b (X := X) (k := k) (n := (n : Int)) (by omega)
  unfold pkV
  omega
theorem pkE (hX : X.1 < 2147483648) (hk : k < 2147483648) (hn : 0 < n ∧ n < 2147483648) (he : e = iI (k : Int)) (hm : e2 = iI (n : Int)) : F_L_pick X (.inl 4, 3) e e2 d = some (iI (pkV X k n : Int)) := by
  have := pick_b (X := X) (k := k) (n := (n : Int)) (by omega)
  have h := pick_ok (X := X) (d := d) hX hk (n := (n : Int)) (by omega)
  rw [he, hm, h]
  unfold pkV
  rw [show ((pickV X k (n : Int)).toNat : Int) = pickV X k (n : Int) by omega]
theorem chr_e : ∀ p, p < 26 → (((iI 97 + iI ((p : Nat) : Int)).toUInt32 % 65536).toInt32) = iI (((97 + p : Nat)) : Int) := by decide +kernel
theorem chr_f : ∀ p, p < 6 → (((iI 112 + iI ((p : Nat) : Int)).toUInt32 % 65536).toInt32) = iI (((112 + p : Nat)) : Int) := by decide +kernel
theorem BuS.ext (h : Ext c d d') (B : BuS d b T) : BuS d' b T := by
  obtain ⟨r, cap, f, o, a, B2⟩ := B
  exact ⟨r, cap, f, h.ob o, h.ar a, B2⟩
theorem TB.st (B : BuS d b T) (hm : T.length ≤ m) : TB d b 0 m T d := ⟨B, Bf.rf, hm⟩
theorem TB.s {K : (am_G × Nat) × dm_D → Option β} (B : TB d0 b c m T d) (ht : t < 22) (hm : m ≤ 380) (hb : d0.2.1 + c + 803 ≤ dm_L) (k : ∀ d', TB d0 b (c + 803) (m + 9) (T ++ txI t) d' → Aok P (K ((.inl 0, b), d'))) : Aok P ((dm_rk d (.inl 0, b) 14).bind (fun _ => (F_J4_append_15ec4 X (.inl 0, b) (.inl 2, t) d).bind K)) := by
  obtain ⟨B1, B2, B3⟩ := B
  have hl := tx_ln t ht
  obtain ⟨⟨q, d2⟩, e1, e2, B4, B5⟩ := apS (X := X) ht B1 (by omega) (by have := B2.2.1; omega)
  obtain rfl : q = (.inl 0, b) := e2
  have B0 := B1
  obtain ⟨r, cap, f, o, -⟩ := B0
  refine Aok.b (rk_at o) ?_
  refine Aok.b e1 ?_
  exact k d2 ⟨B4, B2.tr B5, by rw [List.length_append, txI_len]; omega⟩
theorem TB.i {K : (am_G × Nat) × dm_D → Option β} (B : TB d0 b c m T d) (hn : n < 1000) (he : e = iI (n : Int)) (hm : m ≤ 380) (hb : d0.2.1 + c + 803 ≤ dm_L) (k : ∀ d', TB d0 b (c + 803) (m + 3) (T ++ dg n) d' → Aok P (K ((.inl 0, b), d'))) : Aok P ((dm_rk d (.inl 0, b) 14).bind (fun _ => (F_J4_append_bf812 X (.inl 0, b) e d).bind K)) := by
  obtain ⟨B1, B2, B3⟩ := B
  have hl := dg_len (n := n)
  subst he
  obtain ⟨⟨q, d2⟩, e1, e2, B4, B5⟩ := apI (X := X) hn B1 (by omega) (by have := B2.2.1; omega)
  obtain rfl : q = (.inl 0, b) := e2
  have B0 := B1
  obtain ⟨r, cap, f, o, -⟩ := B0
  refine Aok.b (rk_at o) ?_
  refine Aok.b e1 ?_
  exact k d2 ⟨B4, B2.tr B5, by rw [List.length_append]; omega⟩
theorem TB.ch {K : (am_G × Nat) × dm_D → Option β} (B : TB d0 b c m T d) (hz : z < 128) (he : e = iI (z : Int)) (hm : m ≤ 380) (hb : d0.2.1 + c + 803 ≤ dm_L) (k : ∀ d', TB d0 b (c + 803) (m + 1) (T ++ [(z : Int)]) d' → Aok P (K ((.inl 0, b), d'))) : Aok P ((dm_rk d (.inl 0, b) 14).bind (fun _ => (F_J4_append_cf468 X (.inl 0, b) e d).bind K)) := by
  obtain ⟨B1, B2, B3⟩ := B
  subst he
  obtain ⟨⟨q, d2⟩, e1, e2, B4, B5⟩ := apC (X := X) hz B1 (by omega) (by have := B2.2.1; omega)
  obtain rfl : q = (.inl 0, b) := e2
  have B0 := B1
  obtain ⟨r, cap, f, o, -⟩ := B0
  refine Aok.b (rk_at o) ?_
  refine Aok.b e1 ?_
  exact k d2 ⟨B4, B2.tr B5, by rw [List.length_append]; show T.length + 1 ≤ _; omega⟩
theorem TB.pw {T' : List Int} (B : TB d0 b c m T d) (B0 : BuS d0 b T') (R : PW d0 w u tx N M E F) : PW d w u tx N M E F := by
  obtain ⟨r, cap, f, o, -⟩ := B0
  exact R.bf B.2.1 o
theorem TB.ar {T' : List Int} {i j : Nat} {f : Nat → Int32} (B : TB d0 b c m T d) (B0 : BuS d0 b T') (a : dAr d0 i 0 j f) : dAr d i 0 j f := by
  obtain ⟨r, cap, f, o, -⟩ := B0
  exact B.2.1.ar o a
/-- an own number of the World -/
theorem PW.own (R : PW d w u tx N M E F) (k : Nat) (hk : k < 3) (x : Int) : ∃ d', dm_pu d (.inl 0, w) 12 k (am_i (iI x)) = some d' ∧ PW d' w (pu u 0 k x) tx N M E F ∧ d'.1 = d.1 ∧ d'.2.1 = d.2.1 ∧ ∀ b T, BuS d b T → BuS d' b T := by
  have hB : ∀ (x : dm_C) b T, BuS d b T → BuS (dm_se d w x) b T := fun x b T B => by
    obtain ⟨r, cap, f, o, a, B2⟩ := B
    exact ⟨r, cap, f, ⟨o.1, (se_ne (ob_ne o R.1 (by omega))).trans o.2⟩, a.sg (ar_ne R.1 a), B2⟩
  rcases (show k = 0 ∨ k = 1 ∨ k = 2 by omega) with rfl | rfl | rfl
  · exact ⟨_, pu_at R.1 (ble rfl), R.w0 (u' := pu u 0 0 x) rfl (fun c hc => funext fun i => pu_o hc), rfl, rfl, hB _⟩
  · exact ⟨_, pu_at R.1 (ble rfl), R.w0 (u' := pu u 0 1 x) rfl (fun c hc => funext fun i => pu_o hc), rfl, rfl, hB _⟩
  · exact ⟨_, pu_at R.1 (ble rfl), R.w0 (u' := pu u 0 2 x) rfl (fun c hc => funext fun i => pu_o hc), rfl, rfl, hB _⟩
end GRS
/-- while it grows -/
def GS (d : dm_D) (w b : Nat) (u : pv_T) (T : List Int) (g : G3) (n : Nat) : Prop := (∃ N M E F, PW d w u (.inr (.inl 2, 9)) N M E F) ∧ BuS d b T ∧ Par T u g n
/-- what is grown -/
def GP (a : (am_G × Nat) × dm_D) : Prop := ∃ (w : Nat) (u : pv_T) (T : List Int) (g : G3) (n s : Nat) (N : Nat → Nat) (M : Nat → Int32) (E : Nat → am_G × Nat) (F : Nat → Nat → Nat), a.1 = (.inl 0, w) ∧ WR a.2 w u (dm_o s) N M E F ∧ u.1 3 = 0 ∧ SR a.2 s T ∧ Par T u g n ∧ n < 500 ∧ T.length ≤ 380 ∧ a.2.2.1 ≤ 200000
theorem dm_L6 : dm_L = 600000 := rfl
section GRO
variable {X : dm_X} {d d0 d' : dm_D} {w b n k : Nat} {T : List Int} {u : pv_T} {g : G3}
theorem len_e {x t m : Nat} (h : (am_tx t).length = m) : (txI t ++ (dg x ++ txI 16)).length ≤ m + 4 := by
  have h1 := dg_len (n := x)
  rw [List.length_append, List.length_append, txI_len, h]
  show m + ((dg x).length + 1) ≤ _
  omega
theorem gEnd (G : GS d w b u T g n) (hT : T.length ≤ 360) (hc : d.2.1 ≤ 190000) (hn : n < 500) : Aok GP ((dm_rk d (.inl 0, b) 14).bind (fun _ => (F_J4_toString_0e30d X (.inl 0, b) d).bind (fun a2 => (dm_pu a2.2 (.inl 0, w) 12 10 (.inr a2.1)).bind (fun d1 => some (((.inl 0, w) : am_G × Nat), d1))))) := by
  obtain ⟨⟨N, M, E, F, R⟩, B, hP⟩ := G
  have hL := dm_L6
  obtain ⟨⟨q, d2⟩, e1, e2, B4, E5⟩ := toS (X := X) B (by omega)
  obtain rfl : q = (.inl 0, d.1) := e2
  have B0 := B
  obtain ⟨r, cap, f, o, -⟩ := B0
  refine Aok.b (rk_at o) ?_
  refine Aok.b e1 ?_
  have R2 := R.ext E5
  refine Aok.b (pu_at R2.1 (ble rfl)) ?_
  have R3 : PW (dm_se d2 w (.inl (12, wF u N (dm_o d.1)))) w u (dm_o d.1) N M E F := R2.w0 (u' := u) (tx' := dm_o d.1) rfl (fun _ _ => rfl)
  refine Aok.fin ⟨w, u, T, g, n, d.1, N, M, E, F, rfl, R3.WR, R.2.2.2.2.2.2.2.2.2, ?_, hP, hn, by omega, ?_⟩
  · obtain ⟨r, g, fs, o, a, h⟩ := B4
    exact ⟨r, g, fs, ⟨o.1, (se_ne (ob_ne o R2.1 (by omega))).trans o.2⟩, a.sg (ar_ne R2.1 a), h⟩
  · have : d2.2.1 ≤ d.2.1 + 1006 := E5.2.1
    show d2.2.1 ≤ 200000
    omega
theorem g630 (hX : X.1 < 2147483648) (G : GS d w b u T g n) (hT : T.length ≤ 340) (hc : d.2.1 ≤ 180000) (hn : n < 400) (hg : g.2.2 = false) : Aok GP (F_X12_grown_630 X (.inl 4, 3) (.inl 0, w) (.inl 0, b) d) := by
  have hL := dm_L6
  rw [E_X12_grown_630]
  refine Aok.b (pkE hX (k := 8) (n := 2) (by omega) (by omega) rfl rfl) ?_
  by_cases c : pkV X 8 2 = 0
  · refine Aok.t (by rw [c]; rfl) ?_
    have hx := pq_lt (X := X) (k := 9) (n := 30) (by omega)
    refine Aok.b (pkE hX (k := 9) (n := 30) (by omega) (by omega) rfl rfl) ?_
    obtain ⟨⟨N, M, E, F, R⟩, B, hP⟩ := G
    obtain ⟨d1, e1, R1, z1, z2, z3⟩ := R.own 1 (by omega) (pkV X 9 30)
    have B1 := z3 b T B
    refine Aok.b e1 ?_
    refine (TB.st B1 hT).s (t := 21) (by omega) (by omega) (by omega) (fun d2 Q2 => ?_)
    refine Aok.b (fi_at (Q2.pw B1 R1).1 rfl) ?_
    refine Q2.i (n := pkV X 9 30) (by omega) rfl (by omega) (by omega) (fun d3 Q3 => ?_)
    refine Q3.s (t := 16) (by omega) (by omega) (by omega) (fun d4 Q4 => ?_)
    have hP2 := hP.mar (x := pkV X 9 30) (by omega) hg
    have eT : T ++ txI 21 ++ dg (pkV X 9 30) ++ txI 16 = T ++ (txI 21 ++ (dg (pkV X 9 30) ++ txI 16)) := by simp only [List.append_assoc]
    have R4 := Q4.pw B1 R1
    rw [eT] at Q4
    have hl := len_e (x := pkV X 9 30) (t := 21) (m := 7) rfl
    exact gEnd ⟨⟨N, M, E, F, R4⟩, Q4.1, hP2⟩ (by rw [List.length_append]; omega) (by have := Q4.2.1.2.1; show d4.2.1 ≤ _; omega) (by omega)
  · refine Aok.f (by rw [xI_0, xI_eq (by omega) (by have := pq_lt (X := X) (k := 8) (n := 2) (by omega); omega) (by omega) (by omega)]; omega) ?_
    exact gEnd G (by omega) (by omega) (by omega)
theorem g587 (hX : X.1 < 2147483648) (G : GS d w b u T g n) (hT : T.length ≤ 320) (hc : d.2.1 ≤ 170000) (hn : n < 300) (hg : g.2.1 = false ∧ g.2.2 = false) : Aok GP (F_X12_grown_587 X (.inl 4, 3) (.inl 0, w) (.inl 0, b) d) := by
  have hL := dm_L6
  rw [E_X12_grown_587]
  refine Aok.b (pkE hX (k := 6) (n := 2) (by omega) (by omega) rfl rfl) ?_
  by_cases c : pkV X 6 2 = 0
  · refine Aok.t (by rw [c]; rfl) ?_
    have hx := pq_lt (X := X) (k := 7) (n := 60) (by omega)
    refine Aok.b (pkE hX (k := 7) (n := 60) (by omega) (by omega) rfl rfl) ?_
    obtain ⟨⟨N, M, E, F, R⟩, B, hP⟩ := G
    obtain ⟨d1, e1, R1, z1, z2, z3⟩ := R.own 0 (by omega) ((1 + pkV X 7 60 : Nat) : Int)
    have B1 := z3 b T B
    rw [show iI ((1 + pkV X 7 60 : Nat) : Int) = iI 1 + iI (pkV X 7 60 : Int) by rw [iI_a]; rfl] at e1
    refine Aok.b e1 ?_
    refine (TB.st B1 hT).s (t := 20) (by omega) (by omega) (by omega) (fun d2 Q2 => ?_)
    refine Aok.b (fi_at (Q2.pw B1 R1).1 rfl) ?_
    refine Q2.i (n := 1 + pkV X 7 60) (by omega) rfl (by omega) (by omega) (fun d3 Q3 => ?_)
    refine Q3.s (t := 16) (by omega) (by omega) (by omega) (fun d4 Q4 => ?_)
    have hP2 := hP.sha (x := 1 + pkV X 7 60) (by omega) hg.1
    have eT : T ++ txI 20 ++ dg (1 + pkV X 7 60) ++ txI 16 = T ++ (txI 20 ++ (dg (1 + pkV X 7 60) ++ txI 16)) := by simp only [List.append_assoc]
    have R4 := Q4.pw B1 R1
    rw [eT] at Q4
    have hl := len_e (x := 1 + pkV X 7 60) (t := 20) (m := 6) rfl
    exact g630 hX ⟨⟨N, M, E, F, R4⟩, Q4.1, hP2⟩ (by rw [List.length_append]; omega) (by have := Q4.2.1.2.1; show d4.2.1 ≤ _; omega) (by omega) hg.2
  · refine Aok.f (by rw [xI_0, xI_eq (by omega) (by have := pq_lt (X := X) (k := 6) (n := 2) (by omega); omega) (by omega) (by omega)]; omega) ?_
    exact g630 hX G (by omega) (by omega) (by omega) hg.2
end GRO
