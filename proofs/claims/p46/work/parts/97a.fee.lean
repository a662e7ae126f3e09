/-! the text is fed, twenty bytes at a time -/
def wdC (c : Nat → Int) : Nat → Int32
  | 0 => iI 0
  | n + 1 => (wdC c n <<< (iI 8 &&& 31)) ||| iI (c n)
theorem zb8 : ∀ z, z < 256 → ∀ i, i < 32 → 8 ≤ i → bt (iI ((z : Nat) : Int)) i = false := by decide +kernel
theorem zb8' {z : Int} (hz : 0 ≤ z ∧ z ≤ 255) {i : Nat} (hi : i < 32) (h8 : 8 ≤ i) : bt (iI z) i = false := by
  obtain ⟨n, rfl⟩ : ∃ n : Nat, z = n := ⟨z.toNat, by omega⟩
  exact zb8 n (by omega) i hi h8
theorem sh8 : (iI 8 &&& 31) = (nI 8 &&& 31) := by decide
theorem fbA {w : Int32} {z : Int} (hz : 0 ≤ z ∧ z ≤ 255) : fby ((w <<< (iI 8 &&& 31)) ||| iI z) 0 = z := by
  have hb := fby_b ((w <<< (iI 8 &&& 31)) ||| iI z) 0
  have h := fby_m ((w <<< (iI 8 &&& 31)) ||| iI z) (s := 0) (by omega)
  refine (iI_eq (by omega) (by omega) (by omega) (by omega)).mp ?_
  rw [← h, sh8]
  refine b_ext (fun i hi => ?_)
  rw [b_and, show iI 255 = 255 from rfl, b_255, b_sshr 0 (by omega) _ hi, Nat.zero_add, if_pos hi, b_or, b_shl 8 (by omega) w hi]
  by_cases c : i < 8
  · rw [decide_eq_true c, decide_eq_false (show ¬ 8 ≤ i by omega), Bool.false_and, Bool.false_or, Bool.and_true]
  · rw [decide_eq_false c, Bool.and_false, zb8' hz hi (by omega)]
theorem fbB {w : Int32} {z : Int} {s : Nat} (hz : 0 ≤ z ∧ z ≤ 255) (hs : s ≤ 16) : fby ((w <<< (iI 8 &&& 31)) ||| iI z) (s + 8) = fby w s := by
  have hb := fby_b ((w <<< (iI 8 &&& 31)) ||| iI z) (s + 8)
  have hb2 := fby_b w s
  have h := fby_m ((w <<< (iI 8 &&& 31)) ||| iI z) (s := s + 8) (by omega)
  have h2 := fby_m w (s := s) (by omega)
  refine (iI_eq (by omega) (by omega) (by omega) (by omega)).mp ?_
  rw [← h, ← h2, sh8]
  refine b_ext (fun i hi => ?_)
  rw [b_and, b_and, show iI 255 = 255 from rfl, b_255, b_sshr (s + 8) (by omega) _ hi, b_sshr s (by omega) _ hi]
  by_cases c : i < 8
  · rw [if_pos (by omega), if_pos (by omega), b_or, b_shl 8 (by omega) w (by omega), zb8' hz (by omega) (by omega), Bool.or_false, decide_eq_true (show 8 ≤ s + 8 + i by omega), Bool.true_and, show s + 8 + i - 8 = s + i by omega]
  · rw [decide_eq_false c, Bool.and_false, Bool.and_false]
theorem fb4 {c : Nat → Int} (hc : ∀ i, 0 ≤ c i ∧ c i ≤ 255) : ∀ t, t < 4 → fby (wdC c 4) (24 - 8 * t) = c t := by
  intro t ht
  rcases (show t = 0 ∨ t = 1 ∨ t = 2 ∨ t = 3 by omega) with rfl | rfl | rfl | rfl
  · show fby ((wdC c 3 <<< (iI 8 &&& 31)) ||| iI (c 3)) (16 + 8) = c 0
    rw [fbB (hc 3) (by omega)]
    show fby ((wdC c 2 <<< (iI 8 &&& 31)) ||| iI (c 2)) (8 + 8) = c 0
    rw [fbB (hc 2) (by omega)]
    show fby ((wdC c 1 <<< (iI 8 &&& 31)) ||| iI (c 1)) (0 + 8) = c 0
    rw [fbB (hc 1) (by omega)]
    exact fbA (hc 0)
  · show fby ((wdC c 3 <<< (iI 8 &&& 31)) ||| iI (c 3)) (8 + 8) = c 1
    rw [fbB (hc 3) (by omega)]
    show fby ((wdC c 2 <<< (iI 8 &&& 31)) ||| iI (c 2)) (0 + 8) = c 1
    rw [fbB (hc 2) (by omega)]
    exact fbA (hc 1)
  · show fby ((wdC c 3 <<< (iI 8 &&& 31)) ||| iI (c 3)) (0 + 8) = c 2
    rw [fbB (hc 3) (by omega)]
    exact fbA (hc 2)
  · exact fbA (hc 3)
theorem fee_at {b : Nat × (Nat → Int)} {x1 x2 x3 x4 x5 : Int32} {c : Nat → Int} (h1 : ∀ t, t < 4 → fby x1 (24 - 8 * t) = c (b.1 + t)) (h2 : ∀ t, t < 4 → fby x2 (24 - 8 * t) = c (b.1 + 4 + t)) (h3 : ∀ t, t < 4 → fby x3 (24 - 8 * t) = c (b.1 + 8 + t)) (h4 : ∀ t, t < 4 → fby x4 (24 - 8 * t) = c (b.1 + 12 + t)) (h5 : ∀ t, t < 4 → fby x5 (24 - 8 * t) = c (b.1 + 16 + t)) (h0 : ∀ i, i < b.1 → b.2 i = c i) : ∀ i, i < b.1 + 20 → (fee b x1 x2 x3 x4 x5).2 i = c i := by
  intro i hi
  show (if i < b.1 + 4 + 4 + 4 + 4 then (if i < b.1 + 4 + 4 + 4 then (if i < b.1 + 4 + 4 then (if i < b.1 + 4 then (if i < b.1 then b.2 i else fby x1 (24 - 8 * (i - b.1))) else fby x2 (24 - 8 * (i - (b.1 + 4)))) else fby x3 (24 - 8 * (i - (b.1 + 4 + 4)))) else fby x4 (24 - 8 * (i - (b.1 + 4 + 4 + 4)))) else fby x5 (24 - 8 * (i - (b.1 + 4 + 4 + 4 + 4)))) = c i
  by_cases c4 : i < b.1 + 4 + 4 + 4 + 4
  · rw [if_pos c4]
    by_cases c3 : i < b.1 + 4 + 4 + 4
    · rw [if_pos c3]
      by_cases c2 : i < b.1 + 4 + 4
      · rw [if_pos c2]
        by_cases c1 : i < b.1 + 4
        · rw [if_pos c1]
          by_cases c0 : i < b.1
          · rw [if_pos c0]
            exact h0 i c0
          · rw [if_neg c0, h1 _ (by omega), show b.1 + (i - b.1) = i by omega]
        · rw [if_neg c1, h2 _ (by omega), show b.1 + 4 + (i - (b.1 + 4)) = i by omega]
      · rw [if_neg c2, h3 _ (by omega), show b.1 + 8 + (i - (b.1 + 4 + 4)) = i by omega]
    · rw [if_neg c3, h4 _ (by omega), show b.1 + 12 + (i - (b.1 + 4 + 4 + 4)) = i by omega]
  · rw [if_neg c4, h5 _ (by omega), show b.1 + 16 + (i - (b.1 + 4 + 4 + 4 + 4)) = i by omega]
/-- the text's bytes, blanks behind them -/
def chT (T : List Int) (p : Nat) : Int := if p < T.length then T.getD p 0 else 32
section FED
variable {X : dm_X} {d d0 d' : dm_D} {s n k A c : Nat} {T : List Int} {st : St} {g3 : G3}
theorem chT_b (hT : TRg T) (p : Nat) : 0 ≤ chT T p ∧ chT T p ≤ 255 := by
  unfold chT
  split
  · next h =>
    have := hT p h
    omega
  · omega
theorem SR.ext (h : Ext c d d') (S : SR d s T) : SR d' s T := by
  obtain ⟨r, g, fs, o, a, hg⟩ := S
  exact ⟨r, g, fs, h.ob o, h.ar a, hg⟩
theorem SR.rk (S : SR d s T) : dm_rk d (.inl 0, s) 13 = some () := by
  obtain ⟨r, g, fs, o, a, hg⟩ := S
  exact rk_at o
theorem sr_at {r : am_G × Nat} {fs : List am_v} (o : dOb d s 13 (.inr r :: fs)) : dm_sr d (.inl 0, s) 0 = some r := by
  unfold dm_sr
  rw [fld_at o rfl]
  rfl
theorem si_at {r : am_v} {x : Int32} {fs : List am_v} (o : dOb d s 13 (r :: am_i x :: fs)) : dm_si d (.inl 0, s) 1 = some x := by
  unfold dm_si
  rw [fld_at o rfl]
  rfl
theorem SR.len (S : SR d s T) : F_J0_length_8abf5 X (.inl 0, s) d = some (iI T.length) := by
  obtain ⟨r, g, fs, o, a, hg⟩ := S
  unfold F_J0_length_8abf5 F_J0_coder_7d493
  rw [sr_at o, Option.bind_some, ln_at a (by omega), Option.bind_some, rk_at o, Option.bind_some, if_neg (by decide), si_at o, Option.bind_some, if_pos (by decide), Option.bind_some, sh0r]
theorem SR.emp (S : SR d s T) (hl : T.length < 1000) : F_J0_isEmpty_aae02 X (.inl 0, s) d = some (iI (bI (T.length = 0))) := by
  obtain ⟨r, g, fs, o, a, hg⟩ := S
  unfold F_J0_isEmpty_aae02
  rw [sr_at o, Option.bind_some, ln_at a (by omega), Option.bind_some]
  by_cases h : T.length = 0
  · rw [if_pos (by rw [h]; rfl), show bI (T.length = 0) = 1 from if_pos h]
  · rw [if_neg (by rw [xI_0, xI_eq (by omega) (by omega) (by omega) (by omega)]; omega), show bI (T.length = 0) = 0 from if_neg h]
theorem ca_e : ∀ z, z < 128 → ((((iI ((z : Nat) : Int) &&& iI 255).toUInt32 % 65536).toInt32) = iI (z : Int) ∧ ib (iI (z : Int)) 65536) := by decide +kernel
theorem SR.at (S : SR d s T) (hT : TRg T) (hl : T.length < 1000) {p : Nat} (hp : p < T.length) : F_J0_charAt_5068e X (.inl 0, s) (iI p) d = some (iI (T.getD p 0)) := by
  obtain ⟨r, g, fs, o, a, hg⟩ := S
  have h1 := hT p hp
  obtain ⟨z, hz⟩ : ∃ z : Nat, T.getD p 0 = z := ⟨(T.getD p 0).toNat, by omega⟩
  obtain ⟨e1, e2⟩ := ca_e z (by omega)
  have e3 : F_J1_charAt_3b067 X (.inl 0, r) (iI p) d = some (iI z) := by
    unfold F_J1_charAt_3b067 F_J0_checkIndex_df160
    have hlb : dm_lb d (.inl 0, r) (iI (p : Int)) = some (iI z) := by
      rw [lb_at a (ib1 hp (by omega)), iI_cl (by omega), hg p hp, hz]
    rw [ln_at a (by omega), Option.bind_some, if_pos ⟨by rw [xI_0, xI_lt (by omega) (by omega) (by omega) (by omega)]; omega, by rw [xI_lt (by omega) (by omega) (by omega) (by omega)]; omega⟩, Option.bind_some, hlb, Option.bind_some, e1, if_pos e2]
  unfold F_J0_charAt_5068e F_J0_isLatin1_aae02
  rw [rk_at o, Option.bind_some, if_neg (by decide), si_at o, Option.bind_some, if_pos (by decide), Option.bind_some, if_neg (by decide), sr_at o, Option.bind_some, e3, Option.bind_some, if_pos e2, hz]
/-- the class holds so much of the text in its buffer -/
def FB (st0 st : St) (T : List Int) (n : Nat) : Prop := Ok st ∧ st.1 = st0.1 ∧ st.2.2.2.1.1 = n ∧ ∀ i, i < n → st.2.2.2.1.2 i = chT T i
def FP (st0 : St) (T : List Int) (d : dm_D) (c : Nat) (a : Int32 × am_H × dm_D) : Prop := a.1 = iI 1 ∧ (∃ st, FB st0 st T T.length ∧ ClR a.2.1 st) ∧ Ext c d a.2.2
theorem fe4 {st0 : St} (hT : TRg T) (hl : T.length ≤ 380) (hb : d0.2.1 + 200 ≤ dm_L) (hf0 : dm_full d0) (S0 : SR d0 s T) : ∀ (m j : Nat) (h : am_H) (d : dm_D) (st : St), 20 * j + m = 400 → (20 * j < T.length + 20) → FB st0 st T (20 * j) → ClR h st → Ext (6 * j) d0 d → Aok (FP st0 T d0 150) (F_L_feeds_4 X (.inl 0, s) (iI ((20 * j : Nat) : Int)) (iI ((20 * j : Nat) : Int)) h d) := by
  intro m
  induction m using Nat.strongRecOn with
  | _ m ih =>
    intro j h d st hm hj FBs C E
    have S := S0.ext E
    have hf := E.full hf0
    obtain ⟨ok, fb0, fb1, fb2⟩ := FBs
    rw [E_L_feeds_4]
    refine Aok.b S.rk ?_
    refine Aok.b S.len ?_
    by_cases c : T.length ≤ 20 * j
    · refine Aok.t (by rw [xI_le (by omega) (by omega) (by omega) (by omega)]; omega) ?_
      refine Aok.b S.rk ?_
      refine Aok.b (S.emp (by omega)) ?_
      by_cases e0 : T.length = 0
      · refine Aok.f (by rw [show bI (T.length = 0) = 1 from if_pos e0]; decide) ?_
        have hj0 : 20 * j = T.length := by omega
        refine Aok.fin ⟨rfl, ⟨st, ⟨ok, fb0, by rw [fb1, hj0], fun i hi => by omega⟩, C⟩, E.le (by omega)⟩
      · refine Aok.t (by rw [show bI (T.length = 0) = 0 from if_neg e0]; rfl) ?_
        refine Aok.b S.rk ?_
        refine Aok.b S.len ?_
        refine Aok.f (by rw [xI_lt (by omega) (by omega) (by omega) (by omega)]; omega) ?_
        refine Aok.b S.rk ?_
        refine Aok.b S.len ?_
        have e1 : oTr st (T.length : Int) = .inl (iI T.length) := by
          unfold oTr
          rw [if_pos (by rw [fb1]; omega)]
        have e2 : sTr st (T.length : Int) = stB st (T.length, st.2.2.2.1.2) st.2.2.2.2.1 := by
          unfold sTr
          rw [if_pos (by rw [fb1]; omega), Int.toNat_natCast]
        have q := cl_truncate ok C (n := (T.length : Int)) (by omega)
        rw [e2] at q
        refine Aok.cv q e1 hf (fun h1 C1 => ?_)
        refine Aok.b S.rk ?_
        refine Aok.b S.len ?_
        refine Aok.t rfl ?_
        refine Aok.fin ⟨rfl, ⟨stB st (T.length, st.2.2.2.1.2) st.2.2.2.2.1, ⟨⟨ok.1, ok.2.1, ok.2.2.1, ⟨by show T.length ≤ 500; omega, ok.2.2.2.1.2⟩, ok.2.2.2.2⟩, fb0, rfl, fun i hi => fb2 i (by omega)⟩, C1⟩, E.le (by omega)⟩
    · refine Aok.f (by rw [xI_le (by omega) (by omega) (by omega) (by omega)]; omega) ?_
      obtain ⟨d1, q1, E1, a1⟩ := naA (d := d) (q := 5) (by omega) (by have := E.2.1; omega)
      refine Aok.b q1 ?_
      have key : ∀ (m2 i : Nat) (d2 : dm_D) (u : Nat → Int32), i + m2 = 20 → Ext (5 + 1) d d2 → dAr d2 d.1 0 5 u → (∀ q, q < 5 → u q = wdC (fun t => chT T (20 * j + 4 * q + t)) (min 4 (i - 4 * q))) → Aok (FP st0 T d0 150) (F_L_feeds_20 X (.inl 0, s) (iI ((20 * j : Nat) : Int)) (.inl 0, d.1) (iI (i : Int)) h d2) := by
        intro m2
        induction m2 with
        | zero =>
          intro i d2 u hi E2 a2 hu
          obtain rfl : i = 20 := by omega
          have E3 := E.tr E2
          have hu' : ∀ q, q < 5 → u q = wdC (fun t => chT T (20 * j + 4 * q + t)) 4 := fun q hq => by
            rw [hu q hq, show min 4 (20 - 4 * q) = 4 by omega]
          rw [E_L_feeds_20]
          refine Aok.t (by decide) ?_
          refine Aok.b (li0 a2 rfl rfl) ?_
          refine Aok.b (li1 a2 rfl rfl) ?_
          refine Aok.b (li2 a2 rfl rfl) ?_
          refine Aok.b (li3 a2 rfl rfl) ?_
          refine Aok.b (lik a2 4 (by omega) (by omega)) ?_
          have e1 : oFe st = .inl (iI ((20 * (j + 1) : Nat) : Int)) := by
            unfold oFe
            rw [if_pos (by omega), fb1]
            congr 2
          have e2 : sFe st (u 0) (u 1) (u 2) (u 3) (u 4) = stB st (fee st.2.2.2.1 (u 0) (u 1) (u 2) (u 3) (u 4)) st.2.2.2.2.1 := if_pos (by omega)
          have q := cl_feed ok C (x1 := u 0) (x2 := u 1) (x3 := u 2) (x4 := u 3) (x5 := u 4)
          have ok2 := sFe_ok ok (x1 := u 0) (x2 := u 1) (x3 := u 2) (x4 := u 3) (x5 := u 4)
          rw [e2] at q ok2
          refine Aok.cv q e1 (E3.full hf0) (fun h1 C1 => ?_)
          rw [iI_a, show ((20 * j : Nat) : Int) + 20 = ((20 * (j + 1) : Nat) : Int) by omega]
          refine ih (m - 20) (by omega) (j + 1) h1 d2 _ (by omega) (by omega) ⟨ok2, fb0, ?_, fun i hi => ?_⟩ C1 (E3.le (by omega))
          · show st.2.2.2.1.1 + 20 = 20 * (j + 1)
            omega
          · have f4 : ∀ q, q < 5 → ∀ t, t < 4 → fby (u q) (24 - 8 * t) = chT T (20 * j + 4 * q + t) := fun q hq t ht => by
              rw [hu' q hq]
              exact fb4 (c := fun t => chT T (20 * j + 4 * q + t)) (fun i => chT_b hT _) t ht
            refine fee_at (c := chT T) (fun t ht => ?_) (fun t ht => ?_) (fun t ht => ?_) (fun t ht => ?_) (fun t ht => ?_) (fun i hi => fb2 i (by omega)) i (by rw [fb1]; omega)
            · rw [fb1]
              exact f4 0 (by omega) t ht
            · rw [fb1]
              exact f4 1 (by omega) t ht
            · rw [fb1]
              exact f4 2 (by omega) t ht
            · rw [fb1]
              exact f4 3 (by omega) t ht
            · rw [fb1]
              exact f4 4 (by omega) t ht
        | succ m2 ih2 =>
          intro i d2 u hi E2 a2 hu
          have S2 := (S0.ext E).ext E2
          have hq : i / 4 < 5 := by omega
          rw [E_L_feeds_20]
          refine Aok.f (by rw [xI_le (by omega) (by omega) (by omega) (by omega)]; omega) ?_
          refine Aok.f (by decide) ?_
          refine Aok.f (by decide) ?_
          have ed : iI (i : Int) / iI 4 = iI ((i / 4 : Nat) : Int) := by
            rw [xI_dn (by omega) (by omega) (by omega) (by omega)]
            rfl
          rw [ed, iI_a]
          refine Aok.b (lik a2 (i / 4) hq (by omega)) ?_
          refine Aok.b S2.rk ?_
          refine Aok.b S2.len ?_
          have step : ∀ z : Int, z = chT T (20 * j + i) → Aok (FP st0 T d0 150) ((dm_wi d2 (.inl 0, d.1) 0 (iI ((i / 4 : Nat) : Int)) ((u (i / 4) <<< (iI 8 &&& 31)) ||| iI z)).bind (fun d1 => F_L_feeds_20 X (.inl 0, s) (iI ((20 * j : Nat) : Int)) (.inl 0, d.1) (iI (i : Int) + 1) h d1)) := by
            intro z hz
            obtain ⟨d3, q3, E3, a3⟩ := wA E2 (Nat.le_refl _) a2 (i / 4) hq (by omega) ((u (i / 4) <<< (iI 8 &&& 31)) ||| iI z)
            refine Aok.b q3 ?_
            rw [iS]
            refine ih2 (i + 1) d3 _ (by omega) E3 a3 (fun q hq5 => ?_)
            by_cases e : q = i / 4
            · subst e
              have h1 : min 4 (i - 4 * (i / 4)) = i % 4 := by omega
              have h2 : min 4 (i + 1 - 4 * (i / 4)) = i % 4 + 1 := by omega
              rw [up_s, hu _ hq5, h1, h2, hz]
              show _ = (wdC _ (i % 4) <<< (iI 8 &&& 31)) ||| iI (chT T (20 * j + 4 * (i / 4) + i % 4))
              rw [show 20 * j + 4 * (i / 4) + i % 4 = 20 * j + i by omega]
            · rw [up_n e, hu q hq5]
              congr 1
              omega
          by_cases e : T.length ≤ 20 * j + i
          · refine Aok.t (by rw [xI_le (by omega) (by omega) (by omega) (by omega)]; omega) ?_
            exact step 32 (by unfold chT; rw [if_neg (by omega)])
          · refine Aok.f (by rw [xI_le (by omega) (by omega) (by omega) (by omega)]; omega) ?_
            refine Aok.b S2.rk ?_
            have ec := S2.at (X := X) hT (by omega) (p := 20 * j + i) (by omega)
            rw [Int.natCast_add] at ec
            refine Aok.b ec ?_
            exact step _ (by unfold chT; rw [if_pos (by omega)])
      exact key 20 0 d1 (fun _ => 0) rfl E1 a1 (fun q hq => by rw [show min 4 (0 - 4 * q) = 0 by omega]; rfl)
theorem feeds_ok {h : am_H} (hT : TRg T) (hl : T.length ≤ 380) (hb : d.2.1 + 200 ≤ dm_L) (hf : dm_full d) (S : SR d s T) (ok : Ok st) (C : ClR h st) (h0 : st.2.2.2.1.1 = 0) : Aok (FP st T d 150) (F_L_feeds X (.inl 0, s) h d) := by
  unfold F_L_feeds
  exact fe4 (X := X) hT hl hb hf S 400 0 h d st rfl (by omega) ⟨ok, rfl, h0, fun i hi => by omega⟩ C Ext.rf
end FED
