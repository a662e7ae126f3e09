/-! the World while it grows -/
def PW (d : dm_D) (w : Nat) (u : pv_T) (tx : am_v) (N : Nat → Nat) (M : Nat → Int32) (E : Nat → am_G × Nat) (F : Nat → Nat → Nat) : Prop :=
  dOb d w 12 (wF u N tx) ∧ (∃ f, dAr d (N 0) 0 26 f ∧ ∀ i, i < 26 → f i = iI (u.2 8 i)) ∧
  (∀ k, k < 4 → LiE d (N (k + 1)) (M (k + 1)) (E (k + 1)) (u.1 k) (F (k + 1))) ∧
  (∀ i j, i < 4 → j < 4 → N (i + 1) = N (j + 1) → i = j) ∧ (∀ i j r, i < 4 → j < 4 → E (i + 1) = (.inl 0, r) → E (j + 1) = (.inl 0, r) → i = j) ∧
  (∀ i, i < u.1 0 → ∃ f, dAr d (F 1 i) 0 4 f ∧ f 0 = iI (u.2 1 i) ∧ f 1 = iI (u.2 2 i) ∧ f 2 = iI (u.2 3 i) ∧ f 3 = iI (u.2 4 i)) ∧
  (∀ i, i < u.1 1 → ∃ f, dAr d (F 2 i) 0 3 f ∧ f 0 = iI (u.2 5 i) ∧ f 1 = iI (u.2 6 i) ∧ f 2 = iI (u.2 7 i)) ∧
  (∀ i, i < u.1 2 → ∃ m f, dAr d (F 3 i) 0 m f) ∧
  ((∀ i j, i < u.1 0 → j < u.1 0 → F 1 i = F 1 j → i = j) ∧ ∀ i j, i < u.1 1 → j < u.1 1 → F 2 i = F 2 j → i = j) ∧ u.1 3 = 0
section PWS
variable {X : dm_X} {d d1 d2 d' : dm_D} {w b c q k m n : Nat} {u u' : pv_T} {tx tx' : am_v} {N : Nat → Nat} {M : Nat → Int32} {E : Nat → am_G × Nat} {F : Nat → Nat → Nat} {g : Nat → Int32} {fs : List am_v}
/-- cells of these kinds stay -/
theorem PW.kp (R : PW d w u tx N M E F) (h1 : d.1 ≤ d'.1) (ho : ∀ j ci fs, ci ≠ 14 → dOb d j ci fs → dOb d' j ci fs) (ha : ∀ j n f, dAr d j 0 n f → dAr d' j 0 n f) (hr : ∀ j n f, dRr d j n f → dRr d' j n f) : PW d' w u tx N M E F := by
  obtain ⟨r1, ⟨f, r2, r3⟩, r4, r5, r6, r7, r8, r9, r10⟩ := R
  refine ⟨ho _ _ _ (by omega) r1, ⟨f, ha _ _ _ r2, r3⟩, fun k hk => ?_, r5, r6, fun i hi => ?_, fun i hi => ?_, fun i hi => ?_, r10⟩
  · obtain ⟨l1, l2, l3⟩ := r4 k hk
    exact ⟨ho _ _ _ (by omega) l1, l2, l3.imp (fun ⟨r, cap, g, a1, a2, a3⟩ => ⟨r, cap, g, a1, hr _ _ _ a2, a3⟩) id⟩
  · obtain ⟨f, a, b⟩ := r7 i hi
    exact ⟨f, ha _ _ _ a, b⟩
  · obtain ⟨f, a, b⟩ := r8 i hi
    exact ⟨f, ha _ _ _ a, b⟩
  · obtain ⟨m, f, a⟩ := r9 i hi
    exact ⟨m, f, ha _ _ _ a⟩
theorem PW.ext (h : Ext c d d') (R : PW d w u tx N M E F) : PW d' w u tx N M E F := R.kp h.1 (fun _ _ _ _ o => h.ob o) (fun _ _ _ o => h.ar o) (fun _ _ _ o => h.rr o)
theorem PW.bf (h : Bf c b d d') (o : dOb d b 14 fs) (R : PW d w u tx N M E F) : PW d' w u tx N M E F := R.kp h.1 (fun j ci fs' hc o' => h.ob o' (ob_ne o' o hc)) (fun _ _ _ o' => h.ar o o') (fun _ _ _ o' => h.rr o o')
/-- an own number, the text -/
theorem PW.w0 (R : PW d w u tx N M E F) (e1 : u'.1 = u.1) (e2 : ∀ c, c ≠ 0 → u'.2 c = u.2 c) : PW (dm_se d w (.inl (12, wF u' N tx'))) w u' tx' N M E F := by
  obtain ⟨r1, ⟨f, r2, r3⟩, r4, r5, r6, r7, r8, r9, r10⟩ := R
  have ha : ∀ {i t m f}, dAr d i t m f → dAr (dm_se d w (.inl (12, wF u' N tx'))) i t m f := fun o => o.sg (ar_ne r1 o)
  unfold PW
  rw [e1, e2 1 (by omega), e2 2 (by omega), e2 3 (by omega), e2 4 (by omega), e2 5 (by omega), e2 6 (by omega), e2 7 (by omega), e2 8 (by omega)]
  refine ⟨dOb.se r1.1, ⟨f, ha r2, r3⟩, fun k hk => (r4 k hk).sg (ob_ne (r4 k hk).1 r1 (by omega)) ((r4 k hk).r_ob r1), r5, r6, fun i hi => ?_, fun i hi => ?_, fun i hi => ?_, r10⟩
  · obtain ⟨f, a, b⟩ := r7 i hi
    exact ⟨f, ha a, b⟩
  · obtain ⟨f, a, b⟩ := r8 i hi
    exact ⟨f, ha a, b⟩
  · obtain ⟨m, f, a⟩ := r9 i hi
    exact ⟨m, f, ha a⟩
/-- a width -/
theorem PW.wd (R : PW d w u tx N M E F) (hk : k < 26) {x : Int} {f : Nat → Int32} (hq : dAr d (N 0) 0 26 f) (hu : ∀ i, i < 26 → f i = iI (u.2 8 i)) : PW (dm_se d (N 0) (.inr (.inl (0, 26, upd f k (iI x))))) w (pu u 8 k x) tx N M E F := by
  obtain ⟨r1, -, r4, r5, r6, r7, r8, r9, r10⟩ := R
  have ha : ∀ {i t m f'}, dAr d i t m f' → m ≠ 26 → dAr (dm_se d (N 0) (.inr (.inl (0, 26, upd f k (iI x))))) i t m f' := fun o h => o.sg (ar_len o hq h)
  refine ⟨⟨r1.1, (se_ne (Ne.symm (ar_ne r1 hq))).trans r1.2⟩, ⟨_, dAr.se hq.1, fun i hi => ?_⟩, fun k hk => (r4 k hk).sg (Ne.symm (ar_ne (r4 k hk).1 hq)) ((r4 k hk).r_ar hq), r5, r6, fun i hi => ?_, fun i hi => ?_, fun i hi => ?_, r10⟩
  · by_cases e : i = k
    · subst e
      rw [up_s, pu_s]
    · rw [up_n e, pu_i e]
      exact hu i hi
  · obtain ⟨f, a, b⟩ := r7 i hi
    exact ⟨f, ha a (by omega), b⟩
  · obtain ⟨f, a, b⟩ := r8 i hi
    exact ⟨f, ha a (by omega), b⟩
  · obtain ⟨m, f', a⟩ := r9 i hi
    by_cases e : F 3 i = N 0
    · rw [e]
      exact ⟨_, _, dAr.se hq.1⟩
    · exact ⟨m, f', a.sg e⟩
theorem PW.hel (R : PW d w u tx N M E F) (hk : k < 4) : ∀ i, i < u.1 k → ∃ m f, dAr d (F (k + 1) i) 0 m f := fun i hi => by
  obtain ⟨-, -, -, -, -, r7, r8, r9, -, r11⟩ := R
  rcases (show k = 0 ∨ k = 1 ∨ k = 2 ∨ k = 3 by omega) with rfl | rfl | rfl | rfl
  · obtain ⟨f, a, -⟩ := r7 i hi
    exact ⟨_, f, a⟩
  · obtain ⟨f, a, -⟩ := r8 i hi
    exact ⟨_, f, a⟩
  · exact r9 i hi
  · omega
/-- an element more in the list k -/
theorem PW.add (R : PW d w u tx N M E F) (hk : k < 3) (hn : u.1 k < 900) (hq : dAr d q 0 m g) (hnew : ∀ i, i < u.1 k → F (k + 1) i ≠ q) (hb : d.2.1 + (2 * u.1 k + 12) ≤ dm_L)
    (g1 : u'.1 k = u.1 k + 1) (g2 : ∀ i, i ≠ k → u'.1 i = u.1 i) (g0 : u'.2 0 = u.2 0) (g8 : u'.2 8 = u.2 8) (gA : k ≠ 0 → ∀ c, 1 ≤ c → c ≤ 4 → u'.2 c = u.2 c) (gB : k ≠ 1 → ∀ c, 5 ≤ c → c ≤ 7 → u'.2 c = u.2 c)
    (hA : k = 0 → m = 4 ∧ (∀ i, i < u.1 0 → ∀ c, 1 ≤ c → c ≤ 4 → u'.2 c i = u.2 c i) ∧ g 0 = iI (u'.2 1 (u.1 0)) ∧ g 1 = iI (u'.2 2 (u.1 0)) ∧ g 2 = iI (u'.2 3 (u.1 0)) ∧ g 3 = iI (u'.2 4 (u.1 0)))
    (hB : k = 1 → m = 3 ∧ (∀ i, i < u.1 1 → ∀ c, 5 ≤ c → c ≤ 7 → u'.2 c i = u.2 c i) ∧ g 0 = iI (u'.2 5 (u.1 1)) ∧ g 1 = iI (u'.2 6 (u.1 1)) ∧ g 2 = iI (u'.2 7 (u.1 1))) :
    ∃ d' M' E' F', F_Jx4a65c_add_9ea2d X (.inl 0, N (k + 1)) (.inl 0, q) d = some (iI 1, d') ∧ PW d' w u' tx N M' E' F' ∧ d.1 ≤ d'.1 ∧ d'.2.1 ≤ d.2.1 + (2 * u.1 k + 12) ∧ ∀ b T, BuS d b T → BuS d' b T := by
  obtain ⟨r1, ⟨f, r2, r3⟩, r4, r5, r6, r7, r8, r9, ⟨s1, s2⟩, s3⟩ := R
  have hk4 : k < 4 := by omega
  have L := r4 k hk4
  obtain ⟨d', e', a1, a2, ⟨a3, a4, a5⟩, a6⟩ := add_at (X := X) L (by omega) hq (PW.hel ⟨r1, ⟨f, r2, r3⟩, r4, r5, r6, r7, r8, r9, ⟨s1, s2⟩, s3⟩ hk4) hb
  have ha : ∀ {i t m f}, dAr d i t m f → dAr d' i t m f := fun {i} {t} {m} {f} o => ⟨Nat.lt_of_lt_of_le o.1 a3, (a5 i o.1 (ar_ne L.1 o) (fun r hr => Ne.symm (L.r_ar o r hr))).trans o.2⟩
  have ho : ∀ {i ci fs}, ci ≠ 16 → dOb d i ci fs → dOb d' i ci fs := fun {i} {ci} {fs} hc o => ⟨Nat.lt_of_lt_of_le o.1 a3, (a5 i o.1 (ob_ne o L.1 hc) (fun r hr => Ne.symm (L.r_ob o r hr))).trans o.2⟩
  have hw : wF u' N tx = wF u N tx := by unfold wF; rw [g0]
  obtain ⟨M', m1, m2⟩ : ∃ M' : Nat → Int32, M' (k + 1) = M (k + 1) + iI 1 ∧ ∀ j, j ≠ k + 1 → M' j = M j := ⟨fun i => if i = k + 1 then M (k + 1) + iI 1 else M i, if_pos rfl, fun j h => if_neg h⟩
  obtain ⟨E', x1, x2⟩ : ∃ E' : Nat → am_G × Nat, E' (k + 1) = e' ∧ ∀ j, j ≠ k + 1 → E' j = E j := ⟨fun i => if i = k + 1 then e' else E i, if_pos rfl, fun j h => if_neg h⟩
  obtain ⟨F', f1, f2⟩ : ∃ F' : Nat → Nat → Nat, F' (k + 1) = (fun i => if i = u.1 k then q else F (k + 1) i) ∧ ∀ j, j ≠ k + 1 → F' j = F j := ⟨fun i => if i = k + 1 then (fun i => if i = u.1 k then q else F (k + 1) i) else F i, if_pos rfl, fun j h => if_neg h⟩
  have fa : F' (k + 1) (u.1 k) = q := by
    rw [f1]
    exact if_pos rfl
  have fb : ∀ i, i ≠ u.1 k → F' (k + 1) i = F (k + 1) i := fun i h => by
    rw [f1]
    exact if_neg h
  refine ⟨d', M', E', F', a1, ⟨?_, ⟨f, ha r2, by rw [g8]; exact r3⟩, fun j hj => ?_, r5, fun i j r hi hj => ?_, fun i hi => ?_, fun i hi => ?_, fun i hi => ?_, ⟨fun i j hi hj => ?_, fun i j hi hj => ?_⟩, by rw [g2 3 (by omega)]; exact s3⟩, a3, a4, fun b T B => ?_⟩
  · rw [hw]
    exact ho (by omega) r1
  · by_cases e : j = k
    · subst e
      rw [g1, m1, x1, f1]
      exact a2
    · have z : j + 1 ≠ k + 1 := by omega
      have L2 := r4 j hj
      rw [g2 j e, m2 _ z, x2 _ z, f2 _ z]
      exact L2.ag a3 (a5 _ L2.1.1 (fun y => e (r5 j k hj hk4 y)) (fun r hr => Ne.symm (L.r_ob L2.1 r hr))) (fun r hr => a5 r (L2.row_lt r hr) (L2.r_ob L.1 r hr) (fun r' hr' y => e (r6 j k r hj hk4 hr (by rw [hr', y]))))
  · by_cases ei : i = k
    · subst ei
      rw [x1]
      by_cases ej : j = i
      · intro _ _
        exact ej.symm
      · rw [x2 _ (show j + 1 ≠ i + 1 by omega)]
        intro h1 h2
        rcases a6 r h1 with h3 | h3
        · have := (r4 j hj).row_lt r h2
          omega
        · exact r6 i j r hi hj h3 h2
    · rw [x2 _ (show i + 1 ≠ k + 1 by omega)]
      by_cases ej : j = k
      · subst ej
        rw [x1]
        intro h1 h2
        rcases a6 r h2 with h3 | h3
        · have := (r4 i hi).row_lt r h1
          omega
        · exact r6 i j r hi hj h1 h3
      · rw [x2 _ (show j + 1 ≠ k + 1 by omega)]
        exact r6 i j r hi hj
  · by_cases e : k = 0
    · subst e
      obtain ⟨rfl, h2, h3, h4, h5, h6⟩ := hA rfl
      by_cases z : i = u.1 0
      · rw [z, show F' 1 (u.1 0) = q from fa]
        exact ⟨g, ha hq, h3, h4, h5, h6⟩
      · have hi2 : i < u.1 0 := by omega
        obtain ⟨f, b1, b2, b3, b4, b5⟩ := r7 i hi2
        rw [show F' 1 i = F 1 i from fb i z, h2 i hi2 1 (by omega) (by omega), h2 i hi2 2 (by omega) (by omega), h2 i hi2 3 (by omega) (by omega), h2 i hi2 4 (by omega) (by omega)]
        exact ⟨f, ha b1, b2, b3, b4, b5⟩
    · rw [g2 0 (by omega)] at hi
      obtain ⟨f, b1, b2⟩ := r7 i hi
      rw [f2 1 (by omega), gA e 1 (by omega) (by omega), gA e 2 (by omega) (by omega), gA e 3 (by omega) (by omega), gA e 4 (by omega) (by omega)]
      exact ⟨f, ha b1, b2⟩
  · by_cases e : k = 1
    · subst e
      obtain ⟨rfl, h2, h3, h4, h5⟩ := hB rfl
      by_cases z : i = u.1 1
      · rw [z, show F' 2 (u.1 1) = q from fa]
        exact ⟨g, ha hq, h3, h4, h5⟩
      · have hi2 : i < u.1 1 := by omega
        obtain ⟨f, b1, b2, b3, b4⟩ := r8 i hi2
        rw [show F' 2 i = F 2 i from fb i z, h2 i hi2 5 (by omega) (by omega), h2 i hi2 6 (by omega) (by omega), h2 i hi2 7 (by omega) (by omega)]
        exact ⟨f, ha b1, b2, b3, b4⟩
    · rw [g2 1 (by omega)] at hi
      obtain ⟨f, b1, b2⟩ := r8 i hi
      rw [f2 2 (by omega), gB e 5 (by omega) (by omega), gB e 6 (by omega) (by omega), gB e 7 (by omega) (by omega)]
      exact ⟨f, ha b1, b2⟩
  · by_cases e : k = 2
    · subst e
      by_cases z : i = u.1 2
      · rw [z, show F' 3 (u.1 2) = q from fa]
        exact ⟨m, g, ha hq⟩
      · obtain ⟨m', f, b1⟩ := r9 i (by omega)
        rw [show F' 3 i = F 3 i from fb i z]
        exact ⟨m', f, ha b1⟩
    · rw [g2 2 (by omega)] at hi
      obtain ⟨m', f, b1⟩ := r9 i hi
      rw [f2 3 (by omega)]
      exact ⟨m', f, ha b1⟩
  · by_cases e : k = 0
    · subst e
      by_cases z : i = u.1 0
      · by_cases y : j = u.1 0
        · intro _
          omega
        · rw [z, show F' 1 (u.1 0) = q from fa, show F' 1 j = F 1 j from fb j y]
          intro t
          exact absurd t.symm (hnew j (by omega))
      · by_cases y : j = u.1 0
        · rw [y, show F' 1 (u.1 0) = q from fa, show F' 1 i = F 1 i from fb i z]
          intro t
          exact absurd t (hnew i (by omega))
        · rw [show F' 1 i = F 1 i from fb i z, show F' 1 j = F 1 j from fb j y]
          exact s1 i j (by omega) (by omega)
    · rw [g2 0 (by omega)] at hi hj
      rw [f2 1 (by omega)]
      exact s1 i j hi hj
  · by_cases e : k = 1
    · subst e
      by_cases z : i = u.1 1
      · by_cases y : j = u.1 1
        · intro _
          omega
        · rw [z, show F' 2 (u.1 1) = q from fa, show F' 2 j = F 2 j from fb j y]
          intro t
          exact absurd t.symm (hnew j (by omega))
      · by_cases y : j = u.1 1
        · rw [y, show F' 2 (u.1 1) = q from fa, show F' 2 i = F 2 i from fb i z]
          intro t
          exact absurd t (hnew i (by omega))
        · rw [show F' 2 i = F 2 i from fb i z, show F' 2 j = F 2 j from fb j y]
          exact s2 i j (by omega) (by omega)
    · rw [g2 1 (by omega)] at hi hj
      rw [f2 2 (by omega)]
      exact s2 i j hi hj
  · obtain ⟨r, cap, f, o, a, B2⟩ := B
    exact ⟨r, cap, f, ho (by omega) o, ha a, B2⟩
/-- the World, once it is grown -/
theorem PW.WR (R : PW d w u tx N M E F) : WR d w u tx N M E F := by
  obtain ⟨r1, r2, r4, r5, r6, r7, r8, r9, ⟨s1, s2⟩, s3⟩ := R
  refine ⟨r1, r2, ⟨r4 0 (by omega), r4 1 (by omega), r4 2 (by omega), r4 3 (by omega)⟩, r7, r8, fun i hi => by omega, ⟨fun z => ?_, fun z => ?_, fun z => ?_⟩, fun r hr => ⟨fun z => ?_, fun z => ?_, fun z => ?_⟩, s1, s2⟩
  · exact absurd (r5 3 0 (by omega) (by omega) z) (by omega)
  · exact absurd (r5 3 1 (by omega) (by omega) z) (by omega)
  · exact absurd (r5 3 2 (by omega) (by omega) z) (by omega)
  · exact absurd (r6 3 0 r (by omega) (by omega) hr z) (by omega)
  · exact absurd (r6 3 1 r (by omega) (by omega) hr z) (by omega)
  · exact absurd (r6 3 2 r (by omega) (by omega) hr z) (by omega)
end PWS
